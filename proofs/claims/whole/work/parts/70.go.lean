/-! after: the class's side -/
theorem ex_upd {l d a b i v : Nat} {o : Nat → Nat} (hl : l < 4) (hd : d < 16) (ho : ∀ i, i < 6 → o i < 256) : ex a b (upN (ow (ex l d o)) i v) = ex a b (upN o i v) := by
  apply ex_cong
  intro j hj
  unfold upN
  split
  · rfl
  · exact ex_ow hl hd ho hj
theorem upN_lt {o : Nat → Nat} {i v : Nat} (ho : ∀ i, i < 6 → o i < 256) (hv : v < 256) : ∀ j, j < 6 → upN o i v j < 256 := by
  intro j hj; unfold upN; split
  · exact hv
  · exact ho j hj
theorem upN_up (o : Nat → Nat) (i v w : Nat) : upN (upN o i v) i w = upN o i w := by
  funext j; unfold upN; split <;> rfl
theorem dy1_lt {P : PT} (ok : POK P) (N : Nat) : (if dy N + 1 < p_cy P then dy N + 1 else 0) < 16 := by
  have := ok.2.1; split <;> omega
theorem vs1_lt (N i : Nat) : (if vs N i < 3 then vs N i + 1 else 3) < 4 := by split <;> omega
theorem gn_lt {P : PT} (ok : POK P) (N i : Nat) : gn P N i < 2 ^ 54 := by
  have h1 := oL_lt ok N i; have h2 := oH_lt P N i; have h3 := vs1_lt N i; have h4 := dy1_lt ok N
  exact ex_lt h1 h4 (upN_lt (fun j _ => ow_lt N j) (by omega))
theorem oc_mod {P : PT} (ok : POK P) (N i : Nat) : oc P N i % 4 = oL P N i ∧ oc P N i / 4 % 32 = oH P N i ∧ oc P N i / 128 % 2 = oS P N i ∧ oc P N i / 256 % 2 = (if oL P N i = se P N then 0 else 1) ∧ oc P N i / 512 % 2 = (if oH P N i = hd N i then 0 else 1) := by
  have h1 := oL_lt ok N i; have h2 := oH_lt P N i; have h3 := oS_lt ok N i
  unfold oc
  split <;> split <;> omega
theorem X_after {P : PT} {q i N : Nat} {h : HP} (ok : POK P) (hp : PX P q h) (hi : i < 6) (hN : N < 2 ^ 54) : f_Pl_after q (lN N) (nI i) (nI (oc P N i)) h = some (lN (gn P N i), h) := by
  have h1 := oL_lt ok N i; have h2 := oH_lt P N i; have h3 := vs1_lt N i; have h4 := dy1_lt ok N
  have h5 := oc_lt ok N i
  have h6 := dy_lt N
  have h7 := vs_lt N i
  have hcy := ok.2.1
  obtain ⟨m1, m2, _⟩ := oc_mod ok N i
  have e1 : nI (oc P N i) &&& (3 : Int32) = nI (oL P N i) := by rw [show (3 : Int32) = nI (2 ^ 2 - 1) from rfl, fa_mask, ← m1]
  have e2 : (nI (oc P N i) >>> ((2 : Int32) &&& 31)) &&& (31 : Int32) = nI (oH P N i) := by
    rw [pk_shrN (by omega) _ 2 (by decide), show (31 : Int32) = nI (2 ^ 5 - 1) from rfl, fa_mask, ← m2]
  have e3 : (if (nI (vs N i) + (1 : Int32)) < (3 : Int32) then (nI (vs N i) + (1 : Int32)) else (3 : Int32)) = nI (if vs N i < 3 then vs N i + 1 else 3) := by
    rw [show (1 : Int32) = nI 1 from rfl, nI_add, show (3 : Int32) = nI 3 from rfl]
    by_cases c : vs N i + 1 < 3
    · rw [if_pos (nI_lt c (by decide)), if_pos (by omega)]
    · rw [if_neg (nI_nlt (by omega) (by omega))]; split
      · congr 1; omega
      · rfl
  have how : ∀ j, j < 6 → ow N j < 256 := fun j _ => ow_lt N j
  have h48 : f_Pl_after_48 (nI i) (nI (oc P N i)) (nI (if vs N i < 3 then vs N i + 1 else 3)) (nI (if dy N + 1 < p_cy P then dy N + 1 else 0)) (lN (ex (oL P N i) (dy N) (ow N))) h = some (lN (gn P N i), h) := by
    unfold f_Pl_after_48
    rw [X_wday (ex_lt h1 h6 how) h4, bn_s]
    dsimp only
    rw [ex_lm h1, ex_cong (fun j hj => ex_ow h1 h6 how hj), e2, X_wmind (ex_lt h1 h4 how) hi h2 h3, bn_s]
    dsimp only
    have hb : be (ex (oL P N i) (if dy N + 1 < p_cy P then dy N + 1 else 0) (ow N)) i < 2 := be_lt _ _
    rw [ex_lm h1, ex_dy h1 h4, ex_upd h1 h4 how]
    have hu : ∀ j, j < 6 → upN (ow N) i (oH P N i + 32 * (if vs N i < 3 then vs N i + 1 else 3) + 128 * be (ex (oL P N i) (if dy N + 1 < p_cy P then dy N + 1 else 0) (ow N)) i) j < 256 := upN_lt how (by omega)
    rw [X_wbeen (ex_lt h1 h4 hu) hi, bn_s]
    dsimp only
    rw [ex_lm h1, ex_dy h1 h4, ex_upd h1 h4 hu, upN_up]
    have hw := ex_ow h1 h4 hu hi
    rw [upN_s] at hw
    unfold gn
    generalize (if vs N i < 3 then vs N i + 1 else 3) = V at *
    generalize be (ex (oL P N i) (if dy N + 1 < p_cy P then dy N + 1 else 0) (ow N)) i = b at *
    unfold hd vs
    rw [hw]
    congr 5
    omega
  unfold f_Pl_after
  rw [X_day hN, bn_s]
  simp only [xx_lE]
  rw [X_vis hN hi, bn_s]
  dsimp only
  rw [e3, e1, X_wlamps hN h1, bn_s]
  dsimp only
  rw [hp.2.1, show (1 : Int32) = nI 1 from rfl, nI_add, show (0 : Int32) = nI 0 from rfl]
  by_cases c : p_cy P ≤ dy N + 1
  · rw [if_pos (nI_le c (by omega))]; rw [if_neg (show ¬ dy N + 1 < p_cy P by omega)] at h48; exact h48
  · rw [if_neg (nI_ge (show dy N + 1 < p_cy P by omega) (by omega))]; rw [if_pos (show dy N + 1 < p_cy P by omega)] at h48; exact h48
theorem z01 {n : Nat} (h : n < 2) : hp_z01 (nI n) = true := by
  have : n = 0 ∨ n = 1 := by omega
  rcases this with rfl | rfl <;> decide
theorem ab_all {P : PT} {N : Nat} (h : ∀ i, i < p_nm P → be N i = 1) : ab P N = true := by unfold ab; exact decide_eq_true h
theorem ab_no {P : PT} {N i : Nat} (hi : i < p_nm P) (h : be N i = 0) : ab P N = false := by unfold ab; exact decide_eq_false (fun z => by have := z i hi; omega)
theorem X_all {P : PT} {q N : Nat} {h : HP} (ok : POK P) (hp : PX P q h) (hN : N < 2 ^ 54) : f_Pl_haveAllBeen q (lN N) h = some (nI (if ab P N then 1 else 0), h) := by
  have hnm := ok.2.2.2.2.2.1
  have p6 := hp.2.2.2.2.2.1
  have k : pw (f_Pl_haveAllBeen q (lN N) h) (fun x => x = (nI (if ab P N then 1 else 0), h)) := by
    unfold f_Pl_haveAllBeen f_Pl_haveAllBeen_5
    refine pw_cnt (p_nm P) (fun i s => s.2.1 = nI i ∧ s.2.2 = h ∧ ((s.1 = nI 1 ∧ ∀ k, k < i → be N k = 1) ∨ (s.1 = nI 0 ∧ ab P N = false))) ?_ ?_ 0 _ (by omega) ⟨rfl, rfl, .inl ⟨rfl, fun k hk => by omega⟩⟩
    · rintro i ⟨v, w, g⟩ hi ⟨rfl, rfl, hc⟩
      rcases hc with ⟨rfl, hb⟩ | ⟨rfl, hb⟩
      · have hb2 := be_lt N i
        refine pw_L (s := (nI (be N i), nI (i + 1), g)) ?_ ⟨rfl, rfl, ?_⟩
        · simp (disch := omega) only [f_Pl_haveAllBeen_5b, ↓xx_lE, ↓reduceIte, ↓bn_si, ↓bn_sl, ↓bn_s, ↓bn_ms, hp_i_si, hp_l_si, hp_r_si, hp_n_si, hp_i_sl, hp_l_sl, hp_r_sl, hp_n_sl, hp_i_sr, hp_l_sr, hp_r_sr, hp_n_sr, iL, nI_clamp, hp_in_nI, nI_add, pk_mul, pk_sub, c_le, c_nle, c_lt, c_nlt, c_ne, c_m1, c_m1', ad_ne, ad_ne', ad_ne2, nar0, nar1, true_and, false_and, and_true, and_false, Nat.add_zero, Nat.zero_add, p6, X_been hN (show i < 6 by omega)]
        · have : be N i = 0 ∨ be N i = 1 := by omega
          rcases this with hx | hx
          · exact .inr ⟨by rw [hx], ab_no hi hx⟩
          · refine .inl ⟨by rw [hx], fun k hk => ?_⟩
            by_cases hk2 : k = i
            · rw [hk2]; exact hx
            · exact hb k (by omega)
      · refine pw_R (t := (nI 0, g)) ?_ (by rw [hb]; rfl)
        simp (disch := omega) only [f_Pl_haveAllBeen_5b, ↓xx_lE, ↓reduceIte, ↓bn_si, ↓bn_sl, ↓bn_s, ↓bn_ms, hp_i_si, hp_l_si, hp_r_si, hp_n_si, hp_i_sl, hp_l_sl, hp_r_sl, hp_n_sl, hp_i_sr, hp_l_sr, hp_r_sr, hp_n_sr, iL, nI_clamp, hp_in_nI, nI_add, pk_mul, pk_sub, c_le, c_nle, c_lt, c_nlt, c_ne, c_m1, c_m1', ad_ne, ad_ne', ad_ne2, nar0, nar1, true_and, false_and, and_true, and_false, Nat.add_zero, Nat.zero_add, p6, z01]
    · rintro ⟨v, w, g⟩ ⟨rfl, rfl, hc⟩
      rcases hc with ⟨rfl, hb⟩ | ⟨rfl, hb⟩
      · refine pw_R (t := (nI 1, g)) ?_ (by rw [ab_all hb]; rfl)
        simp (disch := omega) only [f_Pl_haveAllBeen_5b, ↓xx_lE, ↓reduceIte, ↓bn_si, ↓bn_sl, ↓bn_s, ↓bn_ms, hp_i_si, hp_l_si, hp_r_si, hp_n_si, hp_i_sl, hp_l_sl, hp_r_sl, hp_n_sl, hp_i_sr, hp_l_sr, hp_r_sr, hp_n_sr, iL, nI_clamp, hp_in_nI, nI_add, pk_mul, pk_sub, c_le, c_nle, c_lt, c_nlt, c_ne, c_m1, c_m1', ad_ne, ad_ne', ad_ne2, nar0, nar1, true_and, false_and, and_true, and_false, Nat.add_zero, Nat.zero_add, p6, z01]
      · refine pw_R (t := (nI 0, g)) ?_ (by rw [hb]; rfl)
        simp (disch := omega) only [f_Pl_haveAllBeen_5b, ↓xx_lE, ↓reduceIte, ↓bn_si, ↓bn_sl, ↓bn_s, ↓bn_ms, hp_i_si, hp_l_si, hp_r_si, hp_n_si, hp_i_sl, hp_l_sl, hp_r_sl, hp_n_sl, hp_i_sr, hp_l_sr, hp_r_sr, hp_n_sr, iL, nI_clamp, hp_in_nI, nI_add, pk_mul, pk_sub, c_le, c_nle, c_lt, c_nlt, c_ne, c_m1, c_m1', ad_ne, ad_ne', ad_ne2, nar0, nar1, true_and, false_and, and_true, and_false, Nat.add_zero, Nat.zero_add, p6, z01]
  obtain ⟨y, hy, rfl⟩ := k
  exact hy
/-- a man forgets -/
def fg (P : PT) (N i : Nat) : Nat := ex (lm N) (dy N) (upN (ow N) i (p_hf P (p_ro P i) + 128 * be N i))
theorem hf_lt {P : PT} (ok : POK P) {i : Nat} (hi : i < p_nm P) : p_hf P (p_ro P i) < 32 := by
  have := ok.2.2.2.2.2.2.2.2.1 _ (ok.2.2.2.2.2.2.2.2.2.1 i hi); omega
theorem fg_lt {P : PT} (ok : POK P) (N : Nat) {i : Nat} (hi : i < p_nm P) : fg P N i < 2 ^ 54 := by
  have := hf_lt ok hi; have := be_lt N i
  exact ex_lt (lm_lt N) (dy_lt N) (upN_lt (fun j _ => ow_lt N j) (by omega))
theorem X_forgot {P : PT} {q i N : Nat} {h : HP} (hs : PSH q h) (ok : POK P) (hp : PX P q h) (hi : i < p_nm P) (hN : N < 2 ^ 54) : f_Pl_forgotten q (lN N) (nI i) h = some (lN (fg P N i), h) := by
  have hnm := ok.2.2.2.2.2.1
  have hr := ok.2.2.2.2.2.2.2.2.2.1 i hi
  have hnr := ok.2.2.2.2.1
  have p9 := hp.2.2.2.2.2.2.2.2.1 _ hr
  have hl := hf_lt ok hi
  unfold f_Pl_forgotten
  rw [bn_o (pr_8 hs), X_roleOf hs ok hp hi, bn_s]
  dsimp only
  rw [pn_1 hs, if_pos (hp_in_nI (by omega) (by omega)), nI_clamp (by omega), p9, show (0 : Int32) = nI 0 from rfl, X_wmind hN (by omega) hl (by decide), bn_s]
  rfl
theorem X_first {P : PT} {q l : Nat} {h : HP} (hs : PSH q h) (ok : POK P) (hp : PX P q h) (hl : l < 4) : f_Pl_firstState q (nI l) h = some (lN (fs P l), h) := by
  have hnm := ok.2.2.2.2.2.1
  have p6 := hp.2.2.2.2.2.1
  have k : pw (f_Pl_firstState q (nI l) h) (fun x => x = (lN (fs P l), h)) := by
    unfold f_Pl_firstState f_Pl_firstState_9
    rw [show (0 : Int64) = lN 0 from rfl, X_wlamps (by decide) hl, bn_s]
    dsimp only
    have hz : ∀ j, j < 6 → ow 0 j = 0 := fun j _ => by unfold ow; simp
    have hlt : ∀ n, n ≤ p_nm P → ∀ j, j < 6 → (if j < n then p_hf P (p_ro P j) else 0) < 32 := fun n hn j hj => by
      split
      · exact hf_lt ok (by omega)
      · decide
    refine pw_cnt (p_nm P) (fun i s => s.1 = lN (ex l 0 (fun j => if j < i then p_hf P (p_ro P j) else 0)) ∧ s.2.1 = nI i ∧ s.2.2 = h) ?_ ?_ 0 _ (by omega) ?_
    · rintro i ⟨v, w, g⟩ hi ⟨rfl, rfl, rfl⟩
      have hx := hlt i (by omega)
      have hx2 : ∀ j, j < 6 → (if j < i then p_hf P (p_ro P j) else 0) < 256 := fun j hj => by have := hx j hj; omega
      refine pw_L (s := (lN (ex l 0 (fun j => if j < i + 1 then p_hf P (p_ro P j) else 0)), nI (i + 1), g)) ?_ ⟨rfl, rfl, rfl⟩
      have hfo := X_forgot hs ok hp hi (ex_lt (d := 0) (o := fun j => if j < i then p_hf P (p_ro P j) else 0) hl (by decide) hx2)
      have he : fg P (ex l 0 (fun j => if j < i then p_hf P (p_ro P j) else 0)) i = ex l 0 (fun j => if j < i + 1 then p_hf P (p_ro P j) else 0) := by
        unfold fg
        rw [ex_lm hl, ex_dy hl (by decide), ex_upd hl (by decide) hx2]
        apply ex_cong
        intro j hj
        have hbe : be (ex l 0 (fun j => if j < i then p_hf P (p_ro P j) else 0)) i = 0 := by
          unfold be; rw [ex_ow hl (by decide) hx2 (by omega)]; simp
        rw [hbe]
        unfold upN
        by_cases c : j = i
        · subst c; simp
        · rw [if_neg c]
          dsimp only
          by_cases c2 : j < i
          · rw [if_pos c2, if_pos (by omega)]
          · rw [if_neg c2, if_neg (by omega)]
      rw [he] at hfo
      simp (disch := omega) only [f_Pl_firstState_9b, ↓xx_lE, ↓reduceIte, ↓bn_si, ↓bn_sl, ↓bn_s, ↓bn_ms, hp_i_si, hp_l_si, hp_r_si, hp_n_si, hp_i_sl, hp_l_sl, hp_r_sl, hp_n_sl, hp_i_sr, hp_l_sr, hp_r_sr, hp_n_sr, iL, nI_clamp, hp_in_nI, nI_add, pk_mul, pk_sub, c_le, c_nle, c_lt, c_nlt, c_ne, c_m1, c_m1', ad_ne, ad_ne', ad_ne2, nar0, nar1, true_and, false_and, and_true, and_false, Nat.add_zero, Nat.zero_add, p6, hfo]
    · rintro ⟨v, w, g⟩ ⟨rfl, rfl, rfl⟩
      refine pw_R (t := (lN (fs P l), g)) ?_ rfl
      simp (disch := omega) only [f_Pl_firstState_9b, ↓xx_lE, ↓reduceIte, ↓bn_si, ↓bn_sl, ↓bn_s, ↓bn_ms, hp_i_si, hp_l_si, hp_r_si, hp_n_si, hp_i_sl, hp_l_sl, hp_r_sl, hp_n_sl, hp_i_sr, hp_l_sr, hp_r_sr, hp_n_sr, iL, nI_clamp, hp_in_nI, nI_add, pk_mul, pk_sub, c_le, c_nle, c_lt, c_nlt, c_ne, c_m1, c_m1', ad_ne, ad_ne', ad_ne2, nar0, nar1, true_and, false_and, and_true, and_false, Nat.add_zero, Nat.zero_add, p6]
      rfl
    · refine ⟨?_, rfl, rfl⟩
      dsimp only
      congr 1
  obtain ⟨y, hy, rfl⟩ := k
  exact hy
