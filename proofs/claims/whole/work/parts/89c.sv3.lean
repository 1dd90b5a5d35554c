/-! one lead of the survey -/
theorem dp_cong {ff gg : Nat → Nat} {st M : Nat} (h : ∀ j, st ≤ j → j < M → ff j / 8 < j) (e : ∀ j, j < M → ff j = gg j) : ∀ j, j < M → dp ff st j = dp gg st j := by
  have h' : ∀ j, st ≤ j → j < M → gg j / 8 < j := fun j h1 h2 => by rw [← e j h2]; exact h j h1 h2
  intro j
  induction j using Nat.strongRecOn with
  | ind j ih =>
    intro hM
    by_cases hs : j < st
    · rw [dp_0 hs, dp_0 hs]
    · have h1 := h j (by omega) hM
      rw [dp_s h (by omega) hM, dp_s h' (by omega) hM, ← e j hM, ih (ff j / 8) h1 (by omega)]
theorem anc_cong {ff gg : Nat → Nat} {st M j : Nat} (h : ∀ j, st ≤ j → j < M → ff j / 8 < j) (e : ∀ j, j < M → ff j = gg j) (hj : j < M) : ∀ k, k ≤ dp ff st j → anc ff j k = anc gg j k := by
  intro k
  induction k with
  | zero => intro _; rfl
  | succ k ih =>
    intro hk
    have := (anc_dp h hj k (by omega)).1
    show ff (anc ff j k) / 8 = gg (anc gg j k) / 8
    rw [← ih (by omega), e _ this]
theorem RWS_x {sv st M j i : Nat} {f g ff gg : Nat → Nat} {h h' : HP} (hp : ∀ j, st ≤ j → j < M → ff j / 8 < j) (e : ∀ j, j < M → ff j = gg j) (ef : ∀ j, j < M → f j = g j) (hj : j < M) (he : ∀ a k, S_kr sv a k → hp_i h' a k = hp_i h a k) (hr : RWS sv st f ff j i h) : RWS sv st g gg j i h' := by
  obtain ⟨r1, r2, r3, r4⟩ := hr
  have d := dp_cong hp e j hj
  have al := (anc_dp hp hj (dp ff st j) (Nat.le_refl _)).1
  unfold S_kr at he
  unfold RWS
  rw [← d, ← anc_cong hp e hj (dp ff st j) (Nat.le_refl _), ← ef _ al]
  refine ⟨?_, ?_, ?_, fun k hk => ?_⟩
  · rw [he _ _ (by omega)]; exact r1
  · rw [he _ _ (by omega)]; exact r2
  · rw [he _ _ (by omega)]; exact r3
  · have a2 := (anc_dp hp hj (dp ff st j - 1 - k) (by omega)).1
    rw [he _ _ (by omega), ← anc_cong hp e hj (dp ff st j - 1 - k) (by omega), ← e _ a2]; exact r4 k hk
def F_FN (sv : Nat) : Nat → Nat → Prop := fun a k => a = sv ∧ 6 ≤ k ∧ k ≤ 10 ∨ a = sv + 6
theorem FND_x {P : PT} {sv st p : Nat} {B C : BT} {h h' : HP} (hx : xtd B C) (hp : p ≤ 8 * B.1) (hpr : ∀ j, st ≤ j → j < B.1 → ffp P B.2.1 j / 8 < j) (he : ∀ a k, F_FN sv a k → hp_i h' a k = hp_i h a k) (hf : FND P sv st B.2.1 p h) : FND P sv st C.2.1 p h' := by
  obtain ⟨f1, f2, f3, f4⟩ := hf
  unfold F_FN at he
  have hcs : ∀ s, 8 * s < p → C.2.1 s = B.2.1 s := fun s hs => hx.2.1 s (by omega)
  have c1 := fb_ct_cong (rgt_cong (P := P) (c := 1) hcs)
  have c2 := fb_ct_cong (rgt_cong (P := P) (c := 2) hcs)
  have e1 := first_cong p (rgt_cong (P := P) (c := 1) hcs)
  have e2 := first_cong p (rgt_cong (P := P) (c := 2) hcs)
  have eff : ∀ j, j < B.1 → ffp P B.2.1 j = ffp P C.2.1 j := fun j hj => (ffp_x hx hj).symm
  unfold FND
  rw [c1, c2, e1, e2]
  refine ⟨?_, ?_, ?_, ?_⟩
  · rw [he _ _ (by omega)]; exact f1
  · rw [he _ _ (by omega)]; exact f2
  · rw [he _ _ (by omega), f3]
    by_cases hl : fa_first (rgt P B.2.1 1) p < p
    · rw [if_pos hl, if_pos hl, dp_cong hpr eff _ (by omega)]
    · rw [if_neg hl, if_neg hl]
  · by_cases hl : fa_first (rgt P B.2.1 2) p < p
    · rw [if_pos hl] at f4 ⊢
      exact RWS_x hpr eff (fun j hj => (hx.2.1 j hj).symm) (by omega) (fun a k hk => he a k (by unfold S_kr at hk; omega)) f4
    · rw [if_neg hl] at f4 ⊢
      rw [he _ _ (by omega), he _ _ (by omega)]; exact f4
/-- a lead without a say changes nothing of it -/
theorem FND_0 {P : PT} {sv st p : Nat} {f : Nat → Nat} {h : HP} (h1 : rgt P f 1 p = false) (h2 : rgt P f 2 p = false) (hf : FND P sv st f p h) : FND P sv st f (p + 1) h := by
  have g : ∀ c, rgt P f c p = false → (fa_first (rgt P f c) p < p ∧ fa_first (rgt P f c) (p + 1) = fa_first (rgt P f c) p) ∨ (¬ fa_first (rgt P f c) p < p ∧ fa_first (rgt P f c) (p + 1) = p + 1) := by
    intro c hc
    by_cases hl : fa_first (rgt P f c) p < p
    · exact .inl ⟨hl, by rw [fa_first, if_pos hl]⟩
    · exact .inr ⟨hl, by rw [fa_first, if_neg hl, hc]; rfl⟩
  obtain ⟨f1, f2, f3, f4⟩ := hf
  unfold FND
  rw [fb_ct_succ, fb_ct_succ, h1, h2]
  refine ⟨f1, f2, ?_, ?_⟩
  · rcases g 1 h1 with ⟨a, b⟩ | ⟨a, b⟩
    · rw [b, if_pos (by omega), f3, if_pos a]
    · rw [b, if_neg (by omega), f3, if_neg a]
  · rcases g 2 h2 with ⟨a, b⟩ | ⟨a, b⟩
    · rw [b, if_pos (by omega)]; rw [if_pos a] at f4; exact f4
    · rw [b, if_neg (by omega)]; rw [if_neg a] at f4; exact f4
def S_ns (sv : Nat) : Nat → Nat → Prop := fun a k => a = sv ∧ 6 ≤ k ∧ k ≤ 10 ∨ a = sv + 6
theorem X_note {P : PT} {sv q s i n : Nat} {f : Nat → Nat} {h : HP} (ok : POK P) (hp : PX P q h) (hq : q + 8 < sv) (hs : SVS sv q h) (hset : SSX (sv + 3) 5000 n f h) (hcf : CFX sv (stN P) n (ffp P f) h) (hi : i < p_nm P) (hsn : s < n) (ho : oS P (f s % 2 ^ 54) i ≠ 0) (hf : FND P sv (stN P) f (8 * s + i) h) : pw (f_Sv_noteSaid sv (nI s) (nI i) (lN (gn P (f s % 2 ^ 54) i)) h) (fun r => r.1 = (if rs3 P (f s % 2 ^ 54) i = 1 then -1 else -2) ∧ hp_fr (S_ns sv) h r.2 ∧ FND P sv (stN P) f (8 * s + i + 1) r.2) := by
  have hnm := ok.2.2.2.2.2.1
  have hn5 : n ≤ 5000 := hcf.2.2.1
  obtain ⟨s0, s1, s2, s3, s4, s5, s6, s7, m2, m6, m7, m8, m9⟩ := id hs
  obtain ⟨f1, f2, f3, f4⟩ := hf
  have hr1 : rgt P f 1 (8 * s + i) = decide (rs3 P (f s % 2 ^ 54) i = 1) := rgt_at hi hnm
  have hr2 : rgt P f 2 (8 * s + i) = decide (rs3 P (f s % 2 ^ 54) i = 2) := rgt_at hi hnm
  have hct1 := fb_ct_le (rgt P f 1) (8 * s + i)
  have hct2 := fb_ct_le (rgt P f 2) (8 * s + i)
  have hfirst : ∀ c, (fb_ct (rgt P f c) (8 * s + i) = 0 ∧ ¬ fa_first (rgt P f c) (8 * s + i) < 8 * s + i) ∨ (fb_ct (rgt P f c) (8 * s + i) ≠ 0 ∧ fa_first (rgt P f c) (8 * s + i) < 8 * s + i) := by
    intro c
    by_cases hz : fb_ct (rgt P f c) (8 * s + i) = 0
    · refine .inl ⟨hz, fun z => ?_⟩
      have := fb_ct_zero.mp hz _ z
      rw [fa_first_yes _ _ z] at this; exact absurd this (by decide)
    · refine .inr ⟨hz, ?_⟩
      obtain ⟨k, k1, k2⟩ := fb_ct_pos.mp (Nat.pos_of_ne_zero hz)
      refine Nat.lt_of_not_le (fun z => ?_)
      have := fa_first_no (rgt P f c) (8 * s + i) k (by omega)
      rw [this] at k2; exact absurd k2 (by decide)
  have hdp := dp_lt hcf.2.2.2.2.1 s hsn
  unfold f_Sv_noteSaid
  rw [bn_o s5, bn_o (X_all ok hp (gn_lt ok _ i))]
  dsimp only
  by_cases hab : ab P (gn P (f s % 2 ^ 54) i) = true
  · have hrs : rs3 P (f s % 2 ^ 54) i = 1 := by unfold rs3; rw [if_neg ho, if_pos hab]
    rw [if_pos hab, if_neg (show ¬ nI 1 = (0 : Int32) by decide), f1, nI_1, xx_lE, hrs, if_pos (show 1 = 1 from rfl)]
    rw [hrs] at hr1 hr2
    have hr1 : rgt P f 1 (8 * s + i) = true := hr1
    have hr2 : rgt P f 2 (8 * s + i) = false := hr2
    let g1 := hp_si h sv 6 (nI (fb_ct (rgt P f 1) (8 * s + i) + 1))
    have H1 : hp_fr (S_ns sv) h g1 := hf_si (hp_fr_rf h) (by unfold S_ns; omega)
    have e8 : hp_i g1 sv 8 = hp_i h sv 8 := by simp only [g1]; rw [hp_i_si, if_neg (by omega)]
    show pw (if hp_i g1 sv 8 = (-1 : Int32) then _ else _) _
    -- wrong ones stay
    have wr : ∀ g : HP, (∀ a k, S_kr sv a k → hp_i g a k = hp_i h a k) → (if fa_first (rgt P f 2) (8 * s + i + 1) < 8 * s + i + 1 then RWS sv (stN P) f (ffp P f) (fa_first (rgt P f 2) (8 * s + i + 1) / 8) (fa_first (rgt P f 2) (8 * s + i + 1) % 8) g else hp_i g sv 9 = nI 0 ∧ hp_i g sv 10 = -1) := by
      intro g hg
      by_cases hl : fa_first (rgt P f 2) (8 * s + i) < 8 * s + i
      · rw [fa_first, if_pos hl, if_pos (by omega)]
        rw [if_pos hl] at f4
        exact RWS_x hcf.2.2.2.2.1 (fun _ _ => rfl) (fun _ _ => rfl) (by omega) hg f4
      · rw [fa_first, if_neg hl, hr2]
        rw [if_neg hl] at f4
        rw [if_neg (show ¬ (if false = true then 8 * s + i else 8 * s + i + 1) < 8 * s + i + 1 by simp)]
        unfold S_kr at hg
        rw [hg _ _ (by omega), hg _ _ (by omega)]; exact f4
    rcases hfirst 1 with ⟨z1, z2⟩ | ⟨z1, z2⟩
    · rw [if_neg z2] at f3
      rw [e8, f3, if_pos rfl, bn_o (X_daysTo (CFX_fr H1 (by unfold S_ns; omega) hcf) hsn)]
      dsimp only
      rw [nI_1, xx_lE]
      have H2 : hp_fr (S_ns sv) h (hp_si g1 sv 8 (nI (dp (ffp P f) (stN P) s + 1))) := hf_si H1 (by unfold S_ns; omega)
      have efst : fa_first (rgt P f 1) (8 * s + i + 1) = 8 * s + i := by rw [fa_first, if_neg z2, hr1]; rfl
      refine pw_some ⟨rfl, H2, ?_, ?_, ?_, ?_⟩
      · simp only [g1]; rw [hp_i_si, if_neg (by omega), hp_i_si, if_pos ⟨rfl, rfl⟩, fb_ct_succ, hr1]; rfl
      · simp only [g1]; rw [hp_i_si, if_neg (by omega), hp_i_si, if_neg (by omega), f2, fb_ct_succ, hr2]; rfl
      · rw [hp_i_si, if_pos ⟨rfl, rfl⟩, efst, if_pos (by omega), show (8 * s + i) / 8 = s by omega]
      · exact wr _ (fun a k hk => by unfold S_kr at hk; simp only [g1]; rw [hp_i_si, if_neg (by omega), hp_i_si, if_neg (by omega)])
    · rw [if_pos z2] at f3
      have hne : ¬ hp_i g1 sv 8 = (-1 : Int32) := by
        rw [e8, f3]
        have hdq := dp_lt hcf.2.2.2.2.1 (fa_first (rgt P f 1) (8 * s + i) / 8) (by omega)
        exact i_m1lt (by omega)
      rw [if_neg hne]
      have efst : fa_first (rgt P f 1) (8 * s + i + 1) = fa_first (rgt P f 1) (8 * s + i) := by rw [fa_first, if_pos z2]
      refine pw_some ⟨rfl, H1, ?_, ?_, ?_, ?_⟩
      · simp only [g1]; rw [hp_i_si, if_pos ⟨rfl, rfl⟩, fb_ct_succ, hr1]; rfl
      · simp only [g1]; rw [hp_i_si, if_neg (by omega), f2, fb_ct_succ, hr2]; rfl
      · rw [e8, f3, efst, if_pos (by omega)]
      · exact wr _ (fun a k hk => by unfold S_kr at hk; simp only [g1]; rw [hp_i_si, if_neg (by omega)])
  · have hrs : rs3 P (f s % 2 ^ 54) i = 2 := by unfold rs3; rw [if_neg ho, if_neg hab]
    rw [if_neg hab, if_pos (show nI 0 = (0 : Int32) from rfl), f2, nI_1, xx_lE, hrs, if_neg (show ¬ (2 = 1) by decide)]
    rw [hrs] at hr1 hr2
    have hr1 : rgt P f 1 (8 * s + i) = false := hr1
    have hr2 : rgt P f 2 (8 * s + i) = true := hr2
    let g1 := hp_si h sv 7 (nI (fb_ct (rgt P f 2) (8 * s + i) + 1))
    have H1 : hp_fr (S_ns sv) h g1 := hf_si (hp_fr_rf h) (by unfold S_ns; omega)
    have e9 : hp_i g1 sv 9 = hp_i h sv 9 := by simp only [g1]; rw [hp_i_si, if_neg (by omega)]
    show pw (if hp_i g1 sv 9 = 0 then _ else _) _
    have rg : hp_i h sv 8 = (if fa_first (rgt P f 1) (8 * s + i + 1) < 8 * s + i + 1 then nI (dp (ffp P f) (stN P) (fa_first (rgt P f 1) (8 * s + i + 1) / 8) + 1) else -1) := by
      rw [f3, fa_first]
      by_cases hl : fa_first (rgt P f 1) (8 * s + i) < 8 * s + i
      · rw [if_pos hl, if_pos hl, if_pos (by omega)]
      · rw [if_neg hl, if_neg hl, hr1, if_neg (by simp)]
    rcases hfirst 2 with ⟨z1, z2⟩ | ⟨z1, z2⟩
    · rw [if_neg z2] at f4
      rw [e9, f4.1, if_pos (show nI 0 = (0 : Int32) from rfl)]
      refine pw_bind (pw_mono (X_keepRow (i := i) (CFX_fr H1 (by unfold S_ns; omega) hcf) (SSX_fr H1 (by unfold S_ns F_SS; omega) hset) (by rw [hp_fr_r H1]; exact s2) (by rw [hp_fr_r H1]; exact s3) (by rw [hp_fr_n H1]; exact m6) hsn (by omega)) ?_)
      rintro g2 ⟨H2, hrw⟩
      have efst : fa_first (rgt P f 2) (8 * s + i + 1) = 8 * s + i := by rw [fa_first, if_neg z2, hr2]; rfl
      refine pw_some ⟨rfl, hp_fr_tr H1 (hp_fr_mo H2 (by unfold S_kr S_ns; omega)), ?_, ?_, ?_, ?_⟩
      · rw [hf_i H2 (by unfold S_kr; omega)]; rw [hp_i_si, if_neg (by omega), f1, fb_ct_succ, hr1]; rfl
      · rw [hf_i H2 (by unfold S_kr; omega)]; rw [hp_i_si, if_pos ⟨rfl, rfl⟩, fb_ct_succ, hr2]; rfl
      · rw [hf_i H2 (by unfold S_kr; omega)]; rw [hp_i_si, if_neg (by omega)]; exact rg
      · rw [efst, if_pos (by omega), show (8 * s + i) / 8 = s by omega, show (8 * s + i) % 8 = i by omega]; exact hrw
    · rw [if_pos z2] at f4
      have hdq := dp_lt hcf.2.2.2.2.1 (fa_first (rgt P f 2) (8 * s + i) / 8) (by omega)
      rw [e9, f4.1, if_neg (show ¬ nI _ = (0 : Int32) from nI_ne0 (by omega) (by omega))]
      have efst : fa_first (rgt P f 2) (8 * s + i + 1) = fa_first (rgt P f 2) (8 * s + i) := by rw [fa_first, if_pos z2]
      refine pw_some ⟨rfl, H1, ?_, ?_, ?_, ?_⟩
      · simp only [g1]; rw [hp_i_si, if_neg (by omega), f1, fb_ct_succ, hr1]; rfl
      · simp only [g1]; rw [hp_i_si, if_pos ⟨rfl, rfl⟩, fb_ct_succ, hr2]; rfl
      · simp only [g1]; rw [hp_i_si, if_neg (by omega)]; exact rg
      · rw [efst, if_pos (by omega)]
        exact RWS_x hcf.2.2.2.2.1 (fun _ _ => rfl) (fun _ _ => rfl) (by omega) (fun a k hk => by unfold S_kr at hk; simp only [g1]; rw [hp_i_si, if_neg (by omega)]) f4
def S_gO (sv : Nat) : Nat → Nat → Prop := fun a k => a = sv ∧ k = 5 ∨ S_set (sv + 3) a k ∨ a = sv + 9
theorem X_goOn {sv q s i n v : Nat} {f : Nat → Nat} {h : HP} (hs : SVS sv q h) (hset : SSX (sv + 3) 5000 n f h) (hv : v < 2 ^ 54) (hsn : s < n) (hi : i < 6) : pw (f_Sv_goOn sv (nI s) (nI i) (lN v) h) (fun r => hp_fr (S_gO sv) h r.2 ∧ ((idx f n v < n ∧ r.1 = nI (idx f n v) ∧ SSX (sv + 3) 5000 n f r.2 ∧ hp_i r.2 sv 5 = nI 0 ∧ ∀ j, hp_i r.2 (sv + 9) j = hp_i h (sv + 9) j) ∨ (idx f n v = n ∧ n < 5000 ∧ r.1 = nI n ∧ SSX (sv + 3) 5000 (n + 1) (upN f n v) r.2 ∧ hp_i r.2 sv 5 = nI 0 ∧ hp_i r.2 (sv + 9) n = nI (8 * s + i) ∧ ∀ j, j ≠ n → hp_i r.2 (sv + 9) j = hp_i h (sv + 9) j) ∨ (idx f n v = n ∧ n = 5000 ∧ hp_i r.2 sv 5 = nI 1))) := by
  obtain ⟨s0, s1, s2, s3, s4, s5, s6, s7, m2, m6, m7, m8, m9⟩ := id hs
  have hn5 : n ≤ 5000 := by have := hset.1; omega
  unfold f_Sv_goOn
  rw [bn_o s2, xx_lE, bn_o s2, hset.2.2.1]
  refine pw_bind (pw_mono (X_number hset hv) ?_)
  rintro ⟨r, g⟩ (⟨q1, q2, q3⟩ | ⟨q1, q2, q3, q4, q5⟩ | ⟨q1, q2, q3, q4⟩)
  · dsimp only at q2 q3 ⊢
    subst q2 q3
    rw [if_neg (i_m1lt (by omega))]
    unfold f_Sv_goOn_31
    rw [if_pos (by decide), xx_lE, show hp_r (hp_si g sv 5 0) sv 1 = some (sv + 3) from s2, bn_s, show hp_i (hp_si g sv 5 0) (sv + 3) 0 = nI n by rw [hp_i_si, if_neg (by omega)]; exact hset.2.2.1, if_pos (nI_le (Nat.le_refl _) (by omega))]
    have H : hp_fr (fun a k => a = sv ∧ k = 5) g (hp_si g sv 5 0) := hf_si (hp_fr_rf g) ⟨rfl, rfl⟩
    refine pw_some ⟨hp_fr_mo H (fun a k hk => .inl hk), .inl ⟨q1, rfl, SSX_fr H (by unfold F_SS; omega) hset, ?_, fun j => hf_i H (by omega)⟩⟩
    rw [hp_i_si, if_pos ⟨rfl, rfl⟩]; rfl
  · dsimp only at q3 q4 q5 ⊢
    subst q3
    rw [if_neg (i_m1lt (by omega))]
    unfold f_Sv_goOn_31
    rw [if_pos (by decide), xx_lE, show hp_r (hp_si g sv 5 0) sv 1 = some (sv + 3) by rw [hp_r_si, hp_fr_r q5]; exact s2, bn_s, show hp_i (hp_si g sv 5 0) (sv + 3) 0 = nI (n + 1) by rw [hp_i_si, if_neg (by omega)]; exact q4.2.2.1, if_neg (nI_ge (by omega) (by omega)), if_neg (i_m1lt (by omega))]
    rw [show hp_r (hp_si g sv 5 0) sv 13 = some (sv + 9) by rw [hp_r_si, hp_fr_r q5]; exact s7, bn_s, show hp_n (hp_si g sv 5 0) (sv + 9) = 5000 by rw [hp_n_si, hp_fr_n q5]; exact m9, if_pos (hp_in_nI (by omega) (by omega)), nI_clamp (by omega), xx_lE, show (8 : Int32) = nI 8 from rfl, pk_mul, nI_add]
    have H : hp_fr (fun a k => a = sv ∧ k = 5 ∨ a = sv + 9 ∧ k = n) g (hp_si (hp_si g sv 5 0) (sv + 9) n (nI (s * 8 + i))) := hf_si (hf_si (hp_fr_rf g) (by omega)) (by omega)
    refine pw_some ⟨hp_fr_tr (hp_fr_mo q5 (fun a k hk => .inr (.inl hk))) (hp_fr_mo H (by unfold S_gO; omega)), .inr (.inl ⟨q1, q2, rfl, SSX_fr H (by unfold F_SS; omega) q4, ?_, ?_, fun j hj => ?_⟩)⟩
    · rw [hp_i_si, if_neg (by omega), hp_i_si, if_pos ⟨rfl, rfl⟩]; rfl
    · rw [hp_i_si, if_pos ⟨rfl, rfl⟩, show s * 8 + i = 8 * s + i by omega]
    · rw [hf_i H (by omega), hf_i q5 (by unfold S_set; omega)]
  · dsimp only at q3 q4 ⊢
    subst q3 q4
    rw [if_pos rfl]
    unfold f_Sv_goOn_31
    rw [if_pos (by decide), xx_lE, show hp_r (hp_si g sv 5 1) sv 1 = some (sv + 3) from s2, bn_s, show hp_i (hp_si g sv 5 1) (sv + 3) 0 = nI n by rw [hp_i_si, if_neg (by omega)]; exact hset.2.2.1, if_pos (nI_le (Nat.le_refl _) (by omega))]
    have H : hp_fr (fun a k => a = sv ∧ k = 5) g (hp_si g sv 5 1) := hf_si (hp_fr_rf g) ⟨rfl, rfl⟩
    refine pw_some ⟨hp_fr_mo H (fun a k hk => .inl hk), .inr (.inr ⟨q1, q2, ?_⟩)⟩
    rw [hp_i_si, if_pos ⟨rfl, rfl⟩]; rfl
