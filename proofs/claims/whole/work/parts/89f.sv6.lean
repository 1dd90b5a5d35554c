/-! explore -/
def SVZ (sv : Nat) (h : HP) : Prop := hp_r h sv 0 = some (sv + 1) ∧ hp_r h (sv + 1) 0 = some (sv + 2) ∧ hp_r h sv 1 = some (sv + 3) ∧ hp_r h sv 2 = some (sv + 6) ∧ hp_r h sv 3 = some (sv + 7) ∧ hp_r h sv 12 = some (sv + 8) ∧ hp_r h sv 13 = some (sv + 9) ∧ hp_r h (sv + 3) 2 = some (sv + 4) ∧ hp_r h (sv + 3) 3 = some (sv + 5) ∧ hp_n h (sv + 2) = 24576 ∧ hp_n h (sv + 4) = 5000 ∧ hp_n h (sv + 5) = 8192 ∧ hp_n h (sv + 6) = 5000 ∧ hp_n h (sv + 7) = 6 ∧ hp_n h (sv + 8) = 30000 ∧ hp_n h (sv + 9) = 5000
theorem SVZ_fr {S : Nat → Nat → Prop} {sv : Nat} {h h' : HP} (H : hp_fr S h h') (hs : SVZ sv h) : SVZ sv h' := by unfold SVZ; simp only [hp_fr_r H, hp_fr_n H]; exact hs
theorem SVZ_sr {sv q : Nat} {h : HP} (hs : SVZ sv h) : SVZ sv (hp_sr h sv 4 (some q)) := by
  obtain ⟨a1, a2, a3, a4, a5, a6, a7, a8, a9, a10⟩ := hs
  refine ⟨?_, ?_, ?_, ?_, ?_, ?_, ?_, ?_, ?_, a10⟩
  all_goals rw [hp_r_sr, if_neg (by omega)]
  · exact a1
  · exact a2
  · exact a3
  · exact a4
  · exact a5
  · exact a6
  · exact a7
  · exact a8
  · exact a9
theorem SVS_of {sv q : Nat} {h : HP} (hz : SVZ sv h) (h4 : hp_r h sv 4 = some q) : SVS sv q h := by
  obtain ⟨a1, a2, a3, a4, a5, a6, a7, a8, a9, b1, b2, b3, b4, b5, b6, b7⟩ := hz
  exact ⟨a1, a2, a3, a4, a5, h4, a6, a7, b1, b4, b5, b6, b7⟩
def S_ex (sv q : Nat) : Nat → Nat → Prop := fun a k => S_sv sv q a k ∨ a = sv ∧ k = 15
theorem X_explore {P : PT} {sv q : Nat} {h : HP} (ok : POK P) (hq : q + 8 < sv) (hps : PSH q h) (hpx : PX P q h) (hz : SVZ sv h) : pw (f_Sv_explore sv q h) (fun g => hp_fr (S_ex sv q) (hp_sr h sv 4 (some q)) g ∧ SVQ P sv q g ∧ SVJ P sv (BF P 3) (8 * (BF P 3).1) g ∧ hp_i g sv 15 = -1) := by
  have hnm := ok.2.2.2.2.2.1
  unfold f_Sv_explore
  rw [xx_lE]
  let h1 := hp_sr h sv 4 (some q)
  have z1 : SVZ sv h1 := SVZ_sr hz
  have r4 : hp_r h1 sv 4 = some q := by simp only [h1]; rw [hp_r_sr, if_pos ⟨rfl, rfl⟩]
  have ps1 : PSH q h1 := by
    unfold PSH
    simp only [h1, hp_r_sr, hp_n_sr]
    simp only [show ∀ k, (q = sv ∧ k = 4) = False from fun k => eq_false (by omega), if_false]
    exact hps
  have px1 : PX P q h1 := hpx
  have Q1 : SVQ P sv q h1 := ⟨ps1, px1, SVS_of z1 r4⟩
  show pw ((hp_r h1 sv 0).bind _) _
  rw [bn_o z1.1]
  unfold f_Sp_clear
  rw [bn_o z1.2.1]
  refine pw_bind (pw_bind (pw_mono (A_fill z1.2.2.2.2.2.2.2.2.2.1 (by decide)) ?_))
  rintro g2 ⟨H2, e2⟩
  refine pw_some ?_
  have z2 := SVZ_fr H2 z1
  rw [bn_o z2.2.2.1]
  unfold f_Ss_clear
  rw [show (if (5000 : Int32) < (5000 : Int32) then (5000 : Int32) else (5000 : Int32)) = nI 5000 by decide]
  simp only [xx_lE]
  let g3 := hp_si (hp_si g2 (sv + 3) 0 0) (sv + 3) 1 (nI 5000)
  have H3 : hp_fr (fun a k => a = sv + 3 ∧ (k = 0 ∨ k = 1)) g2 g3 := hf_si (hf_si (hp_fr_rf g2) (by omega)) (by omega)
  have z3 := SVZ_fr H3 z2
  show pw (Option.bind ((hp_r g3 (sv + 3) 3).bind _) _) _
  rw [bn_o z3.2.2.2.2.2.2.2.2.1]
  refine pw_bind (pw_bind (pw_mono (A_fill z3.2.2.2.2.2.2.2.2.2.2.2.1 (by decide)) ?_))
  rintro g4 ⟨H4, e4⟩
  refine pw_some ?_
  let g5 := hp_si (hp_si (hp_si (hp_si (hp_si (hp_si g4 sv 5 0) sv 6 0) sv 7 0) sv 8 (-1)) sv 9 0) sv 10 (-1)
  have H5 : hp_fr (fun a k => a = sv ∧ 5 ≤ k ∧ k ≤ 10) g4 g5 := hf_si (hf_si (hf_si (hf_si (hf_si (hf_si (hp_fr_rf g4) (by omega)) (by omega)) (by omega)) (by omega)) (by omega)) (by omega)
  have L5 : hp_fr (S_ex sv q) h1 g5 := hp_fr_tr (hp_fr_mo H2 (by unfold S_ex S_sv; omega)) (hp_fr_tr (hp_fr_mo H3 (by unfold S_ex S_sv; omega)) (hp_fr_tr (hp_fr_mo H4 (by unfold S_ex S_sv; omega)) (hp_fr_mo H5 (by unfold S_ex S_sv; omega))))
  have r45 : hp_r g5 sv 4 = some q := by rw [hp_fr_r L5]; exact r4
  have e55 : hp_i g5 q 5 = nI (p_nm P) := by rw [hf_i L5 (by unfold S_ex S_sv S_oc; omega)]; exact px1.2.2.2.2.2.1
  show pw ((hp_r g5 sv 4).bind _) _
  rw [bn_o r45, e55]
  have ew : ((1 : Int32) <<< (nI (p_nm P) &&& 31)) - (1 : Int32) = nI (2 ^ p_nm P - 1) := by
    have := sh1 (show p_nm P < 31 by omega)
    rw [show (1 : Int32) = nI 1 from rfl, show (31 : Int32) = nI 31 from rfl, this, two_sub (by omega)]
  rw [ew]
  let g6 := hp_si g5 sv 11 (nI (2 ^ p_nm P - 1))
  have H6 : hp_fr (fun a k => a = sv ∧ 5 ≤ k ∧ k ≤ 11) g4 g6 := hf_si (hp_fr_mo H5 (by omega)) (by omega)
  have L6 : hp_fr (S_ex sv q) h1 g6 := hf_si L5 (by unfold S_ex S_sv; omega)
  have z6 := SVZ_fr L6 z1
  show pw ((hp_r g6 sv 3).bind _) _
  rw [bn_o z6.2.2.2.2.1]
  refine pw_bind (pw_mono (A_fill z6.2.2.2.2.2.2.2.2.2.2.2.2.2.1 (by decide)) ?_)
  rintro g7 ⟨H7, e7⟩
  let g8 := hp_si g7 sv 15 (-1)
  have H8 : hp_fr (fun a k => a = sv ∧ k = 15) g7 g8 := hf_si (hp_fr_rf g7) ⟨rfl, rfl⟩
  have L8 : hp_fr (S_ex sv q) h1 g8 := hf_si (hp_fr_tr L6 (hp_fr_mo H7 (by unfold S_ex S_sv; omega))) (by unfold S_ex; omega)
  have Q8 : SVQ P sv q g8 := ⟨PSH_fr L8 ps1, PX_ag (fun a k hk => hf_i L8 (by unfold F_PX at hk; unfold S_ex S_sv S_oc; omega)) px1, SVS_of (SVZ_fr L8 z1) (by rw [hp_fr_r L8]; exact r4)⟩
  have z8 := SVZ_fr L8 z1
  have H48 : hp_fr (fun a k => a = sv ∧ 5 ≤ k ∧ k ≤ 11 ∨ a = sv + 7 ∨ a = sv ∧ k = 15) g4 g8 := hp_fr_tr (hp_fr_mo H6 (by omega)) (hp_fr_tr (hp_fr_mo H7 (by omega)) (hp_fr_mo H8 (by omega)))
  have ss8 : SSX (sv + 3) 5000 0 (fun _ => 0) g8 := by
    refine ⟨by omega, by omega, ?_, ?_, z8.2.2.2.2.2.2.2.1, z8.2.2.2.2.2.2.2.2.1, z8.2.2.2.2.2.2.2.2.2.2.1, z8.2.2.2.2.2.2.2.2.2.2.2.1, fun j hj => by omega, fun _ => 0, HT_0 (by decide) (fun _ _ => rfl), fun p hp => ?_⟩
    · rw [hf_i H48 (by omega), hf_i H4 (by omega)]; rw [hp_i_si, if_neg (by omega), hp_i_si, if_pos ⟨rfl, rfl⟩]; rfl
    · rw [hf_i H48 (by omega), hf_i H4 (by omega)]; rw [hp_i_si, if_pos ⟨rfl, rfl⟩]
    · rw [hf_i H48 (by omega)]; exact e4 p hp
  refine pw_bind (pw_mono (X_putStarts ok hq Q8 ss8) ?_)
  rintro g9 ⟨H9, ss9, c9⟩
  have L9 : hp_fr (S_ex sv q) h1 g9 := hp_fr_tr L8 (hp_fr_mo H9 (by unfold S_set S_ex S_sv; omega))
  have Q9 : SVQ P sv q g9 := SVQ_fr hq (hp_fr_mo H9 (by unfold S_set S_sv; omega)) Q8
  have c79 : ∀ k, k ≤ 11 → 5 ≤ k → hp_i g9 sv k = hp_i g6 sv k := fun k h1 h2 => by rw [hf_i H9 (by unfold S_set; omega), hf_i H8 (by omega), hf_i H7 (by omega)]
  have I9 : SVI P sv (stB P 4) 0 g9 := by
    refine ⟨ss9, ?_, ⟨?_, ?_, ?_, ?_⟩, ?_, fun i hi => ?_, fun s i _ hlt _ => by omega, ⟨Q9.2.2.2.2.2.2.2.2.2.1, Q9.2.2.2.2.2.2.2.2.2.2.2.2.2.2, by have := (stB_small P 4 (by omega)).2; omega, Nat.le_refl _, fun j h1 h2 => by unfold stN at h1; omega, fun j hj => ?_⟩, fun N i _ _ => .inl ?_, fun s i _ hlt _ _ => by omega, fun j h1 h2 => by unfold stN at h1; omega⟩
    · rw [c79 5 (by omega) (by omega)]; simp only [g6, g5]; simp [hp_i_si]; rfl
    · rw [c79 6 (by omega) (by omega)]; simp only [g6, g5]; simp [hp_i_si]; rfl
    · rw [c79 7 (by omega) (by omega)]; simp only [g6, g5]; simp [hp_i_si]; rfl
    · rw [c79 8 (by omega) (by omega), if_neg (by omega)]; simp only [g6, g5]; simp [hp_i_si]
    · rw [if_neg (by omega)]
      constructor
      · rw [c79 9 (by omega) (by omega)]; simp only [g6, g5]; simp [hp_i_si]; rfl
      · rw [c79 10 (by omega) (by omega)]; simp only [g6, g5]; simp [hp_i_si]
    · rw [c79 11 (by omega) (by omega)]; simp only [g6]; rw [hp_i_si, if_pos ⟨rfl, rfl⟩]; rfl
    · rw [hf_i H9 (by unfold S_set; omega), hf_i H8 (by omega), e7 i (by omega)]
      rw [if_neg (by omega)]; rfl
    · show hp_i g9 (sv + 9) j = if j < (stB P 4).1 then -1 else _
      rw [if_pos hj]; exact c9 j hj
    · rw [hf_i H9 (by unfold S_set; omega), hf_i H48 (by omega), hf_i H4 (by omega), hf_i H3 (by omega)]
      exact e2 _ (ky_lt ok (by assumption) (by assumption))
  refine pw_mono (X_ex86 ok hq Q9 I9) ?_
  rintro g ⟨Hg, j⟩
  refine ⟨hp_fr_tr L9 (hp_fr_mo Hg (fun a k hk => .inl hk)), SVQ_fr hq Hg Q9, j, ?_⟩
  rw [hf_i Hg (by unfold S_sv S_oc; omega), hf_i H9 (by unfold S_set; omega)]; rw [hp_i_si, if_pos ⟨rfl, rfl⟩]
