/-! a rule's line -/
noncomputable def ruW (m : Nat) (x_14 : HP) : Option HP :=
  (if (hp_i x_14 m 2) ≤ 0 then
  ((hp_r x_14 m 17).bind fun q_15 =>
  (f_M_isWord m (7561593 : Int64) x_14).bind fun x_16 =>
  if hp_in (hp_i x_14 m 26) (hp_n x_16.2 q_15) = true then
  xx_l (hp_si x_16.2 q_15 ((hp_i x_14 m 26)).toNatClampNeg (vp_nar .boolean x_16.1)) fun h_18 =>
  (f_M_isWord m (7561593 : Int64) h_18).bind fun x_19 =>
  (if x_19.1 = 0 then
  (f_M_readRule_138 m x_19.2)
  else
  ((f_M_token m x_19.2).bind fun x_24 =>
  f_M_readRule_138 m x_24))
  else none)
  else
  (some x_14))
theorem ruWE {m c p : Nat} {h : HP} (he : MER m c p h) : ruW m h = some h := by
  unfold ruW
  rw [if_neg (mer_n he).2]
theorem M_138 {m nu n : Nat} {h : HP} (hs : MS m h) (e26 : hp_i h m 26 = nI nu) (hnu : nu < 16) (e44 : hp_i h m 44 = nI n) : pw (f_M_readRule_138 m h) (fun g => hp_fr (fun a k => a = m ∧ k = 26 ∨ a = m + 14 ∧ k = 3 * nu + 3) h g ∧ hp_i g m 26 = nI (nu + 1) ∧ hp_i g (m + 14) (3 * nu + 3) = nI n) := by
  unfold f_M_readRule_138
  rw [e26, nI_1, xx_lE]
  obtain ⟨h1, hh1⟩ : ∃ h1, hp_si h m 26 (nI (nu + 1)) = h1 := ⟨_, rfl⟩
  rw [hh1]
  have H1 : hp_fr (fun a k => a = m ∧ k = 26 ∨ a = m + 14 ∧ k = 3 * nu + 3) h h1 := by rw [← hh1]; exact hf_si (hp_fr_rf h) (by omega)
  have s1 := MS_fr H1 hs
  have f26 : hp_i h1 m 26 = nI (nu + 1) := by rw [← hh1, hp_i_si, if_pos ⟨rfl, rfl⟩]
  have f44 : hp_i h1 m 44 = nI n := by rw [← hh1, hp_i_si, if_neg (by omega)]; exact e44
  rw [mb_38 s1, f26, show (3 : Int32) = nI 3 from rfl, pk_mul, mn_14 s1, if_pos (hp_in_nI (by omega) (by omega)), nI_clamp (by omega), f44, xx_lE, show 3 * (nu + 1) = 3 * nu + 3 by omega]
  exact pw_some ⟨hf_si H1 (by omega), by rw [hp_i_si, if_neg (by omega)]; exact f26, by rw [hp_i_si, if_pos ⟨rfl, rfl⟩]⟩
/-- behind the third part -/
theorem M_ruW {K : TKS} {ps : Nat → Nat} {m L nu k u : Nat} {T : Nat → Nat} {o : List (Nat × Nat)} {h : HP} (ok : TKO K) (hT : TOKS K ps m L T) (hr : RPS K ps m L T nu k o u h) (hnu : nu < 16) (ha : aft 2 (t_k K k)) : pw (ruW m h) (fun g => hp_fr (fun a k => S_tk m a k ∨ a = m ∧ k = 26 ∨ a = m + 9 ∧ k = nu ∨ a = m + 14 ∧ k = 3 * nu + 3) h g ∧ RT K ps m L T (if t_k K k = 14 then k + 1 else k) g ∧ OUT m o u g ∧ hp_i g m 26 = nI (nu + 1) ∧ hp_i g (m + 14) (3 * nu + 3) = nI o.length ∧ hp_i g (m + 9) nu = nI (if t_k K k = 14 then 1 else 0)) := by
  obtain ⟨r1, r2, r3⟩ := hr
  unfold ruW
  rw [r1.2.1, if_pos (show (0 : Int32) ≤ 0 by decide), mb_17 r1.1.1, show (7561593 : Int64) = lN (cst 14) from rfl, bn_o (M_word ok r1.2.2 (by decide))]
  dsimp only
  rw [r3, mn_9 r1.1.1, if_pos (hp_in_nI hnu (by omega)), nI_clamp (by omega), nar_lt (by split <;> decide), xx_lE]
  obtain ⟨h1, hh1⟩ : ∃ h1, hp_si h (m + 9) nu (nI (if t_k K k = 14 then 1 else 0)) = h1 := ⟨_, rfl⟩
  rw [hh1]
  have H1 : hp_fr (fun a k => a = m + 9 ∧ k = nu) h h1 := by rw [← hh1]; exact hf_si (hp_fr_rf h) ⟨rfl, rfl⟩
  have R1 : RT K ps m L T k h1 := RT_fr H1 (fun a k z => by omega) r1
  have O1 : OUT m o u h1 := OUT_fr H1 (fun a k z => by unfold S_nte; omega) r2
  have e26 : hp_i h1 m 26 = nI nu := by rw [hf_i H1 (by omega)]; exact r3
  have e9 : hp_i h1 (m + 9) nu = nI (if t_k K k = 14 then 1 else 0) := by rw [← hh1, hp_i_si, if_pos ⟨rfl, rfl⟩]
  rw [bn_o (M_word ok R1.2.2 (by decide))]
  dsimp only
  by_cases z : t_k K k = 14
  · rw [if_pos z] at e9 ⊢
    rw [if_neg (show ¬ nI 1 = (0 : Int32) by decide)]
    refine pw_bind (pw_mono (hT k h1 R1.1 (tk_lt ok R1.2.2.1 (by omega) (by omega)) R1.2.2) ?_)
    rintro h2 ⟨H2, k2⟩
    have R2 : RT K ps m L T (k + 1) h2 := ⟨MTC_tk H2 R1.1, h2_tk H2 R1.2.1, k2⟩
    have O2 := OUT_ln (tk_ln H2) O1
    refine pw_mono (M_138 R2.1.1 (by rw [hf_i H2 (by unfold S_tk; omega)]; exact e26) hnu O2.1) ?_
    rintro h3 ⟨H3, q1, q2⟩
    refine ⟨hp_fr_tr (hp_fr_tr (hp_fr_mo H1 (fun a k z => by omega)) (hp_fr_mo H2 (fun a k z => .inl z))) (hp_fr_mo H3 (fun a k z => by omega)), by rw [if_pos z]; exact RT_fr H3 (fun a k z => by omega) R2, OUT_fr H3 (fun a k z => by unfold S_nte; omega) O2, q1, q2, ?_⟩
    rw [hf_i H3 (by omega), hf_i H2 (by unfold S_tk; omega)]; exact e9
  · rw [if_neg z] at e9 ⊢
    rw [if_pos (show nI 0 = (0 : Int32) from rfl)]
    refine pw_mono (M_138 R1.1.1 e26 hnu O1.1) ?_
    rintro h3 ⟨H3, q1, q2⟩
    refine ⟨hp_fr_tr (hp_fr_mo H1 (fun a k z => by omega)) (hp_fr_mo H3 (fun a k z => by omega)), by rw [if_neg z]; exact RT_fr H3 (fun a k z => by omega) R1, OUT_fr H3 (fun a k z => by unfold S_nte; omega) O1, q1, q2, ?_⟩
    rw [hf_i H3 (by omega)]; exact e9
theorem M_rl_rule {K : TKS} {ps : Nat → Nat} {m L F k : Nat} {T : Nat → Nat} {P : PT} {cn nk : Nat → Nat} {h : HP} (ok : TKO K) (hr : RSS K ps m L T P cn nk F k h) (h10 : t_k K k = 10) (hnu : p_nu P < 16) : f_M_readLine m h = (f_M_readRule m h).bind fun x => f_M_readLine_152 m x := by
  unfold f_M_readLine
  rw [bn_o (M_lineOf ok hr), show (if t_k K k < 4 ∧ F / 2 ^ (t_k K k) % 2 = 0 then nI (t_k K k) else -1) = -1 from if_neg (by omega)]
  dsimp only
  unfold f_M_readLine_16 f_M_readLine_29 f_M_readLine_121
  rw [if_pos (show (-1 : Int32) < 0 by decide), if_pos (show (-1 : Int32) < 0 by decide), if_neg (show ¬ (-1 : Int32) = 0 by decide), if_neg (show ¬ (-1 : Int32) = 1 by decide), if_neg (show ¬ (-1 : Int32) = 2 by decide), if_neg (show ¬ (-1 : Int32) = 3 by decide), show (1919904869 : Int64) = lN (cst 7) from rfl, bn_o (M_word ok hr.1.2.2 (by decide))]
  dsimp only
  rw [if_neg (show ¬ t_k K k = 7 by omega), if_pos (show nI 0 = (0 : Int32) from rfl), show (1920298085 : Int64) = lN (cst 10) from rfl, bn_o (M_word ok hr.1.2.2 (by decide))]
  dsimp only
  rw [if_pos h10, if_neg (show ¬ nI 1 = (0 : Int32) by decide), hr.2.2.2.2.2.2.2.1, if_neg (show ¬ (16 : Int32) ≤ nI (p_nu P) from nI_ge (b := 16) hnu (by decide))]
theorem M_rule_bad {K : TKS} {ps : Nat → Nat} {m L F k : Nat} {T : Nat → Nat} {P : PT} {cn nk : Nat → Nat} {h : HP} (ok : TKO K) (hT : TOKS K ps m L T) (hv : VAL K P cn nk F) (hr : RSS K ps m L T P cn nk F k h) (h10 : t_k K k = 10) (hb : ¬ (t_k K (k + 1) = 20 ∧ rid K nk (p_nr P) (k + 1) < p_nr P)) : pw (f_M_readRule m h) (fun h' => hp_fr (S_rf m) h h' ∧ RBX K ps m L T (if t_k K (k + 1) = 20 then 5 else ec K (k + 1)) (t_s K (k + 1)) h') := by
  unfold f_M_readRule
  refine pw_bind (pw_mono (M_tok ok hT hr.1 (by omega) (by omega)) ?_)
  rintro h1 ⟨K1, R1⟩
  have M1 := MSC_ln K1 hr.2
  rw [bn_o (M_isName ok R1.2.2)]
  dsimp only
  have fin : ∀ v : Nat, 0 < v → v ≤ 5 → (if t_k K (k + 1) = 23 then 1 else v) = (if t_k K (k + 1) = 20 then 5 else ec K (k + 1)) → pw ((f_M_wrong m (nI v) h1).bind fun x => f_M_readRule_35 m x) (fun h' => hp_fr (S_rf m) h h' ∧ RBX K ps m L T (if t_k K (k + 1) = 20 then 5 else ec K (k + 1)) (t_s K (k + 1)) h') := by
    intro v v0 v5 e
    refine pw_bind (pw_mono (M_wr ok R1 v0 v5) ?_)
    rintro h2 ⟨K2, q1, q2⟩
    rw [e] at q2
    unfold f_M_readRule_35
    rw [if_neg (mer_n q2).2]
    exact pw_some ⟨hp_fr_tr (ln_rf K1) (ln_rf K2), q1, .inl q2⟩
  by_cases z : t_k K (k + 1) = 20
  · have e9 := R1.2.2.2.2.2.2 (by omega)
    rw [if_pos z, if_neg (show ¬ nI 1 = (0 : Int32) by decide), e9, bn_o (M_roleN ok R1.1.1 hv M1 R1.2.2.1 z), if_neg (fun y => hb ⟨z, y⟩)]
    dsimp only
    rw [if_neg (show ¬ (0 : Int32) ≤ -1 by decide)]
    exact fin 5 (by decide) (by decide) (by rw [if_neg (by omega), if_pos z])
  · rw [if_neg z, if_pos (show nI 0 = (0 : Int32) from rfl)]
    exact fin 2 (by decide) (by decide) (by rw [if_neg z]; rfl)
theorem M_rule_eq {K : TKS} {ps : Nat → Nat} {m L F k : Nat} {T : Nat → Nat} {P : PT} {cn nk : Nat → Nat} {h : HP} (ok : TKO K) (hT : TOKS K ps m L T) (hv : VAL K P cn nk F) (hnu : p_nu P < 16) (hr : RSS K ps m L T P cn nk F k h) (h10 : t_k K k = 10) (h20 : t_k K (k + 1) = 20) (hid : rid K nk (p_nr P) (k + 1) < p_nr P) : ∃ h8, hp_fr (S_rf m) h h8 ∧ RSS K ps m L T P cn nk F (k + 2) h8 ∧ hp_i h8 (m + 5) (p_nu P) = nI (rid K nk (p_nr P) (k + 1)) ∧ f_M_readRule m h = (grp m h8).bind fun c => ruW m c := by
  have hnr := hv.1.2.2.2.2.1
  obtain ⟨h1, e1, K1, R1⟩ := M_tok ok hT hr.1 (by omega) (by omega)
  have M1 := MSC_ln K1 hr.2
  have e9 := R1.2.2.2.2.2.2 (by omega)
  obtain ⟨h7, hh7⟩ : ∃ h7, hp_si h1 (m + 5) (p_nu P) (nI (rid K nk (p_nr P) (k + 1))) = h7 := ⟨_, rfl⟩
  have K7 : hp_fr (fun a j => a = m + 5 ∧ j = p_nu P) h1 h7 := by rw [← hh7]; exact hf_si (hp_fr_rf h1) ⟨rfl, rfl⟩
  have R7 : RT K ps m L T (k + 1) h7 := RT_fr K7 (fun a k z => by omega) R1
  have M7 : MSC K m P cn nk F h7 := by
    obtain ⟨a1, a2, a3, a4, a5, a6, a7, a8, a9, a10, a11, a12, a13, a14, a15, a16, a17⟩ := M1
    exact ⟨by rw [hf_i K7 (by omega)]; exact a1, by rw [hf_i K7 (by omega)]; exact a2, by rw [hf_i K7 (by omega)]; exact a3, by rw [hf_i K7 (by omega)]; exact a4, by rw [hf_i K7 (by omega)]; exact a5, by rw [hf_i K7 (by omega)]; exact a6, by rw [hf_i K7 (by omega)]; exact a7, by rw [hf_i K7 (by omega)]; exact a8, by rw [hf_i K7 (by omega)]; exact a9, fun i hi => by rw [hf_l K7 (by omega)]; exact a10 i hi, fun i hi => by rw [hf_i K7 (by omega)]; exact a11 i hi, fun i hi => by rw [hf_i K7 (by omega)]; exact a12 i hi, fun i hi => by rw [hf_i K7 (by omega)]; exact a13 i hi, fun i hi => by rw [hf_i K7 (by omega)]; exact a14 i hi, fun i hi hj => by rw [hf_i K7 (by omega)]; exact a15 i hi hj, fun i hi => by rw [hf_i K7 (by omega), hf_i K7 (by omega)]; exact a16 i hi, fun i hi => by rw [hf_i K7 (by omega)]; exact a17 i hi⟩
  obtain ⟨h8, e8, K8, R8⟩ := M_tok ok hT R7 (by omega) (by omega)
  refine ⟨h8, hp_fr_tr (hp_fr_tr (ln_rf K1) (hp_fr_mo K7 (fun a k z => by unfold S_rf; omega))) (ln_rf K8), ⟨R8, MSC_ln K8 M7⟩, ?_, ?_⟩
  · rw [hf_i K8 (by unfold S_ln S_er S_tk; omega), ← hh7, hp_i_si, if_pos ⟨rfl, rfl⟩]
  · unfold f_M_readRule
    rw [bn_o e1, bn_o (M_isName ok R1.2.2)]
    dsimp only
    rw [if_pos h20, if_neg (show ¬ nI 1 = (0 : Int32) by decide), e9, bn_o (M_roleN ok R1.1.1 hv M1 R1.2.2.1 h20), if_pos hid]
    dsimp only
    rw [if_pos (show (0 : Int32) ≤ nI (rid K nk (p_nr P) (k + 1)) from nI_le (a := 0) (by omega) (by omega))]
    unfold f_M_readRule_35
    rw [R1.2.1, if_pos (show (0 : Int32) ≤ 0 by decide), mb_13 R1.1.1, e9, bn_o (M_roleN ok R1.1.1 hv M1 R1.2.2.1 h20), if_pos hid]
    dsimp only
    rw [M1.2.2.2.2.2.2.1, mn_5 R1.1.1, if_pos (hp_in_nI hnu (by omega)), nI_clamp (by omega), xx_lE, hh7, bn_o e8]
    unfold grp wpp
    simp only [b_as]
    rfl
