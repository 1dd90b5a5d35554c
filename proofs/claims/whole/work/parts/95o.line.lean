/-! lines: what both have laid aside of the new plan -/
def CS (K : TKS) (r pl : Nat) (P : PT) (nk : Nat → Nat) (F k : Nat) (g : HP) : Prop := ALV K r k g ∧ PX P pl g ∧ hp_i g pl 14 = nI (p_bd P (3 * p_nu P)) ∧ (∀ i, i < p_nr P → hp_l g (r + 1) i = lN (t_v K (nk i))) ∧ hp_i g r 6 = nI F
def MSC (K : TKS) (m : Nat) (P : PT) (cn nk : Nat → Nat) (F : Nat) (h : HP) : Prop := hp_i h m 20 = nI (p_lc P) ∧ hp_i h m 21 = nI (p_cy P) ∧ hp_i h m 22 = nI (p_fl P) ∧ hp_i h m 23 = nI (p_st P) ∧ hp_i h m 24 = nI (p_nr P) ∧ hp_i h m 25 = nI (p_nm P) ∧ hp_i h m 26 = nI (p_nu P) ∧ hp_i h m 27 = nI (p_un P) ∧ hp_i h m 44 = nI (p_bd P (3 * p_nu P)) ∧ (∀ i, i < p_nr P → hp_l h (m + 2) i = lN (t_w K (nk i))) ∧ (∀ i, i < p_nr P → hp_i h (m + 3) i = nI (cn i)) ∧ (∀ i, i < p_nr P → hp_i h (m + 4) i = nI (p_hf P i)) ∧ (∀ i, i < p_nu P → hp_i h (m + 5) i = nI (p_rr P i)) ∧ (∀ i, i < p_nu P → hp_i h (m + 9) i = nI (p_rs P i)) ∧ (∀ i, i ≤ 3 * p_nu P → 0 < p_nu P → hp_i h (m + 14) i = nI (p_bd P i)) ∧ (∀ i, i < p_bd P (3 * p_nu P) → hp_i h (m + 12) i = nI (p_fw P i) ∧ hp_i h (m + 13) i = nI (p_fn P i)) ∧ ∀ i, i < 4 → hp_i h (m + 11) i = nI (F / 2 ^ i % 2)
def VAL (K : TKS) (P : PT) (cn nk : Nat → Nat) (F : Nat) : Prop := POK P ∧ (∀ i, i < p_nr P → nk i ≤ t_N K ∧ t_k K (nk i) = 20 ∧ ∀ j, j < i → t_w K (nk j) ≠ t_w K (nk i)) ∧ p_nm P = fb_sm cn (p_nr P) ∧ (∀ q i, q < p_nr P → fb_sm cn q ≤ i → i < fb_sm cn (q + 1) → p_ro P i = q) ∧ p_bd P (3 * p_nu P) ≤ 9 * p_un P ∧ (∀ j, j < p_bd P (3 * p_nu P) → VE (p_fw P j, p_fn P j)) ∧ F < 16
def RSS (K : TKS) (ps : Nat → Nat) (m L : Nat) (T : Nat → Nat) (P : PT) (cn nk : Nat → Nat) (F k : Nat) (h : HP) : Prop := RT K ps m L T k h ∧ MSC K m P cn nk F h
def PLB (pl : Nat) (g : HP) : Prop := (∃ a, a ≤ 4 ∧ hp_i g pl 4 = nI a) ∧ (∃ a, a ≤ 6 ∧ hp_i g pl 5 = nI a) ∧ (∃ a, a ≤ 16 ∧ hp_i g pl 6 = nI a) ∧ DLN pl g
def S_cl (r pl : Nat) : Nat → Nat → Prop := fun a k => a = r ∧ k ≠ 10 ∨ a = r + 1 ∨ pl ≤ a ∧ a ≤ pl + 6
def S_rf (m : Nat) : Nat → Nat → Prop := fun a k => a = m ∧ (2 ≤ k ∧ k ≤ 4 ∨ 6 ≤ k ∧ k ≤ 9 ∨ 20 ≤ k ∧ k ≤ 27 ∨ 44 ≤ k ∧ k ≤ 46) ∨ m + 2 ≤ a ∧ a ≤ m + 5 ∨ a = m + 9 ∨ m + 11 ≤ a ∧ a ≤ m + 14 ∨ a = m + 18
theorem S_clC {K : TKS} {r pl : Nat} {h g : HP} (H : hp_fr (S_cl r pl) h g) (hs : CTX K r pl h) : CTX K r pl g := CTX_fr H (fun a k z => by have := hs.1; unfold S_cl at z; omega) hs
theorem ra_cl {r pl : Nat} {h g : HP} (H : hp_fr (S_ra r) h g) : hp_fr (S_cl r pl) h g := hp_fr_mo H (fun a k z => by unfold S_ra at z; unfold S_cl; omega)
theorem ru_cl {r pl c : Nat} {h g : HP} (H : hp_fr (S_ru r pl c) h g) : hp_fr (S_cl r pl) h g := hp_fr_mo H (fun a k z => by unfold S_ru S_xp S_ra at z; unfold S_cl; omega)
theorem ln_rf {m : Nat} {h g : HP} (H : hp_fr (S_ln m) h g) : hp_fr (S_rf m) h g := hp_fr_mo H (fun a k z => by unfold S_ln S_er S_tk at z; unfold S_rf; omega)
theorem rp_rf {m c : Nat} {h g : HP} (H : hp_fr (S_rp m c) h g) : hp_fr (S_rf m) h g := hp_fr_mo H (fun a k z => by unfold S_rp S_me S_er S_tk S_pil S_nte at z; unfold S_rf; omega)
theorem MSC_fr {S : Nat → Nat → Prop} {K : TKS} {m F : Nat} {P : PT} {cn nk : Nat → Nat} {h g : HP} (H : hp_fr S h g) (hS : ∀ a k, S a k → ¬ (a = m ∧ (20 ≤ k ∧ k ≤ 27 ∨ k = 44)) ∧ ¬ (m + 2 ≤ a ∧ a ≤ m + 5) ∧ a ≠ m + 9 ∧ ¬ (m + 11 ≤ a ∧ a ≤ m + 14)) (hs : MSC K m P cn nk F h) : MSC K m P cn nk F g := by
  have e : ∀ a k, (a = m ∧ (20 ≤ k ∧ k ≤ 27 ∨ k = 44)) ∨ (m + 2 ≤ a ∧ a ≤ m + 5) ∨ a = m + 9 ∨ (m + 11 ≤ a ∧ a ≤ m + 14) → hp_i g a k = hp_i h a k ∧ hp_l g a k = hp_l h a k := fun a k hk => ⟨hf_i H (fun z => by have := hS a k z; omega), hf_l H (fun z => by have := hS a k z; omega)⟩
  obtain ⟨a1, a2, a3, a4, a5, a6, a7, a8, a9, a10, a11, a12, a13, a14, a15, a16, a17⟩ := hs
  refine ⟨?_, ?_, ?_, ?_, ?_, ?_, ?_, ?_, ?_, fun i hi => ?_, fun i hi => ?_, fun i hi => ?_, fun i hi => ?_, fun i hi => ?_, fun i hi hj => ?_, fun i hi => ?_, fun i hi => ?_⟩
  · rw [(e _ _ (by omega)).1]; exact a1
  · rw [(e _ _ (by omega)).1]; exact a2
  · rw [(e _ _ (by omega)).1]; exact a3
  · rw [(e _ _ (by omega)).1]; exact a4
  · rw [(e _ _ (by omega)).1]; exact a5
  · rw [(e _ _ (by omega)).1]; exact a6
  · rw [(e _ _ (by omega)).1]; exact a7
  · rw [(e _ _ (by omega)).1]; exact a8
  · rw [(e _ _ (by omega)).1]; exact a9
  · rw [(e _ _ (by omega)).2]; exact a10 i hi
  · rw [(e _ _ (by omega)).1]; exact a11 i hi
  · rw [(e _ _ (by omega)).1]; exact a12 i hi
  · rw [(e _ _ (by omega)).1]; exact a13 i hi
  · rw [(e _ _ (by omega)).1]; exact a14 i hi
  · rw [(e _ _ (by omega)).1]; exact a15 i hi hj
  · rw [(e _ _ (by omega)).1, (e _ _ (by omega)).1]; exact a16 i hi
  · rw [(e _ _ (by omega)).1]; exact a17 i hi
theorem MSC_ln {K : TKS} {m F : Nat} {P : PT} {cn nk : Nat → Nat} {h g : HP} (H : hp_fr (S_ln m) h g) (hs : MSC K m P cn nk F h) : MSC K m P cn nk F g := MSC_fr H (fun a k z => by unfold S_ln S_er S_tk at z; omega) hs
theorem CS_ra {K : TKS} {r pl k k' F : Nat} {P : PT} {nk : Nat → Nat} {h g : HP} (hp : r + 4 < pl) (H : hp_fr (S_ra r) h g) (hs : CS K r pl P nk F k h) (ha : ALV K r k' g) : CS K r pl P nk F k' g := by
  obtain ⟨_, c2, c3, c4, c5⟩ := hs
  exact ⟨ha, PX_ag (fun a k hk => hf_i H (by unfold F_PX at hk; unfold S_ra; omega)) c2, by rw [hf_i H (by unfold S_ra; omega)]; exact c3, fun i hi => by rw [hf_l H (by unfold S_ra; omega)]; exact c4 i hi, by rw [hf_i H (by unfold S_ra; omega)]; exact c5⟩
theorem PLB_fr {S : Nat → Nat → Prop} {pl : Nat} {h g : HP} (H : hp_fr S h g) (hS : ∀ k, (k = 4 ∨ k = 5 ∨ k = 6 ∨ k = 14) → ¬ S pl k) (hp : PLB pl h) : PLB pl g := by
  obtain ⟨⟨a, a1, a2⟩, ⟨b, b1, b2⟩, ⟨c, c1, c2⟩, ⟨d, d1, d2⟩⟩ := hp
  exact ⟨⟨a, a1, by rw [hf_i H (hS 4 (by omega))]; exact a2⟩, ⟨b, b1, by rw [hf_i H (hS 5 (by omega))]; exact b2⟩, ⟨c, c1, by rw [hf_i H (hS 6 (by omega))]; exact c2⟩, ⟨d, d1, by rw [hf_i H (hS 14 (by omega))]; exact d2⟩⟩
theorem PLB_ra {r pl : Nat} {h g : HP} (hr : r + 4 < pl) (H : hp_fr (S_ra r) h g) (hp : PLB pl h) : PLB pl g := PLB_fr H (fun k hk => by unfold S_ra; omega) hp
theorem CS_PLB {K : TKS} {r pl k F : Nat} {P : PT} {cn nk : Nat → Nat} {g : HP} (hv : VAL K P cn nk F) (hs : CS K r pl P nk F k g) : PLB pl g := by
  obtain ⟨_, c2, c3, _⟩ := hs
  have ok := hv.1
  exact ⟨⟨_, ok.2.2.2.2.1, c2.2.2.2.2.1⟩, ⟨_, ok.2.2.2.2.2.1, c2.2.2.2.2.2.1⟩, ⟨_, ok.2.2.2.2.2.2.1, c2.2.2.2.2.2.2.1⟩, ⟨_, by have := ok.2.2.2.2.2.2.2.2.2.2.2.2.2.1 (3 * p_nu P) (Nat.le_refl _); omega, c3⟩⟩
/-- what a piece of a line comes to, on both sides -/
def BOUT (K : TKS) (ps : Nat → Nat) (r pl m L : Nat) (T : Nat → Nat) (P : PT) (cn nk : Nat → Nat) (F k kk : Nat) (fM : HP → Option HP) (g g' : HP) : Prop := hp_fr (S_cl r pl) g g' ∧
  ((∃ c p, DED r c p g' ∧ PLB pl g' ∧ ∀ h, RSS K ps m L T P cn nk F k h → pw (fM h) (fun h' => hp_fr (S_rf m) h h' ∧ RBX K ps m L T c p h')) ∨
   ∃ P' cn' nk' F' k', kk ≤ k' ∧ VAL K P' cn' nk' F' ∧ CS K r pl P' nk' F' k' g' ∧ ∀ h, RSS K ps m L T P cn nk F k h → pw (fM h) (fun h' => hp_fr (S_rf m) h h' ∧ RSS K ps m L T P' cn' nk' F' k' h'))
theorem L_end {K : TKS} {ps : Nat → Nat} {r pl m L F k kk : Nat} {T : Nat → Nat} {P : PT} {cn nk : Nat → Nat} {fM : HP → Option HP} {g g' : HP} (hT : TOKS K ps m L T) (hx : CTX K r pl g) (hb : BOUT K ps r pl m L T P cn nk F k kk fM g g') : pw (f_Rd_readLine_90 r g') (BOUT K ps r pl m L T P cn nk F k (kk + 1) (fun h => (fM h).bind fun x => f_M_readLine_152 m x) g) := by
  obtain ⟨H, z⟩ := hb
  have hrp := hx.1
  have ok := hx.2.1
  have hx' := S_clC H hx
  unfold f_Rd_readLine_90
  rw [show (59 : Int32) = nI 59 from rfl]
  rcases z with ⟨c, p, z1, z2, z3⟩ | ⟨P', cn', nk', F', k', z1, z2, z3, z4⟩
  · refine pw_bind (pw_mono (R_expD (by decide) (by decide) z1) ?_)
    rintro g2 ⟨H2, D2⟩
    refine pw_some ⟨hp_fr_tr H (ra_cl H2), .inl ⟨c, p, D2, PLB_ra hrp H2 z2, fun h hr => ?_⟩⟩
    refine pw_bind (pw_mono (z3 h hr) ?_)
    rintro h1 ⟨H3, q⟩
    refine pw_mono (M_endB ok q) ?_
    rintro h2 ⟨H4, q2⟩
    exact ⟨hp_fr_tr H3 (ln_rf H4), q2⟩
  · refine pw_bind (pw_mono (R_exp hx' z3.1 (by decide) (by decide)) ?_)
    rintro g2 ⟨H2, v⟩
    have F2 := hp_fr_tr H (ra_cl (pl := pl) H2)
    have pb := PLB_ra hrp H2 (CS_PLB z2 z3)
    have ref : ∀ h, RSS K ps m L T P cn nk F k h → pw ((fM h).bind fun x => f_M_readLine_152 m x) (fun h' => hp_fr (S_rf m) h h' ∧ ((t_k K k' = 59 ∧ RSS K ps m L T P' cn' nk' F' (k' + 1) h') ∨ (t_k K k' ≠ 59 ∧ RBX K ps m L T (ec K k') (t_s K k') h'))) := by
      intro h hr
      refine pw_bind (pw_mono (z4 h hr) ?_)
      rintro h1 ⟨H3, q1, q2⟩
      refine pw_mono (M_end ok hT q1) ?_
      rintro h2 ⟨H4, q3⟩
      refine ⟨hp_fr_tr H3 (ln_rf H4), ?_⟩
      rcases q3 with ⟨e1, e2⟩ | q3
      · exact .inl ⟨e1, e2, MSC_ln H4 q2⟩
      · exact .inr q3
    rcases v with ⟨v1, v2⟩ | ⟨v1, v2, v3, v4⟩ | ⟨v1, v2⟩
    · refine pw_some ⟨F2, .inr ⟨P', cn', nk', F', k' + 1, by omega, z2, CS_ra hrp H2 z3 v2, fun h hr => pw_mono (ref h hr) ?_⟩⟩
      rintro h2 ⟨H4, q⟩
      rcases q with ⟨_, q⟩ | ⟨q, _⟩
      · exact ⟨H4, q⟩
      · exact absurd v1 q
    · refine pw_some ⟨F2, .inl ⟨_, _, v4, pb, fun h hr => pw_mono (ref h hr) ?_⟩⟩
      rintro h2 ⟨H4, q⟩
      rcases q with ⟨_, q⟩ | ⟨q, _⟩
      · exact ⟨H4, RT_bad v3 q.1⟩
      · exact absurd v1 q
    · refine pw_some ⟨F2, .inl ⟨_, _, v2, pb, fun h hr => pw_mono (ref h hr) ?_⟩⟩
      rintro h2 ⟨H4, q⟩
      rcases q with ⟨q, _⟩ | ⟨_, q⟩
      · exact absurd q v1
      · exact ⟨H4, q⟩
