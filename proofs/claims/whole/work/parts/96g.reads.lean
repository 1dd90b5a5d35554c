/-! both from the start of the text -/
def P00 : PT := (1, 1, 99, 0, 0, 0, 0, 0, fun _ => 0, fun _ => 0, fun _ => 0, fun _ => 0, fun _ => 0, fun _ => 0, fun _ => 0)
theorem VAL_00 (K : TKS) : VAL K P00 (fun _ => 0) (fun _ => 0) 0 := by
  refine ⟨⟨.inl rfl, ⟨Nat.le_refl _, show 1 ≤ 12 by decide⟩, .inr rfl, Nat.zero_le _, Nat.zero_le _, Nat.zero_le _, Nat.zero_le _, Nat.zero_le _, fun i hi => absurd hi (Nat.not_lt_zero _), fun i hi => absurd hi (Nat.not_lt_zero _), fun i hi => absurd hi (Nat.not_lt_zero _), rfl, fun k hk => absurd hk (Nat.not_lt_zero _), fun k hk => show 0 < 540 by decide, fun k => Nat.zero_le _⟩, fun i hi => absurd hi (Nat.not_lt_zero _), rfl, fun q i hq => absurd hq (Nat.not_lt_zero _), Nat.zero_le _, fun j hj => absurd hj (Nat.not_lt_zero _), by decide⟩
theorem R_adv0 {K : TKS} {r pl : Nat} {h : HP} (hx : CTX K r pl h) (h0 : hp_i h r 0 = 0) (h1 : hp_i h r 1 = -1) (h11 : hp_i h r 11 = -1) : pw (f_Rd_advance r h) (fun g => hp_fr (S_ra r) h g ∧ (ALV K r 0 g ∨ (t_k K 0 = 23 ∧ DED r (ec K 0) (t_s K 0) g))) := by
  obtain ⟨x1, x2, x3, x4, x5⟩ := id hx
  have hN := x2.1
  have htk := (x2.2.2.2.1 0 (Nat.zero_le _)).1
  unfold f_Rd_advance
  rw [h0, if_pos rfl, h11, x4, sub1 (by omega), show t_N K + 1 - 1 = t_N K by omega, if_pos (show (-1 : Int32) < nI (t_N K) from by
    have : (-1 : Int32) < nI 0 := by decide
    exact Int32.lt_of_lt_of_le this (nI_le (Nat.zero_le _) (by omega))), show (-1 : Int32) + 1 = nI 0 from rfl, xx_lE]
  obtain ⟨g1, hg1⟩ : ∃ g1, hp_si h r 11 (nI 0) = g1 := ⟨_, rfl⟩
  rw [hg1]
  have H1 : hp_fr (S_ra r) h g1 := by rw [← hg1]; exact hf_si (hp_fr_rf h) (by unfold S_ra; omega)
  have e11 : hp_i g1 r 11 = nI 0 := by rw [← hg1, hp_i_si, if_pos ⟨rfl, rfl⟩]
  have e0 : hp_i g1 r 0 = 0 := by rw [← hg1, hp_i_si, if_neg (by omega)]; exact h0
  have e1 : hp_i g1 r 1 = -1 := by rw [← hg1, hp_i_si, if_neg (by omega)]; exact h1
  have e2 : hp_i g1 (r + 2) 0 = nI (t_k K 0) := by rw [hf_i H1 (by unfold S_ra; omega)]; exact (x5 0 (Nat.zero_le _)).1
  rw [bn_o (show hp_r g1 r 7 = some (r + 2) by rw [hp_fr_r H1]; exact x3.2.2.1), e11, show hp_n g1 (r + 2) = 1401 by rw [hp_fr_n H1]; exact x3.2.2.2.2.2.2.1, if_pos (hp_in_nI (by omega) (by omega)), nI_clamp (by omega), e2, xx_lE]
  obtain ⟨g2, hg2⟩ : ∃ g2, hp_si g1 r 12 (nI (t_k K 0)) = g2 := ⟨_, rfl⟩
  rw [hg2]
  have H2 : hp_fr (S_ra r) h g2 := by rw [← hg2]; exact hf_si H1 (by unfold S_ra; omega)
  have f12 : hp_i g2 r 12 = nI (t_k K 0) := by rw [← hg2, hp_i_si, if_pos ⟨rfl, rfl⟩]
  have f11 : hp_i g2 r 11 = nI 0 := by rw [← hg2, hp_i_si, if_neg (by omega)]; exact e11
  have f0 : hp_i g2 r 0 = 0 := by rw [← hg2, hp_i_si, if_neg (by omega)]; exact e0
  have f1 : hp_i g2 r 1 = -1 := by rw [← hg2, hp_i_si, if_neg (by omega)]; exact e1
  rw [f12]
  by_cases z : t_k K 0 = 23
  · rw [if_pos (show nI (t_k K 0) = (23 : Int32) by rw [z]; rfl)]
    unfold f_Rd_refuse
    simp only [xx_lE]
    rw [f0, if_pos rfl]
    have k8 : hp_r (hp_si g2 r 0 1) r 8 = some (r + 3) := by show hp_r g2 r 8 = _; rw [hp_fr_r H2]; exact x3.2.2.2.1
    have k11 : hp_i (hp_si g2 r 0 1) r 11 = nI 0 := by rw [hp_i_si, if_neg (by omega)]; exact f11
    have k3 : hp_i (hp_si g2 r 0 1) (r + 3) 0 = nI (t_s K 0) := by rw [hp_i_si, if_neg (by omega), hf_i H2 (by unfold S_ra; omega)]; exact (x5 0 (Nat.zero_le _)).2.1
    have kn : hp_n (hp_si g2 r 0 1) (r + 3) = 1401 := by show hp_n g2 (r + 3) = _; rw [hp_fr_n H2]; exact x3.2.2.2.2.2.2.2.1
    rw [bn_o k8, k11, kn, if_pos (hp_in_nI (by omega) (by omega)), nI_clamp (by omega), k3, bn_s]
    refine pw_some ⟨hf_si (hf_si (hf_si H2 (by unfold S_ra; omega)) (by unfold S_ra; omega)) (by unfold S_ra; omega), .inr ⟨z, ?_⟩⟩
    unfold ec
    rw [if_pos z]
    refine ⟨by decide, by decide, ?_, ?_, ?_⟩
    · rw [hp_i_si, if_neg (by omega), hp_i_si, if_neg (by omega), hp_i_si, if_pos ⟨rfl, rfl⟩]; rfl
    · rw [hp_i_si, if_neg (by omega), hp_i_si, if_pos ⟨rfl, rfl⟩]
    · rw [hp_i_si, if_pos ⟨rfl, rfl⟩]
  · rw [if_neg (show ¬ nI (t_k K 0) = (23 : Int32) from fun y => z ((nI_eq (b := 23) (by omega) (by decide)).mp y))]
    exact pw_some ⟨H2, .inl ⟨Nat.zero_le _, z, f0, ⟨f11, f1⟩, f12⟩⟩
/-- the class reads the text; h3: tape and plan are set -/
def S_rdd (r pl : Nat) : Nat → Nat → Prop := fun a _ => r ≤ a ∧ a ≤ r + 4 ∨ pl ≤ a ∧ a ≤ pl + 6
theorem C_reads {r tp pl m t : Nat} {T : Nat → Nat} {h : HP} (htp : tp < r) (hrp : r + 4 < pl) (ht : t ≤ 1400) (hn : hp_n h tp = 1400) (hT : ∀ k, k < t → T k < 256 ∧ hp_i h tp k = sby (T k)) (hk : RKS r h) (h5 : hp_r h r 5 = some (r + 1)) (n1 : hp_n h (r + 1) = 4) (hp : PSH pl h) : pw (f_Rd_reads r tp (nI t) pl h) (fun q => hp_fr (S_rdd r pl) (hp_sr (hp_sr h r 2 (some tp)) r 4 (some pl)) q.2 ∧ ((q.1 = 0 ∧ ∃ c p, DED r c p q.2 ∧ PBK (TKL T t) (lp T t) m t T P00 (fun _ => 0) (fun _ => 0) 0 0 (fun _ h => RBX (TKL T t) (lp T t) m t T c p h)) ∨ (q.1 = 1 ∧ ∃ P cn nk F k, VAL (TKL T t) P cn nk F ∧ CS (TKL T t) r pl P nk F k q.2 ∧ t_k (TKL T t) k = 22 ∧ PBK (TKL T t) (lp T t) m t T P00 (fun _ => 0) (fun _ => 0) 0 0 (fun _ h => RSS (TKL T t) (lp T t) m t T P cn nk F k h)))) := by
  have ok := TKL_ok (T := T) ht
  obtain ⟨h3, hh3⟩ : ∃ h3, hp_sr (hp_sr h r 2 (some tp)) r 4 (some pl) = h3 := ⟨_, rfl⟩
  have ri : ∀ a k, hp_i h3 a k = hp_i h a k := fun a k => by rw [← hh3, hp_i_sr, hp_i_sr]
  have rn : ∀ a, hp_n h3 a = hp_n h a := fun a => by rw [← hh3, hp_n_sr, hp_n_sr]
  have rr : ∀ a k, ¬ (a = r ∧ (k = 2 ∨ k = 4)) → hp_r h3 a k = hp_r h a k := fun a k hn' => by rw [← hh3, hp_r_sr, if_neg (by omega), hp_r_sr, if_neg (by omega)]
  have r2 : hp_r h3 r 2 = some tp := by rw [← hh3, hp_r_sr, if_neg (by omega), hp_r_sr, if_pos ⟨rfl, rfl⟩]
  have r4 : hp_r h3 r 4 = some pl := by rw [← hh3, hp_r_sr, if_pos ⟨rfl, rfl⟩]
  rw [hh3]
  unfold f_Rd_reads f_Pl_empty
  simp only [xx_lE]
  rw [if_neg (show ¬ (1400 : Int32) < nI t from nI_nlt (a := 1400) (by omega) (by omega))]
  -- the same cells, in another order of writing
  have e23 : hp_sr (hp_si (hp_sr h r 2 (some tp)) r 3 (nI t)) r 4 (some pl) = hp_si h3 r 3 (nI t) := by rw [← hh3]; rfl
  rw [e23]
  rw [bn_o (show hp_r (hp_si h3 r 3 (nI t)) r 4 = some pl from r4), bn_s]
  obtain ⟨h8, hh8⟩ : ∃ h8, hp_si (hp_si (hp_si (hp_si (hp_si (hp_si (hp_si (hp_si (hp_si (hp_si (hp_si (hp_si (hp_si h3 r 3 (nI t)) pl 0 (1 : Int32)) pl 1 (1 : Int32)) pl 2 (-1 : Int32)) pl 3 (0 : Int32)) pl 4 (0 : Int32)) pl 5 (0 : Int32)) pl 6 (0 : Int32)) pl 7 (0 : Int32)) pl 14 (0 : Int32)) r 0 (0 : Int32)) r 1 (-1 : Int32)) r 6 (0 : Int32) = h8 := ⟨_, rfl⟩
  rw [hh8]
  have H8 : hp_fr (fun a k => a = r ∧ (k = 0 ∨ k = 1 ∨ k = 3 ∨ k = 6) ∨ a = pl) h3 h8 := by
    rw [← hh8]
    exact hf_si (hf_si (hf_si (hf_si (hf_si (hf_si (hf_si (hf_si (hf_si (hf_si (hf_si (hf_si (hf_si (hp_fr_rf h3) (by omega)) (by omega)) (by omega)) (by omega)) (by omega)) (by omega)) (by omega)) (by omega)) (by omega)) (by omega)) (by omega)) (by omega)) (by omega)
  have hne : r ≠ pl := by omega
  have hne' : pl ≠ r := by omega
  have c0 : hp_i h8 r 0 = 0 := by rw [← hh8]; simp [hp_i_si]
  have c1 : hp_i h8 r 1 = -1 := by rw [← hh8]; simp [hp_i_si]
  have c3 : hp_i h8 r 3 = nI t := by rw [← hh8]; simp [hp_i_si, hne]
  have c6 : hp_i h8 r 6 = nI 0 := by rw [← hh8]; simp [hp_i_si]; rfl
  have p0 : hp_i h8 pl 0 = nI 1 := by rw [← hh8]; simp [hp_i_si, hne']; rfl
  have p1 : hp_i h8 pl 1 = nI 1 := by rw [← hh8]; simp [hp_i_si, hne']; rfl
  have p2 : hp_i h8 pl 2 = -1 := by rw [← hh8]; simp [hp_i_si, hne']
  have p3 : hp_i h8 pl 3 = nI 0 := by rw [← hh8]; simp [hp_i_si, hne']; rfl
  have p4 : hp_i h8 pl 4 = nI 0 := by rw [← hh8]; simp [hp_i_si, hne']; rfl
  have p5 : hp_i h8 pl 5 = nI 0 := by rw [← hh8]; simp [hp_i_si, hne']; rfl
  have p6 : hp_i h8 pl 6 = nI 0 := by rw [← hh8]; simp [hp_i_si, hne']; rfl
  have p7 : hp_i h8 pl 7 = nI 0 := by rw [← hh8]; simp [hp_i_si, hne']; rfl
  have p14 : hp_i h8 pl 14 = nI 0 := by rw [← hh8]; simp [hp_i_si, hne']; rfl
  have rtp : RTP r tp t T h8 := ⟨by rw [hp_fr_r H8]; exact r2, by rw [hp_fr_n H8, rn]; exact hn, c3, ht, fun k hk' => ⟨(hT k hk').1, by rw [hf_i H8 (by omega), ri]; exact (hT k hk').2⟩⟩
  have rks : RKS r h8 := by
    obtain ⟨a1, a2, a3, a4, a5, a6⟩ := hk
    exact ⟨by rw [hp_fr_r H8, rr _ _ (by omega)]; exact a1, by rw [hp_fr_r H8, rr _ _ (by omega)]; exact a2, by rw [hp_fr_r H8, rr _ _ (by omega)]; exact a3, by rw [hp_fr_n H8, rn]; exact a4, by rw [hp_fr_n H8, rn]; exact a5, by rw [hp_fr_n H8, rn]; exact a6⟩
  have rsh : ∀ g, hp_fr (S_rdd r pl) h3 g → RSH r pl g := by
    intro g H
    obtain ⟨a1, a2, a3, a4, a5, a6⟩ := hk
    obtain ⟨b1, b2, b3, b4, b5, b6, b7, b8, b9, b10, b11, b12, b13, b14, b15, b16⟩ := hp
    refine ⟨by rw [hp_fr_r H]; exact r4, by rw [hp_fr_r H, rr _ _ (by omega)]; exact h5, by rw [hp_fr_r H, rr _ _ (by omega)]; exact a1, by rw [hp_fr_r H, rr _ _ (by omega)]; exact a2, by rw [hp_fr_r H, rr _ _ (by omega)]; exact a3, by rw [hp_fr_n H, rn]; exact n1, by rw [hp_fr_n H, rn]; exact a4, by rw [hp_fr_n H, rn]; exact a5, by rw [hp_fr_n H, rn]; exact a6, ?_⟩
    exact ⟨by rw [hp_fr_r H, rr _ _ (by omega)]; exact b1, by rw [hp_fr_r H, rr _ _ (by omega)]; exact b2, by rw [hp_fr_r H, rr _ _ (by omega)]; exact b3, by rw [hp_fr_r H, rr _ _ (by omega)]; exact b4, by rw [hp_fr_r H, rr _ _ (by omega)]; exact b5, by rw [hp_fr_r H, rr _ _ (by omega)]; exact b6, by rw [hp_fr_r H, rr _ _ (by omega)]; exact b7, by rw [hp_fr_r H, rr _ _ (by omega)]; exact b8, by rw [hp_fr_n H, rn]; exact b9, by rw [hp_fr_n H, rn]; exact b10, by rw [hp_fr_n H, rn]; exact b11, by rw [hp_fr_n H, rn]; exact b12, by rw [hp_fr_n H, rn]; exact b13, by rw [hp_fr_n H, rn]; exact b14, by rw [hp_fr_n H, rn]; exact b15, by rw [hp_fr_n H, rn]; exact b16⟩
  have R8 : hp_fr (S_rdd r pl) h3 h8 := hp_fr_mo H8 (fun a k z => by unfold S_rdd; omega)
  refine pw_bind (pw_mono (C_split htp rtp rks) ?_)
  rintro h9 ⟨H9, tkx⟩
  have R9 : hp_fr (S_rdd r pl) h3 h9 := hp_fr_tr R8 (hp_fr_mo H9 (fun a k z => by unfold S_sp2 at z; unfold S_rdd; omega))
  obtain ⟨h10, hh10⟩ : ∃ h10, hp_si h9 r 11 (-1 : Int32) = h10 := ⟨_, rfl⟩
  rw [hh10]
  have H10 : hp_fr (fun a k => a = r ∧ k = 11) h9 h10 := by rw [← hh10]; exact hf_si (hp_fr_rf h9) ⟨rfl, rfl⟩
  have R10 : hp_fr (S_rdd r pl) h3 h10 := hp_fr_tr R9 (hp_fr_mo H10 (fun a k z => by unfold S_rdd; omega))
  have K10 : ∀ a k, (a = r ∧ (k = 0 ∨ k = 1 ∨ k = 6)) ∨ (pl ≤ a ∧ a ≤ pl + 6) → hp_i h10 a k = hp_i h8 a k := fun a k z => by rw [hf_i H10 (by omega), hf_i H9 (by unfold S_sp2; omega)]
  have x10 : CTX (TKL T t) r pl h10 := ⟨hrp, ok, rsh h10 R10, by rw [hf_i H10 (by omega)]; exact tkx.1, fun k hk' => by rw [hf_i H10 (by omega), hf_i H10 (by omega), hf_l H10 (by omega)]; exact tkx.2 k hk'⟩
  refine pw_bind (pw_mono (R_adv0 x10 (by rw [K10 _ _ (by omega)]; exact c0) (by rw [K10 _ _ (by omega)]; exact c1) (by rw [← hh10, hp_i_si, if_pos ⟨rfl, rfl⟩])) ?_)
  rintro g ⟨Hg, v⟩
  have xg := S_raC Hg x10
  have Rg : hp_fr (S_rdd r pl) h3 g := hp_fr_tr R10 (hp_fr_mo Hg (fun a k z => by unfold S_ra at z; unfold S_rdd; omega))
  have Kg : ∀ k, hp_i g pl k = hp_i h8 pl k := fun k => by rw [hf_i Hg (by unfold S_ra; omega), K10 _ _ (by omega)]
  have px : PX P00 pl g := ⟨by rw [Kg]; exact p0, by rw [Kg]; exact p1, by rw [Kg]; exact p2, by rw [Kg]; exact p3, by rw [Kg]; exact p4, by rw [Kg]; exact p5, by rw [Kg]; exact p6, by rw [Kg]; exact p7, fun i hi => absurd hi (Nat.not_lt_zero _), fun i hi => absurd hi (Nat.not_lt_zero _), fun i hi => absurd hi (Nat.not_lt_zero _), fun i hi => absurd hi (Nat.not_lt_zero _), fun i hi => absurd hi (Nat.not_lt_zero _), fun i hi => absurd hi (Nat.not_lt_zero _)⟩
  have pb : PLB pl g := ⟨⟨0, by decide, by rw [Kg]; exact p4⟩, ⟨0, by decide, by rw [Kg]; exact p5⟩, ⟨0, by decide, by rw [Kg]; exact p6⟩, ⟨0, by decide, by rw [Kg]; exact p14⟩⟩
  have rdo : RDO (TKL T t) (lp T t) r pl m t T P00 (fun _ => 0) (fun _ => 0) 0 0 0 g := by
    rcases v with v | ⟨v1, v2⟩
    · refine .inr ⟨P00, fun _ => 0, fun _ => 0, 0, 0, Nat.le_refl _, VAL_00 _, ⟨v, px, by rw [Kg]; exact p14, fun i hi => absurd hi (Nat.not_lt_zero _), ?_⟩, fun h0 Q r0 hq => hq h0 (hp_fr_rf h0) r0⟩
      rw [hf_i Hg (by unfold S_ra; omega), K10 _ _ (by omega)]; exact c6
    · exact .inl ⟨_, _, v2, pb, fun h0 Q r0 hq => hq h0 (hp_fr_rf h0) (RT_bad v1 r0.1)⟩
  refine pw_mono (L_lines (m := m) TKL_T 1401 0 g (by omega) (by omega) xg (hp_fr_rf g) rdo) ?_
  rintro q ⟨q1, q2⟩
  exact ⟨hp_fr_tr Rg (hp_fr_mo q1 (fun a k z => by unfold S_cl at z; unfold S_rdd; omega)), q2⟩
/-! the reference from the start -/
def S_pl0 (m : Nat) : Nat → Nat → Prop := fun a k => a = m ∧ (1 ≤ k ∧ k ≤ 9 ∨ 20 ≤ k ∧ k ≤ 27 ∨ k = 44) ∨ a = m + 11
theorem M_plan0 {m t : Nat} {T : Nat → Nat} {h : HP} {Q : Int32 × HP → Prop} (hs : MS m h) (ht : t ≤ 1400) (h1 : hp_i h m 1 = nI t) (hT : ∀ k, k < t → T k < 256 ∧ hp_i h (m + 1) k = nI (T k)) (hQ : ∀ g, hp_fr (S_pl0 m) h g → hp_i g m 1 = nI 0 → RSS (TKL T t) (lp T t) m t T P00 (fun _ => 0) (fun _ => 0) 0 0 g → pw (f_M_plan_98 m g) Q) : pw (f_M_plan m h) Q := by
  unfold f_M_plan
  simp only [xx_lE]
  rw [h1]
  obtain ⟨h2, hh2⟩ : ∃ h2, hp_si (hp_si (hp_si (hp_si (hp_si (hp_si (hp_si (hp_si (hp_si (hp_si (hp_si (hp_si (hp_si (hp_si h m 5 (nI t)) m 1 (0 : Int32)) m 4 (0 : Int32)) m 2 (0 : Int32)) m 3 (-1 : Int32)) m 20 (1 : Int32)) m 21 (1 : Int32)) m 22 (99 : Int32)) m 23 (0 : Int32)) m 24 (0 : Int32)) m 25 (0 : Int32)) m 26 (0 : Int32)) m 27 (0 : Int32)) m 44 (0 : Int32) = h2 := ⟨_, rfl⟩
  rw [hh2]
  have H2 : hp_fr (fun a k => a = m ∧ (1 ≤ k ∧ k ≤ 5 ∨ 20 ≤ k ∧ k ≤ 27 ∨ k = 44)) h h2 := by
    rw [← hh2]
    exact hf_si (hf_si (hf_si (hf_si (hf_si (hf_si (hf_si (hf_si (hf_si (hf_si (hf_si (hf_si (hf_si (hf_si (hp_fr_rf h) (by omega)) (by omega)) (by omega)) (by omega)) (by omega)) (by omega)) (by omega)) (by omega)) (by omega)) (by omega)) (by omega)) (by omega)) (by omega)) (by omega)
  have c : ∀ k, hp_i h2 m k = if k = 44 then 0 else if k = 27 then 0 else if k = 26 then 0 else if k = 25 then 0 else if k = 24 then 0 else if k = 23 then 0 else if k = 22 then 99 else if k = 21 then 1 else if k = 20 then 1 else if k = 3 then -1 else if k = 2 then 0 else if k = 4 then 0 else if k = 1 then 0 else if k = 5 then nI t else hp_i h m k := fun k => by rw [← hh2]; simp [hp_i_si]
  unfold f_M_plan_76
  refine pw_cnt 4 (fun i t' => t'.1 = nI i ∧ hp_fr (fun a k => a = m + 11) h2 t'.2 ∧ ∀ j, j < i → hp_i t'.2 (m + 11) j = nI 0) ?_ ?_ 0 (0, h2) (by omega) ⟨rfl, hp_fr_rf h2, fun j hj => absurd hj (Nat.not_lt_zero _)⟩
  · rintro i ⟨_, g⟩ hi ⟨rfl, H, gf⟩
    dsimp only at H gf ⊢
    have hsg := MS_fr H (MS_fr H2 hs)
    unfold f_M_plan_76b
    rw [if_neg (show ¬ (4 : Int32) ≤ nI i from nI_ge (b := 4) hi (by decide)), mb_19 hsg, mn_11 hsg, if_pos (hp_in_nI (by omega) (by omega)), nI_clamp (by omega), show vp_nar .boolean (0 : Int32) = nI 0 from nar_lt (n := 0) (by decide), xx_lE, xx_lE, nI_1]
    refine pw_L rfl ⟨rfl, hf_si H rfl, fun j hj => ?_⟩
    dsimp only
    rw [hp_i_si]
    by_cases z : j = i
    · rw [if_pos ⟨rfl, z⟩]
    · rw [if_neg (fun y => z y.2)]; exact gf j (by omega)
  · rintro ⟨_, g⟩ ⟨rfl, H, gf⟩
    dsimp only at H gf ⊢
    have hsg := MS_fr H (MS_fr H2 hs)
    have eg : ∀ k, hp_i g m k = hp_i h2 m k := fun k => hf_i H (by omega)
    unfold f_M_plan_76b f_M_plan_94
    rw [if_pos (show (4 : Int32) ≤ nI 4 by decide)]
    have mtc : MTC m t T g := ⟨hsg, ht, ⟨by rw [eg, c]; rfl, fun _ => by rw [eg, c]; rfl⟩, fun k hk => ⟨(hT k hk).1, by rw [hf_i H (by omega), hf_i H2 (by omega)]; exact (hT k hk).2⟩⟩
    refine pw_mapR (pw_bind (pw_mono (M_lex mtc (show hp_i g m 4 = nI 0 by rw [eg, c]; rfl) (Nat.zero_le _)) ?_))
    rintro g2 ⟨K2, lx⟩
    have e2 : ∀ k, (k = 1 ∨ k = 2 ∨ 20 ≤ k) → hp_i g2 m k = hp_i h2 m k := fun k hk => by rw [hf_i K2 (by unfold S_tk; omega)]; exact eg k
    refine hQ g2 (hp_fr_tr (hp_fr_tr (hp_fr_mo H2 (fun a k z => by unfold S_pl0; omega)) (hp_fr_mo H (fun a k z => by unfold S_pl0; omega))) (hp_fr_mo K2 (fun a k z => by unfold S_tk at z; unfold S_pl0; omega))) (by rw [e2 1 (by omega), c]; rfl) ⟨⟨MTC_tk K2 mtc, by rw [e2 2 (by omega), c]; rfl, LEX_MTK (Nat.zero_le _) lx⟩, ?_⟩
    refine ⟨by rw [e2 _ (by omega), c]; rfl, by rw [e2 _ (by omega), c]; rfl, by rw [e2 _ (by omega), c]; rfl, by rw [e2 _ (by omega), c]; rfl, by rw [e2 _ (by omega), c]; rfl, by rw [e2 _ (by omega), c]; rfl, by rw [e2 _ (by omega), c]; rfl, by rw [e2 _ (by omega), c]; rfl, by rw [e2 _ (by omega), c]; rfl, fun i hi => absurd hi (Nat.not_lt_zero _), fun i hi => absurd hi (Nat.not_lt_zero _), fun i hi => absurd hi (Nat.not_lt_zero _), fun i hi => absurd hi (Nat.not_lt_zero _), fun i hi => absurd hi (Nat.not_lt_zero _), fun i hi hj => absurd hj (Nat.not_lt_zero _), fun i hi => absurd hi (Nat.not_lt_zero _), fun i hi => ?_⟩
    rw [hf_i K2 (by unfold S_tk; omega), gf i hi, Nat.zero_div]
