/-! a role's line: step by step on both sides -/
def STP {α : Type} (K : TKS) (ps : Nat → Nat) (r pl m L : Nat) (T : Nat → Nat) (P : PT) (cn nk : Nat → Nat) (F k : Nat) (V : Int64) (X : Prop) (a0 : α) (fM : HP → Option (α × HP)) (k' : Nat) (g0 g : HP) : Prop := hp_fr (S_cl r pl) g0 g ∧
  ((∃ c p, DED r c p g ∧ PLB pl g ∧ ∀ h, RSS K ps m L T P cn nk F k h → pw (fM h) (fun y => hp_fr (S_rf m) h y.2 ∧ RBX K ps m L T c p y.2 ∧ MSC K m P cn nk F y.2)) ∨
   (X ∧ CS K r pl P nk F k' g ∧ hp_l g (r + 1) (p_nr P) = V ∧ ∀ h, RSS K ps m L T P cn nk F k h → pw (fM h) (fun y => hp_fr (S_rf m) h y.2 ∧ y.1 = a0 ∧ RSS K ps m L T P cn nk F k' y.2)))
theorem S_told {α : Type} {K : TKS} {ps : Nat → Nat} {r pl m L F k k' j lo hi : Nat} {T : Nat → Nat} {P : PT} {cn nk : Nat → Nat} {V : Int64} {X : Prop} {a0 : α} {fM : HP → Option (α × HP)} {g0 g : HP} {hiC : HP → Int32} {hiM : HP → Int32} (hT : TOKS K ps m L T) (hx : CTX K r pl g) (hv : VAL K P cn nk F) (hj : j < 20) (hlo : lo < 100) (hhi : hi < 100) (eC : ∀ g' k2, CS K r pl P nk F k2 g' → CTX K r pl g' → hiC g' = nI hi) (eM : ∀ h k2, RSS K ps m L T P cn nk F k2 h → hiM h = nI hi) (hs : STP K ps r pl m L T P cn nk F k V X a0 fM k' g0 g) :
    pw ((f_Rd_expect r (nI j) g).bind fun x => f_Rd_numberWithin r (nI lo) (hiC x) x) (fun q => ∃ v, q.1 = nI v ∧ v ≤ 9999 ∧ STP K ps r pl m L T P cn nk F k V (X ∧ t_k K k' = j ∧ t_k K (k' + 1) = 21 ∧ lo ≤ t_n K (k' + 1) ∧ t_n K (k' + 1) ≤ hi ∧ v = t_n K (k' + 1)) (a0, nI (t_n K (k' + 1))) (fun h => (fM h).bind fun y => (f_M_told m (lN (cst j)) (nI lo) (hiM y.2) y.2).bind fun z => some ((y.1, z.1), z.2)) (k' + 2) g0 q.2) := by
  have hrp := hx.1
  have ok := hx.2.1
  obtain ⟨H0, z⟩ := hs
  -- dead: nothing more comes of it
  have ded : ∀ (c p : Nat) (g1 : HP), hp_fr (S_cl r pl) g0 g1 → PLB pl g1 → DED r c p g1 → (∀ h, RSS K ps m L T P cn nk F k h → pw ((fM h).bind fun y => (f_M_told m (lN (cst j)) (nI lo) (hiM y.2) y.2).bind fun z => some ((y.1, z.1), z.2)) (fun y => hp_fr (S_rf m) h y.2 ∧ RBX K ps m L T c p y.2 ∧ MSC K m P cn nk F y.2)) → ∀ hc, pw (f_Rd_numberWithin r (nI lo) hc g1) (fun q => ∃ v, q.1 = nI v ∧ v ≤ 9999 ∧ STP K ps r pl m L T P cn nk F k V (X ∧ t_k K k' = j ∧ t_k K (k' + 1) = 21 ∧ lo ≤ t_n K (k' + 1) ∧ t_n K (k' + 1) ≤ hi ∧ v = t_n K (k' + 1)) (a0, nI (t_n K (k' + 1))) (fun h => (fM h).bind fun y => (f_M_told m (lN (cst j)) (nI lo) (hiM y.2) y.2).bind fun z => some ((y.1, z.1), z.2)) (k' + 2) g0 q.2) := by
    intro c p g1 H1 P1 D1 hM hc
    refine pw_mono (R_numD D1) ?_
    rintro q ⟨H2, q1, D2⟩
    exact ⟨lo, q1, by omega, hp_fr_tr H1 (ra_cl H2), .inl ⟨c, p, D2, PLB_ra hrp H2 P1, hM⟩⟩
  rcases z with ⟨c, p, z1, z2, z3⟩ | ⟨zX, z1, zV, z2⟩
  · refine pw_bind (pw_mono (R_expD (by omega) (by omega) z1) ?_)
    rintro g1 ⟨H1, D1⟩
    refine ded c p g1 (hp_fr_tr H0 (ra_cl H1)) (PLB_ra hrp H1 z2) D1 (fun h hr => ?_) _
    refine pw_bind (pw_mono (z3 h hr) ?_)
    rintro y ⟨q1, q2, q5⟩
    unfold f_M_told
    refine pw_bind (pw_bind (pw_mono (M_wantB ok q2 hj) ?_))
    rintro h2 ⟨K2, q3⟩
    refine pw_bind (pw_mono (M_numB ok q3) ?_)
    rintro w ⟨K3, q4⟩
    exact pw_some (pw_some ⟨hp_fr_tr (hp_fr_tr q1 (ln_rf K2)) (ln_rf K3), q4, MSC_ln K3 (MSC_ln K2 q5)⟩)
  · have pb := CS_PLB hv z1
    -- the reference at the word
    have ref : ∀ {Q : (α × Int32) × HP → Prop} h, RSS K ps m L T P cn nk F k h → (∀ y h2, hp_fr (S_rf m) h h2 → y = a0 → t_k K k' = j → RSS K ps m L T P cn nk F (k' + 1) h2 → ∀ hm : Int32, hm = nI hi → pw (f_M_toldNumber m (nI lo) hm h2) (fun w => Q ((y, w.1), w.2))) → (∀ y h2, hp_fr (S_rf m) h h2 → t_k K k' ≠ j → RBX K ps m L T (ec K k') (t_s K k') h2 → MSC K m P cn nk F h2 → ∀ hm : Int32, pw (f_M_toldNumber m (nI lo) hm h2) (fun w => Q ((y, w.1), w.2))) → pw ((fM h).bind fun y => (f_M_told m (lN (cst j)) (nI lo) (hiM y.2) y.2).bind fun z => some ((y.1, z.1), z.2)) Q := by
      intro Q h hr h1 h2
      refine pw_bind (pw_mono (z2 h hr) ?_)
      rintro y ⟨q1, q2, q3⟩
      unfold f_M_told
      refine pw_bind (pw_bind (pw_mono (M_want ok hT q3.1 hj) ?_))
      rintro h3 ⟨K3, w⟩
      have KK := hp_fr_tr q1 (ln_rf K3)
      rcases w with ⟨w1, w2⟩ | ⟨w1, w2⟩
      · refine pw_bind (pw_mono (h1 y.1 h3 KK q2 w1 ⟨w2, MSC_ln K3 q3.2⟩ (hiM y.2) (eM y.2 k' q3)) ?_)
        intro v hq
        exact pw_some (pw_some hq)
      · refine pw_bind (pw_mono (h2 y.1 h3 KK w1 w2 (MSC_ln K3 q3.2) (hiM y.2)) ?_)
        intro v hq
        exact pw_some (pw_some hq)
    refine pw_bind (pw_mono (R_exp hx z1.1 (t := j) (by omega) (by omega)) ?_)
    rintro g1 ⟨H1, v⟩
    have hx1 := S_raC H1 hx
    have F1 := hp_fr_tr H0 (ra_cl (pl := pl) H1)
    have pb1 := PLB_ra hrp H1 pb
    rcases v with ⟨v1, v2⟩ | ⟨v1, v2, v3, v4⟩ | ⟨v1, v2⟩
    · have s1 := CS_ra hrp H1 z1 v2
      rw [eC g1 (k' + 1) s1 hx1]
      refine pw_mono (R_num hx1 v2 hlo hhi) ?_
      rintro q ⟨H2, w⟩
      have F2 := hp_fr_tr F1 (ra_cl (pl := pl) H2)
      have pb2 := PLB_ra hrp H2 pb1
      have bN := (ok.2.2.2.1 (k' + 1) v2.1).2.2.1
      rcases w with ⟨w1, w2, w3, w4, w5⟩ | ⟨w1, w2, w3⟩
      · refine ⟨t_n K (k' + 1), w4, bN, F2, ?_⟩
        have rf : ∀ h, RSS K ps m L T P cn nk F k h → pw ((fM h).bind fun y => (f_M_told m (lN (cst j)) (nI lo) (hiM y.2) y.2).bind fun z => some ((y.1, z.1), z.2)) (fun y => hp_fr (S_rf m) h y.2 ∧ y.1 = (a0, nI (t_n K (k' + 1))) ∧ RSS K ps m L T P cn nk F (k' + 2) y.2) := by
          intro h hr
          refine ref h hr (fun y h2 K2 e1 _ r2 hm e2 => ?_) (fun y h2 _ e1 _ _ _ => absurd v1 e1)
          rw [e2]
          refine pw_mono (M_num ok hT r2.1 hlo hhi) ?_
          rintro x ⟨K3, y2⟩
          rcases y2 with ⟨y1, y2, y3, y4, y5⟩ | ⟨y1, _⟩
          · exact ⟨hp_fr_tr K2 (ln_rf K3), by rw [e1, y4], y5, MSC_ln K3 r2.2⟩
          · exact absurd ⟨w1, w2, w3⟩ y1
        rcases w5 with w5 | ⟨w5, w6, w7⟩
        · exact .inr ⟨⟨zX, v1, w1, w2, w3, rfl⟩, CS_ra hrp H2 s1 w5, by rw [hf_l H2 (by unfold S_ra; omega), hf_l H1 (by unfold S_ra; omega)]; exact zV, rf⟩
        · refine .inl ⟨_, _, w7, pb2, fun h hr => pw_mono (rf h hr) ?_⟩
          rintro y ⟨q1, _, q2⟩
          exact ⟨q1, RT_bad w6 q2.1, q2.2⟩
      · refine ⟨lo, w2, by omega, F2, .inl ⟨_, _, w3, pb2, fun h hr => ?_⟩⟩
        refine ref h hr (fun y h2 K2 e1 _ r2 hm e2 => ?_) (fun y h2 _ e1 _ _ _ => absurd v1 e1)
        rw [e2]
        refine pw_mono (M_num ok hT r2.1 hlo hhi) ?_
        rintro x ⟨K3, y2⟩
        rcases y2 with ⟨y1, y2, y3, _⟩ | ⟨_, y1⟩
        · exact absurd ⟨y1, y2, y3⟩ w1
        · exact ⟨hp_fr_tr K2 (ln_rf K3), y1, MSC_ln K3 r2.2⟩
    · refine ded _ _ g1 F1 pb1 v4 (fun h hr => ?_) _
      refine ref h hr (fun y h2 K2 e1 _ r2 hm e2 => ?_) (fun y h2 _ e1 _ _ _ => absurd v1 e1)
      refine pw_mono (M_numB ok (RT_bad v3 r2.1)) ?_
      rintro x ⟨K3, q⟩
      exact ⟨hp_fr_tr K2 (ln_rf K3), q, MSC_ln K3 r2.2⟩
    · refine ded _ _ g1 F1 pb1 v2 (fun h hr => ?_) _
      refine ref h hr (fun y h2 _ _ e1 _ _ _ => absurd e1 v1) (fun y h2 K2 _ r2 r3 hm => ?_)
      refine pw_mono (M_numB ok r2) ?_
      rintro x ⟨K3, q⟩
      exact ⟨hp_fr_tr K2 (ln_rf K3), q, MSC_ln K3 r3⟩
/-! the class adds a role -/
def S_ar (pl a b n : Nat) : Nat → Nat → Prop := fun x k => x = pl ∧ (k = 4 ∨ k = 5) ∨ x = pl + 1 ∧ k = a ∨ x = pl + 2 ∧ b ≤ k ∧ k < b + n
theorem R_addRole {r pl a b n : Nat} {v : Int32} {h : HP} (hs : RSH r pl h) (h4 : hp_i h pl 4 = nI a) (ha : a < 4) (h5 : hp_i h pl 5 = nI b) (hb : b ≤ 6) (hn : n ≤ 9999) : pw (f_Pl_addRole pl (nI n) v h) (fun g => hp_fr (S_ar pl a b (if b + n ≤ 6 then n else 6 - b)) h g ∧ hp_i g pl 4 = nI (a + 1) ∧ hp_i g pl 5 = nI (b + (if b + n ≤ 6 then n else 6 - b)) ∧ hp_i g (pl + 1) a = v ∧ ∀ j, b ≤ j → j < b + (if b + n ≤ 6 then n else 6 - b) → hp_i g (pl + 2) j = nI a) := by
  have p8 : hp_r h pl 8 = some (pl + 1) := hs.2.2.2.2.2.2.2.2.2.1
  have p9 : hp_r h pl 9 = some (pl + 2) := hs.2.2.2.2.2.2.2.2.2.2.1
  have n1 : hp_n h (pl + 1) = 4 := hs.2.2.2.2.2.2.2.2.2.2.2.2.2.2.2.2.2.1
  have n2 : hp_n h (pl + 2) = 6 := hs.2.2.2.2.2.2.2.2.2.2.2.2.2.2.2.2.2.2.1
  obtain ⟨c, hc, hc1, hc2⟩ : ∃ c, (if b + n ≤ 6 then n else 6 - b) = c ∧ b + c ≤ 6 ∧ (c = n ∨ b + c = 6 ∧ c ≤ n) := by
    refine ⟨_, rfl, ?_, ?_⟩
    · split <;> omega
    · split <;> omega
  rw [hc]
  unfold f_Pl_addRole
  rw [h4, if_pos (show nI a < (4 : Int32) from nI_lt (b := 4) ha (by decide)), bn_o p8, n1, if_pos (hp_in_nI ha (by omega)), nI_clamp (by omega), xx_lE]
  unfold f_Pl_addRole_21
  obtain ⟨h1, hh1⟩ : ∃ h1, hp_si h (pl + 1) a v = h1 := ⟨_, rfl⟩
  rw [hh1]
  have H1 : hp_fr (S_ar pl a b c) h h1 := by rw [← hh1]; exact hf_si (hp_fr_rf h) (by unfold S_ar; omega)
  have e1 : hp_i h1 (pl + 1) a = v := by rw [← hh1, hp_i_si, if_pos ⟨rfl, rfl⟩]
  have e4 : hp_i h1 pl 4 = nI a := by rw [← hh1, hp_i_si, if_neg (by omega)]; exact h4
  have e5 : hp_i h1 pl 5 = nI (b + 0) := by rw [← hh1, hp_i_si, if_neg (by omega)]; exact h5
  refine pw_cnt c (fun i t => t.1 = nI i ∧ hp_fr (S_ar pl a b c) h t.2 ∧ hp_i t.2 (pl + 1) a = v ∧ hp_i t.2 pl 4 = nI a ∧ hp_i t.2 pl 5 = nI (b + i) ∧ ∀ j, b ≤ j → j < b + i → hp_i t.2 (pl + 2) j = nI a) ?_ ?_ 0 (0, h1) (by omega) ⟨rfl, H1, e1, e4, e5, fun j q1 q2 => by omega⟩
  · rintro i ⟨_, g⟩ hi ⟨rfl, H, g1, g4, g5, g6⟩
    dsimp only at H g1 g4 g5 g6 ⊢
    unfold f_Pl_addRole_21b
    rw [if_neg (nI_ge (by omega) (by omega)), g5, if_neg (show ¬ (6 : Int32) ≤ nI (b + i) from nI_ge (b := 6) (by omega) (by decide)), bn_o (show hp_r g pl 9 = some (pl + 2) by rw [hp_fr_r H]; exact p9), show hp_n g (pl + 2) = 6 by rw [hp_fr_n H]; exact n2, if_pos (hp_in_nI (by omega) (by omega)), nI_clamp (by omega), g4]
    simp only [xx_lE]
    have f5 : hp_i (hp_si g (pl + 2) (b + i) (nI a)) pl 5 = nI (b + i) := by rw [hp_i_si, if_neg (by omega)]; exact g5
    rw [f5, nI_1, nI_1]
    refine pw_L rfl ⟨rfl, hf_si (hf_si H (by unfold S_ar; omega)) (by unfold S_ar; omega), ?_, ?_, ?_, fun j q1 q2 => ?_⟩
    · rw [hp_i_si, if_neg (by omega), hp_i_si, if_neg (by omega)]; exact g1
    · rw [hp_i_si, if_neg (by omega), hp_i_si, if_neg (by omega)]; exact g4
    · rw [hp_i_si, if_pos ⟨rfl, rfl⟩]; rfl
    · rw [hp_i_si, if_neg (by omega), hp_i_si]
      by_cases z : j = b + i
      · rw [if_pos ⟨rfl, z⟩]
      · rw [if_neg (fun y => z y.2)]; exact g6 j q1 (by omega)
  · rintro ⟨_, g⟩ ⟨rfl, H, g1, g4, g5, g6⟩
    dsimp only at H g1 g4 g5 g6 ⊢
    have fin : pw (some (.inr (hp_si g pl 4 (nI (a + 1)))) : Option ((Int32 × HP) ⊕ HP)) (xx_L2 (fun _ => False) (fun g => hp_fr (S_ar pl a b c) h g ∧ hp_i g pl 4 = nI (a + 1) ∧ hp_i g pl 5 = nI (b + c) ∧ hp_i g (pl + 1) a = v ∧ ∀ j, b ≤ j → j < b + c → hp_i g (pl + 2) j = nI a)) := by
      refine pw_R rfl ⟨hf_si H (by unfold S_ar; omega), ?_, ?_, ?_, fun j q1 q2 => ?_⟩
      · rw [hp_i_si, if_pos ⟨rfl, rfl⟩]
      · rw [hp_i_si, if_neg (by omega)]; exact g5
      · rw [hp_i_si, if_neg (by omega)]; exact g1
      · rw [hp_i_si, if_neg (by omega)]; exact g6 j q1 q2
    unfold f_Pl_addRole_21b
    rw [g4, nI_1, xx_lE]
    by_cases z : c = n
    · rw [if_pos (nI_le (by omega) (by omega))]; exact fin
    · rw [if_neg (nI_ge (by omega) (by omega)), g5, if_pos (show (6 : Int32) ≤ nI (b + c) from nI_le (a := 6) (by omega) (by omega))]; exact fin
theorem R_addRoleD {r pl n : Nat} {v : Int32} {h : HP} (hrp : r + 4 < pl) (hs : RSH r pl h) (hp : PLB pl h) (hn : n ≤ 9999) : pw (f_Pl_addRole pl (nI n) v h) (fun g => hp_fr (fun x k => x = pl ∧ (k = 4 ∨ k = 5) ∨ x = pl + 1 ∨ x = pl + 2) h g ∧ PLB pl g) := by
  obtain ⟨⟨a, a1, a2⟩, ⟨b, b1, b2⟩, p3⟩ := id hp
  by_cases z : a < 4
  · refine pw_mono (R_addRole hs a2 z b2 b1 hn) ?_
    rintro g ⟨H, q1, q2, _⟩
    refine ⟨hp_fr_mo H (fun x k y => by unfold S_ar at y; omega), ⟨a + 1, by omega, q1⟩, ⟨_, ?_, q2⟩, ?_⟩
    · split <;> omega
    · obtain ⟨⟨c, c1, c2⟩, ⟨d, d1, d2⟩⟩ := p3
      exact ⟨⟨c, c1, by rw [hf_i H (by unfold S_ar; omega)]; exact c2⟩, ⟨d, d1, by rw [hf_i H (by unfold S_ar; omega)]; exact d2⟩⟩
  · unfold f_Pl_addRole
    rw [a2, if_neg (show ¬ nI a < (4 : Int32) from nI_nlt (b := 4) (by omega) (by omega))]
    exact pw_some ⟨hp_fr_rf h, hp⟩
