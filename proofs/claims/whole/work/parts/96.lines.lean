/-! all lines -/
theorem L_line {K : TKS} {ps : Nat → Nat} {r pl m L F k : Nat} {T : Nat → Nat} {P : PT} {cn nk : Nat → Nat} {g : HP} (hT : TOKS K ps m L T) (hx : CTX K r pl g) (hv : VAL K P cn nk F) (hs : CS K r pl P nk F k g) : pw (f_Rd_readLine r g) (BOUT K ps r pl m L T P cn nk F k (k + 1) (f_M_readLine m) g) := by
  have ok := hx.2.1
  have h64 := (ok.2.2.2.1 k hs.1.1).1
  have oth : 4 ≤ t_k K k → t_k K k ≠ 7 → t_k K k ≠ 10 → pw ((f_Rd_refuse r (2 : Int32) g).bind fun x => f_Rd_readLine_90 r x) (BOUT K ps r pl m L T P cn nk F k (k + 1) (f_M_readLine m) g) := fun h4 h7 h10 => L_fin hT hx (L_bad hx hv hs) (fun h hr => M_rl_bad ok hv hr (fun z => by omega) (fun z => h7 z.1) (fun z => h10 z.1))
  have st : t_k K k < 4 → pw ((f_Rd_readSetting r g).bind fun x => f_Rd_readLine_90 r x) (BOUT K ps r pl m L T P cn nk F k (k + 1) (f_M_readLine m) g) := fun h4 => L_setting hT hx hv hs h4
  unfold f_Rd_readLine
  rw [hs.1.2.2.2.2, xx_lE]
  have ne : ∀ j : Nat, j < 2 ^ 31 → t_k K k ≠ j → ¬ nI (t_k K k) = nI j := fun j hj z y => z ((nI_eq (by omega) hj).mp y)
  by_cases z0 : t_k K k = 0
  · rw [if_pos (show nI (t_k K k) = (0 : Int32) by rw [z0]; rfl)]; exact st (by omega)
  rw [if_neg (show ¬ nI (t_k K k) = (0 : Int32) from ne 0 (by decide) z0)]
  by_cases z1 : t_k K k = 1
  · rw [if_pos (show nI (t_k K k) = (1 : Int32) by rw [z1]; rfl)]; exact st (by omega)
  rw [if_neg (show ¬ nI (t_k K k) = (1 : Int32) from ne 1 (by decide) z1)]
  by_cases z2 : t_k K k = 2
  · rw [if_pos (show nI (t_k K k) = (2 : Int32) by rw [z2]; rfl)]; exact st (by omega)
  rw [if_neg (show ¬ nI (t_k K k) = (2 : Int32) from ne 2 (by decide) z2)]
  by_cases z3 : t_k K k = 3
  · rw [if_pos (show nI (t_k K k) = (3 : Int32) by rw [z3]; rfl)]; exact st (by omega)
  rw [if_neg (show ¬ nI (t_k K k) = (3 : Int32) from ne 3 (by decide) z3)]
  by_cases z4 : t_k K k = 4
  · rw [if_pos (show nI (t_k K k) = (4 : Int32) by rw [z4]; rfl)]; exact oth (by omega) (by omega) (by omega)
  rw [if_neg (show ¬ nI (t_k K k) = (4 : Int32) from ne 4 (by decide) z4)]
  by_cases z5 : t_k K k = 5
  · rw [if_pos (show nI (t_k K k) = (5 : Int32) by rw [z5]; rfl)]; exact oth (by omega) (by omega) (by omega)
  rw [if_neg (show ¬ nI (t_k K k) = (5 : Int32) from ne 5 (by decide) z5)]
  by_cases z6 : t_k K k = 6
  · rw [if_pos (show nI (t_k K k) = (6 : Int32) by rw [z6]; rfl)]; exact oth (by omega) (by omega) (by omega)
  rw [if_neg (show ¬ nI (t_k K k) = (6 : Int32) from ne 6 (by decide) z6)]
  by_cases z7 : t_k K k = 7
  · rw [if_pos (show nI (t_k K k) = (7 : Int32) by rw [z7]; rfl)]; exact L_role hT hx hv hs z7
  rw [if_neg (show ¬ nI (t_k K k) = (7 : Int32) from ne 7 (by decide) z7)]
  by_cases z8 : t_k K k = 8
  · rw [if_pos (show nI (t_k K k) = (8 : Int32) by rw [z8]; rfl)]; exact oth (by omega) (by omega) (by omega)
  rw [if_neg (show ¬ nI (t_k K k) = (8 : Int32) from ne 8 (by decide) z8)]
  by_cases z9 : t_k K k = 9
  · rw [if_pos (show nI (t_k K k) = (9 : Int32) by rw [z9]; rfl)]; exact oth (by omega) (by omega) (by omega)
  rw [if_neg (show ¬ nI (t_k K k) = (9 : Int32) from ne 9 (by decide) z9)]
  by_cases z10 : t_k K k = 10
  · rw [if_pos (show nI (t_k K k) = (10 : Int32) by rw [z10]; rfl)]; exact L_rule hT hx hv hs z10
  rw [if_neg (show ¬ nI (t_k K k) = (10 : Int32) from ne 10 (by decide) z10)]
  exact oth (by omega) z7 z10
/-- the reference over its lines, told backward -/
def PBK (K : TKS) (ps : Nat → Nat) (m L : Nat) (T : Nat → Nat) (P0 : PT) (cn0 nk0 : Nat → Nat) (F0 k0 : Nat) (R : HP → HP → Prop) : Prop := ∀ (h0 : HP) (Q : Int32 × HP → Prop), RSS K ps m L T P0 cn0 nk0 F0 k0 h0 → (∀ h, hp_fr (S_rf m) h0 h → R h0 h → pw (f_M_plan_98 m h) Q) → pw (f_M_plan_98 m h0) Q
theorem M_98 {K : TKS} {ps : Nat → Nat} {m L F k : Nat} {T : Nat → Nat} {P : PT} {cn nk : Nat → Nat} {h : HP} {Q : Int32 × HP → Prop} (ok : TKO K) (hr : RSS K ps m L T P cn nk F k h) (h22 : t_k K k ≠ 22) (hq : pw (f_M_readLine m h) (fun h' => pw (f_M_plan_98 m h') Q)) : pw (f_M_plan_98 m h) Q := by
  have h64 := (ok.2.2.2.1 k hr.1.2.2.1).1
  have hr0 : rk (t_k K k) ≠ 0 := by unfold rk; (repeat' split) <;> omega
  have hrl := rk_lt h64
  unfold f_M_plan_98
  refine pw_go ?_
  unfold f_M_plan_98b
  rw [if_pos hr.1.2.1, hr.1.2.2.2.1, if_neg (nI_ne0 (by omega) (by omega))]
  refine pw_bind (pw_mono hq ?_)
  intro h' hh
  exact pw_L rfl hh
def RDO (K : TKS) (ps : Nat → Nat) (r pl m L : Nat) (T : Nat → Nat) (P0 : PT) (cn0 nk0 : Nat → Nat) (F0 k0 : Nat) (kk : Nat) (g : HP) : Prop :=
  (∃ c p, DED r c p g ∧ PLB pl g ∧ PBK K ps m L T P0 cn0 nk0 F0 k0 (fun _ h => RBX K ps m L T c p h)) ∨
  ∃ P cn nk F k, kk ≤ k ∧ VAL K P cn nk F ∧ CS K r pl P nk F k g ∧ PBK K ps m L T P0 cn0 nk0 F0 k0 (fun _ h => RSS K ps m L T P cn nk F k h)
theorem L_lines {K : TKS} {ps : Nat → Nat} {r pl m L F0 k0 : Nat} {T : Nat → Nat} {P0 : PT} {cn0 nk0 : Nat → Nat} {g0 : HP} (hT : TOKS K ps m L T) : ∀ n i g, 1401 - i ≤ n → i ≤ 1400 → CTX K r pl g → hp_fr (S_cl r pl) g0 g → RDO K ps r pl m L T P0 cn0 nk0 F0 k0 i g → pw (f_Rd_reads_59 r (nI i) g) (fun q => hp_fr (S_cl r pl) g0 q.2 ∧ ((q.1 = 0 ∧ ∃ c p, DED r c p q.2 ∧ PBK K ps m L T P0 cn0 nk0 F0 k0 (fun _ h => RBX K ps m L T c p h)) ∨ (q.1 = 1 ∧ ∃ P cn nk F k, VAL K P cn nk F ∧ CS K r pl P nk F k q.2 ∧ t_k K k = 22 ∧ PBK K ps m L T P0 cn0 nk0 F0 k0 (fun _ h => RSS K ps m L T P cn nk F k h)))) := by
  intro n
  induction n with
  | zero => intro i g h1 h2; omega
  | succ n ih =>
    intro i g hi hi2 hx H0 hd
    have ok := hx.2.1
    have hN := ok.1
    unfold f_Rd_reads_59
    refine pw_go ?_
    unfold f_Rd_reads_59b f_Rd_reads_93
    dsimp only
    rcases hd with ⟨c, p, d1, d2, d3⟩ | ⟨P, cn, nk, F, k, d1, d2, d3, d4⟩
    · have hn : ¬ hp_i g r 0 = 0 := by rw [d1.2.2.1]; exact nI_ne0 d1.1 (by have := d1.2.1; omega)
      rw [if_neg hn]
      have fin : pw ((some ((0 : Int32), g)).map (Sum.inr : Int32 × HP → (Int32 × HP) ⊕ (Int32 × HP))) (xx_L2 (fun s' => pw (xx_lp (fun s : (Int32 × HP) => f_Rd_reads_59b r s.1 s.2) s') (fun q => hp_fr (S_cl r pl) g0 q.2 ∧ ((q.1 = 0 ∧ ∃ c p, DED r c p q.2 ∧ PBK K ps m L T P0 cn0 nk0 F0 k0 (fun _ h => RBX K ps m L T c p h)) ∨ (q.1 = 1 ∧ ∃ P cn nk F k, VAL K P cn nk F ∧ CS K r pl P nk F k q.2 ∧ t_k K k = 22 ∧ PBK K ps m L T P0 cn0 nk0 F0 k0 (fun _ h => RSS K ps m L T P cn nk F k h))))) (fun q => hp_fr (S_cl r pl) g0 q.2 ∧ ((q.1 = 0 ∧ ∃ c p, DED r c p q.2 ∧ PBK K ps m L T P0 cn0 nk0 F0 k0 (fun _ h => RBX K ps m L T c p h)) ∨ (q.1 = 1 ∧ ∃ P cn nk F k, VAL K P cn nk F ∧ CS K r pl P nk F k q.2 ∧ t_k K k = 22 ∧ PBK K ps m L T P0 cn0 nk0 F0 k0 (fun _ h => RSS K ps m L T P cn nk F k h))))) := pw_mapR (pw_some ⟨H0, .inl ⟨rfl, c, p, d1, d3⟩⟩)
      rw [if_neg hn]
      by_cases z : (1400 : Int32) ≤ nI i
      · rw [if_pos z]; exact fin
      · rw [if_neg z]; exact fin
    · have hk := d3.1.1
      have e0 := d3.1.2.2.1
      have h64 := (ok.2.2.2.1 k hk).1
      have fin : t_k K k = 22 → pw ((some ((1 : Int32), g)).map (Sum.inr : Int32 × HP → (Int32 × HP) ⊕ (Int32 × HP))) (xx_L2 (fun s' => pw (xx_lp (fun s : (Int32 × HP) => f_Rd_reads_59b r s.1 s.2) s') (fun q => hp_fr (S_cl r pl) g0 q.2 ∧ ((q.1 = 0 ∧ ∃ c p, DED r c p q.2 ∧ PBK K ps m L T P0 cn0 nk0 F0 k0 (fun _ h => RBX K ps m L T c p h)) ∨ (q.1 = 1 ∧ ∃ P cn nk F k, VAL K P cn nk F ∧ CS K r pl P nk F k q.2 ∧ t_k K k = 22 ∧ PBK K ps m L T P0 cn0 nk0 F0 k0 (fun _ h => RSS K ps m L T P cn nk F k h))))) (fun q => hp_fr (S_cl r pl) g0 q.2 ∧ ((q.1 = 0 ∧ ∃ c p, DED r c p q.2 ∧ PBK K ps m L T P0 cn0 nk0 F0 k0 (fun _ h => RBX K ps m L T c p h)) ∨ (q.1 = 1 ∧ ∃ P cn nk F k, VAL K P cn nk F ∧ CS K r pl P nk F k q.2 ∧ t_k K k = 22 ∧ PBK K ps m L T P0 cn0 nk0 F0 k0 (fun _ h => RSS K ps m L T P cn nk F k h))))) := fun h22 => pw_mapR (pw_some ⟨H0, .inr ⟨rfl, P, cn, nk, F, k, d2, d3, h22, d4⟩⟩)
      rw [e0, if_pos rfl, if_pos rfl]
      by_cases zi : i = 1400
      · have h22 : t_k K k = 22 := by
          have : k = t_N K := by omega
          rcases ok.2.2.1 with y | y
          · rw [this]; exact y
          · exact absurd (by rw [this]; exact y) d3.1.2.1
        rw [if_pos (show (1400 : Int32) ≤ nI i from nI_le (a := 1400) (by omega) (by omega))]
        exact fin h22
      · rw [if_neg (show ¬ (1400 : Int32) ≤ nI i from nI_ge (b := 1400) (by omega) (by decide)), d3.1.2.2.2.2]
        by_cases h22 : t_k K k = 22
        · rw [if_pos (show nI (t_k K k) = (22 : Int32) by rw [h22]; rfl)]
          exact fin h22
        · rw [if_neg (show ¬ nI (t_k K k) = (22 : Int32) from fun y => h22 ((nI_eq (b := 22) (by omega) (by decide)).mp y))]
          refine pw_bind (pw_mono (L_line hT hx d2 d3) ?_)
          rintro g' ⟨H', z⟩
          rw [xx_lE, nI_1]
          refine pw_L rfl ?_
          refine ih (i + 1) g' (by omega) (by omega) (S_clC H' hx) (hp_fr_tr H0 H') ?_
          rcases z with ⟨c, p, z1, z2, z3⟩ | ⟨P', cn', nk', F', k', z1, z2, z3, z4⟩
          · refine .inl ⟨c, p, z1, z2, fun h0 Q r0 hq => d4 h0 Q r0 (fun h K1 r1 => ?_)⟩
            refine M_98 ok r1 h22 (pw_mono (z3 h r1) ?_)
            rintro h' ⟨K2, q⟩
            exact hq h' (hp_fr_tr K1 K2) q
          · refine .inr ⟨P', cn', nk', F', k', by omega, z2, z3, fun h0 Q r0 hq => d4 h0 Q r0 (fun h K1 r1 => ?_)⟩
            refine M_98 ok r1 h22 (pw_mono (z4 h r1) ?_)
            rintro h' ⟨K2, q⟩
            exact hq h' (hp_fr_tr K1 K2) q
/-- refused: the reference ends so -/
theorem M_98B {K : TKS} {ps : Nat → Nat} {m L c p : Nat} {T : Nat → Nat} {h : HP} (ok : TKO K) (hr : RBX K ps m L T c p h) : pw (f_M_plan_98 m h) (fun q => hp_fr (S_rf m) h q.2 ∧ q.1 = -1 ∧ MER m c p q.2) := by
  have mer : ∀ g, hp_fr (S_rf m) h g → MER m c p g → pw (f_M_plan_98 m g) (fun q => hp_fr (S_rf m) h q.2 ∧ q.1 = -1 ∧ MER m c p q.2) := by
    intro g H he
    unfold f_M_plan_98
    refine pw_go ?_
    unfold f_M_plan_98b f_M_plan_119
    rw [if_neg (mer_n he).1, if_neg (mer_n he).2]
    exact pw_mapR (pw_some ⟨H, rfl, he⟩)
  obtain ⟨r1, he | ⟨r2, r3, kb, r4, r5, r6⟩⟩ := id hr
  · exact mer h (hp_fr_rf h) he
  · have w : ∀ j, j < 20 → ∀ {T : Type} (f : Int32 × HP → Option T), (f_M_isWord m (lN (cst j)) h).bind f = f (nI 0, h) := fun j hj T f => bn_o (M_word0 ok r4 r5 hj) f
    have h6 : ¬ hp_i h m 6 = 0 := by rw [r4.2.1, r5]; decide
    have eL : f_M_readLine m h = (f_M_wrong m (nI 2) h).bind fun x => f_M_readLine_152 m x := by
      unfold f_M_readLine f_M_lineOf
      rw [show (465491030131 : Int64) = lN (cst 0) from rfl, show (427238321253 : Int64) = lN (cst 1) from rfl, show (439720963187 : Int64) = lN (cst 2) from rfl, show (495873782388 : Int64) = lN (cst 3) from rfl, w 0 (by decide)]
      dsimp only
      rw [if_pos (show nI 0 = (0 : Int32) from rfl), w 1 (by decide)]
      dsimp only
      rw [if_pos (show nI 0 = (0 : Int32) from rfl), w 2 (by decide)]
      dsimp only
      rw [if_pos (show nI 0 = (0 : Int32) from rfl), w 3 (by decide)]
      dsimp only
      rw [if_pos (show nI 0 = (0 : Int32) from rfl)]
      unfold f_M_lineOf_57
      rw [if_pos (show (-1 : Int32) < 0 by decide), bn_s]
      dsimp only
      unfold f_M_readLine_16 f_M_readLine_29 f_M_readLine_121 f_M_readLine_147
      rw [if_pos (show (-1 : Int32) < 0 by decide), if_pos (show (-1 : Int32) < 0 by decide), if_neg (show ¬ (-1 : Int32) = 0 by decide), if_neg (show ¬ (-1 : Int32) = 1 by decide), if_neg (show ¬ (-1 : Int32) = 2 by decide), if_neg (show ¬ (-1 : Int32) = 3 by decide), show (1919904869 : Int64) = lN (cst 7) from rfl, show (1920298085 : Int64) = lN (cst 10) from rfl, w 7 (by decide)]
      dsimp only
      rw [if_pos (show nI 0 = (0 : Int32) from rfl), w 10 (by decide)]
      dsimp only
      rw [if_pos (show nI 0 = (0 : Int32) from rfl)]
      rfl
    unfold f_M_plan_98
    refine pw_go ?_
    unfold f_M_plan_98b
    rw [if_pos r3, if_neg h6, eL]
    refine pw_bind (pw_bind (pw_mono (M_wrB ok hr (by decide) (by decide)) ?_))
    rintro h1 ⟨K1, q1, q2⟩
    unfold f_M_readLine_152 f_M_readLine_173
    rw [if_neg (mer_n q2).1, if_neg (mer_n q2).1]
    refine pw_some (pw_L rfl ?_)
    exact mer h1 (ln_rf K1) q2
