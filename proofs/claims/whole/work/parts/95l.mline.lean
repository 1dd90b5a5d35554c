/-! the reference, word by word in a line: alive, or refused (or about to be, at a bad word) -/
def RT (K : TKS) (ps : Nat → Nat) (m L : Nat) (T : Nat → Nat) (k : Nat) (h : HP) : Prop := MTC m L T h ∧ hp_i h m 2 = 0 ∧ MTK K ps m k h
def RBX (K : TKS) (ps : Nat → Nat) (m L : Nat) (T : Nat → Nat) (c p : Nat) (h : HP) : Prop := MTC m L T h ∧ (MER m c p h ∨ (c = 1 ∧ hp_i h m 2 = 0 ∧ ∃ kb, MTK K ps m kb h ∧ t_k K kb = 23 ∧ p = t_s K kb))
def S_ln (m : Nat) : Nat → Nat → Prop := fun a k => S_er m a k ∨ S_tk m a k
theorem er_ln {m : Nat} {h g : HP} (H : hp_fr (S_er m) h g) : hp_fr (S_ln m) h g := hp_fr_mo H (fun a k z => .inl z)
theorem tk_ln {m : Nat} {h g : HP} (H : hp_fr (S_tk m) h g) : hp_fr (S_ln m) h g := hp_fr_mo H (fun a k z => .inr z)
theorem MTC_tk {m L : Nat} {T : Nat → Nat} {h g : HP} (H : hp_fr (S_tk m) h g) (hc : MTC m L T h) : MTC m L T g := MTC_fr H (fun a k z => by unfold S_tk at z; omega) hc
theorem mer_n {m c p : Nat} {h : HP} (he : MER m c p h) : ¬ hp_i h m 2 = 0 ∧ ¬ hp_i h m 2 ≤ 0 := by
  have := he.2.1
  rw [he.2.2.1]; exact ⟨nI_ne0 he.1 (by omega), nI_nle he.1 (by omega)⟩
theorem RT_bad {K : TKS} {ps : Nat → Nat} {m L k : Nat} {T : Nat → Nat} {h : HP} (h23 : t_k K k = 23) (hr : RT K ps m L T k h) : RBX K ps m L T (ec K k) (t_s K k) h := ⟨hr.1, .inr ⟨by unfold ec; rw [if_pos h23], hr.2.1, k, hr.2.2, h23, rfl⟩⟩
theorem M_tok {K : TKS} {ps : Nat → Nat} {m L k : Nat} {T : Nat → Nat} {h : HP} (ok : TKO K) (hT : TOKS K ps m L T) (hr : RT K ps m L T k h) (h22 : t_k K k ≠ 22) (h23 : t_k K k ≠ 23) : pw (f_M_token m h) (fun g => hp_fr (S_ln m) h g ∧ RT K ps m L T (k + 1) g) := by
  refine pw_mono (hT k h hr.1 (tk_lt ok hr.2.2.1 h22 h23) hr.2.2) ?_
  rintro g ⟨H, hk⟩
  exact ⟨tk_ln H, MTC_tk H hr.1, h2_tk H hr.2.1, hk⟩
theorem M_wr {K : TKS} {ps : Nat → Nat} {m L k c : Nat} {T : Nat → Nat} {h : HP} (ok : TKO K) (hr : RT K ps m L T k h) (h0 : 0 < c) (hc : c ≤ 5) : pw (f_M_wrong m (nI c) h) (fun g => hp_fr (S_ln m) h g ∧ MTC m L T g ∧ MER m (if t_k K k = 23 then 1 else c) (t_s K k) g) := by
  refine pw_mono (M_wrong ok hr.2.2 hr.2.1 h0 hc) ?_
  rintro g ⟨H, he⟩
  exact ⟨er_ln H, MTC_me H (fun a k z => by unfold S_er at z; omega) he hr.1, he⟩
theorem M_wrB {K : TKS} {ps : Nat → Nat} {m L c p v : Nat} {T : Nat → Nat} {h : HP} (ok : TKO K) (hr : RBX K ps m L T c p h) (h0 : 0 < v) (hc : v ≤ 5) : pw (f_M_wrong m (nI v) h) (fun g => hp_fr (S_ln m) h g ∧ MTC m L T g ∧ MER m c p g) := by
  obtain ⟨r1, he | ⟨r2, r3, kb, r4, r5, r6⟩⟩ := hr
  · unfold f_M_wrong
    rw [if_neg (mer_n he).2]
    exact pw_some ⟨hp_fr_rf h, r1, he⟩
  · refine pw_mono (M_wr ok ⟨r1, r3, r4⟩ h0 hc) ?_
    rintro g ⟨H, q1, q2⟩
    rw [if_pos r5] at q2
    rw [r2, r6]
    exact ⟨H, q1, q2⟩
theorem M_word0 {K : TKS} {ps : Nat → Nat} {m kb j : Nat} {h : HP} (ok : TKO K) (hk : MTK K ps m kb h) (h23 : t_k K kb = 23) (hj : j < 20) : f_M_isWord m (lN (cst j)) h = some (nI 0, h) := by
  rw [M_word ok hk hj, if_neg (by omega)]
theorem M_want {K : TKS} {ps : Nat → Nat} {m L k j : Nat} {T : Nat → Nat} {h : HP} (ok : TKO K) (hT : TOKS K ps m L T) (hr : RT K ps m L T k h) (hj : j < 20) : pw (f_M_want m (lN (cst j)) h) (fun g => hp_fr (S_ln m) h g ∧ ((t_k K k = j ∧ RT K ps m L T (k + 1) g) ∨ (t_k K k ≠ j ∧ RBX K ps m L T (ec K k) (t_s K k) g))) := by
  unfold f_M_want
  rw [hr.2.1, if_pos (show (0 : Int32) ≤ 0 by decide), bn_o (M_word ok hr.2.2 hj)]
  dsimp only
  by_cases z : t_k K k = j
  · rw [if_pos z, if_neg (show ¬ nI 1 = (0 : Int32) by decide)]
    refine pw_bind (pw_mono (M_tok ok hT hr (by omega) (by omega)) ?_)
    rintro g ⟨H, q⟩
    exact pw_some ⟨H, .inl ⟨z, q⟩⟩
  · rw [if_neg z, if_pos (show nI 0 = (0 : Int32) from rfl), show (2 : Int32) = nI 2 from rfl]
    refine pw_bind (pw_mono (M_wr ok hr (by decide) (by decide)) ?_)
    rintro g ⟨H, q1, q2⟩
    exact pw_some ⟨H, .inr ⟨z, q1, .inl q2⟩⟩
theorem M_wantB {K : TKS} {ps : Nat → Nat} {m L c p j : Nat} {T : Nat → Nat} {h : HP} (ok : TKO K) (hr : RBX K ps m L T c p h) (hj : j < 20) : pw (f_M_want m (lN (cst j)) h) (fun g => hp_fr (S_ln m) h g ∧ RBX K ps m L T c p g) := by
  unfold f_M_want
  obtain ⟨r1, he | ⟨r2, r3, kb, r4, r5, r6⟩⟩ := id hr
  · rw [if_neg (mer_n he).2]
    exact pw_some ⟨hp_fr_rf h, hr⟩
  · rw [r3, if_pos (show (0 : Int32) ≤ 0 by decide), bn_o (M_word0 ok r4 r5 hj), if_pos (show nI 0 = (0 : Int32) from rfl), show (2 : Int32) = nI 2 from rfl]
    refine pw_bind (pw_mono (M_wrB ok hr (by decide) (by decide)) ?_)
    rintro g ⟨H, q1, q2⟩
    exact pw_some ⟨H, q1, .inl q2⟩
/-- which fault a number told out of place or bounds is -/
def nc (K : TKS) (k : Nat) : Nat := if t_k K k = 21 then 4 else ec K k
theorem nc_rng (K : TKS) (k : Nat) : 0 < nc K k ∧ nc K k ≤ 5 := by unfold nc ec; (repeat' split) <;> omega
theorem M_num {K : TKS} {ps : Nat → Nat} {m L k lo hi : Nat} {T : Nat → Nat} {h : HP} (ok : TKO K) (hT : TOKS K ps m L T) (hr : RT K ps m L T k h) (hlo : lo < 100) (hhi : hi < 100) : pw (f_M_toldNumber m (nI lo) (nI hi) h) (fun r => hp_fr (S_ln m) h r.2 ∧ ((t_k K k = 21 ∧ lo ≤ t_n K k ∧ t_n K k ≤ hi ∧ r.1 = nI (t_n K k) ∧ RT K ps m L T (k + 1) r.2) ∨ (¬ (t_k K k = 21 ∧ lo ≤ t_n K k ∧ t_n K k ≤ hi) ∧ RBX K ps m L T (nc K k) (t_s K k) r.2))) := by
  obtain ⟨b1, b2, b3, b4, b5⟩ := ok.2.2.2.1 k hr.2.2.1
  have e2 : hp_i h m 6 = (2 : Int32) ↔ t_k K k = 21 := by
    rw [hr.2.2.2.1, show (2 : Int32) = nI 2 from rfl, nI_eq (by have := rk_lt b1; omega) (by decide)]; exact rk_2 b1
  have bad : ∀ v : Nat, 0 < v → v ≤ 5 → (if t_k K k = 23 then 1 else v) = nc K k → ¬ (t_k K k = 21 ∧ lo ≤ t_n K k ∧ t_n K k ≤ hi) → pw ((f_M_wrong m (nI v) h).bind fun x_1 => f_M_toldNumber_46 m x_1) (fun r => hp_fr (S_ln m) h r.2 ∧ ((t_k K k = 21 ∧ lo ≤ t_n K k ∧ t_n K k ≤ hi ∧ r.1 = nI (t_n K k) ∧ RT K ps m L T (k + 1) r.2) ∨ (¬ (t_k K k = 21 ∧ lo ≤ t_n K k ∧ t_n K k ≤ hi) ∧ RBX K ps m L T (nc K k) (t_s K k) r.2))) := by
    intro v v0 v5 ve vn
    refine pw_bind (pw_mono (M_wr ok hr v0 v5) ?_)
    rintro g ⟨H, q1, q2⟩
    rw [ve] at q2
    unfold f_M_toldNumber_46
    rw [xx_lE, if_neg (mer_n q2).1]
    exact pw_some ⟨H, .inr ⟨vn, q1, .inl q2⟩⟩
  unfold f_M_toldNumber f_M_toldNumber_41
  rw [hr.2.1, if_pos (show (0 : Int32) ≤ 0 by decide)]
  by_cases z21 : t_k K k = 21
  · have e8 := (hr.2.2.2.2.2.1 (by omega)).1
    have n4 : (if t_k K k = 23 then 1 else 4) = nc K k := by unfold nc; rw [if_neg (by omega), if_pos z21]
    rw [if_pos (e2.mpr z21), e8]
    by_cases zl : t_n K k < lo
    · rw [if_pos (nI_lt zl (by omega)), show (4 : Int32) = nI 4 from rfl]
      exact bad 4 (by decide) (by decide) n4 (by omega)
    · rw [if_neg (nI_nlt (by omega) (by omega))]
      by_cases zh : t_n K k ≤ hi
      · rw [if_pos (nI_le zh (by omega))]
        unfold f_M_toldNumber_46
        rw [xx_lE, e8, if_pos hr.2.1]
        refine pw_bind (pw_mono (M_tok ok hT hr (by omega) (by omega)) ?_)
        rintro g ⟨H, q⟩
        exact pw_some ⟨H, .inl ⟨z21, by omega, zh, rfl, q⟩⟩
      · rw [if_neg (nI_ge (by omega) (by omega)), show (4 : Int32) = nI 4 from rfl]
        exact bad 4 (by decide) (by decide) n4 (by omega)
  · rw [if_neg (fun z => z21 (e2.mp z)), show (2 : Int32) = nI 2 from rfl]
    exact bad 2 (by decide) (by decide) (by unfold nc ec; rw [if_neg z21]) (by omega)
theorem M_numB {K : TKS} {ps : Nat → Nat} {m L c p : Nat} {lo hi : Int32} {T : Nat → Nat} {h : HP} (ok : TKO K) (hr : RBX K ps m L T c p h) : pw (f_M_toldNumber m lo hi h) (fun r => hp_fr (S_ln m) h r.2 ∧ RBX K ps m L T c p r.2) := by
  unfold f_M_toldNumber
  obtain ⟨r1, he | ⟨r2, r3, kb, r4, r5, r6⟩⟩ := id hr
  · rw [if_neg (mer_n he).2]
    exact pw_some ⟨hp_fr_rf h, hr⟩
  · have h6 : ¬ hp_i h m 6 = (2 : Int32) := by rw [r4.2.1, r5]; decide
    rw [r3, if_pos (show (0 : Int32) ≤ 0 by decide), if_neg h6, show (2 : Int32) = nI 2 from rfl]
    refine pw_bind (pw_mono (M_wrB ok hr (by decide) (by decide)) ?_)
    rintro g ⟨H, q1, q2⟩
    unfold f_M_toldNumber_46
    rw [xx_lE, if_neg (mer_n q2).1]
    exact pw_some ⟨H, q1, .inl q2⟩
/-- the line's end: ; and on -/
theorem M_end {K : TKS} {ps : Nat → Nat} {m L k : Nat} {T : Nat → Nat} {h : HP} (ok : TKO K) (hT : TOKS K ps m L T) (hr : RT K ps m L T k h) : pw (f_M_readLine_152 m h) (fun g => hp_fr (S_ln m) h g ∧ ((t_k K k = 59 ∧ RT K ps m L T (k + 1) g) ∨ (t_k K k ≠ 59 ∧ RBX K ps m L T (ec K k) (t_s K k) g))) := by
  unfold f_M_readLine_152 f_M_readLine_173
  rw [if_pos hr.2.1]
  by_cases z : t_k K k = 59
  · rw [if_pos (show hp_i h m 6 = (59 : Int32) from (rk_sg ok hr.2.2 (j := 59) (by omega)).mpr z), if_pos hr.2.1]
    refine pw_bind (pw_mono (M_tok ok hT hr (by omega) (by omega)) ?_)
    rintro g ⟨H, q⟩
    exact pw_some ⟨H, .inl ⟨z, q⟩⟩
  · rw [if_neg (show ¬ hp_i h m 6 = (59 : Int32) from fun y => z ((rk_sg ok hr.2.2 (j := 59) (by omega)).mp y)), show (2 : Int32) = nI 2 from rfl]
    refine pw_bind (pw_mono (M_wr ok hr (by decide) (by decide)) ?_)
    rintro g ⟨H, q1, q2⟩
    rw [if_neg (mer_n q2).1]
    exact pw_some ⟨H, .inr ⟨z, q1, .inl q2⟩⟩
theorem M_endB {K : TKS} {ps : Nat → Nat} {m L c p : Nat} {T : Nat → Nat} {h : HP} (ok : TKO K) (hr : RBX K ps m L T c p h) : pw (f_M_readLine_152 m h) (fun g => hp_fr (S_ln m) h g ∧ RBX K ps m L T c p g) := by
  unfold f_M_readLine_152 f_M_readLine_173
  obtain ⟨r1, he | ⟨r2, r3, kb, r4, r5, r6⟩⟩ := id hr
  · rw [if_neg (mer_n he).1, if_neg (mer_n he).1]
    exact pw_some ⟨hp_fr_rf h, hr⟩
  · rw [if_pos r3, if_neg (show ¬ hp_i h m 6 = (59 : Int32) from fun y => by have := (rk_sg ok r4 (j := 59) (by omega)).mp y; omega), show (2 : Int32) = nI 2 from rfl]
    refine pw_bind (pw_mono (M_wrB ok hr (by decide) (by decide)) ?_)
    rintro g ⟨H, q1, q2⟩
    rw [if_neg (mer_n q2).1]
    exact pw_some ⟨H, q1, .inl q2⟩
/-! the class's side of the same -/
theorem R_num {K : TKS} {r pl k lo hi : Nat} {h : HP} (hx : CTX K r pl h) (ha : ALV K r k h) (hlo : lo < 100) (hhi : hi < 100) : pw (f_Rd_numberWithin r (nI lo) (nI hi) h) (fun q => hp_fr (S_ra r) h q.2 ∧ ((t_k K k = 21 ∧ lo ≤ t_n K k ∧ t_n K k ≤ hi ∧ q.1 = nI (t_n K k) ∧ (ALV K r (k + 1) q.2 ∨ (k + 1 ≤ t_N K ∧ t_k K (k + 1) = 23 ∧ DED r (ec K (k + 1)) (t_s K (k + 1)) q.2))) ∨ (¬ (t_k K k = 21 ∧ lo ≤ t_n K k ∧ t_n K k ≤ hi) ∧ q.1 = nI lo ∧ DED r (nc K k) (t_s K k) q.2))) := by
  obtain ⟨a1, a2, a3, a4, a5⟩ := id ha
  obtain ⟨x1, x2, x3, x4, x5⟩ := id hx
  have hN := x2.1
  obtain ⟨b1, b2, b3, b4, b5⟩ := x2.2.2.2.1 k a1
  unfold f_Rd_numberWithin f_Rd_numberWithin_37
  rw [a5]
  by_cases z21 : t_k K k = 21
  · have n4 : nc K k = 4 := by unfold nc; rw [if_pos z21]
    have v9 := (x5 k a1).2.2
    rw [if_pos z21] at v9
    rw [if_pos (show nI (t_k K k) = (21 : Int32) by rw [z21]; rfl), bn_o x3.2.2.2.2.1, a4.1, x3.2.2.2.2.2.2.2.2.1, if_pos (hp_in_nI (by omega) (by omega)), nI_clamp (by omega), v9, lN_i, xx_lE]
    have bad : ¬ (t_k K k = 21 ∧ lo ≤ t_n K k ∧ t_n K k ≤ hi) → pw ((f_Rd_refuse r (4 : Int32) h).bind fun x_4 => some (nI lo, x_4)) (fun q => hp_fr (S_ra r) h q.2 ∧ ((t_k K k = 21 ∧ lo ≤ t_n K k ∧ t_n K k ≤ hi ∧ q.1 = nI (t_n K k) ∧ (ALV K r (k + 1) q.2 ∨ (k + 1 ≤ t_N K ∧ t_k K (k + 1) = 23 ∧ DED r (ec K (k + 1)) (t_s K (k + 1)) q.2))) ∨ (¬ (t_k K k = 21 ∧ lo ≤ t_n K k ∧ t_n K k ≤ hi) ∧ q.1 = nI lo ∧ DED r (nc K k) (t_s K k) q.2))) := by
      intro vn
      rw [show (4 : Int32) = nI 4 from rfl]
      refine pw_bind (pw_mono (R_ref hx ha (by decide) (by decide)) ?_)
      rintro g ⟨H, D⟩
      exact pw_some ⟨H, .inr ⟨vn, rfl, by rw [n4]; exact D⟩⟩
    by_cases zl : t_n K k < lo
    · rw [if_pos (nI_lt zl (by omega))]; exact bad (by omega)
    · rw [if_neg (nI_nlt (by omega) (by omega))]
      by_cases zh : t_n K k ≤ hi
      · rw [if_pos (nI_le zh (by omega))]
        refine pw_bind (pw_mono (R_adv hx ha (by omega)) ?_)
        rintro g ⟨H, q⟩
        exact pw_some ⟨H, .inl ⟨z21, by omega, zh, rfl, q⟩⟩
      · rw [if_neg (nI_ge (by omega) (by omega))]; exact bad (by omega)
  · rw [if_neg (show ¬ nI (t_k K k) = (21 : Int32) from fun y => z21 ((nI_eq (b := 21) (by omega) (by decide)).mp y)), show (2 : Int32) = nI 2 from rfl]
    refine pw_bind (pw_mono (R_ref hx ha (by decide) (by decide)) ?_)
    rintro g ⟨H, D⟩
    refine pw_some ⟨H, .inr ⟨by omega, rfl, ?_⟩⟩
    unfold nc ec
    rw [if_neg z21, if_neg a2]; exact D
theorem R_numD {r c p lo : Nat} {hi : Int32} {h : HP} (hd : DED r c p h) : pw (f_Rd_numberWithin r (nI lo) hi h) (fun q => hp_fr (S_ra r) h q.2 ∧ q.1 = nI lo ∧ DED r c p q.2) := by
  unfold f_Rd_numberWithin
  rw [hd.2.2.2.2, if_neg (show ¬ (23 : Int32) = 21 by decide)]
  refine pw_bind (pw_mono (R_refD hd) ?_)
  rintro g ⟨H, D⟩
  exact pw_some ⟨H, rfl, D⟩
