/-! the reference's loop over a part, step by step -/
def RGO (K : TKS) (ps : Nat → Nat) (m L : Nat) (T : Nat → Nat) (part : Nat) (h0 : HP) (Q : HP → Prop) : GT := fun w k B o u => ∀ h, hp_fr (S_me m) h0 h → MRP K ps m L T k B o u h → CN w B o u → pw (f_M_readPart_37 m (nI part) (nI w) h) Q
def REE (K : TKS) (m : Nat) (h0 : HP) (Q : HP → Prop) : Nat → Prop := fun k => ∀ h, hp_fr (S_me m) h0 h → MER m (ec K k) (t_s K k) h → Q h
theorem RG_e {m c p : Nat} {part w : Int32} {h : HP} {Q : HP → Prop} (he : MER m c p h) (hq : Q h) : pw (f_M_readPart_37 m part w h) Q := by
  have hn : ¬ hp_i h m 2 = 0 := by rw [he.2.2.1]; exact nI_ne0 he.1 (by have := he.2.1; omega)
  unfold f_M_readPart_37
  refine pw_go ?_
  unfold f_M_readPart_37b f_M_readPart_85
  dsimp only
  rw [if_neg hn, if_neg hn]
  exact pw_R rfl hq
theorem RG_w {m w : Nat} {part : Int32} {h : HP} {Q : HP → Prop} (hw : w < 2) (h2 : hp_i h m 2 = 0) (hop : pw (f_M_operand m (nI w) h) (fun r => pw (f_M_readPart_37 m part r.1 r.2) Q)) : pw (f_M_readPart_37 m part (nI w) h) Q := by
  have hn : ¬ nI w = (2 : Int32) := fun z => by have := (nI_eq (b := 2) (by omega) (by decide)).mp z; omega
  unfold f_M_readPart_37
  refine pw_go ?_
  unfold f_M_readPart_37b f_M_readPart_64 f_M_readPart_81
  dsimp only
  rw [if_pos h2, if_neg hn, if_neg hn]
  refine pw_bind (pw_mono hop ?_)
  intro r hr
  exact pw_L rfl hr
theorem tk_lt {K : TKS} {k : Nat} (ok : TKO K) (hk : k ≤ t_N K) (h22 : t_k K k ≠ 22) (h23 : t_k K k ≠ 23) : k < t_N K := by
  refine Nat.lt_of_le_of_ne hk (fun z => ?_)
  subst z
  rcases ok.2.2.1 with w | w
  · exact h22 w
  · exact h23 w
theorem O_98 {K : TKS} {ps : Nat → Nat} {m k : Nat} {w v2 v3 : Int32} {h : HP} (ok : TKO K) (hk : MTK K ps m k h) (h0 : hp_i h m 2 = 0) : pw (f_M_operand_98 m w v2 v3 h) (fun r => hp_fr (S_er m) h r.2 ∧ MER m (ec K k) (t_s K k) r.2) := by
  unfold f_M_operand_98
  rw [show (2 : Int32) = nI 2 from rfl]
  refine pw_bind (pw_mono (M_wrong ok hk h0 (by decide) (by decide)) ?_)
  rintro g ⟨H, he⟩
  unfold f_M_operand_103
  rw [he.2.2.1, if_neg (nI_nle he.1 (by have := he.2.1; omega))]
  exact pw_some ⟨H, he⟩
theorem er_me {m : Nat} {h g : HP} (H : hp_fr (S_er m) h g) : hp_fr (S_me m) h g := hp_fr_mo H (fun a k z => .inl z)
theorem tk_me {m : Nat} {h g : HP} (H : hp_fr (S_tk m) h g) : hp_fr (S_me m) h g := hp_fr_mo H (fun a k z => .inr (.inl z))
theorem pi_me {m : Nat} {h g : HP} (H : hp_fr (S_pil m) h g) : hp_fr (S_me m) h g := hp_fr_mo H (fun a k z => .inr (.inr (.inl z)))
theorem no_me {m : Nat} {h g : HP} (H : hp_fr (S_nte m) h g) : hp_fr (S_me m) h g := hp_fr_mo H (fun a k z => .inr (.inr (.inr z)))
theorem sn_me {m : Nat} {h g : HP} (H : hp_fr (S_psn m) h g) : hp_fr (S_me m) h g := hp_fr_mo H (fun a k z => .inr (.inr z))
theorem me_off {m a k : Nat} (z : S_me m a k) : ¬ (a = m ∧ k = 5) ∧ a ≠ m + 1 := by unfold S_me S_er S_tk S_pil S_nte at z; omega
/-- frames of pile and code leave the word alone -/
theorem MTK_sn {K : TKS} {ps : Nat → Nat} {m k : Nat} {h g : HP} (H : hp_fr (S_psn m) h g) (hk : MTK K ps m k h) : MTK K ps m k g := MTK_fr H (fun a k z => by unfold S_psn S_pil S_nte at z; omega) hk
theorem h2_sn {m : Nat} {h g : HP} (H : hp_fr (S_psn m) h g) (hk : hp_i h m 2 = 0) : hp_i g m 2 = 0 := by rw [hf_i H (by unfold S_psn S_pil S_nte; omega)]; exact hk
theorem h2_tk {m : Nat} {h g : HP} (H : hp_fr (S_tk m) h g) (hk : hp_i h m 2 = 0) : hp_i g m 2 = 0 := by rw [hf_i H (by unfold S_tk; omega)]; exact hk
/-- on to the next word, pile and code as they are -/
theorem MRP_tk {K : TKS} {ps : Nat → Nat} {m L k u : Nat} {T : Nat → Nat} {B : List Nat} {o : List (Nat × Nat)} {h : HP} (ok : TKO K) (hT : TOKS K ps m L T) (hm : MRP K ps m L T k B o u h) (hlt : k < t_N K) : pw (f_M_token m h) (fun g => hp_fr (S_me m) h g ∧ MRP K ps m L T (k + 1) B o u g) := by
  obtain ⟨m1, m2, m3, m4, m5, m6⟩ := hm
  refine pw_mono (hT k h m1 hlt m3) ?_
  rintro g ⟨H, hk⟩
  exact ⟨tk_me H, MTC_fr H (fun a k z => by unfold S_tk at z; omega) m1, h2_tk H m2, hk, STK_fr H (fun a k z => by unfold S_tk at z; unfold S_pil; omega) m4, OUT_fr H (fun a k z => by unfold S_tk at z; unfold S_nte; omega) m5, m6⟩
theorem cn_len {w u : Nat} {B : List Nat} {o : List (Nat × Nat)} (h : CN w B o u) : B.length ≤ 67 ∧ o.length ≤ 540 := by
  have h1 := lead_le B
  have h2 := dep_le B
  unfold CN at h
  by_cases z : w = 2
  · rw [if_pos z] at h; omega
  · rw [if_neg z] at h; omega
/-- a number or a name -/
theorem Bw_1 {K : TKS} {ps : Nat → Nat} {m L part w k u : Nat} {T : Nat → Nat} {B : List Nat} {o : List (Nat × Nat)} {h0 : HP} {Q : HP → Prop} (ok : TKO K) (hT : TOKS K ps m L T) (hw : w < 2) (hu : uc (t_k K k) < 6) (u60 : u < 60) (hG : RGO K ps m L T part h0 Q 2 (k + 1) B (o ++ [(uc (t_k K k), t_n K k)]) (u + 1)) : RGO K ps m L T part h0 Q w k B o u := by
  intro h Hf hm hcn
  obtain ⟨m1, m2, m3, m4, m5, m6⟩ := id hm
  obtain ⟨n1, n2, n3, n4⟩ := (CN_w hw).mp hcn
  obtain ⟨l1, l2⟩ := cn_len hcn
  have hld := lead_le B
  have h64 := (ok.2.2.2.1 k m3.1).1
  have h17 : t_k K k ≠ 17 := fun z => by rw [z] at hu; exact absurd hu (by decide)
  have h40 : t_k K k ≠ 40 := fun z => by rw [z] at hu; exact absurd hu (by decide)
  have h22 : t_k K k ≠ 22 := fun z => by rw [z] at hu; exact absurd hu (by decide)
  have h23 : t_k K k ≠ 23 := fun z => by rw [z] at hu; exact absurd hu (by decide)
  have n40 : ¬ hp_i h m 6 = (40 : Int32) := fun z => h40 ((rk_sg ok m3 (j := 40) (by omega)).mp z)
  refine RG_w hw m2 ?_
  rw [O_19 ok m3 hw, show (if w = 0 ∧ t_k K k = 17 then 1 else 0) = 0 from if_neg (fun y => h17 y.2), show (if uc (t_k K k) < 6 ∨ t_k K k = 40 then 1 else 0) = 1 from if_pos (.inl hu)]
  unfold f_M_operand_51 f_M_operand_62 f_M_operand_76 f_M_operand_103
  rw [if_pos (show nI 0 = (0 : Int32) from rfl), if_neg (show ¬ nI 1 = (0 : Int32) by decide), if_neg (show ¬ nI 1 = (0 : Int32) by decide), m5.2.1, if_neg (show ¬ nI u = (60 : Int32) from fun z => by have := (nI_eq (b := 60) (by omega) (by decide)).mp z; omega), if_pos (show nI 0 = (0 : Int32) from rfl), if_neg n40, m2, if_pos (show (0 : Int32) ≤ 0 by decide), if_pos (show nI 0 = (0 : Int32) from rfl), nI_1, xx_lE]
  obtain ⟨h1, hh1⟩ : ∃ h1, hp_si h m 27 (nI (u + 1)) = h1 := ⟨_, rfl⟩
  rw [hh1]
  have H1 : hp_fr (S_nte m) h h1 := by rw [← hh1]; exact hf_si (hp_fr_rf h) (by unfold S_nte; omega)
  have H1' : hp_fr (S_psn m) h h1 := hp_fr_mo H1 (fun a k z => .inr z)
  have k1 := MTK_sn H1' m3
  have o1 : OUT m o (u + 1) h1 := ⟨by rw [← hh1, hp_i_si, if_neg (by omega)]; exact m5.1, by rw [← hh1, hp_i_si, if_pos ⟨rfl, rfl⟩], fun j hj => by rw [← hh1, hp_i_si, if_neg (by omega), hp_i_si, if_neg (by omega)]; exact m5.2.2 j hj⟩
  rw [if_neg (show ¬ hp_i h1 m 6 = (40 : Int32) from fun z => h40 ((rk_sg ok k1 (j := 40) (by omega)).mp z))]
  have fin : ∀ s0 : Int32, s0 = nI (uc (t_k K k)) → pw (f_M_operand_169 m s0 m h1) (fun r => pw (f_M_readPart_37 m (nI part) r.1 r.2) Q) := by
    intro s0 hs0
    unfold f_M_operand_169
    rw [hs0, (k1.2.2.2.1 h23).1]
    refine pw_bind (pw_mono (M_note (MS_fr H1 m1.1) o1 (by omega)) ?_)
    rintro g ⟨H2, o2⟩
    have H12 : hp_fr (S_psn m) h g := hp_fr_tr H1' (hp_fr_mo H2 (fun a k z => .inr z))
    have mg : MRP K ps m L T k B (o ++ [(uc (t_k K k), t_n K k)]) (u + 1) g := ⟨MTC_fr H12 (fun a k z => by unfold S_psn S_pil S_nte at z; omega) m1, h2_sn H12 m2, MTK_sn H12 m3, STK_fr (hp_fr_tr H1 H2) (fun a k z => by unfold S_nte at z; unfold S_pil; omega) m4, o2, m6⟩
    refine pw_bind (pw_mono (MRP_tk ok hT mg (tk_lt ok m3.1 h22 h23)) ?_)
    rintro g2 ⟨H3, mg2⟩
    refine pw_some (hG g2 (hp_fr_tr (hp_fr_tr Hf (sn_me H12)) H3) mg2 (CN_2.mpr ⟨by omega, n2, ?_, by omega⟩))
    rw [List.length_append, List.length_singleton]; omega
  by_cases z21 : t_k K k = 21
  · rw [show (if uc (t_k K k) < 6 ∧ t_k K k ≠ 21 then nI (uc (t_k K k)) else -1) = -1 from if_neg (fun y => y.2 z21), if_neg (show ¬ (0 : Int32) ≤ -1 by decide)]
    exact fin 0 (by rw [z21]; rfl)
  · rw [show (if uc (t_k K k) < 6 ∧ t_k K k ≠ 21 then nI (uc (t_k K k)) else -1) = nI (uc (t_k K k)) from if_pos ⟨hu, z21⟩, if_pos (show (0 : Int32) ≤ nI (uc (t_k K k)) from nI_le (a := 0) (by omega) (by omega))]
    exact fin _ rfl
/-- an opening bracket -/
theorem Bw_2 {K : TKS} {ps : Nat → Nat} {m L part w k u : Nat} {T : Nat → Nat} {B : List Nat} {o : List (Nat × Nat)} {h0 : HP} {Q : HP → Prop} (ok : TKO K) (hT : TOKS K ps m L T) (hw : w < 2) (h40 : t_k K k = 40) (u60 : u < 60) (hd7 : dep B < 7) (hG : RGO K ps m L T part h0 Q 0 (k + 1) (30 :: B) o (u + 1)) : RGO K ps m L T part h0 Q w k B o u := by
  intro h Hf hm hcn
  obtain ⟨m1, m2, m3, m4, m5, m6⟩ := id hm
  obtain ⟨n1, n2, n3, n4⟩ := (CN_w hw).mp hcn
  obtain ⟨l1, l2⟩ := cn_len hcn
  have hld := lead_le B
  have e40 : hp_i h m 6 = (40 : Int32) := (rk_sg ok m3 (j := 40) (by omega)).mpr h40
  refine RG_w hw m2 ?_
  rw [O_19 ok m3 hw, show (if w = 0 ∧ t_k K k = 17 then 1 else 0) = 0 from if_neg (fun y => by omega), show (if uc (t_k K k) < 6 ∨ t_k K k = 40 then 1 else 0) = 1 from if_pos (.inr h40)]
  unfold f_M_operand_51 f_M_operand_62 f_M_operand_76 f_M_operand_89 f_M_operand_103
  rw [if_pos (show nI 0 = (0 : Int32) from rfl), if_neg (show ¬ nI 1 = (0 : Int32) by decide), if_neg (show ¬ nI 1 = (0 : Int32) by decide), m5.2.1, if_neg (show ¬ nI u = (60 : Int32) from fun z => by have := (nI_eq (b := 60) (by omega) (by decide)).mp z; omega), if_pos (show nI 0 = (0 : Int32) from rfl), if_pos e40, m4.2.1, if_pos (show nI (dep B) < (7 : Int32) from nI_lt (b := 7) hd7 (by decide)), m2, if_pos (show (0 : Int32) ≤ 0 by decide), if_pos (show nI 0 = (0 : Int32) from rfl), nI_1, xx_lE]
  obtain ⟨h1, hh1⟩ : ∃ h1, hp_si h m 27 (nI (u + 1)) = h1 := ⟨_, rfl⟩
  rw [hh1]
  have H1 : hp_fr (S_nte m) h h1 := by rw [← hh1]; exact hf_si (hp_fr_rf h) (by unfold S_nte; omega)
  have H1' : hp_fr (S_psn m) h h1 := hp_fr_mo H1 (fun a k z => .inr z)
  have k1 := MTK_sn H1' m3
  have o1 : OUT m o (u + 1) h1 := ⟨by rw [← hh1, hp_i_si, if_neg (by omega)]; exact m5.1, by rw [← hh1, hp_i_si, if_pos ⟨rfl, rfl⟩], fun j hj => by rw [← hh1, hp_i_si, if_neg (by omega), hp_i_si, if_neg (by omega)]; exact m5.2.2 j hj⟩
  rw [if_pos (show hp_i h1 m 6 = (40 : Int32) from (rk_sg ok k1 (j := 40) (by omega)).mpr h40), show (30 : Int32) = nI 30 from rfl]
  refine pw_bind (pw_mono (M_hold (MS_fr H1 m1.1) (STK_fr H1 (fun a k z => by unfold S_nte at z; unfold S_pil; omega) m4) (by omega) (by decide)) ?_)
  rintro g ⟨H2, s2⟩
  have H12 : hp_fr (S_psn m) h g := hp_fr_tr H1' (hp_fr_mo H2 (fun a k z => .inl z))
  have mg : MRP K ps m L T k (30 :: B) o (u + 1) g := ⟨MTC_fr H12 (fun a k z => by unfold S_psn S_pil S_nte at z; omega) m1, h2_sn H12 m2, MTK_sn H12 m3, s2, OUT_fr H2 (fun a k z => by unfold S_pil at z; unfold S_nte; omega) o1, fun a ha => by
    rcases List.mem_cons.mp ha with y | y
    · omega
    · exact m6 a y⟩
  refine pw_bind (pw_mono (MRP_tk ok hT mg (tk_lt ok m3.1 (by omega) (by omega))) ?_)
  rintro g2 ⟨H3, mg2⟩
  refine pw_some (hG g2 (hp_fr_tr (hp_fr_tr Hf (sn_me H12)) H3) mg2 ((CN_w (by decide)).mpr ⟨by omega, ?_, ?_, ?_⟩))
  · rw [dep, if_pos (.inr rfl)]; omega
  · rw [List.length_cons]; omega
  · rw [List.length_cons, dep, if_pos (.inr rfl)]; omega
theorem Bw_3 {K : TKS} {ps : Nat → Nat} {m L part k u : Nat} {T : Nat → Nat} {B : List Nat} {o : List (Nat × Nat)} {h0 : HP} {Q : HP → Prop} (ok : TKO K) (hT : TOKS K ps m L T) (h17 : t_k K k = 17) (hd7 : dep B < 7) (hG : RGO K ps m L T part h0 Q 0 (k + 1) (22 :: B) o u) : RGO K ps m L T part h0 Q 0 k B o u := by
  intro h Hf hm hcn
  obtain ⟨m1, m2, m3, m4, m5, m6⟩ := id hm
  obtain ⟨n1, n2, n3, n4⟩ := (CN_w (show 0 < 2 by decide)).mp hcn
  obtain ⟨l1, l2⟩ := cn_len hcn
  have hu6 : uc (t_k K k) = 6 := by rw [h17]; rfl
  refine RG_w (by decide) m2 ?_
  rw [O_19 ok m3 (by decide), show (if 0 = 0 ∧ t_k K k = 17 then 1 else 0) = 1 from if_pos ⟨rfl, h17⟩, show (if uc (t_k K k) < 6 ∨ t_k K k = 40 then 1 else 0) = 0 from if_neg (by omega)]
  unfold f_M_operand_51 f_M_operand_62 f_M_operand_76 f_M_operand_89 f_M_operand_103
  rw [if_neg (show ¬ nI 1 = (0 : Int32) by decide), if_pos (show nI 0 = (0 : Int32) from rfl), if_neg (show ¬ nI 1 = (0 : Int32) by decide), m4.2.1, if_pos (show nI (dep B) < (7 : Int32) from nI_lt (b := 7) hd7 (by decide)), m2, if_pos (show (0 : Int32) ≤ 0 by decide), if_neg (show ¬ nI 1 = (0 : Int32) by decide), show (22 : Int32) = nI 22 from rfl]
  refine pw_bind (pw_mono (M_hold m1.1 m4 (by omega) (by decide)) ?_)
  rintro g ⟨H2, s2⟩
  have H12 : hp_fr (S_psn m) h g := hp_fr_mo H2 (fun a k z => .inl z)
  have mg : MRP K ps m L T k (22 :: B) o u g := ⟨MTC_fr H12 (fun a k z => by unfold S_psn S_pil S_nte at z; omega) m1, h2_sn H12 m2, MTK_sn H12 m3, s2, OUT_fr H2 (fun a k z => by unfold S_pil at z; unfold S_nte; omega) m5, fun a ha => by
    rcases List.mem_cons.mp ha with y | y
    · omega
    · exact m6 a y⟩
  refine pw_bind (pw_mono (MRP_tk ok hT mg (tk_lt ok m3.1 (by omega) (by omega))) ?_)
  rintro g2 ⟨H3, mg2⟩
  refine pw_some (hG g2 (hp_fr_tr (hp_fr_tr Hf (sn_me H12)) H3) mg2 ((CN_w (by decide)).mpr ⟨by omega, ?_, ?_, ?_⟩))
  · rw [dep, if_pos (.inl rfl)]; omega
  · rw [List.length_cons, lead, if_pos rfl]; omega
  · rw [List.length_cons, dep, if_pos (.inl rfl)]; omega
theorem Bw_4 {K : TKS} {ps : Nat → Nat} {m L part w k u : Nat} {T : Nat → Nat} {B : List Nat} {o : List (Nat × Nat)} {h0 : HP} {Q : HP → Prop} (ok : TKO K) (hw : w < 2) (hc : (uc (t_k K k) = 6 ∧ t_k K k ≠ 40 ∧ (w = 0 → t_k K k ≠ 17)) ∨ (u = 60 ∧ (w = 0 → t_k K k ≠ 17)) ∨ (t_k K k = 40 ∧ dep B = 7) ∨ (w = 0 ∧ t_k K k = 17 ∧ dep B = 7)) (hE : REE K m h0 Q k) : RGO K ps m L T part h0 Q w k B o u := by
  intro h Hf hm hcn
  obtain ⟨m1, m2, m3, m4, m5, m6⟩ := id hm
  obtain ⟨n1, n2, n3, n4⟩ := (CN_w hw).mp hcn
  refine RG_w hw m2 ?_
  have bad : ∀ v2 v3, pw (f_M_operand_98 m (nI w) v2 v3 h) (fun r => pw (f_M_readPart_37 m (nI part) r.1 r.2) Q) := by
    intro v2 v3
    refine pw_mono (O_98 ok m3 m2) ?_
    rintro r ⟨H, he⟩
    exact RG_e he (hE r.2 (hp_fr_tr Hf (er_me H)) he)
  rw [O_19 ok m3 hw]
  unfold f_M_operand_51 f_M_operand_62 f_M_operand_76 f_M_operand_89
  rcases (show (w = 0 ∧ t_k K k = 17) ∨ ¬ (w = 0 ∧ t_k K k = 17) by omega) with zn | zn
  · have hu6 : uc (t_k K k) = 6 := by rw [zn.2]; rfl
    have hd : dep B = 7 := by omega
    rw [show (if w = 0 ∧ t_k K k = 17 then 1 else 0) = 1 from if_pos zn, show (if uc (t_k K k) < 6 ∨ t_k K k = 40 then 1 else 0) = 0 from if_neg (by omega), if_neg (show ¬ nI 1 = (0 : Int32) by decide), if_pos (show nI 0 = (0 : Int32) from rfl), if_neg (show ¬ nI 1 = (0 : Int32) by decide), m4.2.1, hd, if_neg (show ¬ nI 7 < (7 : Int32) by decide)]
    exact bad _ _
  · rw [show (if w = 0 ∧ t_k K k = 17 then 1 else 0) = 0 from if_neg zn, if_pos (show nI 0 = (0 : Int32) from rfl)]
    by_cases zo : uc (t_k K k) < 6 ∨ t_k K k = 40
    · rw [show (if uc (t_k K k) < 6 ∨ t_k K k = 40 then 1 else 0) = 1 from if_pos zo, if_neg (show ¬ nI 1 = (0 : Int32) by decide), if_neg (show ¬ nI 1 = (0 : Int32) by decide), m5.2.1]
      by_cases zu : u = 60
      · rw [if_pos (show nI u = (60 : Int32) by rw [zu]; rfl)]; exact bad _ _
      · have hk : t_k K k = 40 ∧ dep B = 7 := by omega
        rw [if_neg (show ¬ nI u = (60 : Int32) from fun z => zu ((nI_eq (b := 60) (by omega) (by decide)).mp z)), if_pos (show nI 0 = (0 : Int32) from rfl), if_pos (show hp_i h m 6 = (40 : Int32) from (rk_sg ok m3 (j := 40) (by omega)).mpr hk.1), m4.2.1, hk.2, if_neg (show ¬ nI 7 < (7 : Int32) by decide)]
        exact bad _ _
    · rw [show (if uc (t_k K k) < 6 ∨ t_k K k = 40 then 1 else 0) = 0 from if_neg zo, if_pos (show nI 0 = (0 : Int32) from rfl)]
      exact bad _ _
