/-! behind a number: signs between, closing brackets, the end of a part -/
theorem M_aft1 {K : TKS} {ps : Nat → Nat} {m k part : Nat} {h : HP} (ok : TKO K) (hk : MTK K ps m k h) (ha : aft part (t_k K k)) : f_M_isAfter m (nI part) h = some (nI 1, h) := by
  unfold f_M_isAfter
  rw [show (7562612 : Int64) = lN (cst 12) from rfl, show (1752132708 : Int64) = lN (cst 13) from rfl, show (7561593 : Int64) = lN (cst 14) from rfl]
  rcases ha with ⟨rfl, h2⟩ | ⟨rfl, h2⟩ | ⟨rfl, h2⟩
  · rw [if_pos (show nI 0 = (0 : Int32) from rfl), bn_o (M_word ok hk (by decide)), if_pos h2]; rfl
  · rw [if_neg (show ¬ nI 1 = (0 : Int32) by decide), if_pos (show nI 1 = (1 : Int32) from rfl), bn_o (M_word ok hk (by decide)), if_pos h2]; rfl
  · rw [if_neg (show ¬ nI 2 = (0 : Int32) by decide), if_neg (show ¬ nI 2 = (1 : Int32) by decide), bn_o (M_word ok hk (by decide))]
    dsimp only
    rcases h2 with h2 | h2
    · rw [if_pos h2, if_neg (show ¬ nI 1 = (0 : Int32) by decide)]; rfl
    · rw [if_neg (show ¬ t_k K k = 14 by omega), if_pos (show nI 0 = (0 : Int32) from rfl), if_pos (show hp_i h m 6 = (59 : Int32) from (rk_sg ok hk (j := 59) (by omega)).mpr h2)]; rfl
theorem M_aft0 {K : TKS} {ps : Nat → Nat} {m k part : Nat} {h : HP} (ok : TKO K) (hk : MTK K ps m k h) (hp : part < 3) (ha : ¬ aft part (t_k K k)) : f_M_isAfter m (nI part) h = some (nI 0, h) := by
  unfold f_M_isAfter
  unfold aft at ha
  rw [show (7562612 : Int64) = lN (cst 12) from rfl, show (1752132708 : Int64) = lN (cst 13) from rfl, show (7561593 : Int64) = lN (cst 14) from rfl]
  rcases (show part = 0 ∨ part = 1 ∨ part = 2 by omega) with rfl | rfl | rfl
  · rw [if_pos (show nI 0 = (0 : Int32) from rfl), bn_o (M_word ok hk (by decide)), if_neg (show ¬ t_k K k = 12 by omega)]; rfl
  · rw [if_neg (show ¬ nI 1 = (0 : Int32) by decide), if_pos (show nI 1 = (1 : Int32) from rfl), bn_o (M_word ok hk (by decide)), if_neg (show ¬ t_k K k = 13 by omega)]; rfl
  · rw [if_neg (show ¬ nI 2 = (0 : Int32) by decide), if_neg (show ¬ nI 2 = (1 : Int32) by decide), bn_o (M_word ok hk (by decide))]
    dsimp only
    rw [if_neg (show ¬ t_k K k = 14 by omega), if_pos (show nI 0 = (0 : Int32) from rfl), if_neg (show ¬ hp_i h m 6 = (59 : Int32) from fun z => ha (.inr (.inr ⟨rfl, .inr ((rk_sg ok hk (j := 59) (by omega)).mp z)⟩)))]; rfl
theorem RG_2 {K : TKS} {ps : Nat → Nat} {m L part k u : Nat} {T : Nat → Nat} {B : List Nat} {o : List (Nat × Nat)} {h : HP} {Q : HP → Prop} (ok : TKO K) (hm : MRP K ps m L T k B o u h) (hp : part < 3) (hl : B.length ≤ 300) (ha : aft part (t_k K k) → 30 ∈ B) (hop : pw (f_M_sign m h) (fun r => pw (f_M_readPart_37 m (nI part) r.1 r.2) Q)) : pw (f_M_readPart_37 m (nI part) (nI 2) h) Q := by
  obtain ⟨m1, m2, m3, m4, m5, m6⟩ := hm
  unfold f_M_readPart_37
  refine pw_go ?_
  unfold f_M_readPart_37b f_M_readPart_64 f_M_readPart_81
  dsimp only
  rw [if_pos m2, if_pos (show nI 2 = (2 : Int32) from rfl)]
  have fin : pw ((f_M_sign m h).bind fun x_7 => (some (.inl (x_7.1, x_7.2)) : Option ((Int32 × HP) ⊕ HP))) (xx_L2 (fun s' => pw (xx_lp (fun s : (Int32 × HP) => f_M_readPart_37b m (nI part) s.1 s.2) s') Q) Q) := by
    refine pw_bind (pw_mono hop ?_)
    intro r hr
    exact pw_L rfl hr
  by_cases z : aft part (t_k K k)
  · rw [bn_o (M_aft1 ok m3 z), if_neg (show ¬ nI 1 = (0 : Int32) by decide), bn_o (M_isOpen m1.1 m4 hl m6), if_pos (ha z), if_neg (show ¬ nI 1 = (0 : Int32) by decide), if_pos (show nI 2 = (2 : Int32) from rfl)]
    exact fin
  · rw [bn_o (M_aft0 ok m3 hp z), if_pos (show nI 0 = (0 : Int32) from rfl), if_pos (show nI 2 = (2 : Int32) from rfl)]
    exact fin
theorem O_sg {K : TKS} {ps : Nat → Nat} {m k : Nat} {h : HP} (ok : TKO K) (hk : MTK K ps m k h) : f_M_sign m h = f_M_sign_115 m (if opc (t_k K k) = 0 then -1 else nI (opc (t_k K k))) h := by
  have s : ∀ j, (j = 40 ∨ j = 41 ∨ j = 42 ∨ j = 43 ∨ j = 45 ∨ j = 59 ∨ j = 60 ∨ j = 61 ∨ j = 62) → (hp_i h m 6 = nI j ↔ t_k K k = j) := fun j hj => rk_sg ok hk hj
  have w : ∀ j, j < 20 → ∀ {T : Type} (f : Int32 × HP → Option T), (f_M_isWord m (lN (cst j)) h).bind f = f (nI (if t_k K k = j then 1 else 0), h) := fun j hj T f => bn_o (M_word ok hk hj) f
  unfold f_M_sign
  rw [show (6385252 : Int64) = lN (cst 16) from rfl, show (28530 : Int64) = lN (cst 15) from rfl]
  generalize t_k K k = t at *
  have y : ∀ j, (j = 40 ∨ j = 41 ∨ j = 42 ∨ j = 43 ∨ j = 45 ∨ j = 59 ∨ j = 60 ∨ j = 61 ∨ j = 62) → t = j → hp_i h m 6 = nI j := fun j hj z => (s j hj).mpr z
  have n : ∀ j, (j = 40 ∨ j = 41 ∨ j = 42 ∨ j = 43 ∨ j = 45 ∨ j = 59 ∨ j = 60 ∨ j = 61 ∨ j = 62) → t ≠ j → ¬ hp_i h m 6 = nI j := fun j hj z q => z ((s j hj).mp q)
  by_cases z43 : t = 43
  · rw [if_pos (show hp_i h m 6 = (43 : Int32) from y 43 (by omega) z43), z43]; rfl
  rw [if_neg (show ¬ hp_i h m 6 = (43 : Int32) from n 43 (by omega) z43)]
  by_cases z45 : t = 45
  · rw [if_pos (show hp_i h m 6 = (45 : Int32) from y 45 (by omega) z45), z45]; rfl
  rw [if_neg (show ¬ hp_i h m 6 = (45 : Int32) from n 45 (by omega) z45)]
  by_cases z42 : t = 42
  · rw [if_pos (show hp_i h m 6 = (42 : Int32) from y 42 (by omega) z42), z42]; rfl
  rw [if_neg (show ¬ hp_i h m 6 = (42 : Int32) from n 42 (by omega) z42)]
  by_cases z61 : t = 61
  · rw [if_pos (show hp_i h m 6 = (61 : Int32) from y 61 (by omega) z61), z61]; rfl
  rw [if_neg (show ¬ hp_i h m 6 = (61 : Int32) from n 61 (by omega) z61)]
  by_cases z60 : t = 60
  · rw [if_pos (show hp_i h m 6 = (60 : Int32) from y 60 (by omega) z60), z60]; rfl
  rw [if_neg (show ¬ hp_i h m 6 = (60 : Int32) from n 60 (by omega) z60)]
  by_cases z62 : t = 62
  · rw [if_pos (show hp_i h m 6 = (62 : Int32) from y 62 (by omega) z62), z62]; rfl
  rw [if_neg (show ¬ hp_i h m 6 = (62 : Int32) from n 62 (by omega) z62), w 16 (by decide)]
  dsimp only
  by_cases z16 : t = 16
  · rw [if_pos z16, if_neg (show ¬ nI 1 = (0 : Int32) by decide), z16]; rfl
  rw [if_neg z16, if_pos (show nI 0 = (0 : Int32) from rfl), w 15 (by decide)]
  dsimp only
  by_cases z15 : t = 15
  · rw [if_pos z15, if_neg (show ¬ nI 1 = (0 : Int32) by decide), z15]; rfl
  rw [if_neg z15, if_pos (show nI 0 = (0 : Int32) from rfl)]
  unfold opc
  rw [if_neg z43, if_neg z45, if_neg z42, if_neg z61, if_neg z60, if_neg z62, if_neg z16, if_neg z15, if_pos rfl]
theorem opc_rng {t : Nat} (h : opc t ≠ 0) : 20 ≤ opc t ∧ opc t ≤ 28 ∧ opc t ≠ 22 ∧ t ≠ 41 ∧ t ≠ 22 ∧ t ≠ 23 ∧ t ≠ 12 ∧ t ≠ 13 ∧ t ≠ 14 ∧ t ≠ 59 := by
  unfold opc at *
  repeat' split
  all_goals first | omega | (exfalso; apply h; simp_all)
def rnk (c : Nat) : Nat := if c = 27 then 26 else if c = 24 then 23 else if c = 25 then 23 else c
theorem M_rank {c : Nat} {h : HP} (hc : c < 64) : f_M_rank (nI c) h = some (nI (rnk c), h) := by
  have n : ∀ j : Nat, j < 2 ^ 31 → c ≠ j → ¬ nI c = nI j := fun j hj z y => z ((nI_eq (by omega) hj).mp y)
  unfold f_M_rank rnk
  by_cases z27 : c = 27
  · rw [if_pos (show nI c = (27 : Int32) by rw [z27]; rfl), if_pos z27]; rfl
  rw [if_neg (show ¬ nI c = (27 : Int32) from n 27 (by decide) z27), if_neg z27]
  by_cases z24 : c = 24
  · rw [if_pos (show nI c = (24 : Int32) by rw [z24]; rfl), if_pos z24]; rfl
  rw [if_neg (show ¬ nI c = (24 : Int32) from n 24 (by decide) z24), if_neg z24]
  by_cases z25 : c = 25
  · rw [if_pos (show nI c = (25 : Int32) by rw [z25]; rfl), if_pos z25]; rfl
  rw [if_neg (show ¬ nI c = (25 : Int32) from n 25 (by decide) z25), if_neg z25]
/-- the sign is held, and on -/
theorem O_217 {K : TKS} {ps : Nat → Nat} {m L part k u c : Nat} {T : Nat → Nat} {B : List Nat} {o : List (Nat × Nat)} {h0 h : HP} {Q : HP → Prop} (ok : TKO K) (hT : TOKS K ps m L T) (hop : opc (t_k K k) = c) (hc : c ≠ 0) (Hf : hp_fr (S_me m) h0 h) (hm : MRP K ps m L T k B o u h) (hcn : CN (if c ≤ 21 then 0 else 1) (c :: B) o u) (hG : RGO K ps m L T part h0 Q (if c ≤ 21 then 0 else 1) (k + 1) (c :: B) o u) : pw (f_M_sign_217 m (nI c) h) (fun r => pw (f_M_readPart_37 m (nI part) r.1 r.2) Q) := by
  obtain ⟨m1, m2, m3, m4, m5, m6⟩ := id hm
  rw [← hop] at hc
  obtain ⟨g1, g2, g3, g4, g5, g6, _⟩ := opc_rng hc
  rw [hop] at g1 g2 g3
  obtain ⟨l1, l2⟩ := cn_len hcn
  rw [List.length_cons] at l1
  unfold f_M_sign_217
  rw [m2, if_pos (show (0 : Int32) ≤ 0 by decide)]
  refine pw_bind (pw_mono (M_hold m1.1 m4 (by omega) (by omega)) ?_)
  rintro g ⟨H2, s2⟩
  have H12 : hp_fr (S_psn m) h g := hp_fr_mo H2 (fun a k z => .inl z)
  have mg : MRP K ps m L T k (c :: B) o u g := ⟨MTC_fr H12 (fun a k z => by unfold S_psn S_pil S_nte at z; omega) m1, h2_sn H12 m2, MTK_sn H12 m3, s2, OUT_fr H2 (fun a k z => by unfold S_pil at z; unfold S_nte; omega) m5, fun a ha => by
    rcases List.mem_cons.mp ha with y | y
    · omega
    · exact m6 a y⟩
  refine pw_bind (pw_mono (MRP_tk ok hT mg (tk_lt ok m3.1 g5 g6)) ?_)
  rintro g2' ⟨H3, mg2⟩
  have hg := hG g2' (hp_fr_tr (hp_fr_tr Hf (sn_me H12)) H3) mg2 hcn
  have n : ∀ j : Nat, j < 2 ^ 31 → c ≠ j → ¬ nI c = nI j := fun j hj z y => z ((nI_eq (by omega) hj).mp y)
  by_cases z21 : c = 21
  · rw [if_pos (show nI c = (21 : Int32) by rw [z21]; rfl)]
    rw [if_pos (show c ≤ 21 by omega)] at hg
    exact pw_some hg
  rw [if_neg (show ¬ nI c = (21 : Int32) from n 21 (by decide) z21)]
  by_cases z20 : c = 20
  · rw [if_pos (show nI c = (20 : Int32) by rw [z20]; rfl)]
    rw [if_pos (show c ≤ 21 by omega)] at hg
    exact pw_some hg
  rw [if_neg (show ¬ nI c = (20 : Int32) from n 20 (by decide) z20)]
  rw [if_neg (show ¬ c ≤ 21 by omega)] at hg
  exact pw_some hg
theorem cn_bin {c u : Nat} {p B : List Nat} {o : List (Nat × Nat)} (h22 : c ≠ 22) (h30 : c ≠ 30) (hcn : CN 2 (p ++ B) o u) : CN (if c ≤ 21 then 0 else 1) (c :: B) (o ++ cz p) u := by
  obtain ⟨n1, n2, n3, n4⟩ := CN_2.mp hcn
  simp only [List.length_append] at n3 n4
  rw [dep_ap] at n2 n4
  have hdl := dep_le p
  refine (CN_w (by split <;> decide)).mpr ⟨n1, ?_, ?_, ?_⟩
  · rw [dep, if_neg (by omega)]; omega
  · rw [lead, if_neg (by omega)]; simp only [List.length_append, cz_len, List.length_cons]; omega
  · rw [dep, if_neg (by omega), List.length_cons]; omega
theorem MRP_se {K : TKS} {ps : Nat → Nat} {m L k u v : Nat} {T : Nat → Nat} {p B : List Nat} {o : List (Nat × Nat)} {h : HP} (hm : MRP K ps m L T k (p ++ B) o u h) (hcn : CN 2 (p ++ B) o u) (hB : BSE v B) (hv : v < 64) (hp : ∀ a, a ∈ p → v ≤ a ∧ a ≤ 28) : pw (f_M_settle m (nI v) h) (fun g => hp_fr (S_psn m) h g ∧ MRP K ps m L T k B (o ++ cz p) u g) := by
  obtain ⟨m1, m2, m3, m4, m5, m6⟩ := hm
  obtain ⟨l1, l2⟩ := cn_len hcn
  obtain ⟨n1, n2, n3, n4⟩ := CN_2.mp hcn
  rw [List.length_append] at l1 n3
  refine pw_mono (M_settle hB hv p o h m1.1 m4 m5 hp (fun a ha => m6 a (List.mem_append_right _ ha)) (by omega) (by omega)) ?_
  rintro g ⟨H, s, q⟩
  exact ⟨H, MTC_fr H (fun a k z => by unfold S_psn S_pil S_nte at z; omega) m1, h2_sn H m2, MTK_sn H m3, s, q, fun a ha => m6 a (List.mem_append_right _ ha)⟩
theorem Bw_5 {K : TKS} {ps : Nat → Nat} {m L part k u c : Nat} {T : Nat → Nat} {p B : List Nat} {o : List (Nat × Nat)} {h0 : HP} {Q : HP → Prop} (ok : TKO K) (hT : TOKS K ps m L T) (hpt : part < 3) (hop : opc (t_k K k) = c) (hc : c ≠ 0) (hp : ∀ a, a ∈ p → lo c ≤ a ∧ a ≤ 28) (hB : BSE (lo c) B) (hB2 : 23 ≤ c → c ≤ 25 → BSE 23 B) (hG : RGO K ps m L T part h0 Q (if c ≤ 21 then 0 else 1) (k + 1) (c :: B) (o ++ cz p) u) : RGO K ps m L T part h0 Q 2 k (p ++ B) o u := by
  intro h Hf hm hcn
  obtain ⟨m1, m2, m3, m4, m5, m6⟩ := id hm
  have hc' := hc
  rw [← hop] at hc'
  obtain ⟨g1, g2, g3, g4, g5, g6, g7, g8, g9, g10⟩ := opc_rng hc'
  rw [hop] at g1 g2 g3
  obtain ⟨l1, l2⟩ := cn_len hcn
  have l1' := l1
  rw [List.length_append] at l1'
  have cn' := cn_bin (c := c) g3 (by omega) hcn
  refine RG_2 ok hm hpt (by omega) (fun z => by unfold aft at z; omega) ?_
  rw [O_sg ok m3, hop, if_neg hc]
  unfold f_M_sign_115 f_M_sign_163
  rw [if_neg (show ¬ hp_i h m 6 = (41 : Int32) from fun z => g4 ((rk_sg ok m3 (j := 41) (by omega)).mp z)), if_pos (show (0 : Int32) ≤ nI c from nI_le (a := 0) (by omega) (by omega)), bn_o (M_rank (by omega))]
  dsimp only
  by_cases zc : 23 ≤ c ∧ c ≤ 25
  · have er : rnk c = 23 := by unfold rnk; (repeat' split) <;> omega
    have el : lo c = 26 := by unfold lo; rw [if_neg (by omega), if_pos (by omega)]
    rw [el] at hp hB
    rw [er, if_pos (show nI 23 = (23 : Int32) from rfl), show (26 : Int32) = nI 26 from rfl]
    refine pw_bind (pw_mono (MRP_se hm hcn hB (by decide) hp) ?_)
    rintro g ⟨H, mg⟩
    have hb23 := hB2 zc.1 zc.2
    have hh : B.headD 30 ≤ 30 ∧ rnk (B.headD 30) ≠ 23 := by
      cases B with
      | nil => exact ⟨by decide, by decide⟩
      | cons b B =>
        have := hb23 b rfl
        show b ≤ 30 ∧ rnk b ≠ 23
        refine ⟨by omega, ?_⟩
        unfold rnk
        (repeat' split) <;> omega
    have hrl : rnk (B.headD 30) < 64 := by unfold rnk; (repeat' split) <;> omega
    rw [bn_o (M_upper mg.1.1 mg.2.2.2.1 (by omega)), bn_o (M_rank (by omega))]
    dsimp only
    rw [if_neg (show ¬ nI (rnk (B.headD 30)) = (23 : Int32) from fun z => hh.2 ((nI_eq (b := 23) (by omega) (by decide)).mp z))]
    exact O_217 ok hT hop hc (hp_fr_tr Hf (sn_me H)) mg cn' hG
  · have er : rnk c = lo c := by unfold rnk lo; (repeat' split) <;> omega
    have hl : lo c ≤ 28 ∧ lo c ≠ 23 := by unfold lo; (repeat' split) <;> omega
    rw [er, if_neg (show ¬ nI (lo c) = (23 : Int32) from fun z => hl.2 ((nI_eq (b := 23) (by omega) (by decide)).mp z)), bn_o (M_rank (by omega))]
    dsimp only
    rw [er]
    refine pw_bind (pw_mono (MRP_se hm hcn hB (by omega) hp) ?_)
    rintro g ⟨H, mg⟩
    exact O_217 ok hT hop hc (hp_fr_tr Hf (sn_me H)) mg cn' hG
theorem Bw_6 {K : TKS} {ps : Nat → Nat} {m L part k u : Nat} {T : Nat → Nat} {p B : List Nat} {o : List (Nat × Nat)} {h0 : HP} {Q : HP → Prop} (ok : TKO K) (hT : TOKS K ps m L T) (hpt : part < 3) (h41 : t_k K k = 41) (hp : ∀ a, a ∈ p → a ≤ 28) (hG : RGO K ps m L T part h0 Q 2 (k + 1) B (o ++ cz p) u) : RGO K ps m L T part h0 Q 2 k (p ++ 30 :: B) o u := by
  intro h Hf hm hcn
  obtain ⟨m1, m2, m3, m4, m5, m6⟩ := id hm
  obtain ⟨l1, l2⟩ := cn_len hcn
  obtain ⟨n1, n2, n3, n4⟩ := CN_2.mp hcn
  simp only [List.length_append, List.length_cons] at n3 n4 l1
  rw [dep_ap, dep, if_pos (.inr rfl)] at n2 n4
  have hdl := dep_le p
  refine RG_2 ok hm hpt (by simp only [List.length_append, List.length_cons]; omega) (fun z => by unfold aft at z; omega) ?_
  rw [O_sg ok m3]
  unfold f_M_sign_115
  rw [if_pos (show hp_i h m 6 = (41 : Int32) from (rk_sg ok m3 (j := 41) (by omega)).mpr h41), bn_o (M_isOpen m1.1 m4 (by simp only [List.length_append, List.length_cons]; omega) m6), if_pos (List.mem_append_right _ (List.mem_cons_self ..)), if_neg (show ¬ nI 1 = (0 : Int32) by decide), show (0 : Int32) = nI 0 from rfl]
  refine pw_bind (pw_mono (MRP_se hm hcn (fun c hc => .inl (by rw [List.head?_cons] at hc; exact (Option.some.inj hc).symm)) (by decide) (fun a ha => ⟨Nat.zero_le _, hp a ha⟩)) ?_)
  rintro g ⟨H, q1, q2, q3, q4, q5, q6⟩
  rw [q4.1, List.length_cons, sub1 (by omega), show B.length + 1 - 1 = B.length by omega, xx_lE]
  have e46 : hp_i (hp_si g m 45 (nI B.length)) m 46 = nI (dep (30 :: B)) := by rw [hp_i_si, if_neg (by omega)]; exact q4.2.1
  rw [e46, dep, if_pos (.inr rfl), sub1 (by omega), show 1 + dep B - 1 = dep B by omega, xx_lE]
  obtain ⟨g2, hg2⟩ : ∃ g2, hp_si (hp_si g m 45 (nI B.length)) m 46 (nI (dep B)) = g2 := ⟨_, rfl⟩
  rw [hg2]
  have H2 : hp_fr (S_pil m) g g2 := by rw [← hg2]; exact hf_si (hf_si (hp_fr_rf g) (by unfold S_pil; omega)) (by unfold S_pil; omega)
  have H2' : hp_fr (S_psn m) g g2 := hp_fr_mo H2 (fun a k z => .inl z)
  have sg : STK m B g2 := by
    refine ⟨by rw [← hg2, hp_i_si, if_neg (by omega), hp_i_si, if_pos ⟨rfl, rfl⟩], by rw [← hg2, hp_i_si, if_pos ⟨rfl, rfl⟩], fun j hj => ?_⟩
    rw [← hg2, hp_i_si, if_neg (by omega), hp_i_si, if_neg (by omega), q4.2.2 j (by rw [List.length_cons]; omega), List.reverse_cons, gd_l (by rw [List.length_reverse]; omega)]
  have mg : MRP K ps m L T k B (o ++ cz p) u g2 := ⟨MTC_fr H2' (fun a k z => by unfold S_psn S_pil S_nte at z; omega) q1, h2_sn H2' q2, MTK_sn H2' q3, sg, OUT_fr H2 (fun a k z => by unfold S_pil at z; unfold S_nte; omega) q5, fun a ha => q6 a (List.mem_cons_of_mem _ ha)⟩
  refine pw_bind (pw_mono (MRP_tk ok hT mg (tk_lt ok m3.1 (by omega) (by omega))) ?_)
  rintro g3 ⟨H3, mg2⟩
  refine pw_some (hG g3 (hp_fr_tr (hp_fr_tr (hp_fr_tr Hf (sn_me H)) (sn_me H2')) H3) mg2 (CN_2.mpr ⟨n1, by omega, ?_, by omega⟩))
  simp only [List.length_append, cz_len]; omega
theorem Bw_7 {K : TKS} {ps : Nat → Nat} {m L part k u : Nat} {T : Nat → Nat} {B : List Nat} {o : List (Nat × Nat)} {h0 : HP} {Q : HP → Prop} (ok : TKO K) (hpt : part < 3) (hc : (opc (t_k K k) = 0 ∧ (t_k K k = 41 → 30 ∉ B) ∧ (aft part (t_k K k) → 30 ∈ B)) ∨ ((23 ≤ opc (t_k K k) ∧ opc (t_k K k) ≤ 25) ∧ cmt B)) (hE : REE K m h0 Q k) : RGO K ps m L T part h0 Q 2 k B o u := by
  intro h Hf hm hcn
  obtain ⟨m1, m2, m3, m4, m5, m6⟩ := id hm
  obtain ⟨l1, l2⟩ := cn_len hcn
  rcases hc with ⟨c1, c2, c3⟩ | ⟨c1, p1, c, p2, rfl, c3, c4⟩
  · refine RG_2 ok hm hpt (by omega) c3 ?_
    rw [O_sg ok m3, if_pos c1]
    have bad : pw (f_M_sign_163 m (-1 : Int32) h) (fun r => pw (f_M_readPart_37 m (nI part) r.1 r.2) Q) := by
      unfold f_M_sign_163
      rw [if_neg (show ¬ (0 : Int32) ≤ -1 by decide), show (2 : Int32) = nI 2 from rfl]
      refine pw_bind (pw_mono (M_wrong ok m3 m2 (by decide) (by decide)) ?_)
      rintro g ⟨H, he⟩
      exact pw_some (RG_e he (hE g (hp_fr_tr Hf (er_me H)) he))
    unfold f_M_sign_115
    by_cases z : t_k K k = 41
    · rw [if_pos (show hp_i h m 6 = (41 : Int32) from (rk_sg ok m3 (j := 41) (by omega)).mpr z), bn_o (M_isOpen m1.1 m4 (by omega) m6), if_neg (c2 z), if_pos (show nI 0 = (0 : Int32) from rfl)]
      exact bad
    · rw [if_neg (show ¬ hp_i h m 6 = (41 : Int32) from fun y => z ((rk_sg ok m3 (j := 41) (by omega)).mp y))]
      exact bad
  · have hc' : opc (t_k K k) ≠ 0 := by omega
    obtain ⟨g1, g2, g3, g4, g5, g6, g7, g8, g9, g10⟩ := opc_rng hc'
    refine RG_2 ok hm hpt (by omega) (fun z => by unfold aft at z; omega) ?_
    rw [O_sg ok m3, if_neg hc']
    unfold f_M_sign_115 f_M_sign_163
    have er : rnk (opc (t_k K k)) = 23 := by unfold rnk; (repeat' split) <;> omega
    have er2 : rnk c = 23 := by unfold rnk; (repeat' split) <;> omega
    rw [if_neg (show ¬ hp_i h m 6 = (41 : Int32) from fun z => g4 ((rk_sg ok m3 (j := 41) (by omega)).mp z)), if_pos (show (0 : Int32) ≤ nI (opc (t_k K k)) from nI_le (a := 0) (by omega) (by omega)), bn_o (M_rank (by omega))]
    dsimp only
    rw [er, if_pos (show nI 23 = (23 : Int32) from rfl), show (26 : Int32) = nI 26 from rfl]
    refine pw_bind (pw_mono (MRP_se hm hcn (fun a ha => by rw [List.head?_cons] at ha; have := Option.some.inj ha; omega) (by decide) c3) ?_)
    rintro g ⟨H, mg⟩
    simp only [List.length_append, List.length_cons] at l1
    rw [bn_o (M_upper mg.1.1 mg.2.2.2.1 (by rw [List.length_cons]; omega)), show (c :: p2).headD 30 = c from rfl, bn_o (M_rank (by omega))]
    dsimp only
    rw [er2, if_pos (show nI 23 = (23 : Int32) from rfl), show (2 : Int32) = nI 2 from rfl]
    refine pw_bind (pw_mono (M_wrong ok mg.2.2.1 mg.2.1 (by decide) (by decide)) ?_)
    rintro g3 ⟨H3, he⟩
    unfold f_M_sign_217
    rw [he.2.2.1, if_neg (nI_nle he.1 (by have := he.2.1; omega))]
    exact pw_some (RG_e he (hE g3 (hp_fr_tr (hp_fr_tr Hf (sn_me H)) (er_me H3)) he))
theorem M_BW {K : TKS} {ps : Nat → Nat} {m L part : Nat} {T : Nat → Nat} {h0 : HP} {Q : HP → Prop} (ok : TKO K) (hT : TOKS K ps m L T) (hpt : part < 3) : BW K part (RGO K ps m L T part h0 Q) (REE K m h0 Q) :=
  ⟨fun w k B o u hw _ hu h60 _ hG => Bw_1 ok hT hw hu h60 hG, fun w k B o u hw _ h40 h60 hd _ hG => Bw_2 ok hT hw h40 h60 hd hG, fun k B o u _ h17 hd _ hG => Bw_3 ok hT h17 hd hG, fun w k B o u hw _ _ hc hE => Bw_4 ok hw hc hE, fun k p B o u c _ hop hc hp hB hB2 _ hG => Bw_5 ok hT hpt hop hc hp hB hB2 hG, fun k p B o u _ h41 hp _ hG => Bw_6 ok hT hpt h41 (fun a ha => (hp a ha).2) hG, fun k B o u _ _ hc hE => Bw_7 ok hpt hc hE⟩
/-- the end of a part -/
theorem Bw_8 {K : TKS} {ps : Nat → Nat} {m L part k u : Nat} {T : Nat → Nat} {B : List Nat} {o : List (Nat × Nat)} {h0 : HP} {Q : HP → Prop} (ok : TKO K) (ha : aft part (t_k K k)) (hB : ∀ a, a ∈ B → a ≤ 28) (hQ : ∀ h, hp_fr (S_me m) h0 h → MRP K ps m L T k [] (o ++ cz B) u h → Q h) : RGO K ps m L T part h0 Q 2 k B o u := by
  intro h Hf hm hcn
  obtain ⟨m1, m2, m3, m4, m5, m6⟩ := id hm
  obtain ⟨l1, l2⟩ := cn_len hcn
  have n30 : 30 ∉ B := fun z => by have := hB 30 z; omega
  unfold f_M_readPart_37
  refine pw_go ?_
  unfold f_M_readPart_37b f_M_readPart_85
  dsimp only
  rw [if_pos m2, if_pos (show nI 2 = (2 : Int32) from rfl), bn_o (M_aft1 ok m3 ha), if_neg (show ¬ nI 1 = (0 : Int32) by decide), bn_o (M_isOpen m1.1 m4 (by omega) m6), if_neg n30, if_pos (show nI 0 = (0 : Int32) from rfl), if_pos m2, show (0 : Int32) = nI 0 from rfl]
  refine pw_mapR (pw_bind (pw_mono (MRP_se (p := B) (B := []) (by rw [List.append_nil]; exact hm) (by rw [List.append_nil]; exact hcn) (fun c hc => by cases hc) (by decide) (fun a ha => ⟨Nat.zero_le _, hB a ha⟩)) ?_))
  rintro g ⟨H, mg⟩
  exact pw_some (hQ g (hp_fr_tr Hf (sn_me H)) mg)
