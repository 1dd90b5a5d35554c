/-! one part of a rule, by both -/
def S_rp (m c : Nat) : Nat → Nat → Prop := fun a k => S_me m a k ∨ a = m + 14 ∧ k = c
def RPS (K : TKS) (ps : Nat → Nat) (m L : Nat) (T : Nat → Nat) (nu k : Nat) (o : List (Nat × Nat)) (u : Nat) (h : HP) : Prop := RT K ps m L T k h ∧ OUT m o u h ∧ hp_i h m 26 = nI nu
theorem ln_rp {m c : Nat} {h g : HP} (H : hp_fr (S_ln m) h g) : hp_fr (S_rp m c) h g := hp_fr_mo H (fun a k z => z.elim (fun y => .inl (.inl y)) (fun y => .inl (.inr (.inl y))))
theorem OUT_ln {m u : Nat} {o : List (Nat × Nat)} {h g : HP} (H : hp_fr (S_ln m) h g) (ho : OUT m o u h) : OUT m o u g := OUT_fr H (fun a k z => by unfold S_ln S_er S_tk at z; unfold S_nte; omega) ho
theorem M_want2 {K : TKS} {ps : Nat → Nat} {m L nu k j u : Nat} {T : Nat → Nat} {o : List (Nat × Nat)} {h : HP} (ok : TKO K) (hT : TOKS K ps m L T) (hr : RPS K ps m L T nu k o u h) (hj : j < 20) : pw (f_M_want m (lN (cst j)) h) (fun g => hp_fr (S_ln m) h g ∧ ((t_k K k = j ∧ RPS K ps m L T nu (k + 1) o u g) ∨ (t_k K k ≠ j ∧ MTC m L T g ∧ MER m (ec K k) (t_s K k) g))) := by
  obtain ⟨r1, r2, r3⟩ := hr
  unfold f_M_want
  rw [r1.2.1, if_pos (show (0 : Int32) ≤ 0 by decide), bn_o (M_word ok r1.2.2 hj)]
  dsimp only
  by_cases z : t_k K k = j
  · rw [if_pos z, if_neg (show ¬ nI 1 = (0 : Int32) by decide)]
    refine pw_bind (pw_mono (M_tok ok hT r1 (by omega) (by omega)) ?_)
    rintro g ⟨H, q⟩
    exact pw_some ⟨H, .inl ⟨z, q, OUT_ln H r2, by rw [hf_i H (by unfold S_ln S_er S_tk; omega)]; exact r3⟩⟩
  · rw [if_neg z, if_pos (show nI 0 = (0 : Int32) from rfl), show (2 : Int32) = nI 2 from rfl]
    refine pw_bind (pw_mono (M_wr ok r1 (by decide) (by decide)) ?_)
    rintro g ⟨H, q1, q2⟩
    exact pw_some ⟨H, .inr ⟨z, q1, q2⟩⟩
theorem M_wantE {m c p : Nat} {v : Int64} {h : HP} (he : MER m c p h) : f_M_want m v h = some h := by
  unfold f_M_want
  rw [if_neg (mer_n he).2]
theorem M_partE {m c p : Nat} {v : Int32} {h : HP} (he : MER m c p h) : f_M_readPart m v h = some h := by
  unfold f_M_readPart
  rw [if_neg (mer_n he).2]
theorem M_prt {K : TKS} {ps : Nat → Nat} {m L nu part k u : Nat} {T : Nat → Nat} {o : List (Nat × Nat)} {h : HP} {Q : HP → Prop} (hr : RPS K ps m L T nu k o u h) (hnu : nu < 16) (hp : part < 3) (hcn : CN 0 [] o u) (hG : ∀ h5, hp_fr (S_rp m (3 * nu + part)) h h5 → hp_i h5 (m + 14) (3 * nu + part) = nI o.length → MTC m L T h5 → RGO K ps m L T part h5 Q 0 k [] o u) : pw (f_M_readPart m (nI part) h) Q := by
  obtain ⟨⟨r1, r4, r5⟩, r2, r3⟩ := hr
  unfold f_M_readPart
  rw [r4, if_pos (show (0 : Int32) ≤ 0 by decide), mb_38 r1.1, r3, show (3 : Int32) = nI 3 from rfl, pk_mul, nI_add, mn_14 r1.1, if_pos (hp_in_nI (by omega) (by omega)), nI_clamp (by omega), r2.1]
  simp only [xx_lE]
  obtain ⟨h5, hh5⟩ : ∃ h5, hp_si (hp_si (hp_si h (m + 14) (3 * nu + part) (nI o.length)) m 45 0) m 46 0 = h5 := ⟨_, rfl⟩
  rw [hh5]
  have H5 : hp_fr (S_rp m (3 * nu + part)) h h5 := by rw [← hh5]; exact hf_si (hf_si (hf_si (hp_fr_rf h) (.inr ⟨rfl, rfl⟩)) (by unfold S_rp S_me S_pil; omega)) (by unfold S_rp S_me S_pil; omega)
  have H5' : hp_fr (fun a k => a = m + 14 ∨ a = m ∧ (k = 45 ∨ k = 46)) h h5 := by rw [← hh5]; exact hf_si (hf_si (hf_si (hp_fr_rf h) (.inl rfl)) (by omega)) (by omega)
  have c5 : MTC m L T h5 := MTC_fr H5' (fun a k z => by omega) r1
  refine hG h5 H5 ?_ c5 h5 (hp_fr_rf h5) ⟨c5, by rw [hf_i H5' (by omega)]; exact r4, MTK_fr H5' (fun a k z => by omega) r5, ⟨?_, ?_, fun j hj => absurd hj (Nat.not_lt_zero _)⟩, OUT_fr H5' (fun a k z => by unfold S_nte; omega) r2, fun a ha => absurd ha List.not_mem_nil⟩ hcn
  · rw [← hh5, hp_i_si, if_neg (by omega), hp_i_si, if_neg (by omega), hp_i_si, if_pos ⟨rfl, rfl⟩]
  · rw [← hh5, hp_i_si, if_neg (by omega), hp_i_si, if_pos ⟨rfl, rfl⟩]; rfl
  · rw [← hh5, hp_i_si, if_pos ⟨rfl, rfl⟩]; rfl
def S_ru (r pl c : Nat) : Nat → Nat → Prop := fun a k => S_xp r pl a k ∨ a = pl + 5 ∧ k = c
theorem R_endP {r pl a i n : Nat} {h : HP} (hs : RSH r pl h) (h6 : hp_i h pl 6 = nI a) (ha : a ≤ 16) (hi : i < 3) (h14 : hp_i h pl 14 = nI n) : pw (f_Pl_endPart pl (nI i) h) (fun g => hp_fr (fun b j => b = pl + 5 ∧ j = 3 * a + i) h g ∧ (a < 16 → hp_i g (pl + 5) (3 * a + i) = nI n)) := by
  have p12 : hp_r h pl 12 = some (pl + 5) := hs.2.2.2.2.2.2.2.2.2.2.2.2.2.1
  have n5 : hp_n h (pl + 5) = 48 := hs.2.2.2.2.2.2.2.2.2.2.2.2.2.2.2.2.2.2.2.2.2.1
  unfold f_Pl_endPart
  rw [h6, show (3 : Int32) = nI 3 from rfl, pk_mul, nI_add, Nat.mul_comm a 3, xx_lE, if_neg (nI_pos (by omega)), bn_o p12, n5]
  by_cases z : a = 16
  · rw [if_pos (show Int32.ofNat 48 ≤ nI (3 * a + i) from nI_le (a := 48) (by omega) (by omega))]
    exact pw_some ⟨hp_fr_rf h, fun y => by omega⟩
  · rw [if_neg (show ¬ Int32.ofNat 48 ≤ nI (3 * a + i) from nI_ge (b := 48) (by omega) (by decide)), bn_o p12, n5, if_pos (hp_in_nI (by omega) (by omega)), nI_clamp (by omega), xx_lE, h14]
    exact pw_some ⟨hf_si (hp_fr_rf h) ⟨rfl, rfl⟩, fun _ => by rw [hp_i_si, if_pos ⟨rfl, rfl⟩]⟩
theorem S_ruC {K : TKS} {r pl c : Nat} {h g : HP} (H : hp_fr (S_ru r pl c) h g) (hs : CTX K r pl h) : CTX K r pl g := CTX_fr H (fun a k z => by have := hs.1; unfold S_ru S_xp S_ra at z; omega) hs
theorem L_part {K : TKS} {ps : Nat → Nat} {r pl m L nu i k u : Nat} {T : Nat → Nat} {rl : Int32} {o : List (Nat × Nat)} {g : HP} (hT : TOKS K ps m L T) (hx : CTX K r pl g) (h6 : hp_i g pl 6 = nI nu) (hnu : nu < 16) (hi : i < 3) (hxe : XE K r pl o u k g) (hcn : CN 0 [] o u) (hv : ∀ j, j < o.length → VE (o.getD j (0, 0))) : pw (f_Rd_readRule_95 r rl (nI i) (nI (11 + i)) r g) (fun x => ∃ g', x = .inl (nI (i + 1), g') ∧ hp_fr (S_ru r pl (3 * nu + i)) g g' ∧
    ((∃ c p, DED r c p g' ∧ DLN pl g' ∧ ∀ h, RPS K ps m L T nu k o u h → pw ((f_M_want m (lN (cst (11 + i))) h).bind fun x => f_M_readPart m (nI i) x) (fun h' => hp_fr (S_rp m (3 * nu + i)) h h' ∧ MTC m L T h' ∧ MER m c p h')) ∨
     ∃ k' o' u', k < k' ∧ XE K r pl o' u' k' g' ∧ hp_i g' (pl + 5) (3 * nu + i) = nI o'.length ∧ CN 2 [] o' u' ∧ JJ o.length 2 [] o' ∧ (∃ e', o' = o ++ e') ∧ ∀ h, RPS K ps m L T nu k o u h → pw ((f_M_want m (lN (cst (11 + i))) h).bind fun x => f_M_readPart m (nI i) x) (fun h' => hp_fr (S_rp m (3 * nu + i)) h h' ∧ MTC m L T h' ∧ ((aft i (t_k K k') ∧ RPS K ps m L T nu k' o' u' h' ∧ hp_i h' (m + 14) (3 * nu + i) = nI o.length) ∨ (¬ aft i (t_k K k') ∧ MER m (ec K k') (t_s K k') h'))))) := by
  have hrp := hx.1
  have ok := hx.2.1
  have hol := (cn_len hcn).2
  have hJ0 : JJ o.length 0 [] o := ⟨Nat.le_refl _, by rw [Nat.sub_self]; rfl, fun n hn => by omega, hv⟩
  unfold f_Rd_readRule_95
  -- behind: the part's end is kept
  have fin : ∀ g1, hp_fr (S_xp r pl) g g1 → (∃ n, n ≤ 540 ∧ hp_i g1 pl 14 = nI n) → ∀ {Q : (Int32 × HP) ⊕ HP → Prop}, (∀ g' n, n ≤ 540 → hp_i g1 pl 14 = nI n → hp_fr (fun b j => b = pl + 5 ∧ j = 3 * nu + i) g1 g' → hp_i g' (pl + 5) (3 * nu + i) = nI n → Q (.inl (nI (i + 1), g'))) → pw ((hp_r g1 r 4).bind fun q_13 => (f_Pl_endPart q_13 (nI i) g1).bind fun x_14 => xx_l (nI i + (1 : Int32)) fun v2_15 => (some (.inl (v2_15, x_14)) : Option ((Int32 × HP) ⊕ HP))) Q := by
    intro g1 H1 ⟨n, n1, n2⟩ Q hQ
    have hx1 := S_xpC H1 hx
    rw [bn_o hx1.2.2.1.1]
    refine pw_bind (pw_mono (R_endP hx1.2.2.1 (by rw [hf_i H1 (by unfold S_xp S_ra; omega)]; exact h6) (by omega) hi n2) ?_)
    rintro g' ⟨H2, q⟩
    rw [xx_lE, nI_1]
    exact pw_some (hQ g' n n1 n2 H2 (q hnu))
  have ep_ru : ∀ {a b : HP}, hp_fr (fun b j => b = pl + 5 ∧ j = 3 * nu + i) a b → hp_fr (S_ru r pl (3 * nu + i)) a b := fun H => hp_fr_mo H (fun a k z => .inr z)
  have xp_ru : ∀ {a b : HP}, hp_fr (S_xp r pl) a b → hp_fr (S_ru r pl (3 * nu + i)) a b := fun H => hp_fr_mo H (fun a k z => .inl z)
  have ded : ∀ {c p : Nat} {a b : HP}, hp_fr (fun b j => b = pl + 5 ∧ j = 3 * nu + i) a b → DED r c p a → DED r c p b := fun H ⟨d1, d2, d3, d4, d5⟩ => ⟨d1, d2, by rw [hf_i H (by omega)]; exact d3, by rw [hf_i H (by omega)]; exact d4, by rw [hf_i H (by omega)]; exact d5⟩
  refine pw_bind (pw_mono (R_exp hx hxe.1 (t := 11 + i) (by omega) (by omega)) ?_)
  rintro g0 ⟨H0, v⟩
  have hx0 := S_raC H0 hx
  have c0 := CDE_ra hrp H0 hxe.2
  have D0 := CDE_D c0 hol
  -- refused ahead of the part
  have dead : ∀ kd, DED r (ec K kd) (t_s K kd) g0 → (∀ h, RPS K ps m L T nu k o u h → pw ((f_M_want m (lN (cst (11 + i))) h).bind fun x => f_M_readPart m (nI i) x) (fun h' => hp_fr (S_rp m (3 * nu + i)) h h' ∧ MTC m L T h' ∧ MER m (ec K kd) (t_s K kd) h')) → pw ((f_Rd_any r (0 : Int32) g0).bind fun x_12 => (hp_r x_12 r 4).bind fun q_13 => (f_Pl_endPart q_13 (nI i) x_12).bind fun x_14 => xx_l (nI i + (1 : Int32)) fun v2_15 => (some (.inl (v2_15, x_14)) : Option ((Int32 × HP) ⊕ HP))) (fun x => ∃ g', x = .inl (nI (i + 1), g') ∧ hp_fr (S_ru r pl (3 * nu + i)) g g' ∧
    ((∃ c p, DED r c p g' ∧ DLN pl g' ∧ ∀ h, RPS K ps m L T nu k o u h → pw ((f_M_want m (lN (cst (11 + i))) h).bind fun x => f_M_readPart m (nI i) x) (fun h' => hp_fr (S_rp m (3 * nu + i)) h h' ∧ MTC m L T h' ∧ MER m c p h')) ∨
     ∃ k' o' u', k < k' ∧ XE K r pl o' u' k' g' ∧ hp_i g' (pl + 5) (3 * nu + i) = nI o'.length ∧ CN 2 [] o' u' ∧ JJ o.length 2 [] o' ∧ (∃ e', o' = o ++ e') ∧ ∀ h, RPS K ps m L T nu k o u h → pw ((f_M_want m (lN (cst (11 + i))) h).bind fun x => f_M_readPart m (nI i) x) (fun h' => hp_fr (S_rp m (3 * nu + i)) h h' ∧ MTC m L T h' ∧ ((aft i (t_k K k') ∧ RPS K ps m L T nu k' o' u' h' ∧ hp_i h' (m + 14) (3 * nu + i) = nI o.length) ∨ (¬ aft i (t_k K k') ∧ MER m (ec K k') (t_s K k') h'))))) := by
    intro kd hd hM
    refine pw_bind (pw_mono (X_anyD _ _ g0 hx0 ⟨hd, D0⟩) ?_)
    rintro g1 ⟨H1, D1⟩
    refine fin g1 (hp_fr_tr (ra_xp H0) H1) D1.2 ?_
    intro g' n n1 n2 H2 n3
    exact ⟨g', rfl, hp_fr_tr (xp_ru (hp_fr_tr (ra_xp H0) H1)) (ep_ru H2), .inl ⟨_, _, ded H2 D1.1, ⟨n, n1, by rw [hf_i H2 (by omega)]; exact n2⟩, hM⟩⟩
  -- the reference at the word ahead of the part
  have wyes : t_k K k = 11 + i → ∀ {Q : HP → Prop} h, RPS K ps m L T nu k o u h → (∀ h1, hp_fr (S_ln m) h h1 → RPS K ps m L T nu (k + 1) o u h1 → pw (f_M_readPart m (nI i) h1) Q) → pw ((f_M_want m (lN (cst (11 + i))) h).bind fun x => f_M_readPart m (nI i) x) Q := by
    intro ht Q h hr hq
    refine pw_bind (pw_mono (M_want2 ok hT hr (by omega)) ?_)
    rintro h1 ⟨H, y⟩
    rcases y with ⟨_, y⟩ | ⟨y, _⟩
    · exact hq h1 H y
    · exact absurd ht y
  rcases v with ⟨v1, v2⟩ | ⟨v1, v2, v3, v4⟩ | ⟨v1, v2⟩
  · refine pw_bind (pw_mono (X_prt (part := i) hx0 ⟨v2, c0⟩ hcn hJ0) ?_)
    rintro g1 ⟨H1, z⟩
    have F1 := hp_fr_tr (ra_xp (pl := pl) H0) H1
    rcases z with ⟨k', y1, y2, y3⟩ | ⟨k', o', u', y1, y2, y3, y4, y5, y6⟩
    · refine fin g1 F1 y2.2 ?_
      intro g' n n1 n2 H2 n3
      refine ⟨g', rfl, hp_fr_tr (xp_ru F1) (ep_ru H2), .inl ⟨_, _, ded H2 y2.1, ⟨n, n1, by rw [hf_i H2 (by omega)]; exact n2⟩, fun h hr => ?_⟩⟩
      refine wyes v1 h hr (fun h1 Hh hr1 => ?_)
      refine M_prt hr1 hnu hi hcn (fun h5 H5 _ c5 => ?_)
      refine y3 _ _ (M_BW ok hT hi) (fun k2 e1 e2 h6' Hf he => ?_)
      rw [e1, e2] at he
      exact ⟨hp_fr_tr (hp_fr_tr (ln_rp Hh) H5) (hp_fr_mo Hf (fun a k z => .inl z)), MTC_me Hf (fun a k z => me_off z) he c5, he⟩
    · have hol' := (cn_len y3).2
      refine fin g1 F1 ⟨o'.length, hol', y2.2.1⟩ ?_
      intro g' n n1 n2 H2 n3
      have en : n = o'.length := by
        have := y2.2.1
        rw [n2] at this
        exact (nI_eq (by omega) (by omega)).mp this
      subst en
      have x' : XE K r pl o' u' k' g' := by
        obtain ⟨⟨d1, d2, d3, d4, d5⟩, d6⟩ := y2
        exact ⟨⟨d1, d2, by rw [hf_i H2 (by omega)]; exact d3, by rw [hf_i H2 (by omega), hf_i H2 (by omega)]; exact d4, by rw [hf_i H2 (by omega)]; exact d5⟩, CDE_fr H2 (fun a k z => by omega) d6⟩
      refine ⟨g', rfl, hp_fr_tr (xp_ru F1) (ep_ru H2), .inr ⟨k', o', u', by omega, x', n3, y3, y4, y5, fun h hr => ?_⟩⟩
      refine wyes v1 h hr (fun h1 Hh hr1 => ?_)
      refine M_prt hr1 hnu hi hcn (fun h5 H5 e14 c5 => ?_)
      refine y6 _ _ (M_BW ok hT hi) (fun p e he hc hF => ?_)
      by_cases ha : aft i (t_k K k')
      · refine Bw_8 ok ha (fun a ha' => (hF.1.1 a ha').2) (fun h7 H7 mr => ?_)
        refine ⟨hp_fr_tr (hp_fr_tr (ln_rp Hh) H5) (hp_fr_mo H7 (fun a k z => .inl z)), mr.1, .inl ⟨ha, ⟨⟨mr.1, mr.2.1, mr.2.2.1⟩, by rw [he]; exact mr.2.2.2.2.1, ?_⟩, ?_⟩⟩
        · rw [hf_i H7 (by unfold S_me S_er S_tk S_pil S_nte; omega), hf_i H5 (by unfold S_rp S_me S_er S_tk S_pil S_nte; omega)]; exact hr1.2.2
        · rw [hf_i H7 (by unfold S_me S_er S_tk S_pil S_nte; omega)]; exact e14
      · have := stuck (B := []) (M_BW (h0 := h5) (Q := fun h' => hp_fr (S_rp m (3 * nu + i)) h h' ∧ MTC m L T h' ∧ ((aft i (t_k K k') ∧ RPS K ps m L T nu k' o' u' h' ∧ hp_i h' (m + 14) (3 * nu + i) = nI o.length) ∨ (¬ aft i (t_k K k') ∧ MER m (ec K k') (t_s K k') h'))) ok hT hi) y2.1.1 hF (by rw [List.append_nil]; exact hc) (fun _ hm => by rw [List.append_nil] at hm; have := (hF.1.1 30 hm).2; omega) (fun z => absurd z ha) (fun h6' Hf he => ⟨hp_fr_tr (hp_fr_tr (ln_rp Hh) H5) (hp_fr_mo Hf (fun a k z => .inl z)), MTC_me Hf (fun a k z => me_off z) he c5, .inr ⟨ha, he⟩⟩)
        rw [List.append_nil] at this
        exact this
  · refine dead (k + 1) v4 (fun h hr => wyes v1 h hr (fun h1 Hh hr1 => ?_))
    refine M_prt hr1 hnu hi hcn (fun h5 H5 _ c5 => ?_)
    refine Bw_4 ok (by decide) (.inl ⟨by rw [v3]; rfl, by rw [v3]; decide, fun _ => by rw [v3]; decide⟩) (fun h6' Hf he => ?_)
    exact ⟨hp_fr_tr (hp_fr_tr (ln_rp Hh) H5) (hp_fr_mo Hf (fun a k z => .inl z)), MTC_me Hf (fun a k z => me_off z) he c5, he⟩
  · refine dead k v2 (fun h hr => ?_)
    refine pw_bind (pw_mono (M_want2 ok hT hr (by omega)) ?_)
    rintro h1 ⟨H, y⟩
    rcases y with ⟨y, _⟩ | ⟨_, y1, y2⟩
    · exact absurd y v1
    · rw [M_partE y2]
      exact pw_some ⟨ln_rp H, y1, y2⟩
