/-! a rule's three parts, one behind the other -/
theorem L_partD {K : TKS} {r pl nu i c p : Nat} {rl : Int32} {g : HP} (hx : CTX K r pl g) (h6 : hp_i g pl 6 = nI nu) (hnu : nu < 16) (hi : i < 3) (hd : DED r c p g) (hl : DLN pl g) : pw (f_Rd_readRule_95 r rl (nI i) (nI (11 + i)) r g) (fun x => ∃ g', x = .inl (nI (i + 1), g') ∧ hp_fr (S_ru r pl (3 * nu + i)) g g' ∧ DED r c p g' ∧ DLN pl g') := by
  have hrp := hx.1
  unfold f_Rd_readRule_95
  refine pw_bind (pw_mono (R_expD (by omega) (by omega) hd) ?_)
  rintro g0 ⟨H0, D0⟩
  have hx0 := S_raC H0 hx
  refine pw_bind (pw_mono (X_anyD _ _ g0 hx0 ⟨D0, DLN_fr H0 (by unfold S_ra; omega) hl⟩) ?_)
  rintro g1 ⟨H1, D1⟩
  have F1 := hp_fr_tr (ra_xp (pl := pl) H0) H1
  have hx1 := S_xpC F1 hx
  obtain ⟨n, n1, n2⟩ := D1.2
  rw [bn_o hx1.2.2.1.1]
  refine pw_bind (pw_mono (R_endP hx1.2.2.1 (by rw [hf_i F1 (by unfold S_xp S_ra; omega)]; exact h6) (by omega) hi n2) ?_)
  rintro g' ⟨H2, _⟩
  rw [xx_lE, nI_1]
  exact pw_some ⟨g', rfl, hp_fr_tr (hp_fr_mo F1 (fun a k z => .inl z)) (hp_fr_mo H2 (fun a k z => .inr z)), DED_fr H2 (fun j hj => by omega) D1.1, ⟨n, n1, by rw [hf_i H2 (by omega)]; exact n2⟩⟩
theorem L_partF {K : TKS} {r pl nu i k n : Nat} {rl : Int32} {g : HP} (hx : CTX K r pl g) (h6 : hp_i g pl 6 = nI nu) (hnu : nu < 16) (hi : i < 3) (ha : ALV K r k g) (ht : t_k K k ≠ 11 + i) (hl : DLN pl g) : pw (f_Rd_readRule_95 r rl (nI i) (nI (11 + i)) r g) (fun x => ∃ g', x = .inl (nI (i + 1), g') ∧ hp_fr (S_ru r pl (3 * nu + i)) g g' ∧ DED r (ec K k) (t_s K k) g' ∧ DLN pl g') := by
  have hrp := hx.1
  unfold f_Rd_readRule_95
  refine pw_bind (pw_mono (R_exp hx ha (t := 11 + i) (by omega) (by omega)) ?_)
  rintro g0 ⟨H0, v⟩
  have D0 : DED r (ec K k) (t_s K k) g0 := by
    rcases v with ⟨v1, _⟩ | ⟨v1, _⟩ | ⟨_, v2⟩
    · exact absurd v1 ht
    · exact absurd v1 ht
    · exact v2
  have hx0 := S_raC H0 hx
  refine pw_bind (pw_mono (X_anyD _ _ g0 hx0 ⟨D0, DLN_fr H0 (by unfold S_ra; omega) hl⟩) ?_)
  rintro g1 ⟨H1, D1⟩
  have F1 := hp_fr_tr (ra_xp (pl := pl) H0) H1
  have hx1 := S_xpC F1 hx
  obtain ⟨n, n1, n2⟩ := D1.2
  rw [bn_o hx1.2.2.1.1]
  refine pw_bind (pw_mono (R_endP hx1.2.2.1 (by rw [hf_i F1 (by unfold S_xp S_ra; omega)]; exact h6) (by omega) hi n2) ?_)
  rintro g' ⟨H2, _⟩
  rw [xx_lE, nI_1]
  exact pw_some ⟨g', rfl, hp_fr_tr (hp_fr_mo F1 (fun a k z => .inl z)) (hp_fr_mo H2 (fun a k z => .inr z)), DED_fr H2 (fun j hj => by omega) D1.1, ⟨n, n1, by rw [hf_i H2 (by omega)]; exact n2⟩⟩
noncomputable def wpp (m i : Nat) (h : HP) : Option HP := (f_M_want m (lN (cst (11 + i))) h).bind fun x => f_M_readPart m (nI i) x
noncomputable def grp (m : Nat) (h : HP) : Option HP := (wpp m 0 h).bind fun a => (wpp m 1 a).bind fun b => wpp m 2 b
theorem wppE {m i c p : Nat} {h : HP} (he : MER m c p h) : wpp m i h = some h := by
  unfold wpp
  rw [bn_o (M_wantE he)]; exact M_partE he
def S_rr (r pl nu : Nat) : Nat → Nat → Prop := fun a k => S_xp r pl a k ∨ a = pl + 5 ∧ 3 * nu ≤ k ∧ k < 3 * nu + 3
def S_rpp (m nu : Nat) : Nat → Nat → Prop := fun a k => S_me m a k ∨ a = m + 14 ∧ 3 * nu ≤ k ∧ k < 3 * nu + 3
theorem ru_rr {r pl nu i : Nat} {h g : HP} (hi : i < 3) (H : hp_fr (S_ru r pl (3 * nu + i)) h g) : hp_fr (S_rr r pl nu) h g := hp_fr_mo H (fun a k z => z.elim .inl (fun y => .inr (by omega)))
theorem rp_rpp {m nu i : Nat} {h g : HP} (hi : i < 3) (H : hp_fr (S_rp m (3 * nu + i)) h g) : hp_fr (S_rpp m nu) h g := hp_fr_mo H (fun a k z => z.elim .inl (fun y => .inr (by omega)))
theorem S_rrC {K : TKS} {r pl nu : Nat} {h g : HP} (H : hp_fr (S_rr r pl nu) h g) (hs : CTX K r pl h) : CTX K r pl g := CTX_fr H (fun a k z => by have := hs.1; unfold S_rr S_xp S_ra at z; omega) hs
theorem rr_6 {r pl nu k : Nat} {h g : HP} (hrp : r + 4 < pl) (H : hp_fr (S_rr r pl nu) h g) (hk : k = 4 ∨ k = 5 ∨ k = 6) : hp_i g pl k = hp_i h pl k := hf_i H (by unfold S_rr S_xp S_ra; omega)
/-- the loop's body at each part -/
theorem r68 {r i : Nat} {rl : Int32} {g : HP} {Q : HP → Prop} (hi : i < 3) (hb : pw (f_Rd_readRule_95 r rl (nI i) (nI (11 + i)) r g) (fun x => ∃ g', x = .inl (nI (i + 1), g') ∧ pw (f_Rd_readRule_68 r rl (nI (i + 1)) g') Q)) : pw (f_Rd_readRule_68 r rl (nI i) g) Q := by
  unfold f_Rd_readRule_68
  refine pw_go ?_
  unfold f_Rd_readRule_68b
  dsimp only
  rw [if_neg (show ¬ (3 : Int32) ≤ nI i from nI_ge (b := 3) hi (by decide))]
  have fin : pw (f_Rd_readRule_95 r rl (nI i) (nI (11 + i)) r g) (xx_L2 (fun s' => pw (xx_lp (fun s : (Int32 × HP) => f_Rd_readRule_68b r rl s.1 s.2) s') Q) Q) := by
    refine pw_mono hb ?_
    rintro x ⟨g', rfl, hq⟩
    exact hq
  rcases (show i = 0 ∨ i = 1 ∨ i = 2 by omega) with rfl | rfl | rfl
  · rw [if_pos (show nI 0 = (0 : Int32) from rfl)]; exact fin
  · rw [if_neg (show ¬ nI 1 = (0 : Int32) by decide), if_pos (show nI 1 = (1 : Int32) from rfl)]; exact fin
  · rw [if_neg (show ¬ nI 2 = (0 : Int32) by decide), if_neg (show ¬ nI 2 = (1 : Int32) by decide)]; exact fin
theorem r68_3 {r : Nat} {rl : Int32} {g : HP} {Q : HP → Prop} (hb : pw (f_Rd_readRule_117 r rl g) Q) : pw (f_Rd_readRule_68 r rl (nI 3) g) Q := by
  unfold f_Rd_readRule_68
  refine pw_go ?_
  unfold f_Rd_readRule_68b
  dsimp only
  rw [if_pos (show (3 : Int32) ≤ nI 3 by decide)]
  exact pw_mapR hb
/-- refused: the other parts are passed over -/
theorem r68_D {K : TKS} {r pl nu c p : Nat} {rl : Int32} {Q : HP → Prop} (hnu : nu < 16) : ∀ d i g, i + d = 3 → CTX K r pl g → hp_i g pl 6 = nI nu → DED r c p g → DLN pl g → (∀ g', hp_fr (S_rr r pl nu) g g' → DED r c p g' → DLN pl g' → pw (f_Rd_readRule_117 r rl g') Q) → pw (f_Rd_readRule_68 r rl (nI i) g) Q := by
  intro d
  induction d with
  | zero =>
    intro i g hi _ _ hd hl hq
    rw [show i = 3 by omega]
    exact r68_3 (hq g (hp_fr_rf g) hd hl)
  | succ d ih =>
    intro i g hi hx h6 hd hl hq
    refine r68 (by omega) (pw_mono (L_partD hx h6 hnu (by omega) hd hl) ?_)
    rintro x ⟨g', e, H, D, l⟩
    have H' := ru_rr (show i < 3 by omega) H
    exact ⟨g', e, ih (i + 1) g' (by omega) (S_rrC H' hx) (by rw [rr_6 hx.1 H' (by omega)]; exact h6) D l (fun g2 H2 D2 l2 => hq g2 (hp_fr_tr H' H2) D2 l2)⟩
theorem cn_02 {o : List (Nat × Nat)} {u : Nat} (h : CN 2 [] o u) : CN 0 [] o u := by
  obtain ⟨n1, n2, n3, n4⟩ := CN_2.mp h
  exact (CN_w (by decide)).mpr ⟨n1, n2, by rw [List.length_nil] at *; omega, by rw [List.length_nil]; omega⟩
theorem L_parts {K : TKS} {ps : Nat → Nat} {r pl m L nu k u : Nat} {T : Nat → Nat} {rl : Int32} {o : List (Nat × Nat)} {g : HP} {Q : HP → Prop} (hT : TOKS K ps m L T) (hx : CTX K r pl g) (h6 : hp_i g pl 6 = nI nu) (hnu : nu < 16) (hxe : XE K r pl o u k g) (hcn : CN 0 [] o u) (hv : ∀ j, j < o.length → VE (o.getD j (0, 0)))
    (hQ1 : ∀ g' c p, hp_fr (S_rr r pl nu) g g' → DED r c p g' → DLN pl g' → (∀ h, RPS K ps m L T nu k o u h → pw (grp m h) (fun h' => hp_fr (S_rpp m nu) h h' ∧ MTC m L T h' ∧ MER m c p h')) → pw (f_Rd_readRule_117 r rl g') Q)
    (hQ2 : ∀ g' k3 o1 o2 o3 u3, hp_fr (S_rr r pl nu) g g' → k < k3 → XE K r pl o3 u3 k3 g' → hp_i g' (pl + 5) (3 * nu) = nI o1.length → hp_i g' (pl + 5) (3 * nu + 1) = nI o2.length → hp_i g' (pl + 5) (3 * nu + 2) = nI o3.length → CN 2 [] o3 u3 → JJ o.length 2 [] o1 → JJ o1.length 2 [] o2 → JJ o2.length 2 [] o3 → (∃ e, o1 = o ++ e) → (∃ e, o2 = o1 ++ e) → (∃ e, o3 = o2 ++ e) → (∀ h, RPS K ps m L T nu k o u h → pw (grp m h) (fun h' => hp_fr (S_rpp m nu) h h' ∧ MTC m L T h' ∧ ((aft 2 (t_k K k3) ∧ RPS K ps m L T nu k3 o3 u3 h' ∧ hp_i h' (m + 14) (3 * nu) = nI o.length ∧ hp_i h' (m + 14) (3 * nu + 1) = nI o1.length ∧ hp_i h' (m + 14) (3 * nu + 2) = nI o2.length) ∨ (¬ aft 2 (t_k K k3) ∧ MER m (ec K k3) (t_s K k3) h')))) → pw (f_Rd_readRule_117 r rl g') Q) :
    pw (f_Rd_readRule_68 r rl (nI 0) g) Q := by
  have hrp := hx.1
  refine r68 (by decide) (pw_mono (L_part (i := 0) (rl := rl) hT hx h6 hnu (by decide) hxe hcn hv) ?_)
  rintro x ⟨g1, rfl, H1, z⟩
  have H1' := ru_rr (show 0 < 3 by decide) H1
  have hx1 := S_rrC H1' hx
  have h61 : hp_i g1 pl 6 = nI nu := by rw [rr_6 hrp H1' (by omega)]; exact h6
  refine ⟨g1, rfl, ?_⟩
  rcases z with ⟨c, p, z1, z2, z3⟩ | ⟨k1, o1, u1, a1, a2, a3, a4, a5, a6, a7⟩
  · refine r68_D hnu 2 1 g1 (by decide) hx1 h61 z1 z2 (fun g' H2 D2 l2 => hQ1 g' c p (hp_fr_tr H1' H2) D2 l2 (fun h hr => ?_))
    unfold grp
    refine pw_bind (pw_mono (show pw (wpp m 0 h) _ from z3 h hr) ?_)
    rintro h1 ⟨K1, q1, q2⟩
    rw [bn_o (wppE q2), wppE q2]
    exact pw_some ⟨rp_rpp (by decide) K1, q1, q2⟩
  have dl1 : DLN pl g1 := CDE_D a2.2 (cn_len a4).2
  by_cases f0 : aft 0 (t_k K k1)
  rotate_left
  · refine r68 (by decide) (pw_mono (L_partF (n := 0) hx1 h61 hnu (show 1 < 3 by decide) a2.1 (fun y => f0 (.inl ⟨rfl, y⟩)) dl1) ?_)
    rintro x ⟨g2, e2, H2, D2, l2⟩
    have H2' := ru_rr (show 1 < 3 by decide) H2
    refine ⟨g2, e2, r68_D hnu 1 2 g2 (by decide) (S_rrC H2' hx1) (by rw [rr_6 hrp H2' (by omega)]; exact h61) D2 l2 (fun g' H3 D3 l3 => hQ1 g' _ _ (hp_fr_tr (hp_fr_tr H1' H2') H3) D3 l3 (fun h hr => ?_))⟩
    unfold grp
    refine pw_bind (pw_mono (show pw (wpp m 0 h) _ from a7 h hr) ?_)
    rintro h1 ⟨K1, q1, q2⟩
    rcases q2 with q2 | q2
    · exact absurd q2.1 f0
    · rw [bn_o (wppE q2.2), wppE q2.2]
      exact pw_some ⟨rp_rpp (by decide) K1, q1, q2.2⟩
  have ref0 : ∀ {R : HP → Prop} h, RPS K ps m L T nu k o u h → (∀ h1, hp_fr (S_rpp m nu) h h1 → RPS K ps m L T nu k1 o1 u1 h1 → hp_i h1 (m + 14) (3 * nu) = nI o.length → pw ((wpp m 1 h1).bind fun b => wpp m 2 b) R) → pw (grp m h) R := by
    intro R h hr hq
    unfold grp
    refine pw_bind (pw_mono (show pw (wpp m 0 h) _ from a7 h hr) ?_)
    rintro h1 ⟨K1, q1, q2⟩
    rcases q2 with q2 | q2
    · exact hq h1 (rp_rpp (by decide) K1) q2.2.1 q2.2.2
    · exact absurd f0 q2.1
  refine r68 (by decide) (pw_mono (L_part (i := 1) (rl := rl) hT hx1 h61 hnu (by decide) a2 (cn_02 a4) a5.2.2.2) ?_)
  rintro x ⟨g2, rfl, H2, z⟩
  have H2' := ru_rr (show 1 < 3 by decide) H2
  have hx2 := S_rrC H2' hx1
  have h62 : hp_i g2 pl 6 = nI nu := by rw [rr_6 hrp H2' (by omega)]; exact h61
  refine ⟨g2, rfl, ?_⟩
  rcases z with ⟨c, p, z1, z2, z3⟩ | ⟨k2, o2, u2, b1, b2, b3, b4, b5, b6, b7⟩
  · refine r68_D hnu 1 2 g2 (by decide) hx2 h62 z1 z2 (fun g' H3 D3 l3 => hQ1 g' c p (hp_fr_tr (hp_fr_tr H1' H2') H3) D3 l3 (fun h hr => ?_))
    refine ref0 h hr (fun h1 K1 r1 _ => ?_)
    refine pw_bind (pw_mono (show pw (wpp m 1 h1) _ from z3 h1 r1) ?_)
    rintro h2 ⟨K2, q1, q2⟩
    rw [wppE q2]
    exact pw_some ⟨hp_fr_tr K1 (rp_rpp (by decide) K2), q1, q2⟩
  have dl2 : DLN pl g2 := CDE_D b2.2 (cn_len b4).2
  by_cases f1 : aft 1 (t_k K k2)
  rotate_left
  · refine r68 (by decide) (pw_mono (L_partF (n := 0) hx2 h62 hnu (show 2 < 3 by decide) b2.1 (fun y => f1 (.inr (.inl ⟨rfl, y⟩))) dl2) ?_)
    rintro x ⟨g3, e3, H3, D3, l3⟩
    have H3' := ru_rr (show 2 < 3 by decide) H3
    refine ⟨g3, e3, r68_3 (hQ1 g3 _ _ (hp_fr_tr (hp_fr_tr H1' H2') H3') D3 l3 (fun h hr => ?_))⟩
    refine ref0 h hr (fun h1 K1 r1 _ => ?_)
    refine pw_bind (pw_mono (show pw (wpp m 1 h1) _ from b7 h1 r1) ?_)
    rintro h2 ⟨K2, q1, q2⟩
    rcases q2 with q2 | q2
    · exact absurd q2.1 f1
    · rw [wppE q2.2]
      exact pw_some ⟨hp_fr_tr K1 (rp_rpp (by decide) K2), q1, q2.2⟩
  refine r68 (by decide) (pw_mono (L_part (i := 2) (rl := rl) hT hx2 h62 hnu (by decide) b2 (cn_02 b4) b5.2.2.2) ?_)
  rintro x ⟨g3, rfl, H3, z⟩
  have H3' := ru_rr (show 2 < 3 by decide) H3
  refine ⟨g3, rfl, r68_3 ?_⟩
  have FF := hp_fr_tr (hp_fr_tr H1' H2') H3'
  rcases z with ⟨c, p, z1, z2, z3⟩ | ⟨k3, o3, u3, c1, c2, c3, c4, c5, c6, c7⟩
  · refine hQ1 g3 c p FF z1 z2 (fun h hr => ?_)
    refine ref0 h hr (fun h1 K1 r1 _ => ?_)
    refine pw_bind (pw_mono (show pw (wpp m 1 h1) _ from b7 h1 r1) ?_)
    rintro h2 ⟨K2, q1, q2⟩
    rcases q2 with q2 | q2
    · refine pw_mono (show pw (wpp m 2 h2) _ from z3 h2 q2.2.1) ?_
      rintro h3 ⟨K3, w⟩
      exact ⟨hp_fr_tr (hp_fr_tr K1 (rp_rpp (by decide) K2)) (rp_rpp (by decide) K3), w⟩
    · exact absurd f1 q2.1
  · refine hQ2 g3 k3 o1 o2 o3 u3 FF (by omega) c2 ?_ ?_ c3 c4 a5 b5 c5 a6 b6 c6 (fun h hr => ?_)
    · rw [hf_i H3 (by unfold S_ru S_xp S_ra; omega), hf_i H2 (by unfold S_ru S_xp S_ra; omega)]; exact a3
    · rw [hf_i H3 (by unfold S_ru S_xp S_ra; omega)]; exact b3
    · refine ref0 h hr (fun h1 K1 r1 e1 => ?_)
      refine pw_bind (pw_mono (show pw (wpp m 1 h1) _ from b7 h1 r1) ?_)
      rintro h2 ⟨K2, q1, q2⟩
      rcases q2 with q2 | q2
      · refine pw_mono (show pw (wpp m 2 h2) _ from c7 h2 q2.2.1) ?_
        rintro h3 ⟨K3, w1, w2⟩
        refine ⟨hp_fr_tr (hp_fr_tr K1 (rp_rpp (by decide) K2)) (rp_rpp (by decide) K3), w1, ?_⟩
        rcases w2 with w2 | w2
        · refine .inl ⟨w2.1, w2.2.1, ?_, ?_, w2.2.2⟩
          · rw [hf_i K3 (by unfold S_rp S_me S_er S_tk S_pil S_nte; omega), hf_i K2 (by unfold S_rp S_me S_er S_tk S_pil S_nte; omega)]; exact e1
          · rw [hf_i K3 (by unfold S_rp S_me S_er S_tk S_pil S_nte; omega)]; exact q2.2.2
        · exact .inr w2
      · exact absurd f1 q2.1
