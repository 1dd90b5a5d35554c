/-! countWays, waysSaid -/
theorem A_fillJ {a n : Nat} {v : Int64} {h : HP} (hn : hp_n h a = n) (hn2 : n < 2 ^ 31) : pw (f_Ar_fillJ a v h) (fun h' => hp_fr (fun b _ => b = a) h h' ∧ ∀ k, k < n → hp_l h' a k = v) := by
  unfold f_Ar_fillJ f_Ar_fillJ_6
  rw [xx_lE, hn]
  refine pw_cnt n (fun i s => s.1 = nI i ∧ hp_fr (fun b _ => b = a) h s.2 ∧ ∀ k, k < i → hp_l s.2 a k = v) ?_ ?_ 0 _ (by omega) ⟨rfl, hp_fr_rf h, fun k hk => by omega⟩
  · rintro i ⟨w, g⟩ hi ⟨rfl, H, e⟩
    dsimp only at H e
    have hg : hp_n g a = n := by rw [hp_fr_n H]; exact hn
    refine pw_L (s := (nI (i + 1), hp_sl g a i v)) ?_ ⟨rfl, hf_sl H rfl, fun k hk => ?_⟩
    · unfold f_Ar_fillJ_6b
      rw [if_neg (show ¬ Int32.ofNat n ≤ nI i from nI_ge hi hn2), hg, if_pos (hp_in_nI hi (by omega)), xx_lE, xx_lE, nI_clamp (by omega), ← nI_succ]
    · dsimp only
      by_cases hk2 : k = i
      · rw [hk2, hp_l_sl, if_pos ⟨rfl, rfl⟩]
      · rw [hp_l_sl, if_neg (by omega)]; exact e k (by omega)
  · rintro ⟨w, g⟩ ⟨rfl, H, e⟩
    refine pw_R (t := g) ?_ ⟨H, e⟩
    unfold f_Ar_fillJ_6b
    rw [if_pos (show Int32.ofNat n ≤ nI n from nI_le (Nat.le_refl _) hn2)]
theorem XTB_frs {S R : Nat → Nat → Prop} {sv q n nm : Nat} {rr nx : Nat → Nat → Nat} {h h' : HP} (H : frs S R h h') (hS : ∀ a k, S a k → a ≠ sv + 8 ∧ a ≠ sv + 3 ∧ a ≠ q) (hR : ∀ a k, R a k → a ≠ sv) (ht : XTB sv q n nm rr nx h) : XTB sv q n nm rr nx h' := by
  obtain ⟨a1, a2, a3, a4, a5, a6, a7, a8, a9, a10, a11⟩ := ht
  refine ⟨a1, a2, ?_, ?_, ?_, ?_, ?_, ?_, a9, a10, fun s i h1 h2 => ?_⟩
  · rw [frs_r H (fun z => hR _ _ z rfl)]; exact a3
  · rw [frs_r H (fun z => hR _ _ z rfl)]; exact a4
  · rw [frs_r H (fun z => hR _ _ z rfl)]; exact a5
  · rw [H.2.2.1]; exact a6
  · rw [frs_i H (fun z => (hS _ _ z).2.1 rfl)]; exact a7
  · rw [frs_i H (fun z => (hS _ _ z).2.2 rfl)]; exact a8
  · rw [frs_i H (fun z => (hS _ _ z).1 rfl)]; exact a11 s i h1 h2
def S_cw (ch l : Nat) : Nat → Nat → Prop := fun a k => (a = ch + 2 ∨ a = ch + 3) ∧ 13 * l ≤ k ∧ k < 13 * l + 13 ∨ a = ch + 4 ∨ a = ch + 5
def R_cw (ch : Nat) : Nat → Nat → Prop := fun a k => a = ch ∧ (k = 3 ∨ k = 4)
theorem X_cw67 {ch c sv q n nm l s0 : Nat} {rr nx : Nat → Nat → Nat} {h : HP} (hsc : sv + 9 < ch) (hq : q < sv) (hs : CHX ch c h) (ht : XTB sv q n nm rr nx h) (hl : l < 4) (h0 : s0 < n) (hw : ∀ s, s < n → hp_l h (ch + 4 + c) s = lN (wdy rr nx nm n s0 0 s)) (hb : ∀ s, s < n → hp_l h (ch + 5 - c) s = 0) (e0 : hp_l h (ch + 2) (13 * l) = 0) (e1 : hp_l h (ch + 3) (13 * l) = 0) : pw (f_Ch_countWays_67 ch sv (nI l) 1 h) (fun g => frs (S_cw ch l) (R_cw ch) h g ∧ (∃ c, CHX ch c g) ∧ ∀ d, d < 13 → hp_l g (ch + 2) (13 * l + d) = lN (usd rr nx nm n s0 0 d) ∧ hp_l g (ch + 3) (13 * l + d) = lN (usd rr nx nm n s0 1 d)) := by
  obtain ⟨a1, a2, a3, a4, a5, a6, a7, a8, a9, a10, a11⟩ := id ht
  unfold f_Ch_countWays_67
  refine pw_cnt 13 (fun d t => t.1 = nI d ∧ 1 ≤ d ∧ frs (S_cw ch l) (R_cw ch) h t.2 ∧ ∃ c, CHX ch c t.2 ∧ (∀ s, s < n → hp_l t.2 (ch + 4 + c) s = lN (wdy rr nx nm n s0 (d - 1) s)) ∧ (∀ s, s < n → hp_l t.2 (ch + 5 - c) s = 0) ∧ ∀ j, j < d → hp_l t.2 (ch + 2) (13 * l + j) = lN (usd rr nx nm n s0 0 j) ∧ hp_l t.2 (ch + 3) (13 * l + j) = lN (usd rr nx nm n s0 1 j)) ?_ ?_ 1 (1, h) (by omega) ⟨rfl, Nat.le_refl _, frs_of (hp_fr_rf h), c, hs, hw, hb, fun j hj => by rw [show j = 0 by omega]; exact ⟨e0, e1⟩⟩
  · rintro d ⟨_, g⟩ hd ⟨rfl, hd1, H, c, hsg, g1, g2, g3⟩
    dsimp only at H hsg g1 g2 g3 ⊢
    have htg := XTB_frs H (by unfold S_cw; omega) (by unfold R_cw; omega) ht
    obtain ⟨c1, r0, r1, r2, r3, r4, m1, m2, m3, m4, m5⟩ := id hsg
    obtain ⟨_, _, b3, b4, b5, b6, b7, b8, _, _, _⟩ := id htg
    obtain ⟨p0, p1⟩ := g3 (d - 1) (by omega)
    unfold f_Ch_countWays_67b
    rw [if_neg (show ¬ (13 : Int32) ≤ nI d from nI_ge (b := 13) hd (by decide)), show (13 : Int32) = nI 13 from rfl, pk_mul, nI_add, xx_lE, bn_o r1, bn_o r1, sub1 (by omega), m2, if_pos (hp_in_nI (by omega) (by omega)), bn_o b4, if_pos (hp_in_nI (by omega) (by omega)), nI_clamp (by omega), nI_clamp (by omega), b8, show l * 13 + d - 1 = 13 * l + (d - 1) by omega, p0, nI_l (by omega), lN_mul, show l * 13 + d = 13 * l + d by omega, xx_lE]
    obtain ⟨k1, hk1⟩ : ∃ k1, hp_sl g (ch + 2) (13 * l + d) (lN (usd rr nx nm n s0 0 (d - 1) * nm)) = k1 := ⟨_, rfl⟩
    rw [hk1]
    have r21 : hp_r k1 ch 2 = some (ch + 3) := by rw [← hk1]; exact r2
    have b41 : hp_r k1 sv 4 = some q := by rw [← hk1]; exact b4
    have m31 : hp_n k1 (ch + 3) = 52 := by rw [← hk1]; exact m3
    have b81 : hp_i k1 q 5 = nI nm := by rw [← hk1]; exact b8
    have p11 : hp_l k1 (ch + 3) (13 * l + (d - 1)) = lN (usd rr nx nm n s0 1 (d - 1)) := by rw [← hk1, hp_l_sl, if_neg (by omega)]; exact p1
    rw [bn_o r21, bn_o r21, m31, if_pos (hp_in_nI (by omega) (by omega)), bn_o b41, if_pos (hp_in_nI (by omega) (by omega)), b81, p11, nI_l (by omega), lN_mul, xx_lE]
    obtain ⟨k2, hk2⟩ : ∃ k2, hp_sl k1 (ch + 3) (13 * l + d) (lN (usd rr nx nm n s0 1 (d - 1) * nm)) = k2 := ⟨_, rfl⟩
    rw [hk2]
    have K2 : hp_fr (fun a k => (a = ch + 2 ∨ a = ch + 3) ∧ k = 13 * l + d) g k2 := by
      rw [← hk2, ← hk1]; exact hf_sl (hf_sl (hp_fr_rf g) ⟨.inl rfl, rfl⟩) ⟨.inr rfl, rfl⟩
    have hs2 := CHX_fr K2 hsg
    have ht2 := XTB_fr K2 (by omega) htg
    refine pw_bind (pw_mono (X_goDay (w := wdy rr nx nm n s0 (d - 1)) hsc hq hs2 ht2 (by omega) (fun s hs' => ⟨day_b a10 h0 a2 (by omega) hs', by rw [hf_l K2 (by omega)]; exact g1 s hs'⟩) (fun s hs' => by rw [hf_l K2 (by omega)]; exact g2 s hs') (U0 := usd rr nx nm n s0 0 (d - 1) * nm) (U1 := usd rr nx nm n s0 1 (d - 1) * nm) (by rw [← hk2, hp_l_sl, if_neg (by omega), ← hk1, hp_l_sl, if_pos ⟨rfl, rfl⟩]) (by rw [← hk2, hp_l_sl, if_pos ⟨rfl, rfl⟩])) ?_)
    rintro g4 ⟨H4, q1, q2, q3, q4⟩
    have hs4 := CHX_fr H4 hs2
    obtain ⟨_, r0, r1, r2, r3, r4, m1, m2, m3, m4, m5⟩ := id hs4
    rw [bn_o r3, bn_o r4, xx_lE, xx_lE, xx_lE]
    refine pw_L rfl ⟨nI_1 d, by omega, frs_sr (frs_sr (frs_tr H (frs_tr (frs_of (hp_fr_mo K2 (by unfold S_cw; omega))) (frs_of (hp_fr_mo H4 (by unfold S_dy S_cw; omega))))) ⟨rfl, .inl rfl⟩) ⟨rfl, .inr rfl⟩, 1 - c, ⟨by omega, ?_, ?_, ?_, ?_, ?_, m1, m2, m3, ?_, ?_⟩, fun s hs' => ?_, fun s hs' => ?_, fun j hj => ?_⟩
    · rw [hp_r_sr, if_neg (by omega), hp_r_sr, if_neg (by omega)]; exact r0
    · rw [hp_r_sr, if_neg (by omega), hp_r_sr, if_neg (by omega)]; exact r1
    · rw [hp_r_sr, if_neg (by omega), hp_r_sr, if_neg (by omega)]; exact r2
    · rw [hp_r_sr, if_neg (by omega), hp_r_sr, if_pos ⟨rfl, rfl⟩, show ch + 4 + (1 - c) = ch + 5 - c by omega]
    · rw [hp_r_sr, if_pos ⟨rfl, rfl⟩, show ch + 5 - (1 - c) = ch + 4 + c by omega]
    · rw [show ch + 4 + (1 - c) = ch + 5 - c by omega]; exact m5
    · rw [show ch + 5 - (1 - c) = ch + 4 + c by omega]; exact m4
    · rw [show ch + 4 + (1 - c) = ch + 5 - c by omega, show d + 1 - 1 = d - 1 + 1 by omega]; exact q2 s hs'
    · rw [show ch + 5 - (1 - c) = ch + 4 + c by omega]; exact q1 s hs'
    · show hp_l g4 (ch + 2) (13 * l + j) = _ ∧ hp_l g4 (ch + 3) (13 * l + j) = _
      by_cases z : j = d
      · rw [z]
        rw [show usd rr nx nm n s0 0 d = usd rr nx nm n s0 0 (d - 1 + 1) by rw [show d - 1 + 1 = d by omega], show usd rr nx nm n s0 1 d = usd rr nx nm n s0 1 (d - 1 + 1) by rw [show d - 1 + 1 = d by omega]]
        exact ⟨q3, q4⟩
      · rw [hf_l H4 (by unfold S_dy; omega), hf_l H4 (by unfold S_dy; omega), hf_l K2 (by omega), hf_l K2 (by omega)]; exact g3 j (by omega)
  · rintro ⟨_, g⟩ ⟨rfl, hd1, H, c, hsg, g1, g2, g3⟩
    dsimp only at H hsg g1 g2 g3 ⊢
    refine pw_R (t := g) ?_ ⟨H, ⟨c, hsg⟩, g3⟩
    unfold f_Ch_countWays_67b
    rw [if_pos (show (13 : Int32) ≤ nI 13 from Int32.le_refl _)]
theorem X_count {P : PT} {ch c sv q n l s0 : Nat} {f : Nat → Nat} {rr nx : Nat → Nat → Nat} {h : HP} (ok : POK P) (hsc : sv + 9 < ch) (hq : q + 8 < sv) (hps : PSH q h) (hp : PX P q h) (hs : CHX ch c h) (ht : XTB sv q n (p_nm P) rr nx h) (hset : SSX (sv + 3) 5000 n f h) (hl : l < 4) (h0 : s0 < n) (hi : idx f n (fs P l) = s0) : pw (f_Ch_countWays ch sv (nI l) h) (fun g => frs (S_cw ch l) (R_cw ch) h g ∧ (∃ c, CHX ch c g) ∧ ∀ d, d < 13 → hp_l g (ch + 2) (13 * l + d) = lN (usd rr nx (p_nm P) n s0 0 d) ∧ hp_l g (ch + 3) (13 * l + d) = lN (usd rr nx (p_nm P) n s0 1 d)) := by
  obtain ⟨c1, r0, r1, r2, r3, r4, m1, m2, m3, m4, m5⟩ := id hs
  have a1 := ht.1
  unfold f_Ch_countWays
  rw [bn_o r3]
  refine pw_bind (pw_mono (A_fillJ m4 (by decide)) ?_)
  rintro g1 ⟨H1, f1⟩
  have hs1 := CHX_fr H1 hs
  rw [bn_o hs1.2.2.2.2.2.1]
  refine pw_bind (pw_mono (A_fillJ hs1.2.2.2.2.2.2.2.2.2.2 (by decide)) ?_)
  rintro g2 ⟨H2, f2⟩
  have H02 : hp_fr (fun a _ => a = ch + 4 ∨ a = ch + 5) h g2 := hp_fr_tr (hp_fr_mo H1 (by omega)) (hp_fr_mo H2 (by omega))
  have hs2 := CHX_fr H02 hs
  have ht2 := XTB_fr H02 (by omega) ht
  have hp2 : PX P q g2 := PX_ag (fun a k hk => hf_i H02 (by unfold F_PX at hk; omega)) hp
  have hset2 : SSX (sv + 3) 5000 n f g2 := SSX_fr H02 (by unfold F_SS; omega) hset
  rw [bn_o ht2.2.2.1, bn_o ht2.2.2.2.1, bn_o (X_first (PSH_fr H02 hps) ok hp2 hl)]
  dsimp only
  refine pw_bind (pw_mono (X_number hset2 (fs_lt ok hl)) ?_)
  rintro ⟨x, g3⟩ hQ
  rcases hQ with ⟨q1, q2, q3⟩ | ⟨q1, _⟩ | ⟨q1, _⟩
  · dsimp only at q2 q3 ⊢
    subst q2; subst q3
    rw [hi] at q1 ⊢
    obtain ⟨_, t0, t1, t2, t3, t4, n1, n2, n3, n4, n5⟩ := id hs2
    rw [if_neg (nI_nm1 (by omega)), bn_o t3, n4, if_pos (hp_in_nI (by omega) (by omega)), nI_clamp (by omega), xx_lE]
    unfold f_Ch_countWays_44
    obtain ⟨k1, hk1⟩ : ∃ k1, hp_sl g3 (ch + 4 + c) s0 1 = k1 := ⟨_, rfl⟩
    rw [hk1]
    have t11 : hp_r k1 ch 1 = some (ch + 2) := by rw [← hk1]; exact t1
    have n21 : hp_n k1 (ch + 2) = 52 := by rw [← hk1]; exact n2
    rw [bn_o t11, show (13 : Int32) = nI 13 from rfl, pk_mul, n21, if_pos (hp_in_nI (by omega) (by omega)), nI_clamp (by omega), show l * 13 = 13 * l by omega, xx_lE]
    obtain ⟨k2, hk2⟩ : ∃ k2, hp_sl k1 (ch + 2) (13 * l) 0 = k2 := ⟨_, rfl⟩
    rw [hk2]
    have t22 : hp_r k2 ch 2 = some (ch + 3) := by rw [← hk2, ← hk1]; exact t2
    have n32 : hp_n k2 (ch + 3) = 52 := by rw [← hk2, ← hk1]; exact n3
    rw [bn_o t22, n32, if_pos (hp_in_nI (by omega) (by omega)), xx_lE]
    obtain ⟨k3, hk3⟩ : ∃ k3, hp_sl k2 (ch + 3) (13 * l) 0 = k3 := ⟨_, rfl⟩
    rw [hk3]
    have K3 : hp_fr (S_cw ch l) g3 k3 := by
      rw [← hk3, ← hk2, ← hk1]
      exact hf_sl (hf_sl (hf_sl (hp_fr_rf g3) (by unfold S_cw; omega)) (by unfold S_cw; omega)) (by unfold S_cw; omega)
    refine pw_mono (X_cw67 hsc (by omega) (CHX_fr K3 hs2) (XTB_fr K3 (by unfold S_cw; omega) ht2) hl h0 (fun s hs' => ?_) (fun s hs' => ?_) ?_ ?_) ?_
    · rw [← hk3, hp_l_sl, if_neg (by omega), ← hk2, hp_l_sl, if_neg (by omega), ← hk1, hp_l_sl]
      show _ = lN (if s = s0 then 1 else 0)
      by_cases z : s = s0
      · rw [if_pos ⟨rfl, z⟩, if_pos z]; rfl
      · rw [if_neg (fun w => z w.2), if_neg z, hf_l H2 (by omega)]; exact f1 s (by omega)
    · rw [← hk3, hp_l_sl, if_neg (by omega), ← hk2, hp_l_sl, if_neg (by omega), ← hk1, hp_l_sl, if_neg (by omega)]
      exact f2 s (by omega)
    · rw [← hk3, hp_l_sl, if_neg (by omega), ← hk2, hp_l_sl, if_pos ⟨rfl, rfl⟩]
    · rw [← hk3, hp_l_sl, if_pos ⟨rfl, rfl⟩]
    · rintro g ⟨G, gc, gd⟩
      exact ⟨frs_tr (frs_of (hp_fr_tr (hp_fr_mo H02 (by unfold S_cw; omega)) K3)) G, gc, gd⟩
  · omega
  · omega
def CHC (P : PT) (ch n : Nat) (rr nx : Nat → Nat → Nat) (h : HP) : Prop := ∀ l, l < 4 → hp_i h (ch + 1) l = 0 ∨ (hp_i h (ch + 1) l = 1 ∧ ∀ d, d < 13 → hp_l h (ch + 2) (13 * l + d) = lN (usd rr nx (p_nm P) n (sx P l) 0 d) ∧ hp_l h (ch + 3) (13 * l + d) = lN (usd rr nx (p_nm P) n (sx P l) 1 d))
def S_ws (ch : Nat) : Nat → Nat → Prop := fun a _ => ch + 1 ≤ a ∧ a ≤ ch + 5
theorem X_wsaid {P : PT} {ch c sv q n l D k : Nat} {f : Nat → Nat} {rr nx : Nat → Nat → Nat} {h : HP} (ok : POK P) (hsc : sv + 9 < ch) (hq : q + 8 < sv) (hps : PSH q h) (hp : PX P q h) (hs : CHX ch c h) (ht : XTB sv q n (p_nm P) rr nx h) (hset : SSX (sv + 3) 5000 n f h) (hl : l < 4) (h0 : sx P l < n) (hi : idx f n (fs P l) = sx P l) (hD : D ≤ 12) (hk : k < 2) (hC : CHC P ch n rr nx h) : pw (f_Ch_waysSaid ch sv (nI l) (nI D) (nI k) h) (fun r => r.1 = lN (usd rr nx (p_nm P) n (sx P l) k D) ∧ frs (S_ws ch) (R_cw ch) h r.2 ∧ (∃ c, CHX ch c r.2) ∧ CHC P ch n rr nx r.2) := by
  obtain ⟨c1, r0, r1, r2, r3, r4, m1, m2, m3, m4, m5⟩ := id hs
  have rd : ∀ g, (∃ c, CHX ch c g) → frs (S_ws ch) (R_cw ch) h g → CHC P ch n rr nx g → hp_i g (ch + 1) l = 1 → pw (f_Ch_waysSaid_43 ch (nI l) (nI D) (nI k) g) (fun r => r.1 = lN (usd rr nx (p_nm P) n (sx P l) k D) ∧ frs (S_ws ch) (R_cw ch) h r.2 ∧ (∃ c, CHX ch c r.2) ∧ CHC P ch n rr nx r.2) := by
    rintro g ⟨c, hg⟩ H gC g1
    obtain ⟨c1, r0, r1, r2, r3, r4, m1, m2, m3, m4, m5⟩ := id hg
    rcases gC l hl with z | ⟨_, z⟩
    · rw [z] at g1; exact absurd g1 (by decide)
    · obtain ⟨z0, z1⟩ := z D (by omega)
      unfold f_Ch_waysSaid_43
      have : k = 0 ∨ k = 1 := by omega
      rcases this with hk | hk
      · rw [hk, if_pos (show nI 0 = (0 : Int32) from rfl), bn_o r1, show (13 : Int32) = nI 13 from rfl, pk_mul, nI_add, m2, if_pos (hp_in_nI (by omega) (by omega)), nI_clamp (by omega), show l * 13 + D = 13 * l + D by omega, z0]
        exact pw_some ⟨rfl, H, ⟨c, hg⟩, gC⟩
      · rw [hk, if_neg (show ¬ nI 1 = (0 : Int32) by decide), bn_o r2, show (13 : Int32) = nI 13 from rfl, pk_mul, nI_add, m3, if_pos (hp_in_nI (by omega) (by omega)), nI_clamp (by omega), show l * 13 + D = 13 * l + D by omega, z1]
        exact pw_some ⟨rfl, H, ⟨c, hg⟩, gC⟩
  unfold f_Ch_waysSaid
  rw [if_neg (nI_pos (by omega)), if_neg (show ¬ (4 : Int32) ≤ nI l from nI_ge (b := 4) hl (by decide)), if_neg (nI_pos (by omega)), if_pos (show nI D < (13 : Int32) from nI_lt (b := 13) (by omega) (by decide)), bn_o r0, m1, if_pos (hp_in_nI (by omega) (by omega)), nI_clamp (by omega)]
  rcases hC l hl with z | ⟨z, _⟩
  · rw [z, if_pos rfl, bn_o r0, m1, if_pos (hp_in_nI (by omega) (by omega)), show vp_nar .boolean (1 : Int32) = 1 from nar1, xx_lE]
    obtain ⟨k1, hk1⟩ : ∃ k1, hp_si h (ch + 1) l 1 = k1 := ⟨_, rfl⟩
    rw [hk1]
    have K1 : hp_fr (fun a k => a = ch + 1 ∧ k = l) h k1 := by rw [← hk1]; exact hf_si (hp_fr_rf h) ⟨rfl, rfl⟩
    refine pw_bind (pw_mono (X_count ok hsc hq (PSH_fr K1 hps) (PX_ag (fun a k hk => hf_i K1 (by unfold F_PX at hk; omega)) hp) (CHX_fr K1 hs) (XTB_fr K1 (by omega) ht) (SSX_fr K1 (by unfold F_SS; omega) hset) hl h0 hi) ?_)
    rintro g ⟨G, gc, gd⟩
    have e1 : hp_i g (ch + 1) l = 1 := by rw [frs_i G (by unfold S_cw; omega), ← hk1, hp_i_si, if_pos ⟨rfl, rfl⟩]
    refine rd g gc (frs_tr (frs_of (hp_fr_mo K1 (by unfold S_ws; omega))) (frs_mo G (by unfold S_cw S_ws; omega) (fun _ _ z => z))) (fun j hj => ?_) e1
    by_cases y : j = l
    · rw [y]; exact .inr ⟨e1, gd⟩
    · rw [frs_i G (by unfold S_cw; omega), ← hk1, hp_i_si, if_neg (fun w => y w.2)]
      rcases hC j hj with w | ⟨w1, w2⟩
      · exact .inl w
      · refine .inr ⟨w1, fun d hd => ?_⟩
        rw [frs_l G (by unfold S_cw; omega), frs_l G (by unfold S_cw; omega)]
        rw [← hk1]; exact w2 d hd
  · rw [z, if_neg (show ¬ (1 : Int32) = 0 by decide)]
    exact rd h ⟨c, hs⟩ (frs_of (hp_fr_rf h)) hC z
