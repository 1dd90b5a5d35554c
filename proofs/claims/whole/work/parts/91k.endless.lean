/-! layParts, endlessMany -/
theorem M_layParts_31 {m n nm : Nat} {rr nx : Nat → Nat → Nat} {o : Nat → Nat} {h : HP} (ht : TAB m n nm rr nx h) (hB : BCK m n nm rr nx h) (hK : KOR n nm rr nx o) (hoh : ∀ q, q < n → hp_i h (m + 33) q = nI (o q)) (h0 : ∀ s, s < n → hp_i h (m + 36) s = -1) : pw (f_M_layParts_31 m h) (fun g => hp_fr (S_pt m) h g ∧ ∃ pt, PA n nm rr nx pt ∧ (∀ s, s < n → pt s ≠ 0) ∧ ∀ s, s < n → hp_i g (m + 36) s = im (pt s)) := by
  obtain ⟨hm, a2, a3, a4, a5, a6, a7, a8⟩ := id ht
  have hm0 := hm
  obtain ⟨bb, kk, b1, b2, b3, b4⟩ := hB
  obtain ⟨ho, hi, hkk⟩ := hK
  unfold f_M_layParts_31
  rw [a5, xx_lE]
  have en : nI n - (1 : Int32) = im n := by
    by_cases z : n = 0
    · rw [z]; decide
    · rw [im_p (by omega), sub1 (by omega)]
  rw [en]
  unfold f_M_layParts_38
  refine pw_cnt n (fun e t => t.1 = im (n - e) ∧ hp_fr (S_pt m) h t.2 ∧ ∃ pt, PA n nm rr nx pt ∧ (∀ q, n - e ≤ q → q < n → pt (o q) ≠ 0) ∧ ∀ s, s < n → hp_i t.2 (m + 36) s = im (pt s)) ?_ ?_ 0 (im n, h) (by omega) ⟨rfl, hp_fr_rf h, fun _ => 0, ⟨fun s _ => ⟨Nat.zero_le _, fun z => absurd rfl z⟩, fun u v _ z => absurd rfl z, fun s t _ _ z => absurd rfl z⟩, fun q h1 h2 => by omega, fun s hs => h0 s hs⟩
  · rintro e ⟨_, g⟩ he ⟨rfl, H, pt, hA, hgt, hx⟩
    dsimp only at H hx ⊢
    obtain ⟨p, hpe⟩ : ∃ p, n - e = p + 1 := ⟨n - e - 1, by omega⟩
    have hp : p < n := by omega
    have htg := TAB_fr H (by unfold S_pt; omega) ht
    have hm := MS_fr H hm
    have hop := ho p hp
    have b1g : ∀ t, t ≤ n → hp_i g (m + 31) t = nI (bb t) ∧ bb t ≤ 30000 := fun t h1 => by rw [hf_i H (by unfold S_pt; omega)]; exact b1 t h1
    have b3g : ∀ t j, t < n → bb t ≤ j → j < bb (t + 1) → hp_i g (m + 32) j = nI (kk j) ∧ Gg n nm rr nx (kk j) t := fun t j h1 h2 h3 => by rw [hf_i H (by unfold S_pt; omega)]; exact b3 t j h1 h2 h3
    have hohg : ∀ q, q < n → hp_i g (m + 33) q = nI (o q) := fun q hq => by rw [hf_i H (by unfold S_pt; omega)]; exact hoh q hq
    have hpl := (hA.1 (o p) hop).1
    rw [hpe, im_s]
    unfold f_M_layParts_38b
    rw [if_neg (nI_pos (by omega)), mb_74 hm, mb_71 hm, mn_33 hm, if_pos (hp_in_nI (by omega) (by omega)), nI_clamp (by omega), hohg p hp, mn_36 hm, if_pos (hp_in_nI (by omega) (by omega)), nI_clamp (by omega), hx _ hop]
    have ed : nI p + (-1 : Int32) = im (n - (e + 1)) := by
      have := im_d (x := p + 1) (by omega)
      rw [show p + 1 - 1 = p by omega] at this
      rw [this, show n - (e + 1) = p by omega]
    by_cases hz : pt (o p) = 0
    · obtain ⟨k, k1, k2, k3⟩ := hkk p hp
      rw [hz, if_pos im_0, mb_72 hm, mb_71 hm, mn_33 hm, if_pos (hp_in_nI (by omega) (by omega)), hohg p hp, mn_34 hm, if_pos (by decide), xx_lE]
      have z0 : (0 : Int32).toNatClampNeg = 0 := rfl
      rw [z0]
      have hm2 : MS m (hp_si g (m + 34) 0 (nI (o p))) := hm
      have o2 : hp_i (hp_si g (m + 34) 0 (nI (o p))) (m + 33) p = nI (o p) := by rw [hp_i_si, if_neg (by omega)]; exact hohg p hp
      rw [mb_74 hm2, mb_71 hm2, mn_33 hm2, if_pos (hp_in_nI (by omega) (by omega)), mb_71 hm2, mn_33 hm2, if_pos (hp_in_nI (by omega) (by omega)), o2, mn_36 hm2, if_pos (hp_in_nI (by omega) (by omega)), nI_clamp (by omega), xx_lE]
      unfold f_M_layParts_90
      have hgt2 : ∀ q, p < q → q < n → pt (o q) ≠ 0 := fun q x y => hgt q (by omega) y
      let S0 : Nat → Bool := fun s => decide (s = o p)
      have hS0 : PSI n nm rr nx pt o p k S0 1 (fun _ => o p) n := by
        refine ⟨fun s hs => ?_, decide_eq_true rfl, fun j _ => decide_eq_true rfl, fun v hv => .inr (.inl ⟨0, by omega, (of_decide_eq_true hv).symm⟩)⟩
        rw [of_decide_eq_true hs]
        exact ⟨hop, hz, Rch_rf _, p, k1, Nat.le_refl _, rfl⟩
      have hc0 : fb_ct S0 n = 1 := by
        have := fb_ct_upd (fun _ => false) true hop
        have z : fb_ct (fun _ => false) n = 0 := fb_ct_zero.mpr (fun _ _ => rfl)
        rw [z] at this
        have e : fb_ct S0 n = fb_ct (fun k => if k = o p then true else false) n := fb_ct_cong (fun s _ => by
          show decide (s = o p) = _
          by_cases w : s = o p
          · rw [if_pos w, decide_eq_true w]
          · rw [if_neg w, decide_eq_false w])
        rw [e]; exact this
      have exitl : ∀ g2 S st, hp_fr (S_pt m) h g2 → PSI n nm rr nx pt o p k S 0 st n → PRX m n (ptS S (o p) pt) 0 st g2 → ∀ {I : Int32 × HP → Prop}, pw (f_M_layParts_90b m (nI p) (im 0) g2) (xx_L2 I (xx_L2 (fun t : Int32 × HP => t.1 = im (n - (e + 1)) ∧ hp_fr (S_pt m) h t.2 ∧ ∃ pt, PA n nm rr nx pt ∧ (∀ q, n - (e + 1) ≤ q → q < n → pt (o q) ≠ 0) ∧ ∀ s, s < n → hp_i t.2 (m + 36) s = im (pt s)) (fun g => hp_fr (S_pt m) h g ∧ ∃ pt, PA n nm rr nx pt ∧ (∀ s, s < n → pt s ≠ 0) ∧ ∀ s, s < n → hp_i g (m + 36) s = im (pt s)))) := by
        intro g2 S st H2 hS hx2 I
        refine pw_R (t := (Sum.inl (im (n - (e + 1)), g2) : (Int32 × HP) ⊕ HP)) ?_ ⟨rfl, H2, ptS S (o p) pt, PA_new hp ho hA k2 hS, fun q h1 h2 => ?_, hx2.1⟩
        · unfold f_M_layParts_90b f_M_layParts_186
          rw [if_pos im_0, xx_lE, ed]; rfl
        · unfold ptS
          by_cases w : S (o q) = true
          · rw [if_pos w]; omega
          · rw [if_neg w]
            by_cases w2 : q = p
            · rw [w2] at w; exact absurd hS.2.1 w
            · exact hgt2 q (by omega) h2
      refine pw_cnt n (fun i t => ∃ S sz st, t.1 = im sz ∧ hp_fr (S_pt m) h t.2 ∧ PSI n nm rr nx pt o p k S sz st n ∧ PRX m n (ptS S (o p) pt) sz st t.2 ∧ fb_ct S n = i + sz) ?_ ?_ 0 _ (by omega) ⟨S0, 1, fun _ => o p, rfl, hf_si (hf_si H (.inl rfl)) (.inr rfl), hS0, ⟨fun s hs => ?_, fun j hj => ?_⟩, by omega⟩
      · rintro i ⟨_, g2⟩ hi' ⟨S, sz, st, rfl, H2, hS, hx2, hc⟩
        dsimp only at H2 hx2 ⊢
        by_cases hs0 : sz = 0
        · subst hs0; exact exitl g2 S st H2 hS hx2
        · have hm2 := MS_fr H2 hm0
          have hct := fb_ct_le S n
          have hSv := hS.2.2.1 (sz - 1) (by omega)
          obtain ⟨v, hv⟩ : ∃ v, st (sz - 1) = v := ⟨_, rfl⟩
          rw [hv] at hSv
          have hvn : v < n := (hS.1 v hSv).1
          have e1 : hp_i g2 (m + 34) (sz - 1) = nI v := by rw [hx2.2 _ (by omega), hv]
          have e2 : hp_i g2 (m + 31) v = nI (bb v) := by rw [hf_i H2 (by unfold S_pt; omega)]; exact (b1 v (by omega)).1
          have hb := (b1 v (by omega)).2
          unfold f_M_layParts_90b
          rw [if_neg (im_neg hs0 (by omega)), mb_72 hm2, im_p (by omega), mn_34 hm2, if_pos (hp_in_nI (by omega) (by omega)), nI_clamp (by omega), e1, xx_lE, im_d (by omega), xx_lE, mb_69 hm2, mn_31 hm2, if_pos (hp_in_nI (by omega) (by omega)), nI_clamp (by omega), e2, xx_lE]
          have hS1 : PSI n nm rr nx pt o p k S (sz - 1) st v := by
            obtain ⟨y1, y2, y3, y4⟩ := hS
            refine ⟨y1, y2, fun j hj => y3 j (by omega), fun w hw => ?_⟩
            rcases y4 w hw with x | ⟨j, x1, x2⟩ | x
            · have := (y1 w hw).1; omega
            · by_cases q : j = sz - 1
              · exact .inl (by rw [← x2, q, hv])
              · exact .inr (.inl ⟨j, by omega, x2⟩)
            · exact .inr (.inr x)
          refine pw_mono (P_for (Q := fun _ => False) (TAB_fr H2 (by unfold S_pt; omega) ht) (fun t h1 => by rw [hf_i H2 (by unfold S_pt; omega)]; exact b1 t h1) b2 (fun t j h1 h2 h3 => by rw [hf_i H2 (by unfold S_pt; omega)]; exact b3 t j h1 h2 h3) b4 ho hi (fun q hq => by rw [hf_i H2 (by unfold S_pt; omega)]; exact hoh q hq) hp k3 hgt2 hA hS1 hSv ⟨hx2.1, fun j hj => hx2.2 j (by omega)⟩ (by omega)) ?_
          intro x hx'
          match x, hx' with
          | .inl t, ⟨S', sz', st', r1, r2, r3, r4, r5⟩ => exact ⟨S', sz', st', r1, hp_fr_tr H2 r2, r3, r4, by omega⟩
          | .inr t, hx' => exact hx'.elim
      · rintro ⟨_, g2⟩ ⟨S, sz, st, rfl, H2, hS, hx2, hc⟩
        dsimp only at H2 hx2 ⊢
        have hct := fb_ct_le S n
        have hs0 : sz = 0 := by omega
        subst hs0; exact exitl g2 S st H2 hS hx2
      · rw [hp_i_si]
        show _ = im (if decide (s = o p) = true then o p + 1 else pt s)
        by_cases w : s = o p
        · rw [if_pos ⟨rfl, w⟩, if_pos (decide_eq_true w), im_s]
        · rw [if_neg (fun y => w y.2), if_neg (fun y => w (of_decide_eq_true y)), hp_i_si, if_neg (by omega)]; exact hx s hs
      · rw [show j = 0 by omega, hp_i_si, if_neg (by omega), hp_i_si, if_pos ⟨rfl, rfl⟩]
    · rw [if_neg (im_neg hz (by omega))]
      unfold f_M_layParts_186
      rw [xx_lE, ed]
      refine pw_L rfl ⟨rfl, H, pt, hA, fun q h1 h2 => ?_, hx⟩
      by_cases w : q = p
      · rw [w]; exact hz
      · exact hgt q (by omega) h2
  · rintro ⟨_, g⟩ ⟨rfl, H, pt, hA, hgt, hx⟩
    dsimp only at H hx ⊢
    refine pw_R (t := g) ?_ ⟨H, pt, hA, fun s hs => ?_, hx⟩
    · unfold f_M_layParts_38b
      rw [show n - n = 0 by omega, if_pos im_0]
    · obtain ⟨q, q1, q2⟩ := fb_onto ho hi hs
      rw [← q2]; exact hgt q (by omega) q1
def S_lps (m : Nat) : Nat → Nat → Prop := fun a _ => m + 31 ≤ a ∧ a ≤ m + 36
theorem M_layParts {m n nm : Nat} {rr nx : Nat → Nat → Nat} {h : HP} (ht : TAB m n nm rr nx h) : pw (f_M_layParts m h) (fun g => hp_fr (S_lps m) h g ∧ ∃ pt, PA n nm rr nx pt ∧ (∀ s, s < n → pt s ≠ 0) ∧ ∀ s, s < n → hp_i g (m + 36) s = im (pt s)) := by
  have a2 := ht.2.1
  unfold f_M_layParts
  refine pw_bind (pw_mono (M_layBack ht) ?_)
  rintro g1 ⟨H1, hB⟩
  have ht1 := TAB_fr H1 (by unfold S_kb; omega) ht
  refine pw_bind (pw_mono (M_layOrder ht1) ?_)
  rintro g2 ⟨H2, o, hK, hoh⟩
  have ht2 := TAB_fr H2 (by unfold S_or; omega) ht1
  have hB2 := BCK_fr H2 (by unfold S_or; omega) hB
  unfold f_M_layParts_10
  refine pw_cnt n (fun e t => t.1 = nI e ∧ hp_fr (S_pt m) g2 t.2 ∧ ∀ u, u < e → hp_i t.2 (m + 36) u = -1) ?_ ?_ 0 (0, g2) (by omega) ⟨rfl, hp_fr_rf g2, fun u hu => absurd hu (Nat.not_lt_zero _)⟩
  · rintro e ⟨_, g⟩ he ⟨rfl, H, g1⟩
    dsimp only at H g1 ⊢
    have htg := TAB_fr H (by unfold S_pt; omega) ht2
    have hm := htg.1
    unfold f_M_layParts_10b
    rw [htg.2.2.2.2.1, if_neg (nI_ge he (by omega)), mb_74 hm, mn_36 hm, if_pos (hp_in_nI (by omega) (by omega)), nI_clamp (by omega), xx_lE, xx_lE]
    refine pw_L rfl ⟨nI_1 e, hf_si H (.inr rfl), fun u hu => ?_⟩
    rw [hp_i_si]
    by_cases z : u = e
    · rw [if_pos ⟨rfl, z⟩]
    · rw [if_neg (fun w => z w.2)]; exact g1 u (by omega)
  · rintro ⟨_, g⟩ ⟨rfl, H, g1⟩
    dsimp only at H g1 ⊢
    have htg := TAB_fr H (by unfold S_pt; omega) ht2
    unfold f_M_layParts_10b
    rw [htg.2.2.2.2.1, if_pos (nI_le (Nat.le_refl _) (by omega))]
    refine pw_mapR (pw_mono (M_layParts_31 htg (BCK_fr H (by unfold S_pt; omega) hB2) hK (fun q hq => by rw [hf_i H (by unfold S_pt; omega)]; exact hoh q hq) g1) ?_)
    rintro g3 ⟨H3, q⟩
    refine ⟨hp_fr_tr (hp_fr_tr (hp_fr_mo H1 ?_) (hp_fr_mo H2 ?_)) (hp_fr_tr (hp_fr_mo H ?_) (hp_fr_mo H3 ?_)), q⟩
    · unfold S_kb S_lps; omega
    · unfold S_or S_lps; omega
    · unfold S_pt S_lps; omega
    · unfold S_pt S_lps; omega
