/-! endlessMany -/
def LED (n nm : Nat) (rr nx : Nat → Nat → Nat) (pt L : Nat → Nat) (s i : Nat) : Prop := ∀ r, r < n → L r < 2 ^ nm ∧ ∀ j, (L r).testBit j = true ↔ j < nm ∧ ∃ u, (u < s ∨ u = s ∧ j < i) ∧ rr u j = 0 ∧ pt u = r + 1 ∧ pt (nx u j) = r + 1
theorem LED_skip {n nm s i : Nat} {rr nx : Nat → Nat → Nat} {pt L : Nat → Nat} (h : LED n nm rr nx pt L s i) (hi : ¬ (rr s i = 0 ∧ pt (nx s i) = pt s)) : LED n nm rr nx pt L s (i + 1) := by
  intro r hr
  obtain ⟨h1, h2⟩ := h r hr
  refine ⟨h1, fun j => (h2 j).trans ?_⟩
  constructor
  · rintro ⟨a, u, b, c⟩
    exact ⟨a, u, by omega, c⟩
  · rintro ⟨a, u, b, c1, c2, c3⟩
    refine ⟨a, u, ?_, c1, c2, c3⟩
    rcases b with b | ⟨b, b2⟩
    · exact .inl b
    · refine .inr ⟨b, ?_⟩
      by_cases z : j = i
      · subst z; subst b
        exact absurd ⟨c1, by rw [c2, c3]⟩ hi
      · omega
theorem LED_set {n nm s i : Nat} {rr nx : Nat → Nat → Nat} {pt L : Nat → Nat} (h : LED n nm rr nx pt L s i) (hi : rr s i = 0 ∧ pt (nx s i) = pt s) (hn : i < nm) (hp : pt s ≠ 0) : LED n nm rr nx pt (upN L (pt s - 1) (L (pt s - 1) ||| 2 ^ i)) s (i + 1) := by
  intro r hr
  obtain ⟨h1, h2⟩ := h r hr
  have h3 : 2 ^ i < 2 ^ nm := Nat.pow_lt_pow_right (by decide) hn
  by_cases hrp : r = pt s - 1
  · rw [← hrp, upN_s]
    refine ⟨Nat.or_lt_two_pow h1 h3, fun j => ?_⟩
    rw [fb_bit_set, Bool.or_eq_true, h2 j]
    constructor
    · rintro (⟨a, u, b, c⟩ | z)
      · exact ⟨a, u, by omega, c⟩
      · have z := of_decide_eq_true z
        subst z
        exact ⟨hn, s, .inr ⟨rfl, by omega⟩, hi.1, by omega, by rw [hi.2]; omega⟩
    · rintro ⟨a, u, b, c⟩
      by_cases z : j = i
      · exact .inr (decide_eq_true z)
      · exact .inl ⟨a, u, by omega, c⟩
  · rw [upN_n hrp]
    refine ⟨h1, fun j => (h2 j).trans ?_⟩
    constructor
    · rintro ⟨a, u, b, c⟩
      exact ⟨a, u, by omega, c⟩
    · rintro ⟨a, u, b, c1, c2, c3⟩
      refine ⟨a, u, ?_, c1, c2, c3⟩
      rcases b with b | ⟨b, b2⟩
      · exact .inl b
      · exfalso; rw [b] at c2; omega
theorem LED_next {n nm s i : Nat} {rr nx : Nat → Nat → Nat} {pt L : Nat → Nat} (h : LED n nm rr nx pt L s i) (hi : nm ≤ i) : LED n nm rr nx pt L (s + 1) 0 := by
  intro r hr
  obtain ⟨h1, h2⟩ := h r hr
  refine ⟨h1, fun j => (h2 j).trans ?_⟩
  constructor
  · rintro ⟨a, u, b, c⟩
    exact ⟨a, u, by omega, c⟩
  · rintro ⟨a, u, b, c⟩
    exact ⟨a, u, by omega, c⟩
theorem LED_good {n nm s : Nat} {rr nx : Nat → Nat → Nat} {pt L : Nat → Nat} (h : LED n nm rr nx pt L n 0) (hA : PA n nm rr nx pt) (hz : ∀ s, s < n → pt s ≠ 0) (hnx : ∀ s i, s < n → i < nm → rr s i = 0 → nx s i < n) (hnm : nm ≠ 0) (hs : s < n) : L (pt s - 1) = 2 ^ nm - 1 ↔ good n nm rr nx s := by
  have hps := hz s hs
  have hpl := (hA.1 s hs).1
  obtain ⟨h1, h2⟩ := h (pt s - 1) (by omega)
  rw [full_bit h1]
  unfold good
  constructor
  · intro g
    refine ⟨hnm, fun i hi => ?_⟩
    obtain ⟨_, u, b, c1, c2, c3⟩ := (h2 i).mp (g i hi)
    have hu : u < n := by omega
    have hx := hnx u i hu hi c1
    exact ⟨u, hu, (hA.2.2 s u hs hu hps).mp (by omega), c1, (hA.2.2 s _ hs hx hps).mp (by omega)⟩
  · rintro ⟨_, g⟩ i hi
    obtain ⟨u, hu, m1, c1, m2⟩ := g i hi
    have hx := hnx u i hu hi c1
    refine (h2 i).mpr ⟨hi, u, .inl hu, c1, ?_, ?_⟩
    · have := (hA.2.2 s u hs hu hps).mpr m1; omega
    · have := (hA.2.2 s _ hs hx hps).mpr m2; omega
def S_en (m : Nat) : Nat → Nat → Prop := fun a _ => m + 31 ≤ a ∧ a ≤ m + 37
theorem M_endlessMany {m n nm : Nat} {rr nx : Nat → Nat → Nat} {h : HP} (ht : TAB m n nm rr nx h) : pw (f_M_endlessMany m h) (fun x => x.1 = nI (fb_ct (goodb n nm rr nx) n) ∧ hp_fr (S_en m) h x.2) := by
  obtain ⟨hm, a2, a3, a4, a5, a6, a7, a8⟩ := id ht
  unfold f_M_endlessMany
  rw [a4]
  by_cases hnm : nm = 0
  · rw [hnm, if_pos (show nI 0 = (0 : Int32) from rfl)]
    refine pw_some ⟨?_, hp_fr_rf h⟩
    rw [fb_ct_zero.mpr (fun s _ => bool_f (fun z => (goodb_iff.mp z).1 rfl))]; rfl
  rw [if_neg (nI_ne0 (by omega) (by omega))]
  refine pw_bind (pw_mono (M_layParts ht) ?_)
  rintro g1 ⟨H1, pt, hA, hz, hpt⟩
  have H1 : hp_fr (S_en m) h g1 := hp_fr_mo H1 (by unfold S_lps S_en; omega)
  have ht1 := TAB_fr H1 (by unfold S_en; omega) ht
  have hp2 : 2 ^ nm ≤ 2 ^ 6 := Nat.pow_le_pow_right (by decide) a3
  have hp2 : 2 ^ nm ≤ 64 := hp2
  have hp1 : 0 < 2 ^ nm := Nat.two_pow_pos nm
  -- the count
  have cnt : ∀ g L, hp_fr (fun a _ => a = m + 37) g1 g → LED n nm rr nx pt L n 0 → (∀ r, r < n → hp_i g (m + 37) r = nI (L r)) → pw (f_M_endlessMany_116 m g) (fun x => x.1 = nI (fb_ct (goodb n nm rr nx) n) ∧ hp_fr (S_en m) h x.2) := by
    intro g L H hL hx
    have htg := TAB_fr H (by omega) ht1
    obtain ⟨hm, _, _, a4, a5, _, _, _⟩ := id htg
    unfold f_M_endlessMany_116 f_M_endlessMany_120
    refine pw_cnt n (fun e t => t = (nI (fb_ct (goodb n nm rr nx) e), nI e, g)) ?_ ?_ 0 (0, 0, g) (by omega) rfl
    · rintro e t he rfl
      have hpe := hz e he
      have hpl := (hA.1 e he).1
      have e1 : hp_i g (m + 36) e = nI (pt e - 1) := by rw [hf_i H (by omega), hpt e he, im_p (by omega)]
      have hLl := (hL (pt e - 1) (by omega)).1
      dsimp only
      unfold f_M_endlessMany_120b f_M_endlessMany_156
      rw [a5, if_neg (nI_ge he (by omega)), mb_75 hm, mb_74 hm, mn_36 hm, if_pos (hp_in_nI (by omega) (by omega)), nI_clamp (by omega), e1, mn_37 hm, if_pos (hp_in_nI (by omega) (by omega)), nI_clamp (by omega), hx _ (by omega), a4, show (1 : Int32) <<< (nI nm &&& 31) = nI (2 ^ nm) from sh1 (by omega), sub1 hp1]
      by_cases hg : good n nm rr nx e
      · rw [if_pos (by rw [(LED_good hL hA hz a7 hnm he).mpr hg]), xx_lE, xx_lE]
        refine pw_L rfl ?_
        rw [nI_1, nI_1, fb_ct_succ, goodb_iff.mpr hg]; rfl
      · rw [if_neg (fun z => hg ((LED_good hL hA hz a7 hnm he).mp ((nI_eq (by omega) (by omega)).mp z))), xx_lE, xx_lE]
        refine pw_L rfl ?_
        rw [nI_1, fb_ct_succ, bool_f (fun z => hg (goodb_iff.mp z)), show (0 : Int32) = nI 0 from rfl, nI_add]; rfl
    · rintro t rfl
      refine pw_R (t := (nI (fb_ct (goodb n nm rr nx) n), g)) ?_ ⟨rfl, hp_fr_tr H1 (hp_fr_mo H (by unfold S_en; omega))⟩
      dsimp only
      unfold f_M_endlessMany_120b
      rw [a5, if_pos (nI_le (Nat.le_refl _) (by omega))]
  -- the leads within
  have led : ∀ g, hp_fr (fun a _ => a = m + 37) g1 g → (∀ r, r < n → hp_i g (m + 37) r = 0) → pw (f_M_endlessMany_36 m g) (fun x => x.1 = nI (fb_ct (goodb n nm rr nx) n) ∧ hp_fr (S_en m) h x.2) := by
    intro g H hx
    unfold f_M_endlessMany_36 f_M_endlessMany_38
    refine pw_cnt n (fun s t => t.1 = nI s ∧ hp_fr (fun a _ => a = m + 37) g1 t.2 ∧ ∃ L, LED n nm rr nx pt L s 0 ∧ ∀ r, r < n → hp_i t.2 (m + 37) r = nI (L r)) ?_ ?_ 0 (0, g) (by omega) ⟨rfl, H, fun _ => 0, fun r _ => ⟨hp1, fun j => ⟨fun z => by rw [Nat.zero_testBit] at z; exact absurd z (by decide), fun z => by obtain ⟨_, u, b, _⟩ := z; omega⟩⟩, hx⟩
    · rintro s ⟨_, g2⟩ hs ⟨rfl, H2, L, hL, hx2⟩
      dsimp only at H2 hx2 ⊢
      have ht2 := TAB_fr H2 (by omega) ht1
      unfold f_M_endlessMany_38b f_M_endlessMany_48
      rw [ht2.2.2.2.2.1, if_neg (nI_ge hs (by omega))]
      refine pw_cnt nm (fun i t => t.1 = nI i ∧ hp_fr (fun a _ => a = m + 37) g1 t.2 ∧ ∃ L, LED n nm rr nx pt L s i ∧ ∀ r, r < n → hp_i t.2 (m + 37) r = nI (L r)) ?_ ?_ 0 (0, g2) (by omega) ⟨rfl, H2, L, hL, hx2⟩
      · rintro i ⟨_, g3⟩ hi ⟨rfl, H3, L, hL, hx3⟩
        dsimp only at H3 hx3 ⊢
        have ht3 := TAB_fr H3 (by omega) ht1
        obtain ⟨hm, _, _, a4, a5, _, _, a8⟩ := id ht3
        have hps := hz s hs
        have hpl := (hA.1 s hs).1
        have e36 : ∀ u, u < n → hp_i g3 (m + 36) u = im (pt u) := fun u hu => by rw [hf_i H3 (by omega)]; exact hpt u hu
        have hLl := (hL (pt s - 1) (by omega)).1
        unfold f_M_endlessMany_48b f_M_endlessMany_104
        rw [a4, if_neg (nI_ge hi (by omega)), mb_64 hm, show (6 : Int32) = nI 6 from rfl, pk_mul, nI_add, mn_29 hm, if_pos (hp_in_nI (by omega) (by omega)), nI_clamp (by omega), a8 s i hs hi, xx_lE]
        have hr3 := a6 s i hs hi
        by_cases h0 : rr s i = 0
        · obtain ⟨x, hxx⟩ : ∃ x, nx s i = x := ⟨_, rfl⟩
          have hxn : x < n := by rw [← hxx]; exact a7 s i hs hi h0
          have hpx := hz x hxn
          have hplx := (hA.1 x hxn).1
          rw [h0, ncv_0, hxx, if_neg (nI_pos (by omega)), mb_74 hm, mn_36 hm, if_pos (hp_in_nI (by omega) (by omega)), mb_74 hm, mn_36 hm, if_pos (hp_in_nI (by omega) (by omega)), nI_clamp (by omega), nI_clamp (by omega), e36 x hxn, e36 s hs, im_p (show 0 < pt x by omega), im_p (show 0 < pt s by omega)]
          by_cases hc : pt x = pt s
          · rw [hc, if_pos rfl, mb_75 hm, mb_74 hm, mn_36 hm, if_pos (hp_in_nI (by omega) (by omega)), e36 s hs, im_p (show 0 < pt s by omega), mn_37 hm, if_pos (hp_in_nI (by omega) (by omega)), if_pos (hp_in_nI (by omega) (by omega)), nI_clamp (by omega), hx3 _ (by omega), show (1 : Int32) <<< (nI i &&& 31) = nI (2 ^ i) from sh1 (by omega), fa_or, xx_lE, xx_lE]
            refine pw_L rfl ⟨nI_1 i, hf_si H3 rfl, _, LED_set hL ⟨h0, by rw [hxx]; exact hc⟩ hi hps, fun r hr => ?_⟩
            rw [hp_i_si]
            by_cases w : r = pt s - 1
            · rw [if_pos ⟨rfl, w⟩, w, upN_s]
            · rw [if_neg (fun y => w y.2), upN_n w]; exact hx3 r hr
          · rw [if_neg (fun z => hc (by have := (nI_eq (by omega) (by omega)).mp z; omega)), xx_lE]
            exact pw_L rfl ⟨nI_1 i, H3, L, LED_skip hL (fun z => hc (by rw [← hxx]; exact z.2)), hx3⟩
        · have hneg : ncv (rr s i) (nx s i) < (0 : Int32) := by
            rw [ncv_c0 h0 hr3]
            have : rr s i = 1 ∨ rr s i = 2 := by omega
            rcases this with z | z <;> rw [z] <;> decide
          rw [if_pos hneg, xx_lE]
          exact pw_L rfl ⟨nI_1 i, H3, L, LED_skip hL (fun z => h0 z.1), hx3⟩
      · rintro ⟨_, g3⟩ ⟨rfl, H3, L, hL, hx3⟩
        dsimp only at H3 hx3 ⊢
        have ht3 := TAB_fr H3 (by omega) ht1
        refine pw_R (t := (Sum.inl (nI (s + 1), g3) : (Int32 × HP) ⊕ (Int32 × HP))) ?_ ⟨rfl, H3, L, LED_next hL (Nat.le_refl _), hx3⟩
        unfold f_M_endlessMany_48b f_M_endlessMany_110
        rw [ht3.2.2.2.1, if_pos (nI_le (Nat.le_refl _) (by omega)), xx_lE, nI_1]; rfl
    · rintro ⟨_, g2⟩ ⟨rfl, H2, L, hL, hx2⟩
      dsimp only at H2 hx2 ⊢
      have ht2 := TAB_fr H2 (by omega) ht1
      unfold f_M_endlessMany_38b
      rw [ht2.2.2.2.2.1, if_pos (nI_le (Nat.le_refl _) (by omega))]
      exact pw_mapR (cnt g2 L H2 hL hx2)
  unfold f_M_endlessMany_15
  refine pw_cnt n (fun e t => t.1 = nI e ∧ hp_fr (fun a _ => a = m + 37) g1 t.2 ∧ ∀ u, u < e → hp_i t.2 (m + 37) u = 0) ?_ ?_ 0 (0, g1) (by omega) ⟨rfl, hp_fr_rf g1, fun u hu => absurd hu (Nat.not_lt_zero _)⟩
  · rintro e ⟨_, g⟩ he ⟨rfl, H, g0⟩
    dsimp only at H g0 ⊢
    have htg := TAB_fr H (by omega) ht1
    have hm := htg.1
    unfold f_M_endlessMany_15b
    rw [htg.2.2.2.2.1, if_neg (nI_ge he (by omega)), mb_75 hm, mn_37 hm, if_pos (hp_in_nI (by omega) (by omega)), nI_clamp (by omega), xx_lE, xx_lE]
    refine pw_L rfl ⟨nI_1 e, hf_si H rfl, fun u hu => ?_⟩
    rw [hp_i_si]
    by_cases z : u = e
    · rw [if_pos ⟨rfl, z⟩]
    · rw [if_neg (fun w => z w.2)]; exact g0 u (by omega)
  · rintro ⟨_, g⟩ ⟨rfl, H, g0⟩
    dsimp only at H g0 ⊢
    have htg := TAB_fr H (by omega) ht1
    unfold f_M_endlessMany_15b
    rw [htg.2.2.2.2.1, if_pos (nI_le (Nat.le_refl _) (by omega))]
    exact pw_mapR (led g H g0)
