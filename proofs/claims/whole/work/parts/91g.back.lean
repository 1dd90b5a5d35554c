/-! the reference's way: the leads backwards -/
def evb (nm : Nat) (rr : Nat → Nat → Nat) (e : Nat) : Bool := decide (e % 6 < nm ∧ rr (e / 6) (e % 6) = 0)
def etg (nx : Nat → Nat → Nat) (e : Nat) : Nat := nx (e / 6) (e % 6)
def ctt (nm : Nat) (rr nx : Nat → Nat → Nat) (t : Nat) : Nat → Nat := fb_ct (fun e => evb nm rr e && decide (etg nx e = t))
def bsm (nm : Nat) (rr nx : Nat → Nat → Nat) (N t : Nat) : Nat := fb_sm (fun u => ctt nm rr nx u N) t
theorem ctt_s (nm : Nat) (rr nx : Nat → Nat → Nat) (t e : Nat) : ctt nm rr nx t (e + 1) = ctt nm rr nx t e + (if evb nm rr e = true ∧ etg nx e = t then 1 else 0) := by
  unfold ctt
  rw [fb_ct_succ]
  congr 1
  by_cases h1 : evb nm rr e = true
  · by_cases h2 : etg nx e = t
    · simp [h1, h2]
    · simp [h1, h2]
  · simp [h1]
theorem sm_one (p : Bool) (x : Nat) : ∀ n, fb_sm (fun u => if p = true ∧ x = u then 1 else 0) n ≤ (if x < n then 1 else 0) := by
  intro n
  induction n with
  | zero => show 0 ≤ _; omega
  | succ n ih =>
    rw [fb_sm_succ]
    by_cases h : x < n
    · rw [if_pos h] at ih
      rw [if_neg (by omega), if_pos (by omega)]; omega
    · rw [if_neg h] at ih
      by_cases h2 : x = n
      · rw [if_pos (show x < n + 1 by omega)]; split <;> omega
      · rw [if_neg (fun z => h2 z.2), if_neg (by omega)]; omega
theorem bsm_le (nm : Nat) (rr nx : Nat → Nat → Nat) (t : Nat) : ∀ N, bsm nm rr nx N t ≤ N := by
  intro N
  induction N with
  | zero =>
    unfold bsm
    have : fb_sm (fun u => ctt nm rr nx u 0) t ≤ t * 0 := fb_sm_bound (fun k _ => Nat.le_refl _)
    omega
  | succ N ih =>
    unfold bsm at *
    have e : fb_sm (fun u => ctt nm rr nx u (N + 1)) t = fb_sm (fun u => ctt nm rr nx u N) t + fb_sm (fun u => if evb nm rr N = true ∧ etg nx N = u then 1 else 0) t := by
      rw [← fb_sm_add]
      exact fb_sm_cong (fun u _ => ctt_s nm rr nx u N)
    have h1 := sm_one (evb nm rr N) (etg nx N) t
    have h2 : (if etg nx N < t then 1 else 0) ≤ 1 := by split <;> omega
    omega
theorem bsm_s (nm : Nat) (rr nx : Nat → Nat → Nat) (N t : Nat) : bsm nm rr nx N (t + 1) = bsm nm rr nx N t + ctt nm rr nx t N := rfl
theorem bsm_mono (nm : Nat) (rr nx : Nat → Nat → Nat) (N : Nat) {t u : Nat} (h : t ≤ u) : bsm nm rr nx N t ≤ bsm nm rr nx N u := by
  have := fb_sm_mono (fun u => ctt nm rr nx u N) t (u - t)
  rw [show t + (u - t) = u by omega] at this; exact this
def BCK (m n nm : Nat) (rr nx : Nat → Nat → Nat) (g : HP) : Prop := ∃ b k : Nat → Nat, (∀ t, t ≤ n → hp_i g (m + 31) t = nI (b t) ∧ b t ≤ 30000) ∧ (∀ t, t < n → b t ≤ b (t + 1)) ∧ (∀ t j, t < n → b t ≤ j → j < b (t + 1) → hp_i g (m + 32) j = nI (k j) ∧ Gg n nm rr nx (k j) t) ∧ ∀ s t, Gg n nm rr nx s t → ∃ j, b t ≤ j ∧ j < b (t + 1) ∧ k j = s
theorem BCK_fr {S : Nat → Nat → Prop} {m n nm : Nat} {rr nx : Nat → Nat → Nat} {h h' : HP} (H : hp_fr S h h') (hS : ∀ a k, S a k → a ≠ m + 31 ∧ a ≠ m + 32) (hb : BCK m n nm rr nx h) : BCK m n nm rr nx h' := by
  obtain ⟨b, k, b1, b2, b3, b4⟩ := hb
  refine ⟨b, k, fun t ht => ?_, b2, fun t j h1 h2 h3 => ?_, b4⟩
  · rw [hf_i H (fun z => (hS _ _ z).1 rfl)]; exact b1 t ht
  · rw [hf_i H (fun z => (hS _ _ z).2 rfl)]; exact b3 t j h1 h2 h3
def S_kb (m : Nat) : Nat → Nat → Prop := fun a _ => a = m + 31 ∨ a = m + 32 ∨ a = m + 35
theorem tab_e {m n nm e : Nat} {rr nx : Nat → Nat → Nat} {g : HP} (ht : TAB m n nm rr nx g) (he : e < 6 * n) (hi : e % 6 < nm) : hp_i g (m + 29) e = ncv (rr (e / 6) (e % 6)) (etg nx e) := by
  have := ht.2.2.2.2.2.2.2 (e / 6) (e % 6) (by omega) hi
  rw [show 6 * (e / 6) + e % 6 = e by omega] at this
  exact this
theorem B_4 {m n nm : Nat} {rr nx : Nat → Nat → Nat} {h : HP} (ht : TAB m n nm rr nx h) (hb : ∀ t, t ≤ n → hp_i h (m + 31) t = nI (bsm nm rr nx (6 * n) t)) (h0 : ∀ t, t < n → hp_i h (m + 35) t = 0) : pw (f_M_layBack_119 m h) (fun g => hp_fr (S_kb m) h g ∧ BCK m n nm rr nx g) := by
  obtain ⟨hm, a2, a3, a4, a5, a6, a7, a8⟩ := id ht
  have hbl := fun t => bsm_le nm rr nx t (6 * n)
  unfold f_M_layBack_119 f_M_layBack_121
  have pos : ∀ e, e < 6 * n → evb nm rr e = true → etg nx e < n ∧ ctt nm rr nx (etg nx e) e < ctt nm rr nx (etg nx e) (6 * n) := by
    intro e he hv
    have hv' := of_decide_eq_true hv
    refine ⟨a7 _ _ (by omega) hv'.1 hv'.2, ?_⟩
    have h1 := ctt_s nm rr nx (etg nx e) e
    rw [if_pos ⟨hv, rfl⟩] at h1
    have h2 : ctt nm rr nx (etg nx e) (e + 1) ≤ ctt nm rr nx (etg nx e) (6 * n) := fb_ct_mono _ (by omega)
    omega
  have dis : ∀ e f, e < f → f < 6 * n → evb nm rr e = true → evb nm rr f = true → bsm nm rr nx (6 * n) (etg nx e) + ctt nm rr nx (etg nx e) e ≠ bsm nm rr nx (6 * n) (etg nx f) + ctt nm rr nx (etg nx f) f := by
    intro e f hef hf he' hf' z
    obtain ⟨p1, p2⟩ := pos e (by omega) he'
    obtain ⟨q1, q2⟩ := pos f hf hf'
    rcases Nat.lt_trichotomy (etg nx e) (etg nx f) with w | w | w
    · have := bsm_mono nm rr nx (6 * n) (show etg nx e + 1 ≤ etg nx f by omega)
      rw [bsm_s] at this; omega
    · rw [w] at z p2
      have h1 := ctt_s nm rr nx (etg nx f) e
      rw [if_pos ⟨he', w⟩] at h1
      have h2 : ctt nm rr nx (etg nx f) (e + 1) ≤ ctt nm rr nx (etg nx f) f := fb_ct_mono _ (by omega)
      omega
    · have := bsm_mono nm rr nx (6 * n) (show etg nx f + 1 ≤ etg nx e by omega)
      rw [bsm_s] at this; omega
  refine pw_cnt (6 * n) (fun e t => t.1 = nI e ∧ hp_fr (fun a _ => a = m + 32 ∨ a = m + 35) h t.2 ∧ (∀ u, u < n → hp_i t.2 (m + 35) u = nI (ctt nm rr nx u e)) ∧ ∀ f, f < e → evb nm rr f = true → hp_i t.2 (m + 32) (bsm nm rr nx (6 * n) (etg nx f) + ctt nm rr nx (etg nx f) f) = nI (f / 6)) ?_ ?_ 0 (0, h) (by omega) ⟨rfl, hp_fr_rf h, h0, fun f hf => absurd hf (Nat.not_lt_zero _)⟩
  · rintro e ⟨_, g⟩ he ⟨rfl, H, gc, gk⟩
    dsimp only at H gc gk ⊢
    have htg := TAB_fr H (by omega) ht
    obtain ⟨hm, _, _, a4, a5, _, _, _⟩ := id htg
    unfold f_M_layBack_121b f_M_layBack_202
    rw [a5, show (6 : Int32) = nI 6 from rfl, pk_mul, if_neg (nI_ge he (by omega)), a4, pk_rem (by omega) (by decide) (by decide)]
    have skip : evb nm rr e = false → pw (xx_l (nI e + 1) fun v1_1 => some (.inl (v1_1, g))) (xx_L2 (fun t : Int32 × HP => t.1 = nI (e + 1) ∧ hp_fr (fun a _ => a = m + 32 ∨ a = m + 35) h t.2 ∧ (∀ u, u < n → hp_i t.2 (m + 35) u = nI (ctt nm rr nx u (e + 1))) ∧ ∀ f, f < e + 1 → evb nm rr f = true → hp_i t.2 (m + 32) (bsm nm rr nx (6 * n) (etg nx f) + ctt nm rr nx (etg nx f) f) = nI (f / 6)) (fun g => hp_fr (S_kb m) h g ∧ BCK m n nm rr nx g)) := by
      intro hv
      rw [xx_lE]
      refine pw_L rfl ⟨nI_1 e, H, fun u hu => ?_, fun f hf hv2 => ?_⟩
      · rw [ctt_s, if_neg (fun z => by rw [hv] at z; exact absurd z.1 (by decide)), Nat.add_zero]; exact gc u hu
      · by_cases z : f = e
        · rw [z, hv] at hv2; exact absurd hv2 (by decide)
        · exact gk f (by omega) hv2
    by_cases h1 : e % 6 < nm
    · have ee := tab_e htg he h1
      rw [if_neg (nI_ge h1 (by omega)), mb_64 hm, mn_29 hm, if_pos (hp_in_nI (by omega) (by omega)), nI_clamp (by omega), ee]
      have hr3 := a6 (e / 6) (e % 6) (by omega) h1
      by_cases h2 : rr (e / 6) (e % 6) = 0
      · have hv : evb nm rr e = true := decide_eq_true ⟨h1, h2⟩
        obtain ⟨p1, p2⟩ := pos e he hv
        obtain ⟨x, hx⟩ : ∃ x, etg nx e = x := ⟨_, rfl⟩
        have hbx := hbl (x + 1)
        rw [bsm_s] at hbx
        rw [hx] at p1 p2 ee ⊢
        rw [h2, ncv_0] at ee ⊢
        have gb : hp_i g (m + 31) x = nI (bsm nm rr nx (6 * n) x) := by rw [hf_i H (by omega)]; exact hb x (by omega)
        rw [if_pos (nI_pos' (by omega)), mb_70 hm, mb_69 hm, mb_64 hm, mn_29 hm, if_pos (hp_in_nI (by omega) (by omega)), ee, mn_31 hm, if_pos (hp_in_nI (by omega) (by omega)), mb_73 hm, mb_64 hm, mn_29 hm, if_pos (hp_in_nI (by omega) (by omega)), ee, mn_35 hm, if_pos (hp_in_nI (by omega) (by omega)), nI_clamp (by omega), gb, gc x p1, nI_add, mn_32 hm, if_pos (hp_in_nI (by omega) (by omega)), nI_clamp (by omega), pk_div (by omega) (by decide) (by decide), xx_lE]
        have hm2 : MS m (hp_si g (m + 32) (bsm nm rr nx (6 * n) x + ctt nm rr nx x e) (nI (e / 6))) := hm
        have ee2 : hp_i (hp_si g (m + 32) (bsm nm rr nx (6 * n) x + ctt nm rr nx x e) (nI (e / 6))) (m + 29) e = nI x := by rw [hp_i_si, if_neg (by omega)]; exact ee
        have gc2 : hp_i (hp_si g (m + 32) (bsm nm rr nx (6 * n) x + ctt nm rr nx x e) (nI (e / 6))) (m + 35) x = nI (ctt nm rr nx x e) := by rw [hp_i_si, if_neg (by omega)]; exact gc x p1
        rw [mb_73 hm2, mb_64 hm2, mn_29 hm2, if_pos (hp_in_nI (by omega) (by omega)), ee2, mn_35 hm2, if_pos (hp_in_nI (by omega) (by omega)), if_pos (hp_in_nI (by omega) (by omega)), nI_clamp (by omega), gc2, nI_1, xx_lE, xx_lE]
        refine pw_L rfl ⟨nI_1 e, hf_si (hf_si H (.inl rfl)) (.inr rfl), fun u hu => ?_, fun f hf hv2 => ?_⟩
        · rw [hp_i_si, ctt_s]
          by_cases z : u = x
          · rw [if_pos ⟨rfl, z⟩, if_pos ⟨hv, by rw [hx, z]⟩, z]
          · rw [if_neg (fun w => z w.2), if_neg (fun w => z (by rw [← w.2, hx])), hp_i_si, if_neg (by omega), Nat.add_zero]; exact gc u hu
        · rw [hp_i_si, if_neg (by omega), hp_i_si]
          by_cases z : f = e
          · rw [z, hx, if_pos ⟨rfl, rfl⟩]
          · have := dis f e (by omega) he hv2 hv
            rw [hx] at this
            rw [if_neg (fun w => this w.2)]; exact gk f (by omega) hv2
      · have hx := ncv_neg (x := etg nx e) hr3
        have hneg : ¬ (0 : Int32) ≤ ncv (rr (e / 6) (e % 6)) (etg nx e) := by
          rw [ncv_c0 h2 hr3]
          have : rr (e / 6) (e % 6) = 1 ∨ rr (e / 6) (e % 6) = 2 := by omega
          rcases this with z | z <;> rw [z] <;> decide
        rw [if_neg hneg]
        exact skip (decide_eq_false (fun z => h2 z.2))
    · rw [if_pos (nI_le (by omega) (by omega))]
      exact skip (decide_eq_false (fun z => h1 z.1))
  · rintro ⟨_, g⟩ ⟨rfl, H, gc, gk⟩
    dsimp only at H gc gk ⊢
    have htg := TAB_fr H (by omega) ht
    obtain ⟨hm, _, _, a4, a5, _, _, _⟩ := id htg
    refine pw_R (t := g) ?_ ⟨hp_fr_mo H (by unfold S_kb; omega), bsm nm rr nx (6 * n), fun j => (hp_i g (m + 32) j).toNatClampNeg, fun t h1 => ⟨?_, ?_⟩, fun t _ => ?_, fun t j h1 h2 h3 => ?_, ?_⟩
    · unfold f_M_layBack_121b
      rw [a5, show (6 : Int32) = nI 6 from rfl, pk_mul, if_pos (nI_le (Nat.le_refl _) (by omega))]
    · rw [hf_i H (by omega)]; exact hb t h1
    · have := hbl t; omega
    · rw [bsm_s]; omega
    · rw [bsm_s] at h3
      obtain ⟨e, e1, e2, e3⟩ := fb_ct_kth (show j - bsm nm rr nx (6 * n) t < fb_ct (fun e => evb nm rr e && decide (etg nx e = t)) (6 * n) by show _ < ctt nm rr nx t (6 * n); omega)
      simp only [Bool.and_eq_true] at e2
      obtain ⟨e2, e4⟩ := e2
      have e4 := of_decide_eq_true e4
      have e3 : ctt nm rr nx t e = j - bsm nm rr nx (6 * n) t := e3
      have := gk e e1 e2
      rw [e4, e3, show bsm nm rr nx (6 * n) t + (j - bsm nm rr nx (6 * n) t) = j by omega] at this
      dsimp only
      rw [this, nI_clamp (by omega)]
      have e2 := of_decide_eq_true e2
      exact ⟨rfl, by omega, e % 6, e2.1, e2.2, e4⟩
    · rintro s t ⟨s1, i, i1, i2, i3⟩
      have hv : evb nm rr (6 * s + i) = true := by
        unfold evb
        rw [show (6 * s + i) % 6 = i by omega, show (6 * s + i) / 6 = s by omega]
        exact decide_eq_true ⟨i1, i2⟩
      have ht : etg nx (6 * s + i) = t := by
        unfold etg
        rw [show (6 * s + i) % 6 = i by omega, show (6 * s + i) / 6 = s by omega]; exact i3
      have := (pos (6 * s + i) (by omega) hv).2
      rw [ht] at this
      refine ⟨bsm nm rr nx (6 * n) t + ctt nm rr nx t (6 * s + i), by omega, by rw [bsm_s]; omega, ?_⟩
      have gg := gk (6 * s + i) (by omega) hv
      rw [ht] at gg
      dsimp only
      rw [gg, nI_clamp (by omega)]; omega
theorem B_3 {m n nm : Nat} {rr nx : Nat → Nat → Nat} {h : HP} (ht : TAB m n nm rr nx h) (hb0 : hp_i h (m + 31) 0 = 0) (hb : ∀ t, t < n → hp_i h (m + 31) (t + 1) = nI (ctt nm rr nx t (6 * n))) : pw (f_M_layBack_79 m h) (fun g => hp_fr (S_kb m) h g ∧ BCK m n nm rr nx g) := by
  obtain ⟨hm, a2, a3, a4, a5, a6, a7, a8⟩ := id ht
  unfold f_M_layBack_79 f_M_layBack_81
  refine pw_cnt n (fun e t => t.1 = nI e ∧ hp_fr (fun a _ => a = m + 31 ∨ a = m + 35) h t.2 ∧ (∀ u, u ≤ e → hp_i t.2 (m + 31) u = nI (bsm nm rr nx (6 * n) u)) ∧ (∀ u, e ≤ u → u < n → hp_i t.2 (m + 31) (u + 1) = nI (ctt nm rr nx u (6 * n))) ∧ ∀ u, u < e → hp_i t.2 (m + 35) u = 0) ?_ ?_ 0 (0, h) (by omega) ⟨rfl, hp_fr_rf h, fun u hu => by rw [show u = 0 by omega]; exact hb0, fun u _ => hb u, fun f hf => absurd hf (Nat.not_lt_zero _)⟩
  · rintro e ⟨_, g⟩ he ⟨rfl, H, g1, g2, g3⟩
    dsimp only at H g1 g2 g3 ⊢
    have htg := TAB_fr H (by omega) ht
    obtain ⟨hm, _, _, a4, a5, _, _, _⟩ := id htg
    unfold f_M_layBack_81b
    rw [a5, if_neg (nI_ge he (by omega)), mb_69 hm, nI_1, mn_31 hm, if_pos (hp_in_nI (by omega) (by omega)), mb_69 hm, mn_31 hm, if_pos (hp_in_nI (by omega) (by omega)), if_pos (hp_in_nI (by omega) (by omega)), nI_clamp (by omega), nI_clamp (by omega), g2 e (by omega) he, g1 e (by omega), nI_add, xx_lE]
    have hm2 : MS m (hp_si g (m + 31) (e + 1) (nI (ctt nm rr nx e (6 * n) + bsm nm rr nx (6 * n) e))) := hm
    rw [mb_73 hm2, mn_35 hm2, if_pos (hp_in_nI (by omega) (by omega)), xx_lE, xx_lE]
    refine pw_L rfl ⟨rfl, hf_si (hf_si H (.inl rfl)) (.inr rfl), fun u hu => ?_, fun u h1 h2 => ?_, fun u hu => ?_⟩
    · rw [hp_i_si, if_neg (by omega), hp_i_si]
      by_cases z : u = e + 1
      · rw [if_pos ⟨rfl, z⟩, z, bsm_s, Nat.add_comm]
      · rw [if_neg (fun w => z w.2)]; exact g1 u (by omega)
    · rw [hp_i_si, if_neg (by omega), hp_i_si, if_neg (by omega)]; exact g2 u (by omega) h2
    · rw [hp_i_si]
      by_cases z : u = e
      · rw [if_pos ⟨rfl, z⟩]
      · rw [if_neg (fun w => z w.2), hp_i_si, if_neg (by omega)]; exact g3 u (by omega)
  · rintro ⟨_, g⟩ ⟨rfl, H, g1, g2, g3⟩
    dsimp only at H g1 g2 g3 ⊢
    have htg := TAB_fr H (by omega) ht
    unfold f_M_layBack_81b
    rw [htg.2.2.2.2.1, if_pos (nI_le (Nat.le_refl _) (by omega))]
    refine pw_mapR (pw_mono (B_4 htg g1 g3) ?_)
    rintro g' ⟨K, B⟩
    exact ⟨hp_fr_tr (hp_fr_mo H (by unfold S_kb; omega)) K, B⟩
theorem B_2 {m n nm : Nat} {rr nx : Nat → Nat → Nat} {h : HP} (ht : TAB m n nm rr nx h) (hb : ∀ t, t ≤ n → hp_i h (m + 31) t = 0) : pw (f_M_layBack_23 m h) (fun g => hp_fr (S_kb m) h g ∧ BCK m n nm rr nx g) := by
  obtain ⟨hm, a2, a3, a4, a5, a6, a7, a8⟩ := id ht
  unfold f_M_layBack_23 f_M_layBack_25
  refine pw_cnt (6 * n) (fun e t => t.1 = nI e ∧ hp_fr (fun a _ => a = m + 31) h t.2 ∧ hp_i t.2 (m + 31) 0 = 0 ∧ ∀ u, u < n → hp_i t.2 (m + 31) (u + 1) = nI (ctt nm rr nx u e)) ?_ ?_ 0 (0, h) (by omega) ⟨rfl, hp_fr_rf h, hb 0 (by omega), fun u hu => hb (u + 1) (by omega)⟩
  · rintro e ⟨_, g⟩ he ⟨rfl, H, g1, g2⟩
    dsimp only at H g1 g2 ⊢
    have htg := TAB_fr H (by omega) ht
    obtain ⟨hm, _, _, a4, a5, _, _, _⟩ := id htg
    unfold f_M_layBack_25b f_M_layBack_73
    rw [a5, show (6 : Int32) = nI 6 from rfl, pk_mul, if_neg (nI_ge he (by omega)), a4, pk_rem (by omega) (by decide) (by decide)]
    have skip : evb nm rr e = false → pw (xx_l (nI e + 1) fun v1_1 => some (.inl (v1_1, g))) (xx_L2 (fun t : Int32 × HP => t.1 = nI (e + 1) ∧ hp_fr (fun a _ => a = m + 31) h t.2 ∧ hp_i t.2 (m + 31) 0 = 0 ∧ ∀ u, u < n → hp_i t.2 (m + 31) (u + 1) = nI (ctt nm rr nx u (e + 1))) (fun g => hp_fr (S_kb m) h g ∧ BCK m n nm rr nx g)) := by
      intro hv
      rw [xx_lE]
      refine pw_L rfl ⟨nI_1 e, H, g1, fun u hu => ?_⟩
      rw [ctt_s, if_neg (fun z => by rw [hv] at z; exact absurd z.1 (by decide)), Nat.add_zero]; exact g2 u hu
    by_cases h1 : e % 6 < nm
    · have ee := tab_e htg he h1
      rw [if_neg (nI_ge h1 (by omega)), mb_64 hm, mn_29 hm, if_pos (hp_in_nI (by omega) (by omega)), nI_clamp (by omega), ee]
      have hr3 := a6 (e / 6) (e % 6) (by omega) h1
      by_cases h2 : rr (e / 6) (e % 6) = 0
      · have hv : evb nm rr e = true := decide_eq_true ⟨h1, h2⟩
        have p1 : etg nx e < n := a7 _ _ (by omega) h1 h2
        obtain ⟨x, hx⟩ : ∃ x, etg nx e = x := ⟨_, rfl⟩
        have hcl : ctt nm rr nx x e ≤ e := fb_ct_le _ _
        rw [hx] at p1 ee ⊢
        rw [h2, ncv_0] at ee ⊢
        rw [if_neg (nI_pos (by omega)), mb_69 hm, mb_64 hm, mn_29 hm, if_pos (hp_in_nI (by omega) (by omega)), ee, nI_1, mn_31 hm, if_pos (hp_in_nI (by omega) (by omega)), if_pos (hp_in_nI (by omega) (by omega)), nI_clamp (by omega), g2 x p1, nI_1, xx_lE, xx_lE]
        refine pw_L rfl ⟨nI_1 e, hf_si H rfl, ?_, fun u hu => ?_⟩
        · rw [hp_i_si, if_neg (by omega)]; exact g1
        · rw [hp_i_si, ctt_s]
          by_cases z : u = x
          · rw [if_pos ⟨rfl, by omega⟩, if_pos ⟨hv, by rw [hx, z]⟩, z]
          · rw [if_neg (by omega), if_neg (fun w => z (by rw [← w.2, hx])), Nat.add_zero]; exact g2 u hu
      · have hneg : ncv (rr (e / 6) (e % 6)) (etg nx e) < (0 : Int32) := by
          rw [ncv_c0 h2 hr3]
          have : rr (e / 6) (e % 6) = 1 ∨ rr (e / 6) (e % 6) = 2 := by omega
          rcases this with z | z <;> rw [z] <;> decide
        rw [if_pos hneg]
        exact skip (decide_eq_false (fun z => h2 z.2))
    · rw [if_pos (nI_le (by omega) (by omega))]
      exact skip (decide_eq_false (fun z => h1 z.1))
  · rintro ⟨_, g⟩ ⟨rfl, H, g1, g2⟩
    dsimp only at H g1 g2 ⊢
    have htg := TAB_fr H (by omega) ht
    unfold f_M_layBack_25b
    rw [htg.2.2.2.2.1, show (6 : Int32) = nI 6 from rfl, pk_mul, if_pos (nI_le (Nat.le_refl _) (by omega))]
    refine pw_mapR (pw_mono (B_3 htg g1 g2) ?_)
    rintro g' ⟨K, B⟩
    exact ⟨hp_fr_tr (hp_fr_mo H (by unfold S_kb; omega)) K, B⟩
theorem M_layBack {m n nm : Nat} {rr nx : Nat → Nat → Nat} {h : HP} (ht : TAB m n nm rr nx h) : pw (f_M_layBack m h) (fun g => hp_fr (S_kb m) h g ∧ BCK m n nm rr nx g) := by
  obtain ⟨hm, a2, a3, a4, a5, a6, a7, a8⟩ := id ht
  unfold f_M_layBack f_M_layBack_2
  refine pw_cnt (n + 1) (fun e t => t.1 = nI e ∧ hp_fr (fun a _ => a = m + 31) h t.2 ∧ ∀ u, u < e → hp_i t.2 (m + 31) u = 0) ?_ ?_ 0 (0, h) (by omega) ⟨rfl, hp_fr_rf h, fun u hu => absurd hu (Nat.not_lt_zero _)⟩
  · rintro e ⟨_, g⟩ he ⟨rfl, H, g1⟩
    dsimp only at H g1 ⊢
    have htg := TAB_fr H (by omega) ht
    obtain ⟨hm, _, _, a4, a5, _, _, _⟩ := id htg
    unfold f_M_layBack_2b
    rw [a5, if_neg (nI_nlt (by omega) (by omega)), mb_69 hm, mn_31 hm, if_pos (hp_in_nI (by omega) (by omega)), nI_clamp (by omega), xx_lE, xx_lE]
    refine pw_L rfl ⟨nI_1 e, hf_si H rfl, fun u hu => ?_⟩
    rw [hp_i_si]
    by_cases z : u = e
    · rw [if_pos ⟨rfl, z⟩]
    · rw [if_neg (fun w => z w.2)]; exact g1 u (by omega)
  · rintro ⟨_, g⟩ ⟨rfl, H, g1⟩
    dsimp only at H g1 ⊢
    have htg := TAB_fr H (by omega) ht
    unfold f_M_layBack_2b
    rw [htg.2.2.2.2.1, if_pos (nI_lt (by omega) (by omega))]
    refine pw_mapR (pw_mono (B_2 htg (fun t h1 => g1 t (by omega))) ?_)
    rintro g' ⟨K, B⟩
    exact ⟨hp_fr_tr (hp_fr_mo H (by unfold S_kb; omega)) K, B⟩
