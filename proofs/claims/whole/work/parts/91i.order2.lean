/-! the reference's order over the heap -/
def im (x : Nat) : Int32 := if x = 0 then -1 else nI (x - 1)
theorem im_s (x : Nat) : im (x + 1) = nI x := by unfold im; rw [if_neg (by omega), show x + 1 - 1 = x by omega]
theorem im_p {x : Nat} (h : 0 < x) : im x = nI (x - 1) := by unfold im; rw [if_neg (by omega)]
theorem im_neg {x : Nat} (h : x ≠ 0) (hx : x < 2 ^ 31) : ¬ im x < 0 := by rw [im_p (by omega)]; exact nI_pos (by omega)
theorem im_0 : im 0 < 0 := by decide
theorem im_d {x : Nat} (h : 0 < x) : nI (x - 1) + (-1 : Int32) = im (x - 1) := by
  by_cases z : x = 1
  · subst z; decide
  · have := sub1 (a := x - 1) (by omega)
    rw [Int32.sub_eq_add_neg] at this
    rw [im_p (by omega)]; exact this
def DRX (m n : Nat) (D : DS) (h : HP) : Prop := (∀ s, s < n → hp_i h (m + 35) s = im (d_at D s)) ∧ (∀ p, p < d_c D → hp_i h (m + 33) p = nI (d_o D p)) ∧ ∀ j, j < d_d D → hp_i h (m + 34) j = nI (d_st D j)
def S_or (m : Nat) : Nat → Nat → Prop := fun a _ => a = m + 33 ∨ a = m + 34 ∨ a = m + 35
theorem O_step {m n nm : Nat} {rr nx : Nat → Nat → Nat} {D : DS} {h : HP} {v : Int32} (ht : TAB m n nm rr nx h) (hD : DI n nm rr nx D n) (hx : DRX m n D h) (hd : 0 < d_d D) : ∃ D' g, f_M_layOrder_63b m v (nI (d_c D)) (im (d_d D)) h = some (.inl (nI (d_c D'), im (d_d D'), g)) ∧ hp_fr (S_or m) h g ∧ DI n nm rr nx D' n ∧ DRX m n D' g ∧ psi n D + 1 ≤ psi n D' ∧ ∀ s, d_at D s ≠ 0 → d_at D' s ≠ 0 := by
  obtain ⟨hm, a2, a3, a4, a5, a6, a7, a8⟩ := id ht
  obtain ⟨h1, h2, h3, h4, h5, h6, h7, h8, h9⟩ := id hD
  obtain ⟨b1, b2, b3⟩ := psi_le hD a2 a3
  obtain ⟨x1, x2, x3⟩ := id hx
  obtain ⟨v, hv⟩ : ∃ v, d_st D (d_d D - 1) = v := ⟨_, rfl⟩
  have hv4 := h4 (d_d D - 1) (by omega)
  rw [hv] at hv4
  have hvn : v < n := hv4.1
  have hva := h1 v hvn
  have hv0 : d_at D v ≠ 0 := hv4.2.1
  have e34 : hp_i h (m + 34) (d_d D - 1) = nI v := by rw [x3 _ (by omega), hv]
  have e35 : hp_i h (m + 35) v = nI (d_at D v - 1) := by rw [x1 v hvn, im_p (by omega)]
  unfold f_M_layOrder_63b
  rw [if_neg (im_neg (by omega) (by omega)), mb_72 hm, im_p hd, mn_34 hm, if_pos (hp_in_nI (by omega) (by omega)), nI_clamp (by omega), e34, xx_lE, mb_73 hm, mn_35 hm, if_pos (hp_in_nI (by omega) (by omega)), nI_clamp (by omega), e35, a4]
  by_cases hf : d_at D v = nm + 1
  · have hD2 := DI_fin a7 hD hd hv hf
    obtain ⟨_, c2, _⟩ := psi_le hD2 a2 a3
    have c2 : d_c D + 1 ≤ n := c2
    rw [hf, show nm + 1 - 1 = nm by omega, if_pos rfl, mb_71 hm, mn_33 hm, if_pos (hp_in_nI (by omega) (by omega)), nI_clamp (by omega), xx_lE, xx_lE, xx_lE, nI_1, im_d hd]
    refine ⟨d_fin D v, _, rfl, hf_si (hp_fr_rf h) (.inl rfl), hD2, ⟨fun s hs => ?_, fun p hp => ?_, fun j hj => ?_⟩, ?_, fun s hs => hs⟩
    · rw [hp_i_si, if_neg (by omega)]; exact x1 s hs
    · have hp : p < d_c D + 1 := hp
      show _ = nI (upN (d_o D) (d_c D) v p)
      rw [hp_i_si]
      by_cases z : p = d_c D
      · subst z; rw [if_pos ⟨rfl, rfl⟩, upN_s]
      · rw [if_neg (fun w => z w.2), upN_n z]; exact x2 p (by omega)
    · rw [hp_i_si, if_neg (by omega)]; exact x3 j (by have : j < d_d D - 1 := hj; omega)
    · show _ ≤ fb_sm (d_at D) n + (d_c D + 1); unfold psi; omega
  have hi : d_at D v - 1 < nm := by omega
  have ee := a8 v (d_at D v - 1) hvn hi
  rw [if_neg (fun z => hf (by have := (nI_eq (by omega) (by omega)).mp z; omega)), mb_64 hm, mb_73 hm, mn_35 hm, if_pos (hp_in_nI (by omega) (by omega)), e35, show (6 : Int32) = nI 6 from rfl, pk_mul, nI_add, mn_29 hm, if_pos (hp_in_nI (by omega) (by omega)), nI_clamp (by omega), ee, xx_lE, mb_73 hm, mn_35 hm, if_pos (hp_in_nI (by omega) (by omega)), if_pos (hp_in_nI (by omega) (by omega)), e35, nI_1, show d_at D v - 1 + 1 = d_at D v by omega, xx_lE]
  obtain ⟨g, hg⟩ : ∃ g, hp_si h (m + 35) v (nI (d_at D v)) = g := ⟨_, rfl⟩
  rw [hg]
  have H : hp_fr (S_or m) h g := by rw [← hg]; exact hf_si (hp_fr_rf h) (.inr (.inr rfl))
  have hmg : MS m g := MS_fr H hm
  have gx : DRX m n (d_lk D v) g := by
    rw [← hg]
    refine ⟨fun s hs => ?_, fun p hp => ?_, fun j hj => ?_⟩
    · show _ = im (upN (d_at D) v (d_at D v + 1) s)
      rw [hp_i_si]
      by_cases z : s = v
      · subst z; rw [if_pos ⟨rfl, rfl⟩, upN_s, im_s]
      · rw [if_neg (fun w => z w.2), upN_n z]; exact x1 s hs
    · rw [hp_i_si, if_neg (by omega)]; exact x2 p hp
    · rw [hp_i_si, if_neg (by omega)]; exact x3 j hj
  have hpsi : psi n (d_lk D v) = psi n D + 1 := by
    have := sm_up (f := d_at D) (x := d_at D v + 1) hvn
    show fb_sm (upN (d_at D) v (d_at D v + 1)) n + d_c D = fb_sm (d_at D) n + d_c D + 1
    omega
  have hmon : ∀ s, d_at D s ≠ 0 → d_at (d_lk D v) s ≠ 0 := fun s hs => by
    show upN (d_at D) v (d_at D v + 1) s ≠ 0
    unfold upN; split
    · omega
    · exact hs
  have hr3 := a6 v _ hvn hi
  by_cases h0 : rr v (d_at D v - 1) = 0
  · obtain ⟨w, hw⟩ : ∃ w, nx v (d_at D v - 1) = w := ⟨_, rfl⟩
    rw [h0, hw, ncv_0]
    have hwn : w < n := by rw [← hw]; exact a7 v _ hvn hi h0
    have gw := gx.1 w hwn
    have hwa := h1 w hwn
    have hla : d_at (d_lk D v) w ≤ nm + 1 := by
      show upN (d_at D) v (d_at D v + 1) w ≤ nm + 1
      unfold upN; split <;> omega
    rw [if_neg (nI_pos (by omega)), mb_73 hmg, mn_35 hmg, if_pos (hp_in_nI (by omega) (by omega)), nI_clamp (by omega), gw]
    by_cases hz : d_at D w = 0
    · have hwv : w ≠ v := fun z => hv0 (by rw [← z]; exact hz)
      have hz2 : d_at (d_lk D v) w = 0 := by show upN (d_at D) v (d_at D v + 1) w = 0; rw [upN_n hwv]; exact hz
      have hD1 : DI n nm rr nx (d_lk D v) w := DI_lk a7 hD hd hv (by omega) (fun _ => .inl hw)
      have hD2 : DI n nm rr nx (d_push (d_lk D v) w) n := DI_push a7 hD1 hwn hz2 (.inr (by show Rch (Gg n nm rr nx) (d_st D (d_d D - 1)) w; rw [hv]; exact Rch_e ⟨hvn, _, hi, h0, hw⟩))
      obtain ⟨_, _, c3⟩ := psi_le hD2 a2 a3
      have c3 : d_d D + 1 ≤ n := c3
      rw [hz2, if_pos im_0, nI_1, show d_d D - 1 + 1 = d_d D by omega, xx_lE, mb_72 hmg, mn_34 hmg, if_pos (hp_in_nI (by omega) (by omega)), nI_clamp (by omega), xx_lE]
      have hmg2 : MS m (hp_si g (m + 34) (d_d D) (nI w)) := hmg
      rw [mb_73 hmg2, mn_35 hmg2, if_pos (hp_in_nI (by omega) (by omega)), xx_lE, ← im_s]
      obtain ⟨y1, y2, y3⟩ := gx
      refine ⟨d_push (d_lk D v) w, _, rfl, hf_si (hf_si H (.inr (.inl rfl))) (.inr (.inr rfl)), hD2, ⟨fun s hs => ?_, fun p hp => ?_, fun j hj => ?_⟩, ?_, fun s hs => ?_⟩
      · show _ = im (upN (d_at (d_lk D v)) w 1 s)
        rw [hp_i_si]
        by_cases z : s = w
        · subst z; rw [if_pos ⟨rfl, rfl⟩, upN_s]; rfl
        · rw [if_neg (fun w => z w.2), upN_n z, hp_i_si, if_neg (by omega)]; exact y1 s hs
      · rw [hp_i_si, if_neg (by omega), hp_i_si, if_neg (by omega)]; exact y2 p hp
      · have hj : j < d_d D + 1 := hj
        show _ = nI (upN (d_st D) (d_d D) w j)
        rw [hp_i_si, if_neg (by omega), hp_i_si]
        by_cases z : j = d_d D
        · subst z; rw [if_pos ⟨rfl, rfl⟩, upN_s]
        · rw [if_neg (fun w => z w.2), upN_n z]; exact y3 j (show j < d_d D by omega)
      · have := sm_up (f := d_at (d_lk D v)) (x := 1) hwn
        rw [hz2] at this
        have : psi n (d_push (d_lk D v) w) = psi n (d_lk D v) + 1 := by
          show fb_sm (upN (d_at (d_lk D v)) w 1) n + d_c D = fb_sm (d_at (d_lk D v)) n + d_c D + 1
          omega
        omega
      · show upN (d_at (d_lk D v)) w 1 s ≠ 0
        have := hmon s hs
        unfold upN; split
        · omega
        · exact this
    · have hz2 := hmon w hz
      rw [if_neg (im_neg hz2 (by omega)), ← im_p hd]
      exact ⟨d_lk D v, g, rfl, H, DI_lk a7 hD hd hv (by omega) (fun _ => .inr (by rw [hw]; exact hz)), gx, by omega, hmon⟩
  · have hneg : ncv (rr v (d_at D v - 1)) (nx v (d_at D v - 1)) < (0 : Int32) := by
      rw [ncv_c0 h0 hr3]
      have : rr v (d_at D v - 1) = 1 ∨ rr v (d_at D v - 1) = 2 := by omega
      rcases this with z | z <;> rw [z] <;> decide
    rw [if_pos hneg, ← im_p hd]
    exact ⟨d_lk D v, g, rfl, H, DI_lk a7 hD hd hv (by omega) (fun z => absurd z h0), gx, by omega, hmon⟩
theorem M_layOrder {m n nm : Nat} {rr nx : Nat → Nat → Nat} {h : HP} (ht : TAB m n nm rr nx h) : pw (f_M_layOrder m h) (fun g => hp_fr (S_or m) h g ∧ ∃ o, KOR n nm rr nx o ∧ ∀ p, p < n → hp_i g (m + 33) p = nI (o p)) := by
  obtain ⟨hm, a2, a3, a4, a5, a6, a7, a8⟩ := id ht
  unfold f_M_layOrder f_M_layOrder_4
  refine pw_cnt n (fun e t => t.1 = nI e ∧ hp_fr (S_or m) h t.2 ∧ ∀ u, u < e → hp_i t.2 (m + 35) u = -1) ?_ ?_ 0 (0, h) (by omega) ⟨rfl, hp_fr_rf h, fun u hu => absurd hu (Nat.not_lt_zero _)⟩
  · rintro e ⟨_, g⟩ he ⟨rfl, H, g1⟩
    dsimp only at H g1 ⊢
    have hm := MS_fr H hm
    have a5 : hp_i g m 65 = nI n := by rw [hf_i H (by unfold S_or; omega)]; exact a5
    unfold f_M_layOrder_4b
    rw [a5, if_neg (nI_ge he (by omega)), mb_73 hm, mn_35 hm, if_pos (hp_in_nI (by omega) (by omega)), nI_clamp (by omega), xx_lE, xx_lE]
    refine pw_L rfl ⟨nI_1 e, hf_si H (.inr (.inr rfl)), fun u hu => ?_⟩
    rw [hp_i_si]
    by_cases z : u = e
    · rw [if_pos ⟨rfl, z⟩]
    · rw [if_neg (fun w => z w.2)]; exact g1 u (by omega)
  · rintro ⟨_, g0⟩ ⟨rfl, H0, g0e⟩
    dsimp only at H0 g0e ⊢
    have ht0 := TAB_fr H0 (by unfold S_or; omega) ht
    unfold f_M_layOrder_4b
    rw [ht0.2.2.2.2.1, if_pos (nI_le (Nat.le_refl _) (by omega))]
    refine pw_mapR ?_
    unfold f_M_layOrder_25 f_M_layOrder_27
    let D0 : DS := (fun _ => 0, fun _ => 0, 0, fun _ => 0, 0)
    have hD0 : DI n nm rr nx D0 n := ⟨fun s _ => Nat.zero_le _, fun p hp => absurd hp (Nat.not_lt_zero _), fun p q _ hq => absurd hq (Nat.not_lt_zero _), fun j hj => absurd hj (Nat.not_lt_zero _), fun i j _ hj => absurd hj (Nat.not_lt_zero _), fun s _ hz => absurd rfl hz, fun s i _ hi => absurd hi (Nat.not_lt_zero _), fun j hj => absurd hj (Nat.not_lt_zero _), fun p hp => absurd hp (Nat.not_lt_zero _)⟩
    refine pw_cnt n (fun e t => ∃ D : DS, t.1 = nI (d_c D) ∧ t.2.1 = nI e ∧ hp_fr (S_or m) h t.2.2 ∧ DI n nm rr nx D n ∧ DRX m n D t.2.2 ∧ d_d D = 0 ∧ ∀ s, s < e → d_at D s ≠ 0) ?_ ?_ 0 (0, 0, g0) (by omega) ⟨D0, rfl, rfl, H0, hD0, ⟨fun s hs => by rw [g0e s hs]; rfl, fun p hp => absurd hp (Nat.not_lt_zero _), fun j hj => absurd hj (Nat.not_lt_zero _)⟩, rfl, fun s hs => absurd hs (Nat.not_lt_zero _)⟩
    · rintro e ⟨_, _, g⟩ he ⟨D, rfl, rfl, H, hD, hx, hd, hat⟩
      dsimp only at H hx ⊢
      have htg := TAB_fr H (by unfold S_or; omega) ht
      obtain ⟨hm, _, _, a4, a5, _, _, _⟩ := id htg
      have hae := hD.1 e he
      unfold f_M_layOrder_27b
      rw [a5, if_neg (nI_ge he (by omega)), mb_73 hm, mn_35 hm, if_pos (hp_in_nI (by omega) (by omega)), nI_clamp (by omega), hx.1 e he]
      by_cases hz : d_at D e = 0
      · rw [hz, if_pos im_0, mb_72 hm, mn_34 hm, if_pos (by decide), xx_lE]
        have hm2 : ∀ k, MS m (hp_si g (m + 34) k (nI e)) := fun k => hm
        rw [mb_73 (hm2 _), mn_35 (hm2 _), if_pos (hp_in_nI (by omega) (by omega)), xx_lE]
        have hD1 : DI n nm rr nx (d_push D e) n := DI_push a7 (w := e) (by
          obtain ⟨h1, h2, h3, h4, h5, h6, h7, h8, h9⟩ := hD
          refine ⟨h1, h2, h3, h4, h5, h6, fun s i q1 q2 q3 => ?_, h8, h9⟩
          rcases h7 s i q1 q2 q3 with y | ⟨y, _⟩
          · exact .inl y
          · have := a7 s i q1 (by have := h1 s q1; omega) q3; omega) he hz (.inl hd)
        have hx1 : DRX m n (d_push D e) (hp_si (hp_si g (m + 34) (0 : Int32).toNatClampNeg (nI e)) (m + 35) e 0) := by
          refine ⟨fun s hs => ?_, fun p hp => ?_, fun j hj => ?_⟩
          · show _ = im (upN (d_at D) e 1 s)
            rw [hp_i_si]
            by_cases z : s = e
            · subst z; rw [if_pos ⟨rfl, rfl⟩, upN_s]; rfl
            · rw [if_neg (fun w => z w.2), upN_n z, hp_i_si, if_neg (by omega)]; exact hx.1 s hs
          · rw [hp_i_si, if_neg (by omega), hp_i_si, if_neg (by omega)]; exact hx.2.1 p hp
          · have hj : j < d_d D + 1 := hj
            show _ = nI (upN (d_st D) (d_d D) e j)
            rw [show j = 0 by omega, hd, upN_s, hp_i_si, if_neg (by omega), hp_i_si, if_pos ⟨rfl, rfl⟩]
        unfold f_M_layOrder_63
        refine pw_cnt 40001 (fun i t => ∃ D' : DS, t.1 = nI (d_c D') ∧ t.2.1 = im (d_d D') ∧ hp_fr (S_or m) h t.2.2 ∧ DI n nm rr nx D' n ∧ DRX m n D' t.2.2 ∧ i ≤ psi n D' ∧ ∀ s, d_at (d_push D e) s ≠ 0 → d_at D' s ≠ 0) ?_ ?_ 0 _ (by omega) ⟨d_push D e, rfl, by show _ = im (d_d D + 1); rw [hd]; rfl, hf_si (hf_si H (.inr (.inl rfl))) (.inr (.inr rfl)), hD1, hx1, Nat.zero_le _, fun s hs => hs⟩
        · rintro i ⟨_, _, g2⟩ hi ⟨D', rfl, rfl, H', hD', hx', hp', hm'⟩
          dsimp only at H' hx' ⊢
          by_cases hd' : d_d D' = 0
          · have e1 : ∀ s, s < e + 1 → d_at D' s ≠ 0 := fun s hs => hm' s (by
              show upN (d_at D) e 1 s ≠ 0
              unfold upN; split
              · omega
              · exact hat s (by omega))
            refine pw_R (t := (Sum.inl (nI (d_c D'), nI (e + 1), g2) : (Int32 × Int32 × HP) ⊕ HP)) ?_ ⟨D', rfl, rfl, H', hD', hx', hd', e1⟩
            unfold f_M_layOrder_63b f_M_layOrder_177
            rw [hd', if_pos im_0, nI_1, xx_lE]; rfl
          · obtain ⟨D2, g3, q1, q2, q3, q4, q5, q6⟩ := O_step (v := nI e) (TAB_fr H' (by unfold S_or; omega) ht) hD' hx' (by omega)
            exact pw_L q1 ⟨D2, rfl, rfl, hp_fr_tr H' q2, q3, q4, by omega, fun s hs => q6 s (hm' s hs)⟩
        · rintro ⟨_, _, g2⟩ ⟨D', rfl, rfl, H', hD', hx', hp', hm'⟩
          have := (psi_le hD' a2 a3).1
          omega
      · rw [if_neg (im_neg hz (by omega))]
        unfold f_M_layOrder_177
        rw [xx_lE]
        refine pw_L rfl ⟨D, rfl, nI_1 e, H, hD, hx, hd, fun s hs => ?_⟩
        by_cases z : s = e
        · rw [z]; exact hz
        · exact hat s (by omega)
    · rintro ⟨_, _, g⟩ ⟨D, rfl, rfl, H, hD, hx, hd, hat⟩
      dsimp only at H hx ⊢
      have htg := TAB_fr H (by unfold S_or; omega) ht
      obtain ⟨k1, k2⟩ := KOR_of hD hd hat
      refine pw_R (t := g) ?_ ⟨H, d_o D, k2, fun p hp => hx.2.1 p (by omega)⟩
      unfold f_M_layOrder_27b
      rw [htg.2.2.2.2.1, if_pos (nI_le (Nat.le_refl _) (by omega))]
