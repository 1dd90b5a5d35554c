/-! goFrom and countStates -/
theorem phi_le {n nm : Nat} {rr nx : Nat → Nat → Nat} {T : TS} (hT : TI n nm rr nx T) (hC : TC n T) (hn : n ≤ 5000) (hm : nm ≤ 6) : phi n T + t_dp T ≤ 35000 := by
  have h1 := hT.1
  have hb : fb_sm (fun s => if t_or T s = 0 then 0 else t_lk T s) n ≤ n * 6 := by
    refine fb_sm_bound (fun k hk => ?_)
    by_cases z : t_or T k = 0
    · rw [if_pos z]; omega
    · rw [if_neg z]; have := (h1 k hk).2.2.2 z; omega
  have := (TC_n hC).1
  have := hC.2.2
  unfold phi
  omega
theorem R_step {r sv q n nm fd w : Nat} {rr nx : Nat → Nat → Nat} {T : TS} {h : HP} (hr : sv + 9 < r) (hqr : q < sv) (hs : ROX r sv h) (ht : XTB sv q n nm rr nx h) (hR : RST r n nm rr nx T fd h) (hd : 0 < t_dp T) (hw : w < 35000) {P : HP → Prop} : pw (f_Ro_goFrom_7b r (nI w) h) (xx_L2 (fun t => t.1 = nI (w + 1) ∧ hp_fr (S_ro r) h t.2 ∧ ∃ T' fd', RST r n nm rr nx T' fd' t.2 ∧ phi n T' = phi n T + 1 ∧ ∀ s, t_or T s ≠ 0 → t_or T' s ≠ 0) P) := by
  have hR' := hR
  obtain ⟨⟨hT, hC, hfd⟩, hx, h11⟩ := hR
  obtain ⟨a1, a2, a3, a4, a5, a6, a7, a8, a9, a10, a11⟩ := id ht
  obtain ⟨h1, h2, h3, h4, h5, h6, h7, h8, h9, h10, h11', h12, h13, h14, h15⟩ := id hT
  obtain ⟨s0, s1, s2, s3, s4, s5, s6, m1, m2, m3, m4, m5, m6⟩ := id hs
  obtain ⟨x7, x8, x9, x10, xa, xo, xp⟩ := id hx
  obtain ⟨a, ha⟩ : ∃ a, t_pa T (t_dp T - 1) = a := ⟨_, rfl⟩
  have hoa := h6 (t_dp T - 1) (by omega)
  rw [ha] at hoa
  have han : a < n := hoa.1
  obtain ⟨bno, bdp⟩ := TI_no hT
  obtain ⟨ben, bkc⟩ := TC_n hC
  obtain ⟨y1, y2, y3⟩ := xa a hoa.1
  obtain ⟨y3, y4⟩ := y3 hoa.2.1
  have hlk := (h1 a han).2.2.2 hoa.2.1
  have p6 : hp_i h (r + 6) (t_dp T - 1) = nI a := by rw [xp _ (by omega), ha]
  unfold f_Ro_goFrom_7b
  rw [if_neg (show ¬ (35000 : Int32) ≤ nI w from nI_ge (b := 35000) (by omega) (by decide)), x8, if_neg (nI_nle (by omega) (by omega)), bn_o s6, sub1 hd, m6, if_pos (hp_in_nI (by omega) (by omega)), nI_clamp (by omega), p6, xx_lE, bn_o s4, m4, if_pos (hp_in_nI (by omega) (by omega)), bn_o s0, bn_o a4, a8, nI_clamp (by omega), y4]
  by_cases hl : t_lk T a = nm
  · rw [if_pos (nI_le (by omega) (by omega))]
    refine pw_bind (pw_mono (R_leave hr hqr hs ht hR' hd ha hl) ?_)
    rintro g ⟨H, T', fd', q1, q2, q3⟩
    unfold f_Ro_goFrom_90
    rw [xx_lE]
    refine pw_L rfl ⟨nI_1 w, H, T', fd', q1, q2, fun s hs => ?_⟩
    rw [q3]; exact hs
  rw [if_neg (nI_ge (show t_lk T a < nm by omega) (by omega)), bn_o s4, m4, if_pos (hp_in_nI (by omega) (by omega)), if_pos (hp_in_nI (by omega) (by omega)), y4, nI_1, xx_lE]
  let g := hp_si h (r + 4) a (nI (t_lk T a + 1))
  have H : hp_fr (S_ro r) h g := hf_si (hp_fr_rf h) (by unfold S_ro; omega)
  have hsg := ROX_fr H hs
  have htg := XTB_fr H (by unfold S_ro; omega) ht
  have e4 : hp_i g (r + 4) a = nI (t_lk T a + 1) := by simp only [g]; rw [hp_i_si, if_pos ⟨rfl, rfl⟩]
  have g11 : hp_i g r 11 = nI fd := by simp only [g]; rw [hp_i_si, if_neg (by omega)]; exact h11
  have hx1 : TRX r n (t_lkd T a) g := by
    refine ⟨?_, ?_, ?_, ?_, fun s hs' => ⟨?_, ?_, fun ho => ⟨?_, ?_⟩⟩, fun j hj => ?_, fun j hj => ?_⟩
    · simp only [g]; rw [hp_i_si, if_neg (by omega)]; exact x7
    · simp only [g]; rw [hp_i_si, if_neg (by omega)]; exact x8
    · simp only [g]; rw [hp_i_si, if_neg (by omega)]; exact x9
    · simp only [g]; rw [hp_i_si, if_neg (by omega)]; exact x10
    · simp only [g]; rw [hp_i_si, if_neg (by omega)]; exact (xa s hs').1
    · simp only [g]; rw [hp_i_si, if_neg (by omega)]; exact (xa s hs').2.1
    · simp only [g]; rw [hp_i_si, if_neg (by omega)]; exact ((xa s hs').2.2 ho).1
    · show hp_i g (r + 4) s = nI (upN (t_lk T) a (t_lk T a + 1) s)
      simp only [g]; rw [hp_i_si]
      by_cases z : s = a
      · subst z; rw [if_pos ⟨rfl, rfl⟩, upN_s]
      · rw [if_neg (fun w => z w.2), upN_n z]; exact ((xa s hs').2.2 ho).2
    · simp only [g]; rw [hp_i_si, if_neg (by omega)]; exact xo j hj
    · simp only [g]; rw [hp_i_si, if_neg (by omega)]; exact xp j hj
  obtain ⟨hC1, hphi⟩ := TC_lkd hC han hoa.2.1
  obtain ⟨t0, t1, t2, t3, t4, t5, t6, n1, n2, n3, n4, n5, n6⟩ := id hsg
  show pw ((hp_r g r 0).bind _) _
  have hli : t_lk T a < nm := by omega
  rw [bn_o t0, bn_o t4, n4, if_pos (hp_in_nI (by omega) (by omega)), e4, sub1 (by omega), show t_lk T a + 1 - 1 = t_lk T a by omega, bn_o (X_next htg han hli)]
  dsimp only
  have hnv : ∀ s i, s < n → i < t_lk (t_lkd T a) s → t_or T s ≠ 0 → rr s i = 0 → nx s i < n := by
    intro s i hs' hi ho hr0
    have e : t_lk (t_lkd T a) s = upN (t_lk T) a (t_lk T a + 1) s := rfl
    rw [e] at hi
    refine a10 s i hs' ?_ hr0
    by_cases z : s = a
    · rw [z, upN_s] at hi; omega
    · rw [upN_n z] at hi; have := (h1 s hs').2.2.2 ho; omega
  have done : ∀ {g2 : HP}, hp_fr (S_ro r) h g2 → (∃ T', RST r n nm rr nx T' fd g2 ∧ phi n T' = phi n T + 1 ∧ ∀ s, t_or T s ≠ 0 → t_or T' s ≠ 0) → pw (f_Ro_goFrom_90 r (nI w) g2) (xx_L2 (fun t => t.1 = nI (w + 1) ∧ hp_fr (S_ro r) h t.2 ∧ ∃ T' fd', RST r n nm rr nx T' fd' t.2 ∧ phi n T' = phi n T + 1 ∧ ∀ s, t_or T s ≠ 0 → t_or T' s ≠ 0) P) := by
    rintro g2 H2 ⟨T', q⟩
    unfold f_Ro_goFrom_90
    rw [xx_lE]
    exact pw_L rfl ⟨nI_1 w, H2, T', fd, q⟩
  by_cases h0 : rr a (t_lk T a) = 0
  · rw [h0, xcv_0]
    obtain ⟨v, hv⟩ : ∃ v, nx a (t_lk T a) = v := ⟨_, rfl⟩
    rw [hv]
    have hvn : v < n := by rw [← hv]; exact a10 a _ han hli h0
    have hvo := (h1 v hvn).1
    have hvk := (h1 v hvn).2.2.1
    have hRv : Rch (Gg n nm rr nx) a v := Rch_e ⟨han, t_lk T a, hli, h0, hv⟩
    by_cases hk : t_kn T v = 0
    · have hTv : TIv n nm rr nx (t_lkd T a) v := TI_lkd hT hd ha hli v (fun _ => .inl hv)
      by_cases ho : t_or T v = 0
      · obtain ⟨hC2, hp2⟩ := TC_enter hC1 hvn ho
        have hT2 : TI n nm rr nx (t_enter (t_lkd T a) v) := TI_enter hTv hvn ho (.inr (by show Rch (Gg n nm rr nx) (t_pa T (t_dp T - 1)) v; rw [ha]; exact hRv))
        have ey : hp_i g (r + 1) v = nI 0 := by have := (hx1.2.2.2.2.1 v hvn).1; rw [this]; show nI (t_or T v) = nI 0; rw [ho]
        unfold f_Ro_look
        rw [if_pos (nI_pos' (by omega)), bn_o t1, n1, if_pos (hp_in_nI (by omega) (by omega)), nI_clamp (by omega), ey, if_pos (show nI 0 = (0 : Int32) from rfl)]
        refine pw_bind (pw_bind (pw_mono (R_enter (T := t_lkd T a) hsg a1 hvn ho hT2 hC2 hx1) ?_))
        rintro g2 ⟨H2, gx, e2⟩
        refine pw_some ?_
        refine done (hp_fr_tr H H2) ⟨_, ⟨⟨hT2, hC2, hfd⟩, gx, by rw [e2]; exact g11⟩, by rw [hp2, hphi], fun s hs' => ?_⟩
        show upN (t_or T) v (t_en T + 1) s ≠ 0
        unfold upN; split
        · omega
        · exact hs'
      · have hlo := (h13 (t_dp T - 1) (by omega)).1
        rw [ha] at hlo
        rw [bn_o (R_look (nm := nm) hsg a1 han (T := t_lkd T a) hoa.2.1 hvn hC1 hlo (fun s hs' => (h1 s hs').1) hx1 ho hk)]
        have hT2 := TI_low (T := t_lkd T a) (a := a) hTv hd ha ⟨hvn, ho, hk⟩ hRv (fun s i s1 s2 s3 s4 s5 s6 => by
          by_cases z : s = a
          · exact .inl z
          · right
            have s4' : i < upN (t_lk T) a (t_lk T a + 1) s := s4
            rw [upN_n z] at s4'
            refine ⟨h10 s i s1 s2 s3 s4' s5, fun j hj => ?_⟩
            have := h14 s j i ⟨s1, s2, s3⟩ hj s4' s5 (by rw [s6]; exact hk)
            rw [s6] at this; exact this)
        obtain ⟨x, hxe⟩ : ∃ x, (if t_or (t_lkd T a) v < t_lo (t_lkd T a) a then t_or (t_lkd T a) v else t_lo (t_lkd T a) a) = x := ⟨_, rfl⟩
        rw [hxe] at hT2 ⊢
        let g2 := hp_si g (r + 2) a (nI x)
        have H2 : hp_fr (S_ro r) h g2 := hf_si H (by unfold S_ro; omega)
        obtain ⟨w7, w8, w9, w10, wa, wo, wp⟩ := hx1
        refine done (g2 := g2) H2 ⟨t_low (t_lkd T a) a x, ⟨⟨hT2, hC1, hfd⟩, ⟨?_, ?_, ?_, ?_, fun s hs' => ⟨?_, ?_, fun ho => ⟨?_, ?_⟩⟩, fun j hj => ?_, fun j hj => ?_⟩, ?_⟩, hphi, fun s hs' => hs'⟩
        · simp only [g2]; rw [hp_i_si, if_neg (by omega)]; exact w7
        · simp only [g2]; rw [hp_i_si, if_neg (by omega)]; exact w8
        · simp only [g2]; rw [hp_i_si, if_neg (by omega)]; exact w9
        · simp only [g2]; rw [hp_i_si, if_neg (by omega)]; exact w10
        · simp only [g2]; rw [hp_i_si, if_neg (by omega)]; exact (wa s hs').1
        · simp only [g2]; rw [hp_i_si, if_neg (by omega)]; exact (wa s hs').2.1
        · show hp_i g2 (r + 2) s = nI (upN (t_lo T) a x s)
          simp only [g2]; rw [hp_i_si]
          by_cases z : s = a
          · subst z; rw [if_pos ⟨rfl, rfl⟩, upN_s]
          · rw [if_neg (fun w => z w.2), upN_n z]; exact ((wa s hs').2.2 ho).1
        · simp only [g2]; rw [hp_i_si, if_neg (by omega)]; exact ((wa s hs').2.2 ho).2
        · simp only [g2]; rw [hp_i_si, if_neg (by omega)]; exact wo j hj
        · simp only [g2]; rw [hp_i_si, if_neg (by omega)]; exact wp j hj
        · simp only [g2]; rw [hp_i_si, if_neg (by omega)]; exact g11
    · have ho : t_or T v ≠ 0 := (h1 v hvn).2.1 hk
      rw [bn_o (R_lookK (T := t_lkd T a) hsg a1 hvn ⟨by show t_or T v < _; omega, by show t_kn T v < _; omega⟩ hx1 ho hk)]
      have hT2 : TI n nm rr nx (t_lkd T a) := TI_ofv (TI_lkd hT hd ha hli n (fun _ => .inr ⟨by rw [hv]; exact hk, by rw [hv]; exact hvn⟩)) (fun s i s1 s2 s3 s4 s5 z => by have := hnv s i s1 s4 s2 s5; omega)
      exact done H ⟨_, ⟨⟨hT2, hC1, hfd⟩, hx1, g11⟩, hphi, fun s hs' => hs'⟩
  · have hneg := (xcv_neg (x := nx a (t_lk T a)) (a9 a _ han hli) h0).2
    unfold f_Ro_look
    rw [if_neg hneg, bn_s]
    have hT2 : TI n nm rr nx (t_lkd T a) := TI_ofv (TI_lkd hT hd ha hli n (fun z => absurd z h0)) (fun s i s1 s2 s3 s4 s5 z => by have := hnv s i s1 s4 s2 s5; omega)
    exact done H ⟨_, ⟨⟨hT2, hC1, hfd⟩, hx1, g11⟩, hphi, fun s hs' => hs'⟩
theorem R_goFrom {r sv q n nm fd v : Nat} {rr nx : Nat → Nat → Nat} {T : TS} {h : HP} (hr : sv + 9 < r) (hqr : q < sv) (hs : ROX r sv h) (ht : XTB sv q n nm rr nx h) (hR : RST r n nm rr nx T fd h) (hd : t_dp T = 0) (hv : v < n) (hw : t_or T v = 0) : pw (f_Ro_goFrom r (nI v) h) (fun g => hp_fr (S_ro r) h g ∧ ∃ T' fd', RST r n nm rr nx T' fd' g ∧ t_dp T' = 0 ∧ t_or T' v ≠ 0 ∧ ∀ s, t_or T s ≠ 0 → t_or T' s ≠ 0) := by
  obtain ⟨⟨hT, hC, hfd⟩, hx, h11⟩ := hR
  obtain ⟨hC2, hp2⟩ := TC_enter hC hv hw
  have hT2 : TI n nm rr nx (t_enter T v) := TI_enter (TIv_of hT v) hv hw (.inl hd)
  have a1 := ht.1
  have a2 := ht.2.1
  unfold f_Ro_goFrom
  refine pw_bind (pw_mono (R_enter hs a1 hv hw hT2 hC2 hx) ?_)
  rintro g1 ⟨H1, gx, e1⟩
  unfold f_Ro_goFrom_7
  refine pw_cnt 35000 (fun i t => t.1 = nI i ∧ hp_fr (S_ro r) h t.2 ∧ ∃ T' fd', RST r n nm rr nx T' fd' t.2 ∧ i ≤ phi n T' ∧ t_or T' v ≠ 0 ∧ ∀ s, t_or T s ≠ 0 → t_or T' s ≠ 0) ?_ ?_ 0 (0, g1) (by omega) ⟨rfl, H1, t_enter T v, fd, ⟨⟨hT2, hC2, hfd⟩, gx, by rw [e1]; exact h11⟩, Nat.zero_le _, ?_, fun s hs' => ?_⟩
  · rintro i ⟨_, g⟩ hi ⟨rfl, H, T', fd', q1, q2, q3, q4⟩
    dsimp only at H q1 ⊢
    by_cases hd' : t_dp T' = 0
    · refine pw_R (t := g) ?_ ⟨H, T', fd', q1, hd', q3, q4⟩
      unfold f_Ro_goFrom_7b
      rw [if_neg (show ¬ (35000 : Int32) ≤ nI i from nI_ge (b := 35000) (by omega) (by decide)), q1.2.1.2.1, hd', if_pos (show nI 0 ≤ (0 : Int32) from Int32.le_refl _)]
    · refine pw_mono (R_step (P := fun _ => False) hr hqr (ROX_fr H hs) (XTB_fr H (by unfold S_ro; omega) ht) q1 (by omega) hi) ?_
      intro o ho
      match o, ho with
      | .inl t, ⟨e, H2, T2, fd2, z1, z2, z3⟩ => exact ⟨e, hp_fr_tr H H2, T2, fd2, z1, by omega, z3 _ q3, fun s hs' => z3 s (q4 s hs')⟩
      | .inr t, ho => exact ho.elim
  · rintro ⟨_, g⟩ ⟨rfl, H, T', fd', q1, q2, q3, q4⟩
    dsimp only at H q1 ⊢
    have := phi_le q1.1.1 q1.1.2.1 a1 a2
    refine pw_R (t := g) ?_ ⟨H, T', fd', q1, by omega, q3, q4⟩
    unfold f_Ro_goFrom_7b
    rw [if_pos (show (35000 : Int32) ≤ nI 35000 from Int32.le_refl _)]
  · show upN (t_or T) v (t_en T + 1) v ≠ 0; rw [upN_s]; omega
  · show upN (t_or T) v (t_en T + 1) s ≠ 0
    unfold upN; split
    · omega
    · exact hs'
/-- the class's count of the states that lie in rounds -/
theorem R_count {r sv q n nm : Nat} {rr nx : Nat → Nat → Nat} {h : HP} (hr : sv + 9 < r) (hqr : q < sv) (hs : ROX r sv (hp_sr h r 0 (some sv))) (ht : XTB sv q n nm rr nx h) : pw (f_Ro_countStates r sv h) (fun x => x.1 = nI (fb_ct (goodb n nm rr nx) n) ∧ hp_fr (S_ro r) (hp_sr h r 0 (some sv)) x.2) := by
  have a1 := ht.1
  unfold f_Ro_countStates
  rw [xx_lE]
  obtain ⟨h1, hh1⟩ : ∃ h1, hp_sr h r 0 (some sv) = h1 := ⟨_, rfl⟩
  rw [hh1] at hs ⊢
  have ht : XTB sv q n nm rr nx h1 := by
    rw [← hh1]
    obtain ⟨a1, a2, a3, a4, a5, a6, a7, a8, a9, a10, a11⟩ := ht
    refine ⟨a1, a2, ?_, ?_, ?_, a6, a7, a8, a9, a10, a11⟩
    · rw [hp_r_sr, if_neg (by omega)]; exact a3
    · rw [hp_r_sr, if_neg (by omega)]; exact a4
    · rw [hp_r_sr, if_neg (by omega)]; exact a5
  obtain ⟨s0, s1, s2, s3, s4, s5, s6, m1, m2, m3, m4, m5, m6⟩ := id hs
  rw [bn_o s1]
  refine pw_bind (pw_mono (A_fill m1 (by decide)) ?_)
  rintro g1 ⟨H1, f1⟩
  have H1 : hp_fr (S_ro r) h1 g1 := hp_fr_mo H1 (by unfold S_ro; omega)
  have hs1 := ROX_fr H1 hs
  obtain ⟨s0, s1, s2, s3, s4, s5, s6, m1, m2, m3, m4, m5, m6⟩ := id hs1
  rw [bn_o s3]
  refine pw_bind (pw_mono (A_fill m3 (by decide)) ?_)
  rintro g2 ⟨H2', f2⟩
  have f1' : ∀ k, k < 5000 → hp_i g2 (r + 1) k = 0 := fun k hk => by rw [hf_i H2' (by omega)]; exact f1 k hk
  have H2 : hp_fr (S_ro r) h1 g2 := hp_fr_tr H1 (hp_fr_mo H2' (by unfold S_ro; omega))
  rw [xx_lE, xx_lE, xx_lE, xx_lE, xx_lE]
  obtain ⟨g3, hg3⟩ : ∃ g3, hp_si (hp_si (hp_si (hp_si (hp_si g2 r 7 0) r 8 0) r 9 0) r 10 0) r 11 0 = g3 := ⟨_, rfl⟩
  rw [hg3]
  have H3 : hp_fr (S_ro r) h1 g3 := by
    rw [← hg3]
    exact hf_si (hf_si (hf_si (hf_si (hf_si H2 (by unfold S_ro; omega)) (by unfold S_ro; omega)) (by unfold S_ro; omega)) (by unfold S_ro; omega)) (by unfold S_ro; omega)
  let T0 : TS := (fun _ => 0, fun _ => 0, fun _ => 0, fun _ => 0, fun _ => 0, fun _ => 0, 0, 0, 0, 0)
  have hz : ∀ s, ¬ opn T0 n s := fun s z => z.2.1 rfl
  have hT0 : TI n nm rr nx T0 := by
    refine ⟨fun s _ => ⟨Nat.le_refl _, fun z => absurd rfl z, Nat.le_refl _, fun z => absurd rfl z⟩, fun s t _ _ _ z => absurd rfl z, fun j hj => absurd hj (Nat.not_lt_zero _), fun j k _ hk => absurd hk (Nat.not_lt_zero _), fun s hs => absurd hs (hz s), fun j hj => absurd hj (Nat.not_lt_zero _), fun j hj => absurd hj (Nat.not_lt_zero _), fun s i _ z => absurd rfl z, fun s hs => absurd hs (hz s), fun s i _ z => absurd rfl z, fun s hs => absurd hs (hz s), fun s j hs => absurd hs (hz s), fun j hj => absurd hj (Nat.not_lt_zero _), fun s j i hs => absurd hs (hz s), fun s t _ _ z => absurd rfl z⟩
  have c0 : ∀ p : Nat → Bool, (∀ s, p s = false) → fb_ct p n = 0 := fun p hp => fb_ct_zero.mpr (fun s _ => hp s)
  have hC0 : TC n T0 := ⟨(c0 _ (fun s => rfl)).symm, by show 0 ≤ _; omega, Nat.le_refl _⟩
  have hR0 : RST r n nm rr nx T0 0 g3 := by
    refine ⟨⟨hT0, hC0, (c0 _ (fun s => rfl)).symm⟩, ⟨?_, ?_, ?_, ?_, fun s hs' => ⟨?_, ?_, fun z => absurd rfl z⟩, fun j hj => absurd hj (Nat.not_lt_zero _), fun j hj => absurd hj (Nat.not_lt_zero _)⟩, ?_⟩
    · rw [← hg3]; simp [hp_i_si]; rfl
    · rw [← hg3]; simp [hp_i_si]; rfl
    · rw [← hg3]; simp [hp_i_si]; rfl
    · rw [← hg3]; simp [hp_i_si]; rfl
    · rw [← hg3]; simp [hp_i_si]; exact f1' s (by omega)
    · rw [← hg3]; simp [hp_i_si]; exact f2 s (by omega)
    · rw [← hg3]; simp [hp_i_si]; rfl
  unfold f_Ro_countStates_48
  refine pw_cnt n (fun i t => t.1 = nI i ∧ hp_fr (S_ro r) h1 t.2 ∧ ∃ T' fd', RST r n nm rr nx T' fd' t.2 ∧ t_dp T' = 0 ∧ ∀ s, s < i → t_or T' s ≠ 0) ?_ ?_ 0 (0, g3) (by omega) ⟨rfl, H3, T0, 0, hR0, rfl, fun s hs' => absurd hs' (Nat.not_lt_zero _)⟩
  · rintro i ⟨_, g⟩ hi ⟨rfl, H, T', fd', q1, q2, q3⟩
    dsimp only at H q1 ⊢
    have hsg := ROX_fr H hs
    have htg := XTB_fr H (by unfold S_ro; omega) ht
    obtain ⟨s0, s1, s2, s3, s4, s5, s6, m1, m2, m3, m4, m5, m6⟩ := id hsg
    obtain ⟨b1, b2, b3, b4, b5, b6, b7, b8, b9, b10, b11⟩ := id htg
    unfold f_Ro_countStates_48b
    have hoi := (q1.1.1.1 i hi).1
    have := (TC_n q1.1.2.1).1
    rw [bn_o s0, bn_o b3, b7, if_neg (nI_ge hi (by omega)), bn_o s1, m1, if_pos (hp_in_nI (by omega) (by omega)), nI_clamp (by omega), (q1.2.1.2.2.2.2.1 i hi).1]
    by_cases ho : t_or T' i = 0
    · rw [ho, if_pos (show nI 0 = (0 : Int32) from rfl)]
      refine pw_bind (pw_mono (R_goFrom hr hqr hsg htg q1 q2 hi ho) ?_)
      rintro g2 ⟨K, T2, fd2, z1, z2, z3, z4⟩
      unfold f_Ro_countStates_76
      rw [xx_lE]
      refine pw_L rfl ⟨nI_1 i, hp_fr_tr H K, T2, fd2, z1, z2, fun s hs' => ?_⟩
      by_cases z : s = i
      · rw [z]; exact z3
      · exact z4 s (q3 s (by omega))
    · rw [if_neg (nI_ne0 (by omega) (by omega))]
      unfold f_Ro_countStates_76
      rw [xx_lE]
      refine pw_L rfl ⟨nI_1 i, H, T', fd', q1, q2, fun s hs' => ?_⟩
      by_cases z : s = i
      · rw [z]; exact ho
      · exact q3 s (by omega)
  · rintro ⟨_, g⟩ ⟨rfl, H, T', fd', q1, q2, q3⟩
    dsimp only at H q1 ⊢
    have hsg := ROX_fr H hs
    have htg := XTB_fr H (by unfold S_ro; omega) ht
    obtain ⟨s0, s1, s2, s3, s4, s5, s6, m1, m2, m3, m4, m5, m6⟩ := id hsg
    obtain ⟨b1, b2, b3, b4, b5, b6, b7, b8, b9, b10, b11⟩ := id htg
    refine pw_R (t := (nI fd', g)) ?_ ⟨?_, H⟩
    · unfold f_Ro_countStates_48b
      rw [bn_o s0, bn_o b3, b7, if_pos (nI_le (Nat.le_refl _) (by omega)), q1.2.2]
    · show nI fd' = _
      rw [q1.1.2.2]
      congr 1
      refine fb_ct_cong (fun s hs' => ?_)
      have hk : t_kn T' s ≠ 0 := fun z => by
        have := (q1.1.1.2.2.2.2.2.2.2.2.2.2.1 s ⟨hs', q3 s hs', z⟩).1
        omega
      rw [decide_eq_false hk]; rfl
