/-! leave, goFrom, countStates -/
def RI (n nm : Nat) (rr nx : Nat → Nat → Nat) (T : TS) (fd : Nat) : Prop := TI n nm rr nx T ∧ TC n T ∧ fd = fb_ct (fun s => !decide (t_kn T s = 0) && goodb n nm rr nx s) n
def RST (r n nm : Nat) (rr nx : Nat → Nat → Nat) (T : TS) (fd : Nat) (h : HP) : Prop := RI n nm rr nx T fd ∧ TRX r n T h ∧ hp_i h r 11 = nI fd
theorem goodb_iff {n nm : Nat} {rr nx : Nat → Nat → Nat} {s : Nat} : goodb n nm rr nx s = true ↔ good n nm rr nx s := by
  unfold goodb
  constructor
  · intro h; exact @of_decide_eq_true _ (Classical.propDecidable _) h
  · intro h; exact @decide_eq_true _ (Classical.propDecidable _) h
theorem RI_tie {n nm a j0 fd : Nat} {rr nx : Nat → Nat → Nat} {T : TS} (h : RI n nm rr nx T fd) (hnx : ∀ s i, s < n → i < nm → rr s i = 0 → nx s i < n) (hd : 0 < t_dp T) (ha : t_pa T (t_dp T - 1) = a) (hl : t_lk T a = nm) (hlow : t_lo T a = t_or T a) (hj0 : j0 < t_no T) (hop : t_op T j0 = a) : t_kc T < n ∧ RI n nm rr nx (t_kt (t_pop T) j0) (if ldm rr nx nm (t_kn (t_kt (t_pop T) j0)) (t_op T) j0 (t_no T - j0) ≠ 0 ∧ ldm rr nx nm (t_kn (t_kt (t_pop T) j0)) (t_op T) j0 (t_no T - j0) = 2 ^ nm - 1 then fd + (t_no T - j0) else fd) ∧ phi n (t_kt (t_pop T) j0) = phi n T + 1 := by
  obtain ⟨hT, ⟨c1, c2, c3⟩, hfd⟩ := h
  obtain ⟨h1, h2, h3, h4, h5, h6, h7, h8, h9, h10, h11, h12, h13, h14, h15⟩ := id hT
  have hoa := h6 (t_dp T - 1) (by omega)
  rw [ha] at hoa
  have hdis : ∀ j k, j < k → k < t_no T → t_op T j ≠ t_op T k := fun j k a b z => by have := h4 j k a b; rw [z] at this; omega
  let K : Nat → Bool := popd (t_pop T) (t_no T - j0)
  have hKi : ∀ s, K s = true ↔ ∃ j, j0 ≤ j ∧ j < t_no T ∧ t_op T j = s := fun s => by
    have := popd_iff (t_pop T) (t_no T - j0) s (by show t_no T - j0 ≤ t_no T; omega)
    rw [show t_no (t_pop T) - (t_no T - j0) = j0 by show t_no T - (t_no T - j0) = j0; omega] at this
    exact this
  have hK : ∀ s, s < n → (K s = true ↔ opn T n s ∧ t_or T a ≤ t_or T s) := by
    intro s hs
    rw [hKi]
    constructor
    · rintro ⟨j, p1, p2, p3⟩
      rw [← p3]
      refine ⟨h3 j p2, ?_⟩
      by_cases z : j = j0
      · rw [z, hop]; exact Nat.le_refl _
      · have := h4 j0 j (by omega) p2; rw [hop] at this; omega
    · rintro ⟨o1, o2⟩
      obtain ⟨j, p1, p2⟩ := h5 s o1
      refine ⟨j, Nat.le_of_not_lt (fun z => ?_), p1, p2⟩
      have := h4 j j0 z hj0
      rw [p2, hop] at this; omega
  obtain ⟨hT2, mutK⟩ := TI_tie hT hnx hd ha hl hlow ⟨hj0, hop⟩ hK
  have eT : t_kt (t_pop T) j0 = t_tie T K j0 := rfl
  have Ka : K a = true := (hKi a).mpr ⟨j0, Nat.le_refl _, hj0, hop⟩
  have Kn0 : ∀ s, s < n → K s = true → t_kn T s = 0 := fun s hs hk => ((hK s hs).mp hk).1.2.2
  have ctK : fb_ct K n = t_no T - j0 := popd_ct (T := t_pop T) (fun j hj => (h3 j hj).1) hdis (t_no T - j0) (by show t_no T - j0 ≤ t_no T; omega)
  have ek : ∀ s, t_kn (t_tie T K j0) s = if K s = true then t_kc T + 1 else t_kn T s := fun s => rfl
  have ct2 : fb_ct (fun s => !decide (t_kn (t_tie T K j0) s = 0)) n = fb_ct (fun s => !decide (t_kn T s = 0)) n + (t_no T - j0) := by
    rw [← ctK, ← fb_ct_or]
    · refine fb_ct_cong (fun s hs => ?_)
      rw [ek]
      by_cases q : K s = true
      · rw [if_pos q, q, Bool.or_true, decide_eq_false (by omega)]; rfl
      · rw [if_neg q, bool_f q, Bool.or_false]
    · rintro s hs ⟨z1, z2⟩
      have := Kn0 s hs z2
      simp [this] at z1
  have ctg : fb_ct (fun s => !decide (t_kn (t_tie T K j0) s = 0) && goodb n nm rr nx s) n = fd + fb_ct (fun s => K s && goodb n nm rr nx s) n := by
    rw [hfd, ← fb_ct_or]
    · refine fb_ct_cong (fun s hs => ?_)
      rw [ek]
      by_cases q : K s = true
      · have := Kn0 s hs q
        rw [if_pos q, q, this, decide_eq_false (by omega)]
        simp
      · rw [if_neg q, bool_f q]; simp
    · rintro s hs ⟨z1, z2⟩
      simp only [Bool.and_eq_true] at z1 z2
      have := Kn0 s hs z2.1
      simp [this] at z1
  have hkc1 : t_kc T + 1 ≤ n := by
    have := fb_ct_le (fun s => !decide (t_kn (t_tie T K j0) s = 0)) n
    omega
  -- all men are led within
  have gd : (ldm rr nx nm (t_kn (t_kt (t_pop T) j0)) (t_op T) j0 (t_no T - j0) ≠ 0 ∧ ldm rr nx nm (t_kn (t_kt (t_pop T) j0)) (t_op T) j0 (t_no T - j0) = 2 ^ nm - 1) ↔ good n nm rr nx a := by
    have hlt := ldm_lt rr nx nm (t_kn (t_kt (t_pop T) j0)) (t_op T) j0 (t_no T - j0)
    have hbit : ∀ i, i < nm → ((ldm rr nx nm (t_kn (t_kt (t_pop T) j0)) (t_op T) j0 (t_no T - j0)).testBit i = true ↔ ∃ u, u < n ∧ Mut (Gg n nm rr nx) a u ∧ rr u i = 0 ∧ Mut (Gg n nm rr nx) a (nx u i)) := by
      intro i hi
      rw [ldm_bit]
      constructor
      · rintro ⟨e, e1, e2, e3, e4⟩
        have hu := (h3 (j0 + e) (by omega)).1
        have hKu : K (t_op T (j0 + e)) = true := (hKi _).mpr ⟨j0 + e, by omega, by omega, rfl⟩
        have hx := hnx _ i hu hi e3
        rw [eT, ek, ek, if_pos hKu] at e4
        have hKx : K (nx (t_op T (j0 + e)) i) = true := by
          refine Decidable.of_not_not (fun z => ?_)
          rw [if_neg z] at e4
          have := (h1 _ hx).2.2.1
          omega
        exact ⟨_, hu, (mutK a hoa.1 Ka _ hu).mp hKu, e3, (mutK a hoa.1 Ka _ hx).mp hKx⟩
      · rintro ⟨u, u1, u2, u3, u4⟩
        have hKu := (mutK a hoa.1 Ka u u1).mpr u2
        have hx := hnx u i u1 hi u3
        have hKx := (mutK a hoa.1 Ka _ hx).mpr u4
        obtain ⟨j, p1, p2, p3⟩ := (hKi u).mp hKu
        refine ⟨j - j0, by omega, hi, ?_, ?_⟩
        · rw [show j0 + (j - j0) = j by omega, p3]; exact u3
        · rw [show j0 + (j - j0) = j by omega, p3, eT, ek, ek, if_pos hKu, if_pos hKx]
    unfold good
    constructor
    · rintro ⟨z1, z2⟩
      refine ⟨fun z => ?_, fun i hi => (hbit i hi).mp ((full_bit hlt).mp z2 i hi)⟩
      have h4 : ldm rr nx nm (t_kn (t_kt (t_pop T) j0)) (t_op T) j0 (t_no T - j0) < 2 ^ nm := hlt
      have h5 : (2 : Nat) ^ nm = 1 := by rw [z]
      omega
    · rintro ⟨z1, z2⟩
      have hf := (full_bit hlt).mpr (fun i hi => (hbit i hi).mpr (z2 i hi))
      refine ⟨fun z => ?_, hf⟩
      have h2 : 2 ^ 1 ≤ 2 ^ nm := Nat.pow_le_pow_right (by decide) (by omega)
      have h3 : 0 = 2 ^ nm - 1 := z.symm.trans hf
      have h4 : (2 : Nat) ^ 1 = 2 := rfl
      omega
  refine ⟨by omega, ⟨hT2, ⟨c1, ?_, ?_⟩, ?_⟩, ?_⟩
  · show t_kc T + 1 ≤ fb_ct (fun s => !decide (t_kn (t_tie T K j0) s = 0)) n
    rw [ct2]; omega
  · show t_dp T - 1 ≤ t_en T; omega
  · show _ = fb_ct (fun s => !decide (t_kn (t_tie T K j0) s = 0) && goodb n nm rr nx s) n
    rw [ctg]
    by_cases hg : good n nm rr nx a
    · rw [if_pos (gd.mpr hg)]
      congr 1
      rw [← ctK]
      refine fb_ct_cong (fun s hs => ?_)
      by_cases q : K s = true
      · rw [q, Bool.true_and]
        exact (goodb_iff.mpr ((good_mut ((mutK a hoa.1 Ka s hs).mp q)).mp hg)).symm
      · rw [bool_f q, Bool.false_and]
    · rw [if_neg (fun z => hg (gd.mp z)), (fb_ct_zero (p := fun s => K s && goodb n nm rr nx s)).mpr (fun s hs => ?_), Nat.add_zero]
      by_cases q : K s = true
      · rw [q, Bool.true_and]
        exact bool_f (fun z => hg ((good_mut ((mutK a hoa.1 Ka s hs).mp q)).mpr (goodb_iff.mp z)))
      · rw [bool_f q, Bool.false_and]
  · show fb_sm (fun s => if t_or T s = 0 then 0 else t_lk T s) n + (t_en T - (t_dp T - 1)) = fb_sm (fun s => if t_or T s = 0 then 0 else t_lk T s) n + (t_en T - t_dp T) + 1
    omega
theorem R_leave {r sv q n nm a fd : Nat} {rr nx : Nat → Nat → Nat} {T : TS} {h : HP} (hr : sv + 9 < r) (hqr : q < sv) (hs : ROX r sv h) (ht : XTB sv q n nm rr nx h) (hR : RST r n nm rr nx T fd h) (hd : 0 < t_dp T) (ha : t_pa T (t_dp T - 1) = a) (hl : t_lk T a = nm) : pw (f_Ro_leave r (nI a) h) (fun g => hp_fr (S_ro r) h g ∧ ∃ T' fd', RST r n nm rr nx T' fd' g ∧ phi n T' = phi n T + 1 ∧ t_or T' = t_or T) := by
  obtain ⟨⟨hT, hC, hfd⟩, hx, h11⟩ := hR
  have hn5 := ht.1
  obtain ⟨h1, h2, h3, h4, h5, h6, h7, h8, h9, h10, h11', h12, h13, h14, h15⟩ := id hT
  obtain ⟨s0, s1, s2, s3, s4, s5, s6, m1, m2, m3, m4, m5, m6⟩ := id hs
  obtain ⟨x7, x8, x9, x10, xa, xo, xp⟩ := id hx
  have hoa := h6 (t_dp T - 1) (by omega)
  rw [ha] at hoa
  obtain ⟨bno, bdp⟩ := TI_no hT
  obtain ⟨ben, bkc⟩ := TC_n hC
  have hla := (h13 (t_dp T - 1) (by omega)).1
  rw [ha] at hla
  have hoe := (h1 a hoa.1).1
  obtain ⟨y1, y2, y3⟩ := xa a hoa.1
  obtain ⟨y3, y4⟩ := y3 hoa.2.1
  have hfl : fd ≤ 5000 := by rw [hfd]; have := fb_ct_le (fun s => !decide (t_kn T s = 0) && goodb n nm rr nx s) n; omega
  unfold f_Ro_leave
  rw [x8, sub1 hd, xx_lE]
  let g1 := hp_si h r 8 (nI (t_dp T - 1))
  have H1 : hp_fr (S_ro r) h g1 := hf_si (hp_fr_rf h) (by unfold S_ro; omega)
  have e8 : hp_i g1 r 8 = nI (t_dp T - 1) := by simp only [g1]; rw [hp_i_si, if_pos ⟨rfl, rfl⟩]
  have hx1 : TRX r n (t_pop T) g1 := by
    refine ⟨?_, e8, ?_, ?_, fun s hs' => ?_, fun j hj => ?_, fun j hj => ?_⟩
    · simp only [g1]; rw [hp_i_si, if_neg (by omega)]; exact x7
    · simp only [g1]; rw [hp_i_si, if_neg (by omega)]; exact x9
    · simp only [g1]; rw [hp_i_si, if_neg (by omega)]; exact x10
    · simp only [g1]; rw [hp_i_si, if_neg (by omega), hp_i_si, if_neg (by omega), hp_i_si, if_neg (by omega), hp_i_si, if_neg (by omega)]; exact xa s hs'
    · simp only [g1]; rw [hp_i_si, if_neg (by omega)]; exact xo j hj
    · have hj : j < t_dp T - 1 := hj
      simp only [g1]; rw [hp_i_si, if_neg (by omega)]; exact xp j (by omega)
  -- the knot
  have fin : ∀ g, hp_fr (S_ro r) h g → t_lo T a = t_or T a → TRX r n (t_pop T) g → hp_i g r 11 = nI fd → pw (f_Ro_leave_50 r (nI a) g) (fun g => hp_fr (S_ro r) h g ∧ ∃ T' fd', RST r n nm rr nx T' fd' g ∧ phi n T' = phi n T + 1 ∧ t_or T' = t_or T) := by
    intro g H hlow gx g11
    have ha5 : a < n := hoa.1
    have hsg := ROX_fr H hs
    have htg := XTB_fr H (by unfold S_ro; omega) ht
    obtain ⟨t0, t1, t2, t3, t4, t5, t6, k1, k2, k3, k4, k5, k6⟩ := id hsg
    obtain ⟨z1, z2, z3⟩ := gx.2.2.2.2.1 a hoa.1
    unfold f_Ro_leave_50
    rw [bn_o t2, k2, if_pos (hp_in_nI (by omega) (by omega)), bn_o t1, k1, if_pos (hp_in_nI (by omega) (by omega)), nI_clamp (by omega), (z3 hoa.2.1).1, z1, show t_lo (t_pop T) a = t_or (t_pop T) a from hlow, if_pos rfl]
    obtain ⟨j0, p1, p2⟩ := h5 a hoa
    obtain ⟨q1, q2, q3⟩ := RI_tie ⟨hT, hC, hfd⟩ htg.2.2.2.2.2.2.2.2.2.1 hd ha hl hlow p1 p2
    refine pw_bind (pw_mono (R_tie (T := t_pop T) (j0 := j0) (fd := fd) hr hqr hsg htg hoa.1 p1 p2 bno (fun j hj => ⟨(h3 j hj).1, (h3 j hj).2.2⟩) (fun j k u v z => by have h9 := h4 j k u v; rw [show t_op T j = t_op T k from z] at h9; omega) q1 (fun s hs' => (h1 s hs').2.2.1) hfl g11 gx) ?_)
    rintro g2 ⟨K2, kx, k11⟩
    exact pw_some ⟨hp_fr_tr H K2, _, _, ⟨q2, kx, k11⟩, q3, rfl⟩
  show pw (if hp_i g1 r 8 ≤ 0 then f_Ro_leave_50 r (nI a) g1 else _) _
  rw [e8]
  have e11 : hp_i g1 r 11 = nI fd := by simp only [g1]; rw [hp_i_si, if_neg (by omega)]; exact h11
  by_cases hd1 : t_dp T = 1
  · rw [if_pos (by rw [hd1]; decide)]
    refine fin g1 H1 ?_ hx1 e11
    refine Decidable.of_not_not (fun z => ?_)
    have := (TI_leave1 hT hd ha hl (by omega)).1
    omega
  · have hob := h6 (t_dp T - 2) (by omega)
    obtain ⟨b, hb⟩ : ∃ b, t_pa T (t_dp T - 2) = b := ⟨_, rfl⟩
    rw [hb] at hob
    have hbo := (h1 b hob.1).1
    have hlb := (h13 (t_dp T - 2) (by omega)).1
    rw [hb] at hlb
    obtain ⟨k1, _⟩ := h7 (t_dp T - 2) (by omega)
    rw [show t_dp T - 2 + 1 = t_dp T - 1 by omega, ha, hb] at k1
    have hab : a ≠ b := fun z => by rw [z] at k1; omega
    have ha5 : a < n := hoa.1
    have hb5 : b < n := hob.1
    have hs1 := ROX_fr H1 hs
    obtain ⟨t0, t1, t2, t3, t4, t5, t6, n1, n2, n3, n4, n5, n6⟩ := id hs1
    have p6 : hp_i g1 (r + 6) (t_dp T - 1 - 1) = nI b := by
      simp only [g1]; rw [hp_i_si, if_neg (by omega), xp _ (by omega), show t_dp T - 1 - 1 = t_dp T - 2 by omega, hb]
    have qa : hp_i g1 (r + 2) a = nI (t_lo T a) := ((hx1.2.2.2.2.1 a hoa.1).2.2 hoa.2.1).1
    have qb : hp_i g1 (r + 2) b = nI (t_lo T b) := ((hx1.2.2.2.2.1 b hob.1).2.2 hob.2.1).1
    rw [if_neg (nI_nle (by omega) (by omega)), bn_o t6, sub1 (by omega), n6, if_pos (hp_in_nI (by omega) (by omega)), nI_clamp (by omega), p6, xx_lE, bn_o t2, bn_o t2, n2, if_pos (hp_in_nI (by have := hob.1; omega) (by have := hob.1; omega)), bn_o t2, n2, if_pos (hp_in_nI (by have := hoa.1; omega) (by have := hoa.1; omega)), if_pos (hp_in_nI (by have := hob.1; omega) (by have := hob.1; omega)), nI_clamp (by have := hob.1; omega), nI_clamp (by have := hoa.1; omega), qa, qb, xx_lE]
    let x := if t_lo T a < t_lo T b then t_lo T a else t_lo T b
    have ex : (if nI (t_lo T a) < nI (t_lo T b) then nI (t_lo T a) else nI (t_lo T b)) = nI x := by
      simp only [x]
      by_cases hc : t_lo T a < t_lo T b
      · rw [if_pos hc, if_pos (nI_lt hc (by omega))]
      · rw [if_neg hc, if_neg (nI_nlt (by omega) (by omega))]
    rw [ex]
    let g2 := hp_si g1 (r + 2) b (nI x)
    have H2 : hp_fr (S_ro r) h g2 := hf_si H1 (by unfold S_ro; omega)
    have e11' : hp_i g2 r 11 = nI fd := by simp only [g2]; rw [hp_i_si, if_neg (by omega)]; exact e11
    have hx2 : TRX r n (t_pop (t_low T b x)) g2 := by
      obtain ⟨w7, w8, w9, w10, wa, wo, wp⟩ := hx1
      refine ⟨?_, ?_, ?_, ?_, fun s hs' => ?_, fun j hj => ?_, fun j hj => ?_⟩
      · simp only [g2]; rw [hp_i_si, if_neg (by omega)]; exact w7
      · simp only [g2]; rw [hp_i_si, if_neg (by omega)]; exact w8
      · simp only [g2]; rw [hp_i_si, if_neg (by omega)]; exact w9
      · simp only [g2]; rw [hp_i_si, if_neg (by omega)]; exact w10
      · obtain ⟨v1, v2, v3⟩ := wa s hs'
        refine ⟨?_, ?_, fun ho => ⟨?_, ?_⟩⟩
        · simp only [g2]; rw [hp_i_si, if_neg (by omega)]; exact v1
        · simp only [g2]; rw [hp_i_si, if_neg (by omega)]; exact v2
        · show hp_i g2 (r + 2) s = nI (upN (t_lo T) b x s)
          simp only [g2]; rw [hp_i_si]
          by_cases z : s = b
          · subst z; rw [if_pos ⟨rfl, rfl⟩, upN_s]
          · rw [if_neg (fun w => z w.2), upN_n z]; exact (v3 ho).1
        · simp only [g2]; rw [hp_i_si, if_neg (by omega)]; exact (v3 ho).2
      · simp only [g2]; rw [hp_i_si, if_neg (by omega)]; exact wo j hj
      · simp only [g2]; rw [hp_i_si, if_neg (by omega)]; exact wp j hj
    show pw (f_Ro_leave_50 r (nI a) g2) _
    by_cases hlow : t_lo T a = t_or T a
    · refine fin g2 H2 hlow ?_ e11'
      have exb : x = t_lo T b := by simp only [x]; rw [if_neg (by omega)]
      obtain ⟨w7, w8, w9, w10, wa, wo, wp⟩ := hx2
      refine ⟨w7, w8, w9, w10, fun s hs' => ?_, wo, wp⟩
      obtain ⟨v1, v2, v3⟩ := wa s hs'
      refine ⟨v1, v2, fun ho => ⟨?_, (v3 ho).2⟩⟩
      have v4 : hp_i g2 (r + 2) s = nI (upN (t_lo T) b x s) := (v3 ho).1
      rw [v4]
      show nI (upN (t_lo T) b x s) = nI (t_lo T s)
      unfold upN
      by_cases z : s = b
      · rw [if_pos z, z, exb]
      · rw [if_neg z]
    · have hsg := ROX_fr H2 hs
      obtain ⟨t0, t1, t2, t3, t4, t5, t6, n1, n2, n3, n4, n5, n6⟩ := id hsg
      obtain ⟨v1, v2, v3⟩ := hx2.2.2.2.2.1 a hoa.1
      have v4 : hp_i g2 (r + 2) a = nI (upN (t_lo T) b x a) := (v3 hoa.2.1).1
      rw [upN_n hab] at v4
      have v1 : hp_i g2 (r + 1) a = nI (t_or T a) := v1
      unfold f_Ro_leave_50
      rw [bn_o t2, n2, if_pos (hp_in_nI (by have := hoa.1; omega) (by have := hoa.1; omega)), bn_o t1, n1, if_pos (hp_in_nI (by have := hoa.1; omega) (by have := hoa.1; omega)), nI_clamp (by have := hoa.1; omega), v4, v1, if_neg (fun z => hlow ((nI_eq (by omega) (by omega)).mp z))]
      have hT2 := (TI_leave1 hT hd ha hl (by omega)).2
      rw [hb] at hT2
      refine pw_some ⟨H2, t_pop (t_low T b x), fd, ⟨⟨hT2, ⟨hC.1, hC.2.1, ?_⟩, hfd⟩, hx2, e11'⟩, ?_, rfl⟩
      · show t_dp T - 1 ≤ t_en T; have := hC.2.2; omega
      · have := hC.2.2
        show fb_sm (fun s => if t_or T s = 0 then 0 else t_lk T s) n + (t_en T - (t_dp T - 1)) = fb_sm (fun s => if t_or T s = 0 then 0 else t_lk T s) n + (t_en T - t_dp T) + 1
        omega
