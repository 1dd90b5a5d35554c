/-! the steps of the class's way keep its invariant -/
/-- as TI, but for the one lead that is just looked at -/
def TIv (n nm : Nat) (rr nx : Nat → Nat → Nat) (T : TS) (v : Nat) : Prop :=
  (∀ s, s < n → t_or T s ≤ t_en T ∧ (t_kn T s ≠ 0 → t_or T s ≠ 0) ∧ t_kn T s ≤ t_kc T ∧ (t_or T s ≠ 0 → t_lk T s ≤ nm)) ∧
  (∀ s t, s < n → t < n → t_or T s = t_or T t → t_or T s ≠ 0 → s = t) ∧
  (∀ j, j < t_no T → opn T n (t_op T j)) ∧ (∀ j k, j < k → k < t_no T → t_or T (t_op T j) < t_or T (t_op T k)) ∧ (∀ s, opn T n s → ∃ j, j < t_no T ∧ t_op T j = s) ∧
  (∀ j, j < t_dp T → opn T n (t_pa T j)) ∧ (∀ j, j + 1 < t_dp T → t_or T (t_pa T j) < t_or T (t_pa T (j + 1)) ∧ Rch (Gg n nm rr nx) (t_pa T j) (t_pa T (j + 1))) ∧
  (∀ s i, s < n → t_kn T s ≠ 0 → i < nm → rr s i = 0 → t_kn T (nx s i) ≠ 0) ∧
  (∀ s, opn T n s → (∀ j, j < t_dp T → t_pa T j ≠ s) → t_lk T s = nm) ∧
  (∀ s i, s < n → t_or T s ≠ 0 → t_kn T s = 0 → i < t_lk T s → rr s i = 0 → t_or T (nx s i) ≠ 0 ∨ nx s i = v) ∧
  (∀ s, opn T n s → 0 < t_dp T ∧ t_or T (t_pa T 0) ≤ t_or T s) ∧
  (∀ s j, opn T n s → sgm T j s → Rch (Gg n nm rr nx) s (t_pa T j) ∧ Rch (Gg n nm rr nx) (t_pa T j) s) ∧
  (∀ j, j < t_dp T → t_lo T (t_pa T j) ≤ t_or T (t_pa T j) ∧ ∃ w, opn T n w ∧ t_or T w = t_lo T (t_pa T j) ∧ Rch (Gg n nm rr nx) (t_pa T j) w) ∧
  (∀ s j i, opn T n s → sgm T j s → i < t_lk T s → rr s i = 0 → t_kn T (nx s i) = 0 → t_lo T (t_pa T j) ≤ t_or T (nx s i) ∨ nx s i = v) ∧
  (∀ s t, s < n → t < n → t_kn T s ≠ 0 → (t_kn T s = t_kn T t ↔ Mut (Gg n nm rr nx) s t))
theorem TIv_of {n nm : Nat} {rr nx : Nat → Nat → Nat} {T : TS} (h : TI n nm rr nx T) (v : Nat) : TIv n nm rr nx T v := by
  obtain ⟨h1, h2, h3, h4, h5, h6, h7, h8, h9, h10, h11, h12, h13, h14, h15⟩ := h
  exact ⟨h1, h2, h3, h4, h5, h6, h7, h8, h9, fun s i a b c d e => .inl (h10 s i a b c d e), h11, h12, h13, fun s j i a b c d e => .inl (h14 s j i a b c d e), h15⟩
theorem TI_enter {n nm v : Nat} {rr nx : Nat → Nat → Nat} {T : TS} (h : TIv n nm rr nx T v) (hv : v < n) (hw : t_or T v = 0) (hd : t_dp T = 0 ∨ Rch (Gg n nm rr nx) (t_pa T (t_dp T - 1)) v) : TI n nm rr nx (t_enter T v) := by
  obtain ⟨h1, h2, h3, h4, h5, h6, h7, h8, h9, h10, h11, h12, h13, h14, h15⟩ := h
  have hkv : t_kn T v = 0 := Decidable.of_not_not (fun z => (h1 v hv).2.1 z hw)
  have e1 : t_or (t_enter T v) = upN (t_or T) v (t_en T + 1) := rfl
  have e2 : t_lo (t_enter T v) = upN (t_lo T) v (t_en T + 1) := rfl
  have e3 : t_kn (t_enter T v) = t_kn T := rfl
  have e4 : t_lk (t_enter T v) = upN (t_lk T) v 0 := rfl
  have e5 : t_op (t_enter T v) = upN (t_op T) (t_no T) v := rfl
  have e6 : t_pa (t_enter T v) = upN (t_pa T) (t_dp T) v := rfl
  have e7 : t_no (t_enter T v) = t_no T + 1 := rfl
  have e8 : t_dp (t_enter T v) = t_dp T + 1 := rfl
  have e9 : t_en (t_enter T v) = t_en T + 1 := rfl
  have e0 : t_kc (t_enter T v) = t_kc T := rfl
  have ov : ∀ s, s ≠ v → t_or (t_enter T v) s = t_or T s := fun s hs => by rw [e1, upN_n hs]
  have ovv : t_or (t_enter T v) v = t_en T + 1 := by rw [e1, upN_s]
  have opo : ∀ s, opn T n s → s ≠ v := fun s hs z => hs.2.1 (by rw [z]; exact hw)
  have op1 : ∀ s, opn T n s → opn (t_enter T v) n s := fun s hs => ⟨hs.1, by rw [ov s (opo s hs)]; exact hs.2.1, hs.2.2⟩
  have opv : opn (t_enter T v) n v := ⟨hv, by rw [ovv]; omega, hkv⟩
  have op2 : ∀ s, opn (t_enter T v) n s → s = v ∨ opn T n s := fun s hs => by
    by_cases z : s = v
    · exact .inl z
    · exact .inr ⟨hs.1, by have := hs.2.1; rw [ov s z] at this; exact this, hs.2.2⟩
  have pal : ∀ j, j < t_dp T → t_pa (t_enter T v) j = t_pa T j ∧ t_or (t_enter T v) (t_pa T j) = t_or T (t_pa T j) := fun j hj => ⟨by rw [e6, upN_n (by omega)], ov _ (opo _ (h6 j hj))⟩
  have pat : t_pa (t_enter T v) (t_dp T) = v := by rw [e6, upN_s]
  have sg1 : ∀ j s, opn T n s → sgm (t_enter T v) j s → sgm T j s ∧ t_pa (t_enter T v) j = t_pa T j := by
    intro j s hs hj
    obtain ⟨j1, j2, j3⟩ := hj
    rw [e8] at j1 j3
    have hso := (h1 s hs.1).1
    have hsv := opo s hs
    by_cases hjd : j = t_dp T
    · subst hjd
      rw [pat, ovv, ov s hsv] at j2; omega
    · obtain ⟨p1, p2⟩ := pal j (by omega)
      rw [p1, p2, ov s hsv] at j2
      refine ⟨⟨by omega, j2, fun hj => ?_⟩, p1⟩
      have := j3 (by omega)
      rw [(pal (j + 1) hj).1, (pal (j + 1) hj).2, ov s hsv] at this
      exact this
  have sgv : ∀ j, sgm (t_enter T v) j v → j = t_dp T := by
    intro j hj
    obtain ⟨j1, j2, j3⟩ := hj
    rw [e8] at j1 j3
    refine Decidable.of_not_not (fun z => ?_)
    have := j3 (by omega)
    rw [ovv] at this
    by_cases z2 : j + 1 = t_dp T
    · rw [z2, pat, ovv] at this; omega
    · rw [(pal (j + 1) (by omega)).1, (pal (j + 1) (by omega)).2] at this
      have := (h1 _ (h6 (j + 1) (by omega)).1).1
      omega
  refine ⟨fun s hs => ?_, fun s t hs ht he h0 => ?_, fun j hj => ?_, fun j k hj hk => ?_, fun s hs => ?_, fun j hj => ?_, fun j hj => ?_, h8, fun s hs hnp => ?_, fun s i hs hso hsk hi hr => ?_, fun s hs => ?_, fun s j hs hj => ?_, fun j hj => ?_, fun s j i hs hj hi hr hk => ?_, h15⟩
  · rw [e9, e3, e0, e4]
    obtain ⟨a, b, c, d⟩ := h1 s hs
    by_cases z : s = v
    · subst z; rw [ovv, upN_s]; exact ⟨Nat.le_refl _, fun _ => by omega, c, fun _ => Nat.zero_le _⟩
    · rw [ov s z, upN_n z]; exact ⟨by omega, b, c, d⟩
  · by_cases z : s = v
    · by_cases z2 : t = v
      · rw [z, z2]
      · subst z; rw [ovv, ov t z2] at he; have := (h1 t ht).1; omega
    · by_cases z2 : t = v
      · subst z2; rw [ovv, ov s z] at he; have := (h1 s hs).1; omega
      · rw [ov s z, ov t z2] at he; rw [ov s z] at h0; exact h2 s t hs ht he h0
  · rw [e7] at hj
    rw [e5]
    by_cases z : j = t_no T
    · rw [z, upN_s]; exact opv
    · rw [upN_n z]; exact op1 _ (h3 j (by omega))
  · rw [e7] at hk
    rw [e5]
    by_cases z : k = t_no T
    · subst z
      rw [upN_s, upN_n (by omega), ovv, ov _ (opo _ (h3 j (by omega)))]
      have := (h1 _ (h3 j (by omega)).1).1
      omega
    · rw [upN_n z, upN_n (by omega), ov _ (opo _ (h3 j (by omega))), ov _ (opo _ (h3 k (by omega)))]
      exact h4 j k hj (by omega)
  · rw [e7, e5]
    rcases op2 s hs with z | z
    · exact ⟨t_no T, by omega, by rw [upN_s, z]⟩
    · obtain ⟨j, j1, j2⟩ := h5 s z
      exact ⟨j, by omega, by rw [upN_n (by omega)]; exact j2⟩
  · rw [e8] at hj
    by_cases z : j = t_dp T
    · rw [z, pat]; exact opv
    · rw [(pal j (by omega)).1]; exact op1 _ (h6 j (by omega))
  · rw [e8] at hj
    by_cases z : j + 1 = t_dp T
    · rw [z, pat, (pal j (by omega)).1, (pal j (by omega)).2, ovv]
      refine ⟨by have := (h1 _ (h6 j (by omega)).1).1; omega, ?_⟩
      rcases hd with w | w
      · omega
      · rw [show t_dp T - 1 = j by omega] at w; exact w
    · rw [(pal j (by omega)).1, (pal (j + 1) (by omega)).1, (pal j (by omega)).2, (pal (j + 1) (by omega)).2]
      exact h7 j (by omega)
  · rw [e4]
    have hsv : s ≠ v := fun z => hnp (t_dp T) (by rw [e8]; omega) (by rw [pat, z])
    rcases op2 s hs with z | z
    · exact absurd z hsv
    · rw [upN_n hsv]
      exact h9 s z (fun j hj => by have := hnp j (by rw [e8]; omega); rw [(pal j hj).1] at this; exact this)
  · rw [e4] at hi
    by_cases z : s = v
    · rw [z, upN_s] at hi; omega
    · rw [upN_n z] at hi
      rw [ov s z] at hso
      rcases h10 s i hs hso hsk hi hr with w | w
      · by_cases z2 : nx s i = v
        · rw [z2, ovv]; omega
        · rw [ov _ z2]; exact w
      · rw [w, ovv]; omega
  · refine ⟨by rw [e8]; omega, ?_⟩
    rcases op2 s hs with z | z
    · rw [z, ovv]
      by_cases z0 : t_dp T = 0
      · rw [← z0, pat, ovv]; exact Nat.le_refl _
      · rw [(pal 0 (by omega)).1, (pal 0 (by omega)).2]
        have := (h1 _ (h6 0 (by omega)).1).1
        omega
    · have := h11 s z
      rw [(pal 0 this.1).1, (pal 0 this.1).2, ov s (opo s z)]; exact this.2
  · rcases op2 s hs with z | z
    · subst z
      rw [sgv j hj, pat]; exact ⟨Rch_rf _, Rch_rf _⟩
    · obtain ⟨g1, g2⟩ := sg1 j s z hj
      rw [g2]; exact h12 s j z g1
  · rw [e8] at hj
    rw [e2]
    by_cases z : j = t_dp T
    · rw [z, pat, upN_s, ovv]
      exact ⟨Nat.le_refl _, v, opv, ovv, Rch_rf _⟩
    · obtain ⟨p1, p2⟩ := pal j (by omega)
      have hpv := opo _ (h6 j (by omega))
      rw [p1, p2, upN_n hpv]
      obtain ⟨a, w, b, c, d⟩ := h13 j (by omega)
      exact ⟨a, w, op1 w b, by rw [ov w (opo w b)]; exact c, d⟩
  · rcases op2 s hs with z | z
    · subst z; rw [e4, upN_s] at hi; omega
    · obtain ⟨g1, g2⟩ := sg1 j s z hj
      have hsv := opo s z
      rw [e4, upN_n hsv] at hi
      have hpv := opo _ (h6 j g1.1)
      rw [g2, e2, upN_n hpv]
      have hlow := (h13 j g1.1).1
      have hpe := (h1 _ (h6 j g1.1).1).1
      by_cases z2 : nx s i = v
      · rw [z2, ovv]; omega
      · rcases h14 s j i z g1 hi hr hk with w | w
        · rw [ov _ z2]; exact w
        · exact absurd w z2
/-- a lead of the path's last one is looked at: it ends, or goes to what is knotted -/
theorem TI_lkd {n nm a : Nat} {rr nx : Nat → Nat → Nat} {T : TS} (h : TI n nm rr nx T) (hd : 0 < t_dp T) (ha : t_pa T (t_dp T - 1) = a) (hl : t_lk T a < nm) (v : Nat) (hv : rr a (t_lk T a) = 0 → nx a (t_lk T a) = v ∨ t_kn T (nx a (t_lk T a)) ≠ 0 ∧ nx a (t_lk T a) < n) : TIv n nm rr nx (t_lkd T a) v := by
  obtain ⟨h1, h2, h3, h4, h5, h6, h7, h8, h9, h10, h11, h12, h13, h14, h15⟩ := h
  have hoa := h6 (t_dp T - 1) (by omega)
  rw [ha] at hoa
  have e4 : t_lk (t_lkd T a) = upN (t_lk T) a (t_lk T a + 1) := rfl
  refine ⟨fun s hs => ?_, h2, h3, h4, h5, h6, h7, h8, fun s hs hnp => ?_, fun s i hs hso hsk hi hr => ?_, h11, h12, h13, fun s j i hs hj hi hr hk => ?_, h15⟩
  · obtain ⟨x, y, z, w⟩ := h1 s hs
    refine ⟨x, y, z, fun ho => ?_⟩
    rw [e4]; unfold upN; split
    · omega
    · exact w ho
  · have hsa : s ≠ a := fun z => hnp (t_dp T - 1) (by show t_dp T - 1 < t_dp T; omega) (by show t_pa T (t_dp T - 1) = s; rw [ha, z])
    rw [e4, upN_n hsa]; exact h9 s hs hnp
  · rw [e4] at hi
    by_cases z : s = a
    · subst z
      rw [upN_s] at hi
      by_cases z2 : i = t_lk T s
      · subst z2
        rcases hv hr with w | ⟨w, w2⟩
        · exact .inr w
        · exact .inl ((h1 _ w2).2.1 w)
      · exact .inl (h10 s i hs hso hsk (by omega) hr)
    · rw [upN_n z] at hi; exact .inl (h10 s i hs hso hsk hi hr)
  · rw [e4] at hi
    by_cases z : s = a
    · subst z
      rw [upN_s] at hi
      by_cases z2 : i = t_lk T s
      · subst z2
        rcases hv hr with w | ⟨w, _⟩
        · exact .inr w
        · exact absurd hk w
      · exact .inl (h14 s j i hs hj (by omega) hr hk)
    · rw [upN_n z] at hi; exact .inl (h14 s j i hs hj hi hr hk)
theorem TI_ofv {n nm v : Nat} {rr nx : Nat → Nat → Nat} {T : TS} (h : TIv n nm rr nx T v) (hv : ∀ s i, s < n → t_or T s ≠ 0 → t_kn T s = 0 → i < t_lk T s → rr s i = 0 → nx s i ≠ v) : TI n nm rr nx T := by
  obtain ⟨h1, h2, h3, h4, h5, h6, h7, h8, h9, h10, h11, h12, h13, h14, h15⟩ := h
  refine ⟨h1, h2, h3, h4, h5, h6, h7, h8, h9, fun s i a b c d e => ?_, h11, h12, h13, fun s j i a b c d e => ?_, h15⟩
  · rcases h10 s i a b c d e with z | z
    · exact z
    · exact absurd z (hv s i a b c d e)
  · rcases h14 s j i a b c d e with z | z
    · exact z
    · exact absurd z (hv s i a.1 a.2.1 a.2.2 c d)
/-- the path's last one gets lower: by an open one that it leads to -/
theorem TI_low {n nm a v : Nat} {rr nx : Nat → Nat → Nat} {T : TS} (h : TIv n nm rr nx T v) (hd : 0 < t_dp T) (ha : t_pa T (t_dp T - 1) = a) (hov : opn T n v) (hr : Rch (Gg n nm rr nx) a v) (hv : ∀ s i, s < n → t_or T s ≠ 0 → t_kn T s = 0 → i < t_lk T s → rr s i = 0 → nx s i = v → s = a ∨ t_or T (nx s i) ≠ 0 ∧ ∀ j, sgm T j s → t_lo T (t_pa T j) ≤ t_or T v) : TI n nm rr nx (t_low T a (if t_or T v < t_lo T a then t_or T v else t_lo T a)) := by
  obtain ⟨h1, h2, h3, h4, h5, h6, h7, h8, h9, h10, h11, h12, h13, h14, h15⟩ := h
  have hoa := h6 (t_dp T - 1) (by omega)
  rw [ha] at hoa
  obtain ⟨x, hx⟩ : ∃ x, (if t_or T v < t_lo T a then t_or T v else t_lo T a) = x := ⟨_, rfl⟩
  rw [hx]
  have hxl : x ≤ t_lo T a ∧ x ≤ t_or T v := by rw [← hx]; split <;> omega
  have e2 : t_lo (t_low T a x) = upN (t_lo T) a x := rfl
  have le2 : ∀ s, t_lo (t_low T a x) s ≤ t_lo T s := fun s => by
    rw [e2]; unfold upN; split
    · rename_i z; rw [z]; exact hxl.1
    · exact Nat.le_refl _
  refine ⟨h1, h2, h3, h4, h5, h6, h7, h8, h9, fun s i hs hso hsk hi hrr => ?_, h11, h12, fun j hj => ?_, fun s j i hs hj hi hrr hk => ?_, h15⟩
  · rcases h10 s i hs hso hsk hi hrr with z | z
    · exact z
    · show t_or T (nx s i) ≠ 0; rw [z]; exact hov.2.1
  · show t_lo (t_low T a x) (t_pa T j) ≤ t_or T (t_pa T j) ∧ ∃ w, opn T n w ∧ t_or T w = t_lo (t_low T a x) (t_pa T j) ∧ Rch (Gg n nm rr nx) (t_pa T j) w
    obtain ⟨b, w, c, d, e⟩ := h13 j hj
    by_cases z : t_pa T j = a
    · refine ⟨by have := le2 (t_pa T j); omega, ?_⟩
      rw [e2, z, upN_s]
      by_cases hc : t_or T v < t_lo T a
      · rw [if_pos hc] at hx
        exact ⟨v, hov, hx, hr⟩
      · rw [if_neg hc] at hx
        rw [z] at d e
        exact ⟨w, c, by rw [d, hx], e⟩
    · rw [e2, upN_n z]; exact ⟨b, w, c, d, e⟩
  · show t_lo (t_low T a x) (t_pa T j) ≤ t_or T (nx s i)
    have hle := le2 (t_pa T j)
    rcases h14 s j i hs hj hi hrr hk with z | z
    · omega
    · rcases hv s i hs.1 hs.2.1 hs.2.2 hi hrr z with w | ⟨_, w⟩
      · have : t_pa T j = a := by
          have hj' : sgm T j s := hj
          rw [w, ← ha] at hj'
          rw [TI_top h7 hj']; exact ha
        rw [this, e2, upN_s, z]; exact hxl.2
      · have := w j hj
        rw [z]; omega
/-- the path's last one, all looked at, is left: lower than itself -/
def t_pop (T : TS) : TS := (t_or T, t_lo T, t_kn T, t_lk T, t_op T, t_pa T, t_no T, t_dp T - 1, t_en T, t_kc T)
theorem TI_leave1 {n nm a : Nat} {rr nx : Nat → Nat → Nat} {T : TS} (h : TI n nm rr nx T) (hd : 0 < t_dp T) (ha : t_pa T (t_dp T - 1) = a) (hl : t_lk T a = nm) (hlow : t_lo T a < t_or T a) : 1 < t_dp T ∧ TI n nm rr nx (t_pop (t_low T (t_pa T (t_dp T - 2)) (if t_lo T a < t_lo T (t_pa T (t_dp T - 2)) then t_lo T a else t_lo T (t_pa T (t_dp T - 2))))) := by
  obtain ⟨h1, h2, h3, h4, h5, h6, h7, h8, h9, h10, h11, h12, h13, h14, h15⟩ := h
  have hoa := h6 (t_dp T - 1) (by omega)
  rw [ha] at hoa
  obtain ⟨_, w, w1, w2, w3⟩ := h13 (t_dp T - 1) (by omega)
  rw [ha] at w2 w3
  have hd2 : 1 < t_dp T := by
    refine Nat.lt_of_not_le (fun z => ?_)
    have := (h11 w w1).2
    rw [show (0 : Nat) = t_dp T - 1 by omega, ha] at this
    omega
  refine ⟨hd2, ?_⟩
  obtain ⟨b, hb⟩ : ∃ b, t_pa T (t_dp T - 2) = b := ⟨_, rfl⟩
  rw [hb]
  have hob := h6 (t_dp T - 2) (by omega)
  rw [hb] at hob
  obtain ⟨x, hx⟩ : ∃ x, (if t_lo T a < t_lo T b then t_lo T a else t_lo T b) = x := ⟨_, rfl⟩
  rw [hx]
  have hxl : x ≤ t_lo T a ∧ x ≤ t_lo T b := by rw [← hx]; split <;> omega
  obtain ⟨k1, k2⟩ := h7 (t_dp T - 2) (by omega)
  rw [show t_dp T - 2 + 1 = t_dp T - 1 by omega, ha, hb] at k1 k2
  have hab : a ≠ b := fun z => by rw [z] at k1; omega
  have eT : ∀ s, t_lo (t_pop (t_low T b x)) s = upN (t_lo T) b x s := fun s => rfl
  have le2 : ∀ s, t_lo (t_pop (t_low T b x)) s ≤ t_lo T s := fun s => by
    rw [eT]; unfold upN; split
    · rename_i z; rw [z]; exact hxl.2
    · exact Nat.le_refl _
  -- w lies below a: it leads up to b
  have hwb : Rch (Gg n nm rr nx) a b := by
    obtain ⟨j, hj⟩ := TI_sg ⟨h1, h2, h3, h4, h5, h6, h7, h8, h9, h10, h11, h12, h13, h14, h15⟩ w1
    have hjd : j ≤ t_dp T - 2 := by
      refine Nat.le_of_not_lt (fun z => ?_)
      have : j = t_dp T - 1 := by have := hj.1; omega
      have := hj.2.1
      rw [‹j = t_dp T - 1›, ha] at this
      omega
    have up := (TI_pu h7 (t_dp T - 2 - j) j (by omega)).2
    rw [show j + (t_dp T - 2 - j) = t_dp T - 2 by omega, hb] at up
    exact Rch_tr w3 (Rch_tr (h12 w j w1 hj).1 up)
  -- new segments
  have sg : ∀ j s, opn T n s → sgm (t_pop (t_low T b x)) j s → sgm T j s ∨ j = t_dp T - 2 ∧ sgm T (t_dp T - 1) s := by
    intro j s hs hj
    obtain ⟨j1, j2, j3⟩ := hj
    have j1 : j < t_dp T - 1 := j1
    have j2 : t_or T (t_pa T j) ≤ t_or T s := j2
    have j3 : j + 1 < t_dp T - 1 → t_or T s < t_or T (t_pa T (j + 1)) := j3
    by_cases z : j + 1 < t_dp T - 1
    · exact .inl ⟨by omega, j2, fun _ => j3 z⟩
    · by_cases z2 : t_or T s < t_or T (t_pa T (t_dp T - 1))
      · refine .inl ⟨by omega, j2, fun _ => ?_⟩
        rw [show j + 1 = t_dp T - 1 by omega]; exact z2
      · exact .inr ⟨by omega, by omega, by omega, fun z3 => by omega⟩
  refine ⟨h1, h2, h3, h4, h5, fun j hj => h6 j (by have : j < t_dp T - 1 := hj; omega), fun j hj => h7 j (by have : j + 1 < t_dp T - 1 := hj; omega), h8, fun s hs hnp => ?_, h10, fun s hs => ⟨by show 0 < t_dp T - 1; omega, (h11 s hs).2⟩, fun s j hs hj => ?_, fun j hj => ?_, fun s j i hs hj hi hr hk => ?_, h15⟩
  · by_cases z : s = a
    · rw [z]; exact hl
    · refine h9 s hs (fun j hj => ?_)
      by_cases z2 : j = t_dp T - 1
      · rw [z2, ha]; exact fun w => z w.symm
      · exact hnp j (by show j < t_dp T - 1; omega)
  · rcases sg j s hs hj with z | ⟨z1, z2⟩
    · exact h12 s j hs z
    · have := h12 s (t_dp T - 1) hs z2
      rw [ha] at this
      show Rch (Gg n nm rr nx) s (t_pa T j) ∧ Rch (Gg n nm rr nx) (t_pa T j) s
      rw [z1, hb]
      exact ⟨Rch_tr this.1 hwb, Rch_tr k2 this.2⟩
  · have hj : j < t_dp T - 1 := hj
    show t_lo (t_pop (t_low T b x)) (t_pa T j) ≤ t_or T (t_pa T j) ∧ ∃ w, opn T n w ∧ t_or T w = t_lo (t_pop (t_low T b x)) (t_pa T j) ∧ Rch (Gg n nm rr nx) (t_pa T j) w
    obtain ⟨c, w', c1, c2, c3⟩ := h13 j (by omega)
    refine ⟨by have := le2 (t_pa T j); omega, ?_⟩
    rw [eT]
    by_cases z : t_pa T j = b
    · rw [z, upN_s]
      by_cases hc : t_lo T a < t_lo T b
      · rw [if_pos hc] at hx
        exact ⟨w, w1, by rw [w2, hx], Rch_tr k2 w3⟩
      · rw [if_neg hc] at hx
        rw [z] at c2 c3
        exact ⟨w', c1, by rw [c2, hx], c3⟩
    · rw [upN_n z]; exact ⟨w', c1, c2, c3⟩
  · show t_lo (t_pop (t_low T b x)) (t_pa T j) ≤ t_or T (nx s i)
    rcases sg j s hs hj with z | ⟨z1, z2⟩
    · have := h14 s j i hs z hi hr hk
      have := le2 (t_pa T j)
      omega
    · have := h14 s (t_dp T - 1) i hs z2 hi hr hk
      rw [ha] at this
      rw [z1, hb, eT, upN_s]; omega
/-- or it is the lowest: all above it are knotted -/
def t_tie (T : TS) (K : Nat → Bool) (no : Nat) : TS := (t_or T, t_lo T, fun s => if K s = true then t_kc T + 1 else t_kn T s, t_lk T, t_op T, t_pa T, no, t_dp T - 1, t_en T, t_kc T + 1)
theorem TI_tie {n nm a no : Nat} {rr nx : Nat → Nat → Nat} {T : TS} {K : Nat → Bool} (h : TI n nm rr nx T) (hnx : ∀ s i, s < n → i < nm → rr s i = 0 → nx s i < n) (hd : 0 < t_dp T) (ha : t_pa T (t_dp T - 1) = a) (hl : t_lk T a = nm) (hlow : t_lo T a = t_or T a) (hno : no < t_no T ∧ t_op T no = a) (hK : ∀ s, s < n → (K s = true ↔ opn T n s ∧ t_or T a ≤ t_or T s)) : TI n nm rr nx (t_tie T K no) ∧ ∀ s, s < n → K s = true → ∀ t, t < n → (K t = true ↔ Mut (Gg n nm rr nx) s t) := by
  have hT := h
  obtain ⟨h1, h2, h3, h4, h5, h6, h7, h8, h9, h10, h11, h12, h13, h14, h15⟩ := h
  have hoa := h6 (t_dp T - 1) (by omega)
  rw [ha] at hoa
  have hsg : ∀ s, opn T n s → t_or T a ≤ t_or T s → sgm T (t_dp T - 1) s := fun s hs hle => ⟨by omega, by rw [ha]; exact hle, fun z => by omega⟩
  have hlk : ∀ s, opn T n s → t_or T a ≤ t_or T s → t_lk T s = nm := by
    intro s hs hle
    by_cases z : s = a
    · rw [z]; exact hl
    · refine h9 s hs (fun j hj z2 => ?_)
      have up := (TI_pu h7 (t_dp T - 1 - j) j (by omega)).1
      rw [show j + (t_dp T - 1 - j) = t_dp T - 1 by omega, ha, z2] at up
      have : t_or T s = t_or T a := by omega
      exact z (h2 s a hs.1 hoa.1 this hs.2.1)
  have cls : ∀ s i, s < n → K s = true → i < nm → rr s i = 0 → K (nx s i) = true ∨ t_kn T (nx s i) ≠ 0 := by
    intro s i hs hKs hi hr
    obtain ⟨k1, k2⟩ := (hK s hs).mp hKs
    have hx := hnx s i hs hi hr
    by_cases z : t_kn T (nx s i) = 0
    · left
      have hlks := hlk s k1 k2
      have o1 := h10 s i hs k1.2.1 k1.2.2 (by omega) hr
      have o2 := h14 s (t_dp T - 1) i k1 (hsg s k1 k2) (by omega) hr z
      rw [ha, hlow] at o2
      exact (hK _ hx).mpr ⟨⟨hx, o1, z⟩, o2⟩
    · exact .inr z
  have Ka : ∀ s, s < n → K s = true → Mut (Gg n nm rr nx) s a := by
    intro s hs hKs
    obtain ⟨k1, k2⟩ := (hK s hs).mp hKs
    have := h12 s (t_dp T - 1) k1 (hsg s k1 k2)
    rw [ha] at this; exact this
  have Knot : ∀ s t, s < n → t_kn T s ≠ 0 → Rch (Gg n nm rr nx) s t → t < n ∧ t_kn T t ≠ 0 := by
    intro s t hs hk hr
    refine Rch_in (S := fun t => t < n ∧ t_kn T t ≠ 0) (fun u v hu hg => ?_) ⟨hs, hk⟩ hr
    obtain ⟨g1, i, g2, g3, g4⟩ := hg
    rw [← g4]; exact ⟨hnx u i g1 g2 g3, h8 u i g1 hu.2 g2 g3⟩
  have KK : ∀ s t, s < n → K s = true → Rch (Gg n nm rr nx) s t → t < n ∧ (K t = true ∨ t_kn T t ≠ 0) := by
    intro s t hs hk hr
    refine Rch_in (S := fun t => t < n ∧ (K t = true ∨ t_kn T t ≠ 0)) (fun u v hu hg => ?_) ⟨hs, .inl hk⟩ hr
    obtain ⟨g1, i, g2, g3, g4⟩ := hg
    rw [← g4]
    refine ⟨hnx u i g1 g2 g3, ?_⟩
    rcases hu.2 with z | z
    · exact cls u i g1 z g2 g3
    · exact .inr (h8 u i g1 z g2 g3)
  have Kopen : ∀ s, s < n → K s = true → t_kn T s = 0 := fun s hs hk => ((hK s hs).mp hk).1.2.2
  have mutK : ∀ s, s < n → K s = true → ∀ t, t < n → (K t = true ↔ Mut (Gg n nm rr nx) s t) := by
    intro s hs hk t ht
    constructor
    · intro hkt; exact Mut_tr (Ka s hs hk) (Mut_sy (Ka t ht hkt))
    · intro hm
      rcases (KK s t hs hk hm.1).2 with z | z
      · exact z
      · exact absurd (Kopen s hs hk) (Knot t s ht z hm.2).2
  refine ⟨?_, mutK⟩
  have ek : ∀ s, t_kn (t_tie T K no) s = if K s = true then t_kc T + 1 else t_kn T s := fun s => rfl
  have op2 : ∀ s, opn (t_tie T K no) n s → opn T n s ∧ t_or T s < t_or T a := by
    intro s hs
    obtain ⟨s1, s2, s3⟩ := hs
    rw [ek] at s3
    have s2 : t_or T s ≠ 0 := s2
    by_cases z : K s = true
    · rw [if_pos z] at s3; omega
    · rw [if_neg z] at s3
      have hop : opn T n s := ⟨s1, s2, s3⟩
      exact ⟨hop, Nat.lt_of_not_le (fun w => z ((hK s s1).mpr ⟨hop, w⟩))⟩
  have op1 : ∀ s, opn T n s → t_or T s < t_or T a → opn (t_tie T K no) n s := by
    intro s hs hlt
    refine ⟨hs.1, hs.2.1, ?_⟩
    rw [ek, if_neg (fun z => by have := ((hK s hs.1).mp z).2; omega)]; exact hs.2.2
  have sg : ∀ j s, opn T n s → t_or T s < t_or T a → sgm (t_tie T K no) j s → sgm T j s := by
    intro j s hs hlt hj
    obtain ⟨j1, j2, j3⟩ := hj
    have j1 : j < t_dp T - 1 := j1
    refine ⟨by omega, j2, fun z => ?_⟩
    by_cases z2 : j + 1 < t_dp T - 1
    · exact j3 z2
    · rw [show j + 1 = t_dp T - 1 by omega, ha]; exact hlt
  have opa : ∀ j, j < t_dp T - 1 → t_or T (t_pa T j) < t_or T a := by
    intro j hj
    have up := (TI_pu h7 (t_dp T - 1 - j) j (by omega)).1
    rw [show j + (t_dp T - 1 - j) = t_dp T - 1 by omega, ha] at up
    omega
  have opj : ∀ j, j < no → t_or T (t_op T j) < t_or T a := by
    intro j hj
    have := h4 j no hj hno.1
    rw [hno.2] at this; exact this
  refine ⟨fun s hs => ?_, h2, fun j hj => op1 _ (h3 j (by have : j < no := hj; omega)) (opj j hj), fun j k hj hk => h4 j k hj (by have : k < no := hk; omega), fun s hs => ?_, fun j hj => op1 _ (h6 j (by have : j < t_dp T - 1 := hj; omega)) (opa j hj), fun j hj => h7 j (by have : j + 1 < t_dp T - 1 := hj; omega), fun s i hs hk hi hr => ?_, fun s hs hnp => ?_, fun s i hs hso hsk hi hr => ?_, fun s hs => ?_, fun s j hs hj => ?_, fun j hj => ?_, fun s j i hs hj hi hr hk => ?_, fun s t hs ht hk => ?_⟩
  · obtain ⟨x, y, z, w⟩ := h1 s hs
    refine ⟨x, fun hk => ?_, ?_, w⟩
    · rw [ek] at hk
      by_cases q : K s = true
      · exact ((hK s hs).mp q).1.2.1
      · rw [if_neg q] at hk; exact y hk
    · rw [ek]
      show _ ≤ t_kc T + 1
      split <;> omega
  · obtain ⟨o1, o2⟩ := op2 s hs
    obtain ⟨j, j1, j2⟩ := h5 s o1
    refine ⟨j, ?_, j2⟩
    show j < no
    refine Nat.lt_of_not_le (fun z => ?_)
    by_cases z2 : no = j
    · subst z2; rw [hno.2] at j2; rw [j2] at o2; omega
    · have := h4 no j (by omega) j1
      rw [hno.2, j2] at this; omega
  · rw [ek] at hk
    rw [ek]
    by_cases q : K (nx s i) = true
    · rw [if_pos q]; omega
    · rw [if_neg q]
      by_cases q2 : K s = true
      · rcases cls s i hs q2 hi hr with z | z
        · exact absurd z q
        · exact z
      · rw [if_neg q2] at hk; exact h8 s i hs hk hi hr
  · obtain ⟨o1, o2⟩ := op2 s hs
    refine h9 s o1 (fun j hj => ?_)
    by_cases z2 : j = t_dp T - 1
    · rw [z2, ha]; intro z; rw [z] at o2; omega
    · exact hnp j (by show j < t_dp T - 1; omega)
  · rw [ek] at hsk
    by_cases q : K s = true
    · rw [if_pos q] at hsk; omega
    · rw [if_neg q] at hsk; exact h10 s i hs hso hsk hi hr
  · obtain ⟨o1, o2⟩ := op2 s hs
    have := h11 s o1
    refine ⟨?_, this.2⟩
    show 0 < t_dp T - 1
    refine Nat.lt_of_not_le (fun z => ?_)
    have h0 := this.2
    rw [show (0 : Nat) = t_dp T - 1 by omega, ha] at h0
    omega
  · obtain ⟨o1, o2⟩ := op2 s hs
    exact h12 s j o1 (sg j s o1 o2 hj)
  · have hj : j < t_dp T - 1 := hj
    obtain ⟨b, w, c1, c2, c3⟩ := h13 j (by omega)
    have := opa j hj
    exact ⟨b, w, op1 w c1 (by rw [c2]; omega), c2, c3⟩
  · obtain ⟨o1, o2⟩ := op2 s hs
    rw [ek] at hk
    by_cases q : K (nx s i) = true
    · rw [if_pos q] at hk; omega
    · rw [if_neg q] at hk; exact h14 s j i o1 (sg j s o1 o2 hj) hi hr hk
  · rw [ek] at hk
    rw [ek, ek]
    have b1 := (h1 s hs).2.2.1
    have b2 := (h1 t ht).2.2.1
    by_cases q : K s = true
    · rw [if_pos q]
      rw [← mutK s hs q t ht]
      by_cases q2 : K t = true
      · rw [if_pos q2]; exact ⟨fun _ => q2, fun _ => rfl⟩
      · rw [if_neg q2]; exact ⟨fun z => by omega, fun z => absurd z q2⟩
    · rw [if_neg q] at hk ⊢
      by_cases q2 : K t = true
      · rw [if_pos q2]
        refine ⟨fun z => by omega, fun z => ?_⟩
        exact absurd ((mutK t ht q2 s hs).mpr (Mut_sy z)) q
      · rw [if_neg q2]; exact h15 s t hs ht hk
