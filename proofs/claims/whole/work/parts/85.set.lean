/-! sets of codes, found by a table of marks -/
def idx (f : Nat → Nat) (n v : Nat) : Nat := fa_first (fun j => decide (f j = v)) n
theorem idx_le (f : Nat → Nat) (n v : Nat) : idx f n v ≤ n := fa_first_le _ n
theorem idx_yes {f : Nat → Nat} {n v : Nat} (h : idx f n v < n) : f (idx f n v) = v := of_decide_eq_true (fa_first_yes _ n h)
theorem idx_no {f : Nat → Nat} {n v : Nat} (h : idx f n v = n) {j : Nat} (hj : j < n) : f j ≠ v := of_decide_eq_false (fa_first_no (fun j => decide (f j = v)) n j (by unfold idx at h; omega))
def dst (f : Nat → Nat) (n : Nat) : Prop := ∀ i j, i < j → j < n → f i ≠ f j
theorem idx_eq {f : Nat → Nat} {n v j : Nat} (hd : dst f n) (hj : j < n) (h : f j = v) : idx f n v = j := first_eq hj (decide_eq_true h) (fun k hk => decide_eq_false (fun z => hd k j hk hj (z.trans h.symm)))
theorem idx_none {f : Nat → Nat} {n v : Nat} (h : ∀ j, j < n → f j ≠ v) : idx f n v = n := first_no (fun k hk => decide_eq_false (h k hk))
theorem dst_up {f : Nat → Nat} {n v : Nat} (hd : dst f n) (h : idx f n v = n) : dst (upN f n v) (n + 1) := by
  intro i j hij hj
  unfold upN
  rw [if_neg (by omega)]
  by_cases hjn : j = n
  · rw [if_pos hjn]; exact idx_no h (by omega)
  · rw [if_neg hjn]; exact hd i j hij (by omega)
def HT (SZ : Nat) (hm : Nat → Nat) (n : Nat) (f sl : Nat → Nat) : Prop := n < SZ ∧ dst f n ∧ (∀ p, p < SZ → sl p ≤ n) ∧ (∀ j, j < n → ∃ d, d < SZ ∧ sl ((hm (f j) + d) % SZ) = j + 1 ∧ ∀ e, e < d → sl ((hm (f j) + e) % SZ) ≠ 0) ∧ fb_ct (fun p => !decide (sl p = 0)) SZ = n
theorem HT_0 {SZ : Nat} {hm f sl : Nat → Nat} (h0 : 0 < SZ) (h : ∀ p, p < SZ → sl p = 0) : HT SZ hm 0 f sl := by
  refine ⟨h0, fun i j _ hj => by omega, fun p hp => by rw [h p hp]; exact Nat.le_refl _, fun j hj => by omega, ?_⟩
  exact fb_ct_zero.mpr (fun k hk => by rw [decide_eq_true (h k hk)]; rfl)
/-- where the search for v ends -/
theorem HT_probe {SZ n v : Nat} {hm f sl : Nat → Nat} (H : HT SZ hm n f sl) (hv : hm v < SZ) : ∃ d, d < SZ ∧ (∀ e, e < d → sl ((hm v + e) % SZ) ≠ 0 ∧ f (sl ((hm v + e) % SZ) - 1) ≠ v) ∧ (sl ((hm v + d) % SZ) = 0 ∧ idx f n v = n ∨ sl ((hm v + d) % SZ) ≠ 0 ∧ idx f n v = sl ((hm v + d) % SZ) - 1 ∧ idx f n v < n) := by
  obtain ⟨h1, h2, h3, h4, h5⟩ := H
  have hem : ∃ p, p < SZ ∧ sl p = 0 := by
    refine Classical.byContradiction (fun z => ?_)
    have hall : ∀ p, p < SZ → (fun p => !decide (sl p = 0)) p = true := fun p hp => by
      have : ¬ sl p = 0 := fun w => z ⟨p, hp, w⟩
      simp [this]
    have := fb_ct_all.mpr hall
    omega
  obtain ⟨p0, hp0, hz⟩ := hem
  have hex : ∃ d, d < SZ ∧ (sl ((hm v + d) % SZ) = 0 ∨ f (sl ((hm v + d) % SZ) - 1) = v) := by
    by_cases hc : hm v ≤ p0
    · refine ⟨p0 - hm v, by omega, .inl ?_⟩
      rw [show hm v + (p0 - hm v) = p0 by omega, Nat.mod_eq_of_lt hp0]; exact hz
    · refine ⟨p0 + SZ - hm v, by omega, .inl ?_⟩
      rw [show hm v + (p0 + SZ - hm v) = p0 + SZ by omega, Nat.add_mod_right, Nat.mod_eq_of_lt hp0]; exact hz
  obtain ⟨d, hd, hdp, hmin⟩ := fb_first (p := fun d => sl ((hm v + d) % SZ) = 0 ∨ f (sl ((hm v + d) % SZ) - 1) = v) hex
  refine ⟨d, hd, fun e he => ⟨fun z => hmin e he (.inl z), fun z => hmin e he (.inr z)⟩, ?_⟩
  by_cases hs : sl ((hm v + d) % SZ) = 0
  · refine .inl ⟨hs, idx_none (fun j hj hjv => ?_)⟩
    obtain ⟨dj, hdj, hsj, hbj⟩ := h4 j hj
    rw [hjv] at hsj hbj
    by_cases hlt : d < dj
    · exact hbj d hlt hs
    · by_cases heq : d = dj
      · rw [heq] at hs; omega
      · exact hmin dj (by omega) (.inr (by rw [hsj]; exact hjv))
  · have hfv : f (sl ((hm v + d) % SZ) - 1) = v := by
      rcases hdp with z | z
      · exact absurd z hs
      · exact z
    have hlt : sl ((hm v + d) % SZ) - 1 < n := by
      have := h3 ((hm v + d) % SZ) (Nat.mod_lt _ (by omega)); omega
    have := idx_eq h2 hlt hfv
    exact .inr ⟨hs, this, by omega⟩
theorem HT_put {SZ n v d : Nat} {hm f sl : Nat → Nat} (H : HT SZ hm n f sl) (hn : n + 1 < SZ) (hi : idx f n v = n) (hd : d < SZ) (hb : ∀ e, e < d → sl ((hm v + e) % SZ) ≠ 0) (hz : sl ((hm v + d) % SZ) = 0) : HT SZ hm (n + 1) (upN f n v) (upN sl ((hm v + d) % SZ) (n + 1)) := by
  obtain ⟨h1, h2, h3, h4, h5⟩ := H
  have hp : (hm v + d) % SZ < SZ := Nat.mod_lt _ (by omega)
  refine ⟨hn, dst_up h2 hi, fun p hp2 => ?_, fun j hj => ?_, ?_⟩
  · unfold upN; split
    · exact Nat.le_refl _
    · have := h3 p hp2; omega
  · by_cases hjn : j = n
    · subst hjn
      rw [upN_s]
      refine ⟨d, hd, upN_s _ _ _, fun e he => ?_⟩
      unfold upN; split
      · omega
      · exact hb e he
    · rw [upN_n hjn]
      obtain ⟨dj, hdj, hsj, hbj⟩ := h4 j (by omega)
      refine ⟨dj, hdj, ?_, fun e he => ?_⟩
      · rw [upN_n (fun z => by rw [z] at hsj; omega)]; exact hsj
      · unfold upN; split
        · omega
        · exact hbj e he
  · have := fb_ct_upd (fun p => !decide (sl p = 0)) true hp
    have e : fb_ct (fun k => if k = (hm v + d) % SZ then true else (fun p => !decide (sl p = 0)) k) SZ = fb_ct (fun p => !decide (upN sl ((hm v + d) % SZ) (n + 1) p = 0)) SZ := by
      refine fb_ct_cong (fun k _ => ?_)
      unfold upN
      by_cases hk : k = (hm v + d) % SZ
      · rw [if_pos hk, if_pos hk, decide_eq_false (by omega)]; rfl
      · rw [if_neg hk, if_neg hk]
    rw [e, h5] at this
    simpa [hz] using this
/-! the class's set -/
def SPR : Nat := 11400714819323198485
def hX (v : Nat) : Nat := v * SPR % 2 ^ 64 / 2 ^ 51
theorem hX_lt (v : Nat) : hX v < 8192 := by
  have : v * SPR % 2 ^ 64 < 2 ^ 64 := Nat.mod_lt _ (by decide)
  unfold hX; omega
def SSX (s lim n : Nat) (f : Nat → Nat) (h : HP) : Prop := n ≤ lim ∧ lim ≤ 5000 ∧ hp_i h s 0 = nI n ∧ hp_i h s 1 = nI lim ∧ hp_r h s 2 = some (s + 1) ∧ hp_r h s 3 = some (s + 2) ∧ hp_n h (s + 1) = 5000 ∧ hp_n h (s + 2) = 8192 ∧ (∀ j, j < n → f j < 2 ^ 54 ∧ hp_l h (s + 1) j = lN (f j)) ∧ ∃ sl, HT 8192 hX n f sl ∧ ∀ p, p < 8192 → hp_i h (s + 2) p = nI (sl p)
def S_set (s : Nat) : Nat → Nat → Prop := fun a k => a = s ∧ k = 0 ∨ a = s + 1 ∨ a = s + 2
def F_SS (s : Nat) : Nat → Nat → Prop := fun a k => a = s ∧ k < 2 ∨ a = s + 1 ∨ a = s + 2
theorem SSX_fr {S : Nat → Nat → Prop} {s lim n : Nat} {f : Nat → Nat} {h h' : HP} (H : hp_fr S h h') (hS : ∀ a k, S a k → ¬ F_SS s a k) (hs : SSX s lim n f h) : SSX s lim n f h' := by
  obtain ⟨a1, a2, a3, a4, a5, a6, a7, a8, a9, sl, a10, a11⟩ := hs
  refine ⟨a1, a2, ?_, ?_, ?_, ?_, ?_, ?_, fun j hj => ⟨(a9 j hj).1, ?_⟩, sl, a10, fun p hp => ?_⟩
  · rw [hf_i H (fun z => hS _ _ z (by unfold F_SS; omega))]; exact a3
  · rw [hf_i H (fun z => hS _ _ z (by unfold F_SS; omega))]; exact a4
  · rw [hp_fr_r H]; exact a5
  · rw [hp_fr_r H]; exact a6
  · rw [hp_fr_n H]; exact a7
  · rw [hp_fr_n H]; exact a8
  · rw [hf_l H (fun z => hS _ _ z (by unfold F_SS; omega))]; exact (a9 j hj).2
  · rw [hf_i H (fun z => hS _ _ z (by unfold F_SS; omega))]; exact a11 p hp
theorem sub1 {a : Nat} (h : 0 < a) : nI a - (1 : Int32) = nI (a - 1) := pk_sub (b := 1) h
theorem X_home (v : Nat) : ((((lN v * (-7046029254386353131 : Int64))).toUInt64 >>> (((51 : Int32)).toInt64.toUInt64 &&& Int64.toUInt64 63)).toInt64).toInt32 = nI (hX v) := by
  rw [show (-7046029254386353131 : Int64) = lN SPR by decide +kernel, lN_mul, wb_mod, show (51 : Int32) = nI 51 from rfl, wb_shr (Nat.mod_lt _ (by decide)) (by decide), lN_i]; rfl
/-- what comes of asking for a code's number -/
def QN (s lim n v : Nat) (f : Nat → Nat) (h : HP) (r : Int32 × HP) : Prop := (idx f n v < n ∧ r.1 = nI (idx f n v) ∧ r.2 = h) ∨ (idx f n v = n ∧ n < lim ∧ r.1 = nI n ∧ SSX s lim (n + 1) (upN f n v) r.2 ∧ hp_fr (S_set s) h r.2) ∨ (idx f n v = n ∧ n = lim ∧ r.1 = -1 ∧ r.2 = h)
theorem X_number {s lim n v : Nat} {f : Nat → Nat} {h : HP} (hs : SSX s lim n f h) (hv : v < 2 ^ 54) : pw (f_Ss_numberOf s (lN v) h) (QN s lim n v f h) := by
  obtain ⟨a1, a2, a3, a4, a5, a6, a7, a8, a9, sl, a10, a11⟩ := id hs
  unfold f_Ss_numberOf
  rw [X_home, xx_lE]
  obtain ⟨d, hd, hb, hend⟩ := HT_probe a10 (hX_lt v)
  unfold f_Ss_numberOf_13
  refine pw_cnt d (fun e t => t = (nI ((hX v + e) % 8192), nI e, h)) ?_ ?_ 0 _ (by omega) (by rw [Nat.add_zero, Nat.mod_eq_of_lt (hX_lt v)]; rfl)
  · rintro e t he rfl
    obtain ⟨b1, b2⟩ := hb e he
    have hp : (hX v + e) % 8192 < 8192 := Nat.mod_lt _ (by decide)
    have c1 := a11 _ hp
    have c2 : sl ((hX v + e) % 8192) ≤ n := a10.2.2.1 _ hp
    refine pw_L (s := (nI ((hX v + (e + 1)) % 8192), nI (e + 1), h)) ?_ rfl
    unfold f_Ss_numberOf_13b
    dsimp only
    rw [if_neg (show ¬ (8192 : Int32) ≤ nI e from nI_ge (b := 8192) (by omega) (by decide)), a6, bn_s, a8, if_pos (hp_in_nI hp (by omega)), nI_clamp (by omega), c1, xx_lE, sub1 (by omega), if_pos (nI_pos' (by omega)), a5, bn_s, a7, if_pos (hp_in_nI (by omega) (by omega)), nI_clamp (by omega), (a9 _ (by omega)).2]
    rw [if_neg (fun z => b2 ((fb_lN_inj (by have := (a9 (sl ((hX v + e) % 8192) - 1) (by omega)).1; omega) (by omega)).mp ((lg_cmp_eq _ _).mp z)))]
    simp only [xx_lE]
    rw [nI_1, nI_1, show (8191 : Int32) = nI (2 ^ 13 - 1) from rfl, fa_mask, show ((hX v + e) % 8192 + 1) % 2 ^ 13 = (hX v + (e + 1)) % 8192 by omega]
  · rintro t rfl
    have hp : (hX v + d) % 8192 < 8192 := Nat.mod_lt _ (by decide)
    have c1 := a11 _ hp
    have c2 : sl ((hX v + d) % 8192) ≤ n := a10.2.2.1 _ hp
    unfold f_Ss_numberOf_13b
    dsimp only
    rw [if_neg (show ¬ (8192 : Int32) ≤ nI d from nI_ge (b := 8192) (by omega) (by decide)), a6, bn_s, a8, if_pos (hp_in_nI hp (by omega)), nI_clamp (by omega), c1, xx_lE]
    rcases hend with ⟨hz, hi⟩ | ⟨hz, hi, hlt⟩
    · rw [hz, if_neg (by decide)]
      refine pw_mapR ?_
      unfold f_Ss_numberOf_36 f_Ss_putIn
      rw [a3, a4]
      by_cases hl : n < lim
      · rw [if_pos (nI_lt hl (by omega)), a5, bn_s, a7, if_pos (hp_in_nI (by omega) (by omega)), nI_clamp (by omega)]
        simp only [xx_lE]
        rw [show hp_i (hp_sl h (s + 1) n (lN v)) s 0 = nI n from a3, nI_1]
        rw [show hp_r (hp_si (hp_sl h (s + 1) n (lN v)) s 0 (nI (n + 1))) s 3 = some (s + 2) from a6, bn_s]
        rw [show hp_n (hp_si (hp_sl h (s + 1) n (lN v)) s 0 (nI (n + 1))) (s + 2) = 8192 from a8, if_pos (hp_in_nI hp (by omega)), nI_clamp (by omega)]
        rw [show hp_i (hp_si (hp_sl h (s + 1) n (lN v)) s 0 (nI (n + 1))) s 0 = nI (n + 1) by rw [hp_i_si, if_pos ⟨rfl, rfl⟩]]
        rw [bn_s]
        rw [show hp_i (hp_si (hp_si (hp_sl h (s + 1) n (lN v)) s 0 (nI (n + 1))) (s + 2) ((hX v + d) % 8192) (nI (n + 1))) s 0 = nI (n + 1) by rw [hp_i_si, if_neg (by omega), hp_i_si, if_pos ⟨rfl, rfl⟩]]
        rw [sub1 (by omega), show n + 1 - 1 = n by omega]
        refine pw_some (.inr (.inl ⟨hi, hl, rfl, ⟨by omega, a2, ?_, ?_, a5, a6, a7, a8, fun j hj => ?_, upN sl ((hX v + d) % 8192) (n + 1), HT_put a10 (by omega) hi hd (fun e he => (hb e he).1) hz, fun p hp2 => ?_⟩, ?_⟩))
        · dsimp only; rw [hp_i_si, if_neg (by omega), hp_i_si, if_pos ⟨rfl, rfl⟩]
        · dsimp only; rw [hp_i_si, if_neg (by omega), hp_i_si, if_neg (by omega)]; exact a4
        · dsimp only
          rw [hp_l_si, hp_l_si, hp_l_sl]
          by_cases hjn : j = n
          · subst hjn; rw [upN_s, if_pos ⟨rfl, rfl⟩]; exact ⟨hv, rfl⟩
          · rw [upN_n hjn, if_neg (fun z => hjn z.2)]; exact a9 j (by omega)
        · dsimp only
          rw [hp_i_si]
          by_cases hpp : p = (hX v + d) % 8192
          · rw [if_pos ⟨rfl, hpp⟩, hpp, upN_s]
          · rw [if_neg (fun z => hpp z.2), upN_n hpp, hp_i_si, if_neg (by omega)]; exact a11 p hp2
        · dsimp only; exact hf_si (hf_si (hf_sl (hp_fr_rf h) (by unfold S_set; omega)) (by unfold S_set; omega)) (by unfold S_set; omega)
      · rw [if_neg (nI_nlt (by omega) (by omega)), bn_s]
        exact pw_some (.inr (.inr ⟨hi, by omega, rfl, rfl⟩))
    · rw [sub1 (by omega), if_pos (nI_pos' (by omega)), a5, bn_s, a7, if_pos (hp_in_nI (by omega) (by omega)), nI_clamp (by omega), (a9 _ (by omega)).2]
      rw [if_pos ((lg_cmp_eq _ _).mpr (by rw [← hi, idx_yes hlt]))]
      exact pw_some (.inl ⟨hlt, by rw [hi], rfl⟩)
/-! the reference's set -/
def pk (E : Nat) : Nat := E % 64 + 64 * (E / 2 ^ 54) + 128 * (E % 2 ^ 54 / 64)
theorem pk_lt55 {E : Nat} (h : E < 2 ^ 55) : pk E < 2 ^ 55 := by unfold pk; simp only [Nat.reducePow] at *; omega
theorem pk_inj {E G : Nat} (h1 : E < 2 ^ 55) (h2 : G < 2 ^ 55) (h : pk E = pk G) : E = G := by unfold pk at h; simp only [Nat.reducePow] at *; omega
def hM (E : Nat) : Nat := pk E * SPR % 2 ^ 64 / 2 ^ 50
theorem hM_lt (E : Nat) : hM E < 16384 := by
  have : pk E * SPR % 2 ^ 64 < 2 ^ 64 := Nat.mod_lt _ (by decide)
  unfold hM; omega
def MSS (m n : Nat) (f : Nat → Nat) (h : HP) : Prop := n ≤ 5000 ∧ hp_i h m 65 = nI n ∧ (∀ j, j < n → f j < 2 ^ 55 ∧ hp_l h (m + 27) j = lN (pk (f j))) ∧ ∃ sl, HT 16384 hM n f sl ∧ ∀ p, p < 16384 → hp_i h (m + 28) p = nI (sl p)
def S_ms (m : Nat) : Nat → Nat → Prop := fun a k => a = m ∧ (k = 65 ∨ k = 66) ∨ a = m + 27 ∨ a = m + 28
def F_MS (m : Nat) : Nat → Nat → Prop := fun a k => a = m ∧ k = 65 ∨ a = m + 27 ∨ a = m + 28
theorem MSS_fr {S : Nat → Nat → Prop} {m n : Nat} {f : Nat → Nat} {h h' : HP} (H : hp_fr S h h') (hS : ∀ a k, S a k → ¬ F_MS m a k) (hs : MSS m n f h) : MSS m n f h' := by
  obtain ⟨a1, a3, a9, sl, a10, a11⟩ := hs
  refine ⟨a1, ?_, fun j hj => ⟨(a9 j hj).1, ?_⟩, sl, a10, fun p hp => ?_⟩
  · rw [hf_i H (fun z => hS _ _ z (by unfold F_MS; omega))]; exact a3
  · rw [hf_l H (fun z => hS _ _ z (by unfold F_MS; omega))]; exact (a9 j hj).2
  · rw [hf_i H (fun z => hS _ _ z (by unfold F_MS; omega))]; exact a11 p hp
theorem M_home {E : Nat} (h : HP) : f_M_slotOf (lN (pk E)) h = some (nI (hM E), h) := by
  unfold f_M_slotOf
  have e : (((lN (pk E) * (-7046029254386353131 : Int64)).toUInt64 >>> (((50 : Int32)).toInt64.toUInt64 &&& Int64.toUInt64 63)).toInt64).toInt32 = nI (hM E) := by
    rw [show (-7046029254386353131 : Int64) = lN SPR by decide +kernel, lN_mul, wb_mod, show (50 : Int32) = nI 50 from rfl, wb_shr (Nat.mod_lt _ (by decide)) (by decide), lN_i]; rfl
  have := hM_lt E
  rw [xx_lE, e, show (16384 : Int32) = nI 16384 from rfl, pk_rem (by omega) (by decide) (by decide), Nat.mod_eq_of_lt this]
def QM (m n v : Nat) (f : Nat → Nat) (h : HP) (r : Int32 × HP) : Prop := (idx f n v < n ∧ r.1 = nI (idx f n v) ∧ r.2 = h) ∨ (idx f n v = n ∧ n < 5000 ∧ r.1 = nI n ∧ MSS m (n + 1) (upN f n v) r.2 ∧ hp_i r.2 m 66 = hp_i h m 66 ∧ hp_fr (S_ms m) h r.2) ∨ (idx f n v = n ∧ n = 5000 ∧ r.1 = -1 ∧ r.2 = hp_si h m 66 1)
theorem M_num10 {m n v : Nat} {f : Nat → Nat} {h : HP} (hm : MS m h) (hs : MSS m n f h) (hv : v < 2 ^ 55) : pw (f_M_number_10 m (lN (pk v)) (nI (hM v)) h) (QM m n v f h) := by
  obtain ⟨a1, a3, a9, sl, a10, a11⟩ := id hs
  obtain ⟨d, hd, hb, hend⟩ := HT_probe a10 (hM_lt v)
  have inj : ∀ j, j < n → (lN (pk (f j)) = lN (pk v) ↔ f j = v) := fun j hj => by
    have h1 := pk_lt55 (a9 j hj).1
    have h2 := pk_lt55 hv
    rw [fb_lN_inj (by omega) (by omega)]
    exact ⟨fun z => pk_inj (a9 j hj).1 hv z, fun z => by rw [z]⟩
  unfold f_M_number_10
  refine pw_cnt d (fun e t => t = (nI ((hM v + e) % 16384), h)) ?_ ?_ 0 _ (by omega) (by rw [Nat.add_zero, Nat.mod_eq_of_lt (hM_lt v)])
  · rintro e t he rfl
    obtain ⟨b1, b2⟩ := hb e he
    have hp : (hM v + e) % 16384 < 16384 := Nat.mod_lt _ (by decide)
    have c1 := a11 _ hp
    have c2 : sl ((hM v + e) % 16384) ≤ n := a10.2.2.1 _ hp
    refine pw_L (s := (nI ((hM v + (e + 1)) % 16384), h)) ?_ rfl
    unfold f_M_number_10b
    dsimp only
    rw [mb_63 hm, mn_28 hm, if_pos (hp_in_nI hp (by omega)), nI_clamp (by omega), c1, if_neg (nI_nle (by omega) (by omega)), mb_62 hm, mb_63 hm, mn_28 hm, if_pos (hp_in_nI hp (by omega)), c1, sub1 (by omega), mn_27 hm, if_pos (hp_in_nI (by omega) (by omega)), nI_clamp (by omega), (a9 _ (by omega)).2]
    rw [if_neg (fun z => b2 ((inj _ (by omega)).mp ((lg_cmp_eq _ _).mp z)))]
    simp only [xx_lE]
    rw [nI_1, show (16384 : Int32) = nI 16384 from rfl, pk_rem (by omega) (by decide) (by decide), show ((hM v + e) % 16384 + 1) % 16384 = (hM v + (e + 1)) % 16384 by omega]
  · rintro t rfl
    have hp : (hM v + d) % 16384 < 16384 := Nat.mod_lt _ (by decide)
    have c1 := a11 _ hp
    have c2 : sl ((hM v + d) % 16384) ≤ n := a10.2.2.1 _ hp
    unfold f_M_number_10b
    dsimp only
    rw [mb_63 hm, mn_28 hm, if_pos (hp_in_nI hp (by omega)), nI_clamp (by omega), c1]
    rcases hend with ⟨hz, hi⟩ | ⟨hz, hi, hlt⟩
    · rw [hz, if_pos (by decide)]
      refine pw_mapR ?_
      unfold f_M_number_48
      rw [mb_63 hm, mn_28 hm, if_pos (hp_in_nI hp (by omega)), nI_clamp (by omega), c1, hz, if_pos (by decide), a3]
      by_cases hl : n < 5000
      · rw [if_neg (show ¬ nI n = (5000 : Int32) from fun z => by have := (nI_eq (b := 5000) (by omega) (by decide)).mp z; omega), mb_62 hm, mn_27 hm, if_pos (hp_in_nI (by omega) (by omega)), nI_clamp (by omega)]
        simp only [xx_lE]
        rw [show hp_i (hp_sl h (m + 27) n (lN (pk v))) m 65 = nI n from a3, nI_1]
        rw [show hp_r (hp_si (hp_sl h (m + 27) n (lN (pk v))) m 65 (nI (n + 1))) m 63 = some (m + 28) from mr_63 hm, bn_s]
        rw [show hp_n (hp_si (hp_sl h (m + 27) n (lN (pk v))) m 65 (nI (n + 1))) (m + 28) = 16384 from mn_28 hm, if_pos (hp_in_nI hp (by omega))]
        rw [show hp_i (hp_si (hp_sl h (m + 27) n (lN (pk v))) m 65 (nI (n + 1))) m 65 = nI (n + 1) by rw [hp_i_si, if_pos ⟨rfl, rfl⟩]]
        rw [show hp_i (hp_si (hp_si (hp_sl h (m + 27) n (lN (pk v))) m 65 (nI (n + 1))) (m + 28) ((hM v + d) % 16384) (nI (n + 1))) m 65 = nI (n + 1) by rw [hp_i_si, if_neg (by omega), hp_i_si, if_pos ⟨rfl, rfl⟩]]
        rw [sub1 (by omega), show n + 1 - 1 = n by omega]
        refine pw_some (.inr (.inl ⟨hi, hl, rfl, ⟨by omega, ?_, fun j hj => ?_, upN sl ((hM v + d) % 16384) (n + 1), HT_put a10 (by omega) hi hd (fun e he => (hb e he).1) hz, fun p hp2 => ?_⟩, ?_, ?_⟩))
        · dsimp only; rw [hp_i_si, if_neg (by omega), hp_i_si, if_pos ⟨rfl, rfl⟩]
        · dsimp only
          rw [hp_l_si, hp_l_si, hp_l_sl]
          by_cases hjn : j = n
          · subst hjn; rw [upN_s, if_pos ⟨rfl, rfl⟩]; exact ⟨hv, rfl⟩
          · rw [upN_n hjn, if_neg (fun z => hjn z.2)]; exact a9 j (by omega)
        · dsimp only
          rw [hp_i_si]
          by_cases hpp : p = (hM v + d) % 16384
          · rw [if_pos ⟨rfl, hpp⟩, hpp, upN_s]
          · rw [if_neg (fun z => hpp z.2), upN_n hpp, hp_i_si, if_neg (by omega)]; exact a11 p hp2
        · dsimp only; rw [hp_i_si, if_neg (by omega), hp_i_si, if_neg (by omega)]; rfl
        · dsimp only; exact hf_si (hf_si (hf_sl (hp_fr_rf h) (by unfold S_ms; omega)) (by unfold S_ms; omega)) (by unfold S_ms; omega)
      · have hn : n = 5000 := by omega
        rw [if_pos (show nI n = (5000 : Int32) by rw [hn]; rfl), xx_lE]
        exact pw_some (.inr (.inr ⟨hi, hn, rfl, rfl⟩))
    · have e48 : f_M_number_48 m (lN (pk v)) (nI ((hM v + d) % 16384)) h = some (nI (idx f n v), h) := by
        unfold f_M_number_48
        rw [mb_63 hm, mn_28 hm, if_pos (hp_in_nI hp (by omega)), nI_clamp (by omega), c1, if_neg (nI_nle (by omega) (by omega)), mb_63 hm, mn_28 hm, if_pos (hp_in_nI hp (by omega)), c1, sub1 (by omega), hi]
      rw [if_neg (nI_nle (by omega) (by omega)), mb_62 hm, mb_63 hm, mn_28 hm, if_pos (hp_in_nI hp (by omega)), c1, sub1 (by omega), mn_27 hm, if_pos (hp_in_nI (by omega) (by omega)), nI_clamp (by omega), (a9 _ (by omega)).2]
      rw [if_pos ((lg_cmp_eq _ _).mpr (by rw [← hi, idx_yes hlt]))]
      exact pw_mapR (pw_eq e48 (.inl ⟨hlt, rfl, rfl⟩))
