/-! fractions; all, guess, mean, counter -/
def EZL (fx fm : HP → Option (Int64 × HP)) (x m : Nat) : Prop := ∀ (P : PT) (q : Nat) (h : HP), BAS P q x m h → pw (fx h) (fun r => pw (fm r.2) (fun s => r.1 = s.1 ∧ BAS P q x m s.2 ∧ hp_fr (S_ez x m) h s.2))
theorem EZL_id {fx fm : HP → Option (Int64 × HP)} {x m q : Nat} {P : PT} {h : HP} {v : Int64} (hb : BAS P q x m h) (e1 : fx h = some (v, h)) (e2 : fm h = some (v, h)) : pw (fx h) (fun r => pw (fm r.2) (fun s => r.1 = s.1 ∧ BAS P q x m s.2 ∧ hp_fr (S_ez x m) h s.2)) := pw_eq e1 (pw_eq e2 ⟨rfl, hb, hp_fr_rf h⟩)
def fib2 : Nat → Nat × Nat
  | 0 => (0, 1)
  | n + 1 => ((fib2 n).2, (fib2 n).1 + (fib2 n).2)
def fF (n : Nat) : Nat := (fib2 n).1
theorem fF_2 (n : Nat) : fF (n + 2) = fF (n + 1) + fF n := by
  show (fib2 n).1 + (fib2 n).2 = (fib2 n).2 + (fib2 n).1
  omega
theorem fF_mono (n : Nat) : fF (n + 1) ≤ fF (n + 2) := by rw [fF_2]; omega
theorem fF_big : ∀ k, 5 ^ k ≤ fF (4 * k + 1) := by
  intro k
  induction k with
  | zero => decide
  | succ k ih =>
    have h1 : fF (4 * k + 3) = fF (4 * k + 2) + fF (4 * k + 1) := fF_2 (4 * k + 1)
    have h2 : fF (4 * k + 4) = fF (4 * k + 3) + fF (4 * k + 2) := fF_2 (4 * k + 2)
    have h3 : fF (4 * k + 5) = fF (4 * k + 4) + fF (4 * k + 3) := fF_2 (4 * k + 3)
    have h4 : fF (4 * k + 2) = fF (4 * k + 1) + fF (4 * k) := fF_2 (4 * k)
    rw [show 4 * (k + 1) + 1 = 4 * k + 5 by omega, Nat.pow_succ]
    omega
theorem l_z {n : Nat} (h : n < 2 ^ 63) : (lN n = 0) ↔ n = 0 := by
  rw [show (0 : Int64) = lN 0 from rfl]; exact pk_lEQ h (by decide)
theorem Xp_44 {up low g p : Nat} {h : HP} (h1 : up < 2 ^ 62) (h2 : low < 2 ^ 62) (hg : 0 < g) (hg2 : g < 2 ^ 62) (hp : p < 2) : f_Ch_partOf_44 (lN up) (lN low) (nI p) (lN g) h = some (lN ((if p = 0 then up else low) / g), h) := by
  have hz : ¬ lN g = 0 := fun z => by have := (l_z (by omega)).mp z; omega
  unfold f_Ch_partOf_44
  rw [if_neg (fun z => hz ((lg_cmp_eq _ _).mp z))]
  have : p = 0 ∨ p = 1 := by omega
  rcases this with rfl | rfl
  · rw [if_pos (show nI 0 = (0 : Int32) from rfl), if_pos hz, pk_lDiv (by omega) hg (by omega)]; rfl
  · rw [if_neg (show ¬ nI 1 = (0 : Int32) by decide), if_pos hz, pk_lDiv (by omega) hg (by omega)]; rfl
theorem Xp_loop {up low p : Nat} {h : HP} (h1 : up < 2 ^ 62) (h2 : low < 2 ^ 62) (hp : p < 2) : ∀ n x y i, i + n ≤ 100 → y < x → x < 2 ^ 62 → (y < fF (n + 1) ∨ x < fF (n + 2)) → f_Ch_partOf_9 (lN up) (lN low) (nI p) (lN x) (lN y) (nI i) h = some (lN ((if p = 0 then up else low) / Nat.gcd x y), h) := by
  intro n
  induction n with
  | zero =>
    intro x y i hi hxy hx hc
    have hy : y = 0 := by
      have a1 : fF 1 = 1 := rfl
      have a2 : fF 2 = 1 := rfl
      rcases hc with hc | hc
      · rw [show (0 + 1) = 1 from rfl, a1] at hc; omega
      · rw [show (0 + 2) = 2 from rfl, a2] at hc; omega
    subst hy
    have key : pw (f_Ch_partOf_9 (lN up) (lN low) (nI p) (lN x) (lN 0) (nI i) h) (fun r => r = (lN ((if p = 0 then up else low) / Nat.gcd x 0), h)) := by
      unfold f_Ch_partOf_9
      refine pw_inr (t := (lN ((if p = 0 then up else low) / Nat.gcd x 0), h)) ?_ rfl
      unfold f_Ch_partOf_9b
      dsimp only
      have e := Xp_44 (h := h) h1 h2 (show 0 < x by omega) hx hp
      rw [Nat.gcd_zero_right]
      by_cases h100 : (100 : Int32) ≤ nI i
      · rw [if_pos h100, e]; rfl
      · rw [if_neg h100, if_pos (show lg_cmp (lN 0) (0 : Int64) = 0 from (lg_cmp_eq _ _).mpr rfl), e]; rfl
    obtain ⟨r, hr, rfl⟩ := key
    exact hr
  | succ n ih =>
    intro x y i hi hxy hx hc
    by_cases hy : y = 0
    · subst hy
      have key : pw (f_Ch_partOf_9 (lN up) (lN low) (nI p) (lN x) (lN 0) (nI i) h) (fun r => r = (lN ((if p = 0 then up else low) / Nat.gcd x 0), h)) := by
        unfold f_Ch_partOf_9
        refine pw_inr (t := (lN ((if p = 0 then up else low) / Nat.gcd x 0), h)) ?_ rfl
        unfold f_Ch_partOf_9b
        dsimp only
        have e := Xp_44 (h := h) h1 h2 (show 0 < x by omega) hx hp
        rw [Nat.gcd_zero_right]
        by_cases h100 : (100 : Int32) ≤ nI i
        · rw [if_pos h100, e]; rfl
        · rw [if_neg h100, if_pos (show lg_cmp (lN 0) (0 : Int64) = 0 from (lg_cmp_eq _ _).mpr rfl), e]; rfl
      obtain ⟨r, hr, rfl⟩ := key
      exact hr
    · have hm : x % y < y := Nat.mod_lt _ (by omega)
      have hf : fF (n + 3) = fF (n + 2) + fF (n + 1) := fF_2 (n + 1)
      have hsub : x % y ≤ x - y := by
        have := Nat.div_add_mod x y
        have h1 : 1 ≤ x / y := Nat.div_pos (by omega) (by omega)
        have h2 : y * 1 ≤ y * (x / y) := Nat.mul_le_mul_left y h1
        omega
      have hn : x % y < fF (n + 1) ∨ y < fF (n + 2) := by
        by_cases hb : y < fF (n + 2)
        · exact .inr hb
        · left
          rcases hc with hc | hc
          · exact absurd hc hb
          · have hc : x < fF (n + 3) := hc
            omega
      have e := ih y (x % y) (i + 1) (by omega) hm (by omega) hn
      rw [show Nat.gcd x y = Nat.gcd y (x % y) by rw [Nat.gcd_comm x y, Nat.gcd_rec, Nat.gcd_comm]]
      have hz : ¬ lN y = 0 := fun z => by have := (l_z (by omega)).mp z; omega
      have hb : f_Ch_partOf_9b (lN up) (lN low) (nI p) (lN x) (lN y) (nI i) h = some (.inl (lN y, lN (x % y), nI (i + 1), h)) := by
        unfold f_Ch_partOf_9b
        rw [if_neg (show ¬ (100 : Int32) ≤ nI i from nI_ge (b := 100) (by omega) (by decide)), if_neg (fun z => hz ((lg_cmp_eq _ _).mp z)), if_pos hz]
        simp only [xx_lE]
        rw [pk_lRem (by omega) (by omega) (by omega), nI_1]
      have key : pw (f_Ch_partOf_9 (lN up) (lN low) (nI p) (lN x) (lN y) (nI i) h) (fun r => r = (lN ((if p = 0 then up else low) / Nat.gcd y (x % y)), h)) := by
        unfold f_Ch_partOf_9
        exact pw_inl hb (pw_eq e rfl)
      obtain ⟨r, hr, rfl⟩ := key
      exact hr
theorem X_part {up low p : Nat} {h : HP} (h1 : up < 2 ^ 55) (h0 : 0 < low) (h2 : low < 2 ^ 62) (hp : p < 2) : f_Ch_partOf (lN up) (lN low) (nI p) h = some (lN ((if p = 0 then up else low) / Nat.gcd low up), h) := by
  unfold f_Ch_partOf
  by_cases hu : up = 0
  · subst hu
    exact Xp_loop (by omega) h2 hp 1 low 0 0 (by omega) h0 h2 (.inl (by decide))
  · have hm : low % up < up := Nat.mod_lt _ (by omega)
    have hF : up < fF 98 := by
      have a := fF_big 24
      have b := fF_mono 96
      have c : 2 ^ 55 < 5 ^ 24 := by decide
      rw [show 4 * 24 + 1 = 96 + 1 from rfl] at a
      rw [show (96 + 2) = 98 from rfl] at b
      omega
    have e := Xp_loop (h := h) (p := p) (up := up) (low := low) (by omega) h2 hp 96 up (low % up) 1 (by omega) hm (by omega) (.inr hF)
    rw [show Nat.gcd low up = Nat.gcd up (low % up) by rw [Nat.gcd_comm low up, Nat.gcd_rec, Nat.gcd_comm]]
    have hz : ¬ lN up = 0 := fun z => by have := (l_z (by omega)).mp z; omega
    have hb : f_Ch_partOf_9b (lN up) (lN low) (nI p) (lN low) (lN up) (nI 0) h = some (.inl (lN up, lN (low % up), nI 1, h)) := by
      unfold f_Ch_partOf_9b
      rw [if_neg (by decide), if_neg (fun z => hz ((lg_cmp_eq _ _).mp z)), if_pos hz]
      simp only [xx_lE]
      rw [pk_lRem (by omega) (by omega) (by omega)]; rfl
    have key : pw (f_Ch_partOf_9 (lN up) (lN low) (nI p) (lN low) (lN up) (nI 0) h) (fun r => r = (lN ((if p = 0 then up else low) / Nat.gcd up (low % up)), h)) := by
      unfold f_Ch_partOf_9
      exact pw_inl hb (pw_eq e rfl)
    obtain ⟨r, hr, rfl⟩ := key
    exact hr
theorem M_common {h : HP} : ∀ y x, x < 2 ^ 62 → y < 2 ^ 62 → f_M_common_6 (lN x) (lN y) h = some (lN (Nat.gcd x y), h) := by
  intro y
  induction y using Nat.strongRecOn with
  | ind y ih =>
    intro x hx hy
    by_cases hz : y = 0
    · subst hz
      have key : pw (f_M_common_6 (lN x) (lN 0) h) (fun r => r = (lN (Nat.gcd x 0), h)) := by
        unfold f_M_common_6
        refine pw_inr (t := (lN (Nat.gcd x 0), h)) ?_ rfl
        unfold f_M_common_6b
        dsimp only
        rw [if_pos (show lg_cmp (lN 0) (0 : Int64) ≤ 0 from (lg_cmp_le _ _).mpr (by decide)), Nat.gcd_zero_right]
      obtain ⟨r, hr, rfl⟩ := key
      exact hr
    · have hm : x % y < y := Nat.mod_lt _ (by omega)
      have e := ih (x % y) hm y (by omega) (by omega)
      rw [show Nat.gcd x y = Nat.gcd y (x % y) by rw [Nat.gcd_comm x y, Nat.gcd_rec, Nat.gcd_comm]]
      have hz2 : ¬ lN y = 0 := fun z => by have := (l_z (by omega)).mp z; omega
      have hle : ¬ lN y ≤ 0 := by
        rw [show (0 : Int64) = lN 0 from rfl, pk_lLE (by omega) (by decide)]; omega
      have hb : f_M_common_6b (lN x) (lN y) h = some (.inl (lN y, lN (x % y), h)) := by
        unfold f_M_common_6b
        rw [if_neg (fun z => hle ((lg_cmp_le _ _).mp z)), if_pos hz2]
        simp only [xx_lE]
        rw [pk_lRem (by omega) (by omega) (by omega)]
      have key : pw (f_M_common_6 (lN x) (lN y) h) (fun r => r = (lN (Nat.gcd y (x % y)), h)) := by
        unfold f_M_common_6
        exact pw_inl hb (pw_eq e rfl)
      obtain ⟨r, hr, rfl⟩ := key
      exact hr
theorem M_part {up low p : Nat} {h : HP} (h1 : up < 2 ^ 62) (h0 : 0 < low) (h2 : low < 2 ^ 62) (hp : p < 2) : f_M_partOf (lN up) (lN low) (nI p) h = some (lN ((if p = 0 then up else low) / Nat.gcd low up), h) := by
  unfold f_M_partOf f_M_common
  rw [bn_o (M_common up low h2 h1)]
  have hg : 0 < Nat.gcd low up := Nat.gcd_pos_of_pos_left _ h0
  have hg2 : Nat.gcd low up ≤ low := Nat.le_of_dvd h0 (Nat.gcd_dvd_left _ _)
  have hz : ¬ lN (Nat.gcd low up) = 0 := fun z => by have := (l_z (by omega)).mp z; omega
  have : p = 0 ∨ p = 1 := by omega
  rcases this with rfl | rfl
  · rw [if_pos (show nI 0 = (0 : Int32) from rfl), if_pos hz, pk_lDiv (by omega) hg (by omega)]; rfl
  · rw [if_neg (show ¬ nI 1 = (0 : Int32) by decide), if_pos hz, pk_lDiv (by omega) hg (by omega)]; rfl
theorem X_power {b e : Nat} {h : HP} (hb : b < 2 ^ 31) (he : e < 2 ^ 31) : f_Ch_power (nI b) (nI e) h = some (lN (b ^ e), h) := by
  have key : pw (f_Ch_power (nI b) (nI e) h) (fun r => r = (lN (b ^ e), h)) := by
    unfold f_Ch_power f_Ch_power_5
    refine pw_cnt e (fun i s => s = (lN (b ^ i), nI i, h)) ?_ ?_ 0 _ (by omega) rfl
    · rintro i s hi rfl
      refine pw_L (s := (lN (b ^ (i + 1)), nI (i + 1), h)) ?_ rfl
      unfold f_Ch_power_5b
      rw [if_neg (nI_ge hi he)]
      simp only [xx_lE]
      rw [nI_l hb, lN_mul, ← Nat.pow_succ, nI_1]
    · rintro s rfl
      refine pw_R (t := (lN (b ^ e), h)) ?_ rfl
      unfold f_Ch_power_5b
      rw [if_pos (nI_le (Nat.le_refl _) he)]
  obtain ⟨r, hr, rfl⟩ := key
  exact hr
def chs (n : Nat) : Nat → Nat
  | 0 => 1
  | o + 1 => chs n o * (n - o) / (o + 1)
def swm (n d : Nat) : Nat → Int64
  | 0 => 0
  | o + 1 => swm n d o + (if o % 2 = 0 then lN (chs n o * (n - o) ^ d) else -(lN (chs n o * (n - o) ^ d)))
def rw0 (n : Nat) : Nat → Nat → Nat
  | 0, k => if k = 0 then 1 else 0
  | d + 1, k => if k = 0 then 0 else if k ≤ n then rw0 n d k * k + rw0 n d (k - 1) * (n - k + 1) else rw0 n d k
theorem chs_lt : ∀ n, n < 7 → ∀ o, o < 8 → chs n o < 100 := by decide +kernel
theorem sw_rw : ∀ n, n < 7 → ∀ d, d < 21 → 0 < n → swm n d (n + 1) = lN (rw0 n d n) ∧ rw0 n d n < 2 ^ 55 := by decide +kernel
theorem X_ways {n d : Nat} {h : HP} (hn : n ≤ 6) (h0 : 0 < n) (hd : d ≤ 20) : f_Ch_waysAllBeen (nI n) (nI d) h = some (lN (rw0 n d n), h) := by
  have key : pw (f_Ch_waysAllBeen (nI n) (nI d) h) (fun r => r = (lN (rw0 n d n), h)) := by
    unfold f_Ch_waysAllBeen f_Ch_waysAllBeen_8
    refine pw_cnt (n + 1) (fun o s => s = (swm n d o, lN (chs n o), nI o, h)) ?_ ?_ 0 _ (by omega) rfl
    · rintro o s ho rfl
      have hc := chs_lt n (by omega) o (by omega)
      refine pw_L (s := (swm n d (o + 1), lN (chs n (o + 1)), nI (o + 1), h)) ?_ rfl
      have hz : ¬ (nI (o + 1)).toInt64 = 0 := fun z => by
        rw [nI_l (by omega)] at z
        have := (l_z (by omega)).mp z
        omega
      have fin : ∀ z : Int64, f_Ch_waysAllBeen_43 (nI n) (nI d) (lN (chs n o)) (nI o) z (swm n d o) h = some (.inl (swm n d o + z, lN (chs n (o + 1)), nI (o + 1), h)) := by
        intro z
        unfold f_Ch_waysAllBeen_43
        simp only [xx_lE]
        rw [show (1 : Int32) = nI 1 from rfl, nI_add, if_pos hz, pk_sub (by omega), nI_l (by omega), nI_l (by omega), lN_mul, pk_lDiv (by have := Nat.mul_le_mul (Nat.le_of_lt hc) (show n - o ≤ 6 by omega); omega) (by omega) (by omega)]
        rfl
      unfold f_Ch_waysAllBeen_8b
      rw [if_neg (nI_nlt (by omega) (by omega)), pk_sub (by omega), bn_o (X_power (by omega) (by omega)), xx_lE, lN_mul]
      dsimp only
      rw [show (2 : Int32) = nI 2 from rfl, pk_rem (by omega) (by decide) (by decide)]
      rw [swm]
      by_cases h2 : o % 2 = 0
      · rw [if_pos h2, h2, if_pos (show nI 0 = (0 : Int32) from rfl)]; exact fin _
      · rw [if_neg h2, show o % 2 = 1 by omega, if_neg (show ¬ nI 1 = (0 : Int32) by decide)]; exact fin _
    · rintro s rfl
      refine pw_R (t := (swm n d (n + 1), h)) ?_ ?_
      · unfold f_Ch_waysAllBeen_8b
        rw [if_pos (nI_lt (by omega) (by omega))]
      · rw [(sw_rw n (by omega) d (by omega) h0).1]
  obtain ⟨r, hr, rfl⟩ := key
  exact hr
theorem dn1 {k : Nat} (h : 0 < k) : nI k + (-1 : Int32) = nI (k - 1) := sb_m1 h
def S_rw (m : Nat) : Nat → Nat → Prop := fun a _ => a = m + 40
theorem M_layRows {m n d : Nat} {h : HP} (hs : MS m h) (hn : n ≤ 6) (h0 : 0 < n) (hd : d ≤ 20) : pw (f_M_layRows m (nI n) (nI d) h) (fun r => r.1 = lN (n ^ d) ∧ hp_fr (S_rw m) h r.2 ∧ ∀ k, k < 8 → hp_l r.2 (m + 40) k = lN (rw0 n d k)) := by
  unfold f_M_layRows f_M_layRows_2
  refine pw_cnt 8 (fun i s => s.1 = nI i ∧ hp_fr (S_rw m) h s.2 ∧ ∀ k, k < i → hp_l s.2 (m + 40) k = lN (rw0 n 0 k)) ?_ ?_ 0 _ (by omega) ⟨rfl, hp_fr_rf h, fun k hk => by omega⟩
  · rintro i ⟨w, g⟩ hi ⟨rfl, H, e⟩
    dsimp only at H e ⊢
    have hg := MS_fr H hs
    refine pw_L (s := (nI (i + 1), hp_sl g (m + 40) i (lN (rw0 n 0 i)))) ?_ ⟨rfl, hf_sl H (by unfold S_rw; omega), fun k hk => ?_⟩
    · by_cases hz : i = 0
      · subst hz
        simp (disch := omega) only [f_M_layRows_2b, f_M_layRows_22, ↓xx_lE, ↓reduceIte, ↓bn_si, ↓bn_sl, ↓bn_s, ↓bn_ms, hp_i_si, hp_l_si, hp_r_si, hp_n_si, hp_i_sl, hp_l_sl, hp_r_sl, hp_n_sl, hp_i_sr, hp_l_sr, hp_r_sr, hp_n_sr, iL, nI_clamp, hp_in_nI, nI_add, pk_mul, pk_sub, c_le, c_nle, c_lt, c_nlt, c_ne, c_m1, c_m1', ad_ne, ad_ne', ad_ne2, nar0, nar1, true_and, false_and, and_true, and_false, Nat.add_zero, Nat.zero_add, ↓mb_78 hg, mn_40 hg]
        rfl
      · simp (disch := omega) only [f_M_layRows_2b, f_M_layRows_22, ↓xx_lE, ↓reduceIte, ↓bn_si, ↓bn_sl, ↓bn_s, ↓bn_ms, hp_i_si, hp_l_si, hp_r_si, hp_n_si, hp_i_sl, hp_l_sl, hp_r_sl, hp_n_sl, hp_i_sr, hp_l_sr, hp_r_sr, hp_n_sr, iL, nI_clamp, hp_in_nI, nI_add, pk_mul, pk_sub, c_le, c_nle, c_lt, c_nlt, c_ne, c_m1, c_m1', ad_ne, ad_ne', ad_ne2, nar0, nar1, true_and, false_and, and_true, and_false, Nat.add_zero, Nat.zero_add, ↓mb_78 hg, mn_40 hg, rw0, hz]
        rfl
    · dsimp only
      rw [hp_l_sl]
      by_cases hk2 : k = i
      · rw [if_pos ⟨rfl, hk2⟩, hk2]
      · rw [if_neg (fun z => hk2 z.2)]; exact e k (by omega)
  · rintro ⟨w, g⟩ ⟨rfl, H, e⟩
    dsimp only at H e ⊢
    have e0 : f_M_layRows_2b m (nI n) (nI d) (nI 8) g = (f_M_layRows_29 m (nI n) (nI d) g).map .inr := by
      simp (disch := omega) only [f_M_layRows_2b, ↓xx_lE, ↓reduceIte, ↓bn_si, ↓bn_sl, ↓bn_s, ↓bn_ms, hp_i_si, hp_l_si, hp_r_si, hp_n_si, hp_i_sl, hp_l_sl, hp_r_sl, hp_n_sl, hp_i_sr, hp_l_sr, hp_r_sr, hp_n_sr, iL, nI_clamp, hp_in_nI, nI_add, pk_mul, pk_sub, c_le, c_nle, c_lt, c_nlt, c_ne, c_m1, c_m1', ad_ne, ad_ne', ad_ne2, nar0, nar1, true_and, false_and, and_true, and_false, Nat.add_zero, Nat.zero_add]
    rw [e0]
    refine pw_mapR ?_
    unfold f_M_layRows_29 f_M_layRows_34
    refine pw_cnt d (fun i s => s.1 = lN (n ^ i) ∧ s.2.1 = nI i ∧ hp_fr (S_rw m) h s.2.2 ∧ ∀ k, k < 8 → hp_l s.2.2 (m + 40) k = lN (rw0 n i k)) ?_ ?_ 0 _ (by omega) ⟨rfl, rfl, H, e⟩
    · rintro i ⟨z, w, g⟩ hi ⟨rfl, rfl, H, e⟩
      dsimp only at H e ⊢
      unfold f_M_layRows_34b
      rw [if_neg (nI_ge hi (by omega))]
      unfold f_M_layRows_43
      refine pw_cnt n (fun j s => s.1 = nI (n - j) ∧ hp_fr (S_rw m) h s.2 ∧ ∀ k, k < 8 → hp_l s.2 (m + 40) k = lN (if n - j < k then rw0 n (i + 1) k else rw0 n i k)) ?_ ?_ 0 _ (by omega) ⟨rfl, H, fun k hk => ?_⟩
      · rintro j ⟨w, g⟩ hj ⟨rfl, H, e⟩
        dsimp only at H e ⊢
        have hg := MS_fr H hs
        obtain ⟨K, hK⟩ : ∃ K, n - j = K := ⟨_, rfl⟩
        have hK1 : n - (j + 1) = K - 1 := by omega
        rw [hK1]
        rw [hK] at e ⊢
        have e1 : hp_l g (m + 40) K = lN (rw0 n i K) := by rw [e K (by omega), if_neg (by omega)]
        have e2 : hp_l g (m + 40) (K - 1) = lN (rw0 n i (K - 1)) := by rw [e (K - 1) (by omega), if_neg (by omega)]
        have hr : rw0 n (i + 1) K = rw0 n i K * K + rw0 n i (K - 1) * (n - K + 1) := by rw [rw0, if_neg (by omega), if_pos (by omega)]
        refine pw_L (s := (nI (K - 1), hp_sl g (m + 40) K (lN (rw0 n (i + 1) K)))) ?_ ⟨rfl, hf_sl H (by unfold S_rw; omega), fun k hk => ?_⟩
        · unfold f_M_layRows_43b
          rw [if_neg (nI_nle (by omega) (by omega)), mb_78 hg, mb_78 hg, mn_40 hg, if_pos (hp_in_nI (by omega) (by omega)), mb_78 hg, mn_40 hg]
          rw [show (1 : Int32) = nI 1 from rfl, pk_sub (by omega), if_pos (hp_in_nI (by omega) (by omega)), if_pos (hp_in_nI (by omega) (by omega))]
          simp only [xx_lE]
          rw [nI_clamp (by omega), nI_clamp (by omega), e1, e2, pk_sub (by omega), nI_add, nI_l (by omega), nI_l (by omega), lN_mul, lN_mul, lN_add, ← hr]
          rw [show -nI 1 = (-1 : Int32) from rfl, dn1 (by omega)]
        · dsimp only
          rw [hp_l_sl]
          by_cases hk2 : k = K
          · rw [if_pos ⟨rfl, hk2⟩, hk2, if_pos (by omega)]
          · rw [if_neg (fun z => hk2 z.2), e k hk]
            by_cases hk3 : K < k
            · rw [if_pos hk3, if_pos (by omega)]
            · rw [if_neg hk3, if_neg (by omega)]
      · rintro ⟨w, g⟩ ⟨rfl, H, e⟩
        dsimp only at H e ⊢
        have hg := MS_fr H hs
        unfold f_M_layRows_43b
        rw [Nat.sub_self, if_pos (show nI 0 ≤ (0 : Int32) by decide)]
        refine pw_mapR ?_
        unfold f_M_layRows_90
        rw [mb_78 hg, mn_40 hg, if_pos (show hp_in (0 : Int32) 8 = true by decide)]
        simp only [xx_lE]
        refine pw_some ⟨?_, nI_1 i, hf_sl H (by unfold S_rw; omega), fun k hk => ?_⟩
        · dsimp only; rw [nI_l (by omega), lN_mul, ← Nat.pow_succ]
        · dsimp only
          rw [hp_l_sl]
          by_cases hk2 : k = 0
          · rw [if_pos ⟨rfl, by rw [hk2]; rfl⟩, hk2]; rfl
          · rw [if_neg (fun z => hk2 z.2), e k hk, Nat.sub_self, if_pos (by omega)]
      · dsimp only
        rw [Nat.sub_zero, e k hk]
        by_cases hk2 : n < k
        · rw [if_pos hk2, rw0, if_neg (by omega), if_neg (by omega)]
        · rw [if_neg hk2]
    · rintro ⟨z, w, g⟩ ⟨rfl, rfl, H, e⟩
      dsimp only at H e ⊢
      refine pw_R (t := (lN (n ^ d), g)) ?_ ⟨rfl, H, e⟩
      unfold f_M_layRows_34b
      rw [if_pos (nI_le (Nat.le_refl _) (by omega))]
theorem rw_keep {P : PT} {q x m : Nat} {h h' : HP} (hb : BAS P q x m h) (H : hp_fr (S_rw m) h h') : BAS P q x m h' ∧ hp_fr (S_ez x m) h h' := by
  have hm := bm hb
  exact ⟨BAS_mk hb H (by unfold F_core F_PM S_rw; omega) (TP_fr H (by unfold F_TP S_rw; omega) (bT hb)) (FL_fr H (by unfold F_FL S_rw; omega) (bF hb)) (CR_fr H (by unfold F_CCX F_CMM S_rw; omega) (bC hb)) (BX_fr H (by unfold F_BX S_rw; omega) (bB hb)) (LG_fr H (by unfold F_LG S_rw; omega) (bL hb)), hp_fr_mo H (by unfold S_ez S_rw; omega)⟩
theorem i_rng (v : Int32) (b : Nat) (hb : b < 2 ^ 31) : (v < 0) ∨ (∃ n, n ≤ b ∧ v = nI n) ∨ (∃ n, b < n ∧ n < 2 ^ 31 ∧ v = nI n) := by
  rcases i_cases v with hv | ⟨n, hn, rfl⟩
  · exact .inl hv
  · by_cases h : n ≤ b
    · exact .inr (.inl ⟨n, h, rfl⟩)
    · exact .inr (.inr ⟨n, by omega, hn, rfl⟩)
theorem neg_lt1 {v : Int32} (h : v < 0) : v < (1 : Int32) := fa_trans h (by decide)
theorem neg_lt2 {v : Int32} (h : v < 0) : v < (2 : Int32) := fa_trans h (by decide)
/-- n men of 1 to 6, else both say none -/
theorem many_cases (v : Int32) : (∃ n, 0 < n ∧ n ≤ 6 ∧ v = nI n) ∨ ((v < (1 : Int32) ∨ ¬ v < (1 : Int32) ∧ (6 : Int32) < v) ∧ ∀ h, f_M_isMany v h = some (nI 0, h)) := by
  rcases i_rng v 6 (by decide) with hv | ⟨n, hn, rfl⟩ | ⟨n, hn, hn2, rfl⟩
  · exact .inr ⟨.inl (neg_lt1 hv), fun h => by unfold f_M_isMany; rw [if_pos (neg_lt1 hv)]; rfl⟩
  · by_cases h0 : 0 < n
    · exact .inl ⟨n, h0, hn, rfl⟩
    · have : n = 0 := by omega
      subst this
      exact .inr ⟨.inl (by decide), fun h => by unfold f_M_isMany; rw [if_pos (by decide)]; rfl⟩
  · have a1 : ¬ nI n < (1 : Int32) := nI_nlt (b := 1) (by omega) (by omega)
    have a2 : (6 : Int32) < nI n := nI_lt (a := 6) (by omega) (by omega)
    exact .inr ⟨.inr ⟨a1, a2⟩, fun h => by unfold f_M_isMany; rw [if_neg a1, if_pos a2]; rfl⟩
theorem M_many {n : Nat} (h0 : 0 < n) (hn : n ≤ 6) (h : HP) : f_M_isMany (nI n) h = some (nI 1, h) := by
  simp (disch := omega) only [f_M_isMany, ↓xx_lE, ↓reduceIte, ↓bn_si, ↓bn_sl, ↓bn_s, ↓bn_ms, hp_i_si, hp_l_si, hp_r_si, hp_n_si, hp_i_sl, hp_l_sl, hp_r_sl, hp_n_sl, hp_i_sr, hp_l_sr, hp_r_sr, hp_n_sr, iL, nI_clamp, hp_in_nI, nI_add, pk_mul, pk_sub, c_le, c_nle, c_lt, c_nlt, c_ne, c_m1, c_m1', ad_ne, ad_ne', ad_ne2, nar0, nar1, true_and, false_and, and_true, and_false, Nat.add_zero, Nat.zero_add]
theorem part_cases (v : Int32) : (∃ p, p < 2 ∧ v = nI p) ∨ ((v < 0 ∨ ¬ v < 0 ∧ ¬ v ≤ (1 : Int32)) ∧ ∀ h, f_M_isPart v h = some (nI 0, h)) := by
  rcases i_rng v 1 (by decide) with hv | ⟨n, hn, rfl⟩ | ⟨n, hn, hn2, rfl⟩
  · refine .inr ⟨.inl hv, fun h => ?_⟩
    unfold f_M_isPart
    rw [if_neg (fun z => by rw [z] at hv; exact absurd hv (by decide)), if_neg (fun z => by rw [z] at hv; exact absurd hv (by decide))]; rfl
  · exact .inl ⟨n, by omega, rfl⟩
  · refine .inr ⟨.inr ⟨nI_pos (by omega), nI_ge (a := 1) (by omega) (by omega)⟩, fun h => ?_⟩
    simp (disch := omega) only [f_M_isPart, ↓xx_lE, ↓reduceIte, ↓bn_si, ↓bn_sl, ↓bn_s, ↓bn_ms, hp_i_si, hp_l_si, hp_r_si, hp_n_si, hp_i_sl, hp_l_sl, hp_r_sl, hp_n_sl, hp_i_sr, hp_l_sr, hp_r_sr, hp_n_sr, iL, nI_clamp, hp_in_nI, nI_add, pk_mul, pk_sub, c_le, c_nle, c_lt, c_nlt, c_ne, c_m1, c_m1', ad_ne, ad_ne', ad_ne2, nar0, nar1, true_and, false_and, and_true, and_false, Nat.add_zero, Nat.zero_add]
theorem M_isP {p : Nat} (hp : p < 2) (h : HP) : f_M_isPart (nI p) h = some (nI 1, h) := by
  have : p = 0 ∨ p = 1 := by omega
  rcases this with rfl | rfl
  · rfl
  · rfl
theorem op_mean {x m : Nat} (v w : Int32) : EZL (fun h => f_X_mean x v w h) (fun h => f_M_mean m v w h) x m := by
  intro P q h hb
  rcases many_cases v with ⟨n, h0, hn, rfl⟩ | ⟨k1, k2⟩
  · have a1 : ¬ nI n < (1 : Int32) := nI_nlt (b := 1) (by omega) (by omega)
    have a2 : ¬ (6 : Int32) < nI n := nI_nlt (a := 6) (by omega) (by omega)
    rcases part_cases w with ⟨p, hp, rfl⟩ | ⟨j1, j2⟩
    · let sm : Nat → Nat := fun k => fb_sm (fun i => n * (60 / (i + 1))) k
      have hsm : ∀ k, k ≤ 6 → sm k ≤ 2160 := fun k hk => by
        have := fb_sm_bound (f := fun i => n * (60 / (i + 1))) (c := 360) (n := k) (fun i _ => by
          have : 60 / (i + 1) ≤ 60 := Nat.div_le_self _ _
          exact Nat.le_trans (Nat.mul_le_mul hn this) (by decide))
        simp only [sm]; omega
      have e1 : f_Ch_sixtyMeans (nI n) h = some (lN (sm n), h) := by
        have key : pw (f_Ch_sixtyMeans (nI n) h) (fun r => r = (lN (sm n), h)) := by
          unfold f_Ch_sixtyMeans f_Ch_sixtyMeans_4
          refine pw_cnt n (fun i s => s = (lN (sm i), nI (i + 1), h)) ?_ ?_ 0 _ (by omega) rfl
          · rintro i s hi rfl
            refine pw_L (s := (lN (sm (i + 1)), nI (i + 2), h)) ?_ rfl
            unfold f_Ch_sixtyMeans_4b
            rw [if_neg (nI_nlt (by omega) (by omega)), nI_l (by omega), if_pos (fun z => by have := (l_z (by omega)).mp z; omega)]
            simp only [xx_lE]
            rw [show (60 : Int64) = lN 60 from rfl, pk_lDiv (by decide) (by omega) (by omega), nI_l (by omega), lN_mul, lN_add, nI_1]
            rfl
          · rintro s rfl
            refine pw_R (t := (lN (sm n), h)) ?_ rfl
            unfold f_Ch_sixtyMeans_4b
            rw [if_pos (nI_lt (by omega) (by omega))]
        obtain ⟨r, hr, rfl⟩ := key
        exact hr
      have hd : ∀ i, i < 6 → 60 * n / (i + 1) = n * (60 / (i + 1)) := by
        intro i hi
        rcases six hi with rfl | rfl | rfl | rfl | rfl | rfl <;> omega
      have e2 : f_M_mean_23 (nI n) (nI p) (0 : Int64) (1 : Int32) h = some (lN ((if p = 0 then sm n else 60) / Nat.gcd 60 (sm n)), h) := by
        have key : pw (f_M_mean_23 (nI n) (nI p) (0 : Int64) (1 : Int32) h) (fun r => r = (lN ((if p = 0 then sm n else 60) / Nat.gcd 60 (sm n)), h)) := by
          unfold f_M_mean_23
          refine pw_cnt n (fun i s => s = (lN (sm i), nI (i + 1), h)) ?_ ?_ 0 _ (by omega) rfl
          · rintro i s hi rfl
            refine pw_L (s := (lN (sm (i + 1)), nI (i + 2), h)) ?_ rfl
            unfold f_M_mean_23b
            rw [if_neg (nI_nlt (by omega) (by omega)), nI_l (by omega), if_pos (fun z => by have := (l_z (by omega)).mp z; omega)]
            simp only [xx_lE]
            rw [nI_l (by omega), show (60 : Int64) = lN 60 from rfl, lN_mul, pk_lDiv (by omega) (by omega) (by omega), hd i (by omega), lN_add, nI_1]
            rfl
          · rintro s rfl
            unfold f_M_mean_23b
            rw [if_pos (nI_lt (by omega) (by omega))]
            refine pw_mapR ?_
            unfold f_M_mean_48
            rw [show (60 : Int64) = lN 60 from rfl, bn_o (M_part (by have := hsm n hn; omega) (by decide) (by decide) hp)]
            exact pw_some rfl
        obtain ⟨r, hr, rfl⟩ := key
        exact hr
      refine EZL_id hb (v := lN ((if p = 0 then sm n else 60) / Nat.gcd 60 (sm n))) ?_ ?_
      · unfold f_X_mean
        have b1 : ¬ nI p < 0 := nI_pos (by omega)
        have b2 : nI p ≤ (1 : Int32) := nI_le (b := 1) (by omega) (by decide)
        try dsimp only
        rw [if_neg a1, if_neg a2, if_neg b1, if_pos b2, bn_o e1, show (60 : Int64) = lN 60 from rfl, bn_o (X_part (by have := hsm n hn; omega) (by decide) (by decide) hp)]
      · unfold f_M_mean
        try dsimp only
        rw [bn_o (M_many h0 hn h), if_neg (show ¬ nI 1 = (0 : Int32) by decide), bn_o (M_isP hp h), if_neg (show ¬ nI 1 = (0 : Int32) by decide)]
        exact e2
    · refine EZL_id hb (v := -1) ?_ ?_
      · unfold f_X_mean
        try dsimp only
        rw [if_neg a1, if_neg a2]
        rcases j1 with j1 | ⟨j1, j3⟩
        · rw [if_pos j1]
        · rw [if_neg j1, if_neg j3]
      · unfold f_M_mean
        try dsimp only
        rw [bn_o (M_many h0 hn h), if_neg (show ¬ nI 1 = (0 : Int32) by decide), bn_o (j2 h), if_pos (show nI 0 = (0 : Int32) from rfl)]
  · refine EZL_id hb (v := -1) ?_ ?_
    · unfold f_X_mean
      try dsimp only
      rcases k1 with k1 | ⟨k1, k3⟩
      · rw [if_pos k1]
      · rw [if_neg k1, if_pos k3]
    · unfold f_M_mean
      try dsimp only
      rw [bn_o (k2 h), if_pos (show nI 0 = (0 : Int32) from rfl)]
theorem day_cases (v : Int32) (b : Nat) (hb : b < 2 ^ 30) : (∃ d, d ≤ b ∧ v = nI d ∧ ¬ v < 0 ∧ ¬ nI b < v ∧ v ≤ nI b) ∨ v < 0 ∨ ¬ v < 0 ∧ nI b < v ∧ ¬ v ≤ nI b := by
  rcases i_rng v b (by omega) with hv | ⟨n, hn, rfl⟩ | ⟨n, hn, hn2, rfl⟩
  · exact .inr (.inl hv)
  · exact .inl ⟨n, hn, rfl, nI_pos (by omega), nI_nlt hn (by omega), nI_le hn (by omega)⟩
  · exact .inr (.inr ⟨nI_pos (by omega), nI_lt (by omega) (by omega), nI_ge (by omega) (by omega)⟩)
theorem op_all {x m : Nat} (v u w : Int32) : EZL (fun h => f_X_all x v u w h) (fun h => f_M_all m v u w h) x m := by
  intro P q h hb
  rcases many_cases v with ⟨n, h0, hn, rfl⟩ | ⟨k1, k2⟩
  · have a1 : ¬ nI n < (1 : Int32) := nI_nlt (b := 1) (by omega) (by omega)
    have a2 : ¬ (6 : Int32) < nI n := nI_nlt (a := 6) (by omega) (by omega)
    rcases day_cases u 20 (by decide) with ⟨d, hd, rfl, d1, d2, d3⟩ | hu
    · rcases part_cases w with ⟨p, hp, rfl⟩ | ⟨j1, j2⟩
      · have b1 : ¬ nI p < 0 := nI_pos (by omega)
        have b2 : nI p ≤ (1 : Int32) := nI_le (b := 1) (by omega) (by decide)
        have hr := (sw_rw n (by omega) d (by omega) h0).2
        have hpw : 0 < n ^ d := Nat.pow_pos h0
        have hpw2 : n ^ d < 2 ^ 62 := by
          have h1 : n ^ d ≤ 6 ^ d := Nat.pow_le_pow_left hn d
          have h2 : 6 ^ d ≤ 6 ^ 20 := Nat.pow_le_pow_right (by decide) hd
          have h3 : 6 ^ 20 < 2 ^ 62 := by decide
          omega
        refine pw_eq (x := (lN ((if p = 0 then rw0 n d n else n ^ d) / Nat.gcd (n ^ d) (rw0 n d n)), h)) ?_ ?_
        · unfold f_X_all
          try dsimp only
          rw [if_neg a1, if_neg a2, if_neg d1, if_neg (show ¬ (20 : Int32) < nI d from d2), if_neg b1, if_pos b2, bn_o (X_ways hn h0 hd), bn_o (X_power (by omega) (by omega)), bn_o (X_part hr hpw hpw2 hp)]
        · dsimp only
          unfold f_M_all
          rw [bn_o (M_many h0 hn h), if_neg (show ¬ nI 1 = (0 : Int32) by decide), if_neg d1, if_neg (show ¬ (20 : Int32) < nI d from d2), bn_o (M_isP hp h), if_neg (show ¬ nI 1 = (0 : Int32) by decide)]
          refine pw_bind (pw_mono (M_layRows (bms hb) hn h0 hd) ?_)
          rintro ⟨r, g⟩ ⟨rfl, H, e⟩
          dsimp only at H e ⊢
          have hg := MS_fr H (bms hb)
          rw [mb_78 hg, mn_40 hg, if_pos (hp_in_nI (by omega) (by omega)), nI_clamp (by omega), e n (by omega), bn_o (M_part (by omega) hpw hpw2 hp)]
          exact pw_some ⟨rfl, rw_keep hb H⟩
      · refine EZL_id hb (v := -1) ?_ ?_
        · unfold f_X_all
          try dsimp only
          rw [if_neg a1, if_neg a2, if_neg d1, if_neg (show ¬ (20 : Int32) < nI d from d2)]
          rcases j1 with j1 | ⟨j1, j3⟩
          · rw [if_pos j1]
          · rw [if_neg j1, if_neg j3]
        · unfold f_M_all
          try dsimp only
          rw [bn_o (M_many h0 hn h), if_neg (show ¬ nI 1 = (0 : Int32) by decide), if_neg d1, if_neg (show ¬ (20 : Int32) < nI d from d2), bn_o (j2 h), if_pos (show nI 0 = (0 : Int32) from rfl)]
    · refine EZL_id hb (v := -1) ?_ ?_
      · unfold f_X_all
        try dsimp only
        rw [if_neg a1, if_neg a2]
        rcases hu with hu | ⟨hu, hu2, _⟩
        · rw [if_pos hu]
        · rw [if_neg hu, if_pos (show (20 : Int32) < u from hu2)]
      · unfold f_M_all
        try dsimp only
        rw [bn_o (M_many h0 hn h), if_neg (show ¬ nI 1 = (0 : Int32) by decide)]
        rcases hu with hu | ⟨hu, hu2, _⟩
        · rw [if_pos hu]
        · rw [if_neg hu, if_pos (show (20 : Int32) < u from hu2)]
  · refine EZL_id hb (v := -1) ?_ ?_
    · unfold f_X_all
      try dsimp only
      rcases k1 with k1 | ⟨k1, k3⟩
      · rw [if_pos k1]
      · rw [if_neg k1, if_pos k3]
    · unfold f_M_all
      try dsimp only
      rw [bn_o (k2 h), if_pos (show nI 0 = (0 : Int32) from rfl)]
/-- too much is left by day d -/
def gc (n w d : Nat) : Prop := 0 < lg_cmp ((lN (n ^ d) - lN (rw0 n d n)) * (1000 : Int64)) ((nI w).toInt64 * lN (n ^ d))
noncomputable def gv (n w : Nat) : Int32 := if fa_first (fun d => @decide (¬ gc n w d) (Classical.propDecidable _)) 21 < 21 then nI (fa_first (fun d => @decide (¬ gc n w d) (Classical.propDecidable _)) 21) else -1
theorem op_guess {x m : Nat} (v w : Int32) : EZ (fun h => f_X_guess x v w h) (fun h => f_M_guess m v w h) x m := by
  intro P q h hb
  rcases many_cases v with ⟨n, h0, hn, rfl⟩ | ⟨k1, k2⟩
  · have a1 : ¬ nI n < (1 : Int32) := nI_nlt (b := 1) (by omega) (by omega)
    have a2 : ¬ (6 : Int32) < nI n := nI_nlt (a := 6) (by omega) (by omega)
    rcases day_cases w 1000 (by decide) with ⟨d, hd, rfl, d1, d2, d3⟩ | hu
    · have fst : ∀ i, i < 21 → (∀ k, k < i → gc n d k) → ¬ gc n d i → gv n d = nI i := fun i hi hk hg => by
        have hf : fa_first (fun j => @decide (¬ gc n d j) (Classical.propDecidable _)) 21 = i := first_eq hi (@decide_eq_true _ (Classical.propDecidable _) hg) (fun k hk2 => @decide_eq_false _ (Classical.propDecidable _) (fun z => z (hk k hk2)))
        unfold gv; rw [hf, if_pos hi]
      have non : (∀ k, k < 21 → gc n d k) → gv n d = -1 := fun hk => by
        have hf : fa_first (fun j => @decide (¬ gc n d j) (Classical.propDecidable _)) 21 = 21 := first_no (fun k hk2 => @decide_eq_false _ (Classical.propDecidable _) (fun z => z (hk k hk2)))
        unfold gv; rw [hf, if_neg (by omega)]
      refine pw_eq (x := (gv n d, h)) ?_ ?_
      · have key : pw (f_Ch_daysEnough (nI n) (nI d) h) (fun r => r = (gv n d, h)) := by
          unfold f_Ch_daysEnough f_Ch_daysEnough_2
          refine pw_cnt 21 (fun i s => s = (nI i, h) ∧ ∀ k, k < i → gc n d k) ?_ ?_ 0 _ (by omega) ⟨rfl, fun k hk => by omega⟩
          · rintro i s hi ⟨rfl, hk⟩
            unfold f_Ch_daysEnough_2b
            try dsimp only
            rw [if_neg (show ¬ (20 : Int32) < nI i from nI_nlt (a := 20) (by omega) (by omega)), bn_o (X_power (by omega) (by omega)), bn_o (X_ways hn h0 (by omega))]
            by_cases hg : gc n d i
            · refine pw_t hg (pw_some ⟨?_, fun k hk2 => ?_⟩)
              · rw [nI_1]
              · by_cases hki : k = i
                · rw [hki]; exact hg
                · exact hk k (by omega)
            · exact pw_f hg (pw_some (by rw [fst i hi hk hg]; rfl))
          · rintro s ⟨rfl, hk⟩
            unfold f_Ch_daysEnough_2b
            try dsimp only
            rw [if_pos (show (20 : Int32) < nI 21 by decide)]
            exact pw_some (by rw [non hk]; rfl)
        unfold f_X_guess
        try dsimp only
        rw [if_neg a1, if_neg a2, if_neg d1, if_pos (show nI d ≤ (1000 : Int32) from d3)]
        obtain ⟨r, hr, rfl⟩ := key
        rw [bn_o hr]
      · dsimp only
        unfold f_M_guess
        rw [bn_o (M_many h0 hn h), if_neg (show ¬ nI 1 = (0 : Int32) by decide), if_neg d1, if_pos (show nI d ≤ (1000 : Int32) from d3)]
        unfold f_M_guess_22
        refine pw_cnt 21 (fun i s => s.1 = nI i ∧ hp_fr (S_rw m) h s.2 ∧ ∀ k, k < i → gc n d k) ?_ ?_ 0 _ (by omega) ⟨rfl, hp_fr_rf h, fun k hk => by omega⟩
        · rintro i ⟨z, g⟩ hi ⟨rfl, H, hk⟩
          dsimp only at H ⊢
          unfold f_M_guess_22b
          rw [if_neg (show ¬ (20 : Int32) < nI i from nI_nlt (a := 20) (by omega) (by omega))]
          refine pw_bind (pw_mono (M_layRows (MS_fr H (bms hb)) hn h0 (show i ≤ 20 by omega)) ?_)
          rintro ⟨r, g2⟩ ⟨rfl, H2, e⟩
          dsimp only at H2 e ⊢
          have H02 := hp_fr_tr H H2
          have hg2 := MS_fr H02 (bms hb)
          rw [mb_78 hg2, mn_40 hg2, if_pos (hp_in_nI (by omega) (by omega)), nI_clamp (by omega), e n (by omega)]
          by_cases hg : gc n d i
          · refine pw_t hg (pw_some ⟨?_, H02, fun k hk2 => ?_⟩)
            · dsimp only [xx_l]; rw [nI_1]
            · by_cases hki : k = i
              · rw [hki]; exact hg
              · exact hk k (by omega)
          · exact pw_f hg (pw_some ⟨fst i hi hk hg, rw_keep hb H02⟩)
        · rintro ⟨z, g⟩ ⟨rfl, H, hk⟩
          dsimp only at H ⊢
          unfold f_M_guess_22b
          rw [if_pos (show (20 : Int32) < nI 21 by decide)]
          exact pw_some ⟨non hk, rw_keep hb H⟩
    · refine EZ_id hb (v := -1) ?_ ?_
      · unfold f_X_guess
        try dsimp only
        rw [if_neg a1, if_neg a2]
        rcases hu with hu | ⟨hu, _, hu2⟩
        · rw [if_pos hu]
        · rw [if_neg hu, if_neg (show ¬ w ≤ (1000 : Int32) from hu2)]
      · unfold f_M_guess
        try dsimp only
        rw [bn_o (M_many h0 hn h), if_neg (show ¬ nI 1 = (0 : Int32) by decide)]
        rcases hu with hu | ⟨hu, _, hu2⟩
        · rw [if_pos hu]
        · rw [if_neg hu, if_neg (show ¬ w ≤ (1000 : Int32) from hu2)]
  · refine EZ_id hb (v := -1) ?_ ?_
    · unfold f_X_guess
      try dsimp only
      rcases k1 with k1 | ⟨k1, k3⟩
      · rw [if_pos k1]
      · rw [if_neg k1, if_pos k3]
    · unfold f_M_guess
      try dsimp only
      rw [bn_o (k2 h), if_pos (show nI 0 = (0 : Int32) from rfl)]
theorem op_counter {x m : Nat} (a b c d : Int32) : EZ (fun h => f_X_counter x a b c d h) (fun h => f_M_counter m a b c d h) x m := by
  intro P q h hb
  by_cases h1 : a < (2 : Int32)
  · exact EZ_id hb (v := -1) (by unfold f_X_counter; rw [if_pos h1]) (by unfold f_M_counter; rw [if_pos h1])
  by_cases h2 : (4 : Int32) < a
  · exact EZ_id hb (v := -1) (by unfold f_X_counter; rw [if_neg h1, if_pos h2]) (by unfold f_M_counter; rw [if_neg h1, if_pos h2])
  by_cases h3 : b < (1 : Int32)
  · exact EZ_id hb (v := -1) (by unfold f_X_counter; rw [if_neg h1, if_neg h2, if_pos h3]) (by unfold f_M_counter; rw [if_neg h1, if_neg h2, if_pos h3])
  by_cases h4 : (3 : Int32) < b
  · exact EZ_id hb (v := -1) (by unfold f_X_counter; rw [if_neg h1, if_neg h2, if_neg h3, if_pos h4]) (by unfold f_M_counter; rw [if_neg h1, if_neg h2, if_neg h3, if_pos h4])
  rcases day_cases c 1 (by decide) with ⟨kn, hkn, rfl, c1, c2, c3⟩ | hc
  · rcases i_rng a 4 (by decide) with hv | ⟨n, hn, rfl⟩ | ⟨n, hn, hn2, rfl⟩
    · exact absurd (neg_lt2 hv) h1
    · rcases i_rng b 3 (by decide) with hv | ⟨k, hk, rfl⟩ | ⟨k, hk, hk2, rfl⟩
      · exact absurd (neg_lt1 hv) h3
      · have n2 : 2 ≤ n := by
          refine Nat.le_of_not_lt (fun z => h1 (nI_lt (b := 2) z (by decide)))
        have k1 : 1 ≤ k := by
          refine Nat.le_of_not_lt (fun z => h3 (nI_lt (b := 1) z (by decide)))
        have A6 : (n - 2) * k ≤ 2 * 3 := Nat.mul_le_mul (by omega) hk
        have B9 : (n - 1) * k ≤ 3 * 3 := Nat.mul_le_mul (by omega) hk
        have ekn : kn = 0 ∨ kn = 1 := by omega
        have aX : ∀ u, f_X_counter x (nI n) (nI k) (nI kn) u h = (if u = 0 then some (nI ((n - 2) * k + (2 - kn)), h) else if (n - 1) * k < (n - 2) * k + (2 - kn) then f_X_counter_67 u 0 h else f_X_counter_67 u 1 h) := by
          intro u
          unfold f_X_counter
          rw [if_neg h1, if_neg h2, if_neg h3, if_neg h4, if_neg c1, if_pos (show nI kn ≤ (1 : Int32) from c3)]
          rw [show (2 : Int32) = nI 2 from rfl, show (1 : Int32) = nI 1 from rfl, pk_sub n2, pk_mul, pk_sub hkn, nI_add, nI_add, xx_lE, pk_sub (show 1 ≤ n by omega), pk_mul]
          rw [show (n - 2) * k + (1 - kn) + 1 = (n - 2) * k + (2 - kn) by omega]
          by_cases hu : u = 0
          · rw [if_pos hu, if_pos hu]
          · rw [if_neg hu, if_neg hu]
            by_cases hl : (n - 1) * k < (n - 2) * k + (2 - kn)
            · rw [if_pos hl, if_pos (nI_lt hl (by omega))]
            · rw [if_neg hl, if_neg (nI_nlt (by omega) (by omega))]
        have aM : ∀ u, ¬ u < 0 → u ≤ (1 : Int32) → f_M_counter m (nI n) (nI k) (nI kn) u h = (if u = 0 then some (nI ((n - 2) * k + (2 - kn)), h) else if (n - 1) * k < (n - 2) * k + (2 - kn) then some (0, h) else some (1, h)) := by
          intro u u1 u2
          unfold f_M_counter
          rw [if_neg h1, if_neg h2, if_neg h3, if_neg h4, if_neg c1, if_neg (show ¬ (1 : Int32) < nI kn from c2), if_neg u1, if_pos u2]
          have e57 : ∀ s : Nat, s ≤ 2 → f_M_counter_57 (nI n) (nI k) u (nI s) (nI ((n - 2) * k)) h = (if u = 0 then some (nI ((n - 2) * k + s), h) else if (n - 1) * k < (n - 2) * k + s then some (0, h) else some (1, h)) := by
            intro s hs
            unfold f_M_counter_57
            rw [nI_add, xx_lE, show (1 : Int32) = nI 1 from rfl, pk_sub (show 1 ≤ n by omega), pk_mul]
            by_cases hu : u = 0
            · rw [if_pos hu, if_pos hu]
            · rw [if_neg hu, if_neg hu]
              by_cases hl : (n - 1) * k < (n - 2) * k + s
              · rw [if_pos hl, if_pos (nI_lt hl (by omega))]
              · rw [if_neg hl, if_neg (nI_nlt (by omega) (by omega))]
          rw [show (2 : Int32) = nI 2 from rfl, pk_sub n2, pk_mul, show (1 : Int32) = nI 1 from rfl]
          rcases ekn with rfl | rfl
          · rw [if_neg (show ¬ nI 0 = nI 1 by decide)]; exact e57 2 (by omega)
          · rw [if_pos rfl]; exact e57 1 (by omega)
        rcases day_cases d 1 (by decide) with ⟨u, hu, rfl, d1, d2, d3⟩ | hd
        · have hu2 : u = 0 ∨ u = 1 := by omega
          rcases hu2 with rfl | rfl
          · refine EZ_id hb (v := nI ((n - 2) * k + (2 - kn))) ?_ ?_
            · rw [aX, if_pos (show nI 0 = (0 : Int32) from rfl)]
            · rw [aM _ d1 d3, if_pos (show nI 0 = (0 : Int32) from rfl)]
          · refine EZ_id hb (v := if (n - 1) * k < (n - 2) * k + (2 - kn) then 0 else 1) ?_ ?_
            · rw [aX, if_neg (show ¬ nI 1 = (0 : Int32) by decide)]
              unfold f_X_counter_67
              rw [if_pos (show nI 1 = (1 : Int32) from rfl), if_pos (show nI 1 = (1 : Int32) from rfl)]
              split <;> rfl
            · rw [aM _ d1 d3, if_neg (show ¬ nI 1 = (0 : Int32) by decide)]
              split <;> rfl
        · have u0 : ¬ d = 0 := by
            rintro rfl
            rcases hd with hd | ⟨_, hd, _⟩
            · exact absurd hd (by decide)
            · exact absurd hd (by decide)
          have u1 : ¬ d = 1 := by
            rintro rfl
            rcases hd with hd | ⟨_, hd, _⟩
            · exact absurd hd (by decide)
            · exact absurd hd (by decide)
          refine EZ_id hb (v := -1) ?_ ?_
          · rw [aX, if_neg u0]
            unfold f_X_counter_67
            rw [if_neg u1, if_neg u1]
            split <;> rfl
          · unfold f_M_counter
            rw [if_neg h1, if_neg h2, if_neg h3, if_neg h4, if_neg c1, if_neg (show ¬ (1 : Int32) < nI kn from c2)]
            rcases hd with hd | ⟨hd, _, hd2⟩
            · rw [if_pos hd]
            · rw [if_neg hd, if_neg (show ¬ d ≤ (1 : Int32) from hd2)]
      · exact absurd (nI_lt (a := 3) hk hk2) h4
    · exact absurd (nI_lt (a := 4) hn hn2) h2
  · refine EZ_id hb (v := -1) ?_ ?_
    · unfold f_X_counter
      rw [if_neg h1, if_neg h2, if_neg h3, if_neg h4]
      rcases hc with hc | ⟨hc, _, hc2⟩
      · rw [if_pos hc]
      · rw [if_neg hc, if_neg (show ¬ c ≤ (1 : Int32) from hc2)]
    · unfold f_M_counter
      rw [if_neg h1, if_neg h2, if_neg h3, if_neg h4]
      rcases hc with hc | ⟨hc, hc2, _⟩
      · rw [if_pos hc]
      · rw [if_neg hc, if_pos (show (1 : Int32) < c from hc2)]
