/-! logs as known at a time: what both lay out -/
theorem pw_mapR {S T : Type} {o : Option T} {I : S → Prop} {P : T → Prop} (h : pw o P) : pw (o.map (Sum.inr : T → S ⊕ T)) (xx_L2 I P) := by
  obtain ⟨x, rfl, hP⟩ := h
  exact ⟨.inr x, rfl, hP⟩
theorem sh1 {i : Nat} (h : i < 31) : nI 1 <<< (nI i &&& nI 31) = nI (2 ^ i) := by
  have : ∀ i, i < 31 → nI 1 <<< (nI i &&& nI 31) = nI (2 ^ i) := by decide +kernel
  exact this i h
def cn (tt uu : Nat → Nat) (v : Int32) (j : Nat) : Bool := decide (¬ v < nI (tt j)) && (decide (uu j = 0) || decide (v < nI (uu j - 1)))
/-- the man that the log told last of a day tells of, one more; none: 0 -/
def mO (dd mm tt uu : Nat → Nat) (v : Int32) (d : Nat) : Nat → Nat
  | 0 => 0
  | j + 1 => if cn tt uu v j = true ∧ dd j = d then mm j + 1 else mO dd mm tt uu v d j
def aO (dd mm tt uu : Nat → Nat) (v : Int32) (d : Nat) : Nat → Nat
  | 0 => 0
  | j + 1 => if cn tt uu v j = true ∧ dd j = d then aO dd mm tt uu v d j ||| 2 ^ mm j else aO dd mm tt uu v d j
def kO (dd mm tt uu : Nat → Nat) (v : Int32) (d : Nat) : Nat → Nat
  | 0 => 0
  | j + 1 => if cn tt uu v j = true ∧ dd j = d then (if kO dd mm tt uu v d j = 1 ∨ mO dd mm tt uu v d j ≠ 0 ∧ mO dd mm tt uu v d j ≠ mm j + 1 then 1 else 0) else kO dd mm tt uu v d j
theorem mO_s {dd mm tt uu : Nat → Nat} {v : Int32} {d j : Nat} : mO dd mm tt uu v d (j + 1) = if cn tt uu v j = true ∧ dd j = d then mm j + 1 else mO dd mm tt uu v d j := rfl
theorem aO_s {dd mm tt uu : Nat → Nat} {v : Int32} {d j : Nat} : aO dd mm tt uu v d (j + 1) = if cn tt uu v j = true ∧ dd j = d then aO dd mm tt uu v d j ||| 2 ^ mm j else aO dd mm tt uu v d j := rfl
theorem kO_s {dd mm tt uu : Nat → Nat} {v : Int32} {d j : Nat} : kO dd mm tt uu v d (j + 1) = if cn tt uu v j = true ∧ dd j = d then (if kO dd mm tt uu v d j = 1 ∨ mO dd mm tt uu v d j ≠ 0 ∧ mO dd mm tt uu v d j ≠ mm j + 1 then 1 else 0) else kO dd mm tt uu v d j := rfl
def bc (a : Nat) : Nat := a % 2 + a / 2 % 2 + a / 4 % 2 + a / 8 % 2 + a / 16 % 2 + a / 32 % 2
theorem In_bc {a : Nat} (ha : a < 64) (h : HP) : f_In_bitCount (nI a) h = some (nI (bc a), h) := by
  unfold f_In_bitCount
  simp only [xx_lE]
  have : ∀ a, a < 64 → (let v0_1 := (nI a - (((nI a).toUInt32 >>> (((1 : Int32)).toUInt32 &&& Int32.toUInt32 31)).toInt32 &&& (1431655765 : Int32))); let v0_2 := ((v0_1 &&& (858993459 : Int32)) + (((v0_1).toUInt32 >>> (((2 : Int32)).toUInt32 &&& Int32.toUInt32 31)).toInt32 &&& (858993459 : Int32))); let v0_3 := ((v0_2 + ((v0_2).toUInt32 >>> (((4 : Int32)).toUInt32 &&& Int32.toUInt32 31)).toInt32) &&& (252645135 : Int32)); let v0_4 := (v0_3 + ((v0_3).toUInt32 >>> (((8 : Int32)).toUInt32 &&& Int32.toUInt32 31)).toInt32); let v0_5 := (v0_4 + ((v0_4).toUInt32 >>> (((16 : Int32)).toUInt32 &&& Int32.toUInt32 31)).toInt32); (v0_5 &&& (63 : Int32)) = nI (bc a)) := by decide +kernel
  exact congrArg (fun z => some (z, h)) (this a ha)
/-- how the three go together -/
def R3 (mo a c : Nat) : Bool := decide (a < 64) && decide (c < 2) && (if mo = 0 then decide (a = 0) && decide (c = 0) else decide (mo ≤ 6) && a.testBit (mo - 1) && (decide (c = 1) == decide (1 < bc a)))
theorem R3_step : ∀ mo, mo < 7 → ∀ a, a < 64 → ∀ c, c < 2 → ∀ i, i < 6 → R3 mo a c = true → R3 (i + 1) (a ||| 2 ^ i) (if c = 1 ∨ mo ≠ 0 ∧ mo ≠ i + 1 then 1 else 0) = true := by decide +kernel
theorem R3_mo {mo a c : Nat} (h : R3 mo a c = true) : mo < 7 ∧ a < 64 ∧ c < 2 := by
  unfold R3 at h
  simp only [Bool.and_eq_true, decide_eq_true_eq] at h
  refine ⟨?_, h.1.1, h.1.2⟩
  by_cases hm : mo = 0
  · omega
  · have := h.2
    rw [if_neg hm] at this
    simp only [Bool.and_eq_true, decide_eq_true_eq] at this
    omega
theorem R3_all {dd mm tt uu : Nat → Nat} {v : Int32} {d : Nat} : ∀ n, (∀ j, j < n → mm j < 6) → R3 (mO dd mm tt uu v d n) (aO dd mm tt uu v d n) (kO dd mm tt uu v d n) = true := by
  intro n
  induction n with
  | zero => intro _; show R3 0 0 0 = true; decide
  | succ n ih =>
    intro hm
    have h0 := ih (fun j hj => hm j (by omega))
    obtain ⟨a1, a2, a3⟩ := R3_mo h0
    rw [mO_s, aO_s, kO_s]
    by_cases hc : cn tt uu v n = true ∧ dd n = d
    · rw [if_pos hc, if_pos hc, if_pos hc]; exact R3_step _ a1 _ a2 _ a3 _ (hm n (by omega)) h0
    · rw [if_neg hc, if_neg hc, if_neg hc]; exact h0
theorem R3_k {mo a c : Nat} (h : R3 mo a c = true) : (c = 1 ↔ 1 < bc a) := by
  obtain ⟨a1, a2, a3⟩ := R3_mo h
  have : ∀ mo, mo < 7 → ∀ a, a < 64 → ∀ c, c < 2 → R3 mo a c = true → (c = 1 ↔ 1 < bc a) := by decide +kernel
  exact this mo a1 a a2 c a3 h
theorem utv_neg {u : Nat} (hu : u < 2 ^ 30) : (utv u < nI 0) = (u = 0) := by
  by_cases h : u = 0
  · subst h; exact eq_true (by decide : utv 0 < nI 0) |>.trans (eq_true rfl).symm
  · rw [utv_s (by omega)]; exact (c_nlt (Nat.zero_le _) (by omega)).trans (eq_false h).symm
theorem utv_m1 {u : Nat} (hu : u < 2 ^ 30) : (utv u = -nI 1) = (u = 0) := by
  by_cases h : u = 0
  · subst h; exact (eq_true rfl).trans (eq_true rfl).symm
  · rw [utv_s (by omega)]; exact (c_m1 (by decide) (by omega) (by decide)).trans (eq_false h).symm
def S_ga (x : Nat) : Nat → Nat → Prop := fun a _ => a = x + 39 ∨ a = x + 40
/-- the class's cells of logs -/
def LGX (n : Nat) (dd mm tt uu : Nat → Nat) (x : Nat) (h : HP) : Prop := hp_i h (x + 34) 0 = nI n ∧ ∀ k, k < n → hp_i h (x + 35) k = nI (dd k) ∧ hp_i h (x + 36) k = nI (mm k) ∧ hp_i h (x + 37) k = nI (tt k) ∧ hp_i h (x + 38) k = utv (uu k)
theorem Lo_body {n x j : Nat} {dd mm tt uu : Nat → Nat} {v : Int32} {g : HP} (hs : XS x g) (hn : n ≤ 60) (hj : j < n) (b1 : dd j < 100) (b2 : mm j < 6) (b3 : uu j < 2 ^ 30) (hl : LGX n dd mm tt uu x g) : f_Lo_gather_18b (x + 34) v (nI j) g = some (.inl (nI (j + 1), if cn tt uu v j = true then hp_si (hp_si g (x + 39) (dd j) (nI (mm j))) (x + 40) (dd j) (hp_i g (x + 40) (dd j) ||| nI (2 ^ mm j)) else g)) := by
  obtain ⟨l1, l2⟩ := hl
  obtain ⟨k1, k2, k3, k4⟩ := l2 j hj
  by_cases hc1 : v < nI (tt j)
  · have hcn : cn tt uu v j = false := by unfold cn; simp [hc1]
    rw [hcn]
    by_cases hu : uu j = 0
    · rw [hu, utv0] at k4
      simp (disch := omega) only [f_Lo_gather_18b, f_Lo_gather_50, f_Lo_gather_51, f_Lo_gather_105, ↓xx_lE, ↓reduceIte, ↓bn_si, ↓bn_sl, ↓bn_s, ↓bn_ms, hp_i_si, hp_l_si, hp_r_si, hp_n_si, hp_i_sl, hp_l_sl, hp_r_sl, hp_n_sl, hp_i_sr, hp_l_sr, hp_r_sr, hp_n_sr, iL, nI_clamp, hp_in_nI, nI_add, pk_mul, pk_sub, c_le, c_nle, c_lt, c_nlt, c_ne, c_m1, c_m1', ad_ne, ad_ne', ad_ne2, nar0, nar1, true_and, false_and, and_true, and_false, Nat.add_zero, Nat.zero_add, l1, ↓xb_34_5 hs, xn_38 hs, k4, ↓xb_34_4 hs, xn_37 hs, k3, hc1, Bool.false_eq_true]
    · rw [utv_s (by omega)] at k4
      by_cases hc2 : v < nI (uu j - 1)
      · simp (disch := omega) only [f_Lo_gather_18b, f_Lo_gather_50, f_Lo_gather_51, f_Lo_gather_105, ↓xx_lE, ↓reduceIte, ↓bn_si, ↓bn_sl, ↓bn_s, ↓bn_ms, hp_i_si, hp_l_si, hp_r_si, hp_n_si, hp_i_sl, hp_l_sl, hp_r_sl, hp_n_sl, hp_i_sr, hp_l_sr, hp_r_sr, hp_n_sr, iL, nI_clamp, hp_in_nI, nI_add, pk_mul, pk_sub, c_le, c_nle, c_lt, c_nlt, c_ne, c_m1, c_m1', ad_ne, ad_ne', ad_ne2, nar0, nar1, true_and, false_and, and_true, and_false, Nat.add_zero, Nat.zero_add, l1, ↓xb_34_5 hs, xn_38 hs, k4, ↓xb_34_4 hs, xn_37 hs, k3, hc1, hc2, Bool.false_eq_true]
      · simp (disch := omega) only [f_Lo_gather_18b, f_Lo_gather_50, f_Lo_gather_51, f_Lo_gather_105, ↓xx_lE, ↓reduceIte, ↓bn_si, ↓bn_sl, ↓bn_s, ↓bn_ms, hp_i_si, hp_l_si, hp_r_si, hp_n_si, hp_i_sl, hp_l_sl, hp_r_sl, hp_n_sl, hp_i_sr, hp_l_sr, hp_r_sr, hp_n_sr, iL, nI_clamp, hp_in_nI, nI_add, pk_mul, pk_sub, c_le, c_nle, c_lt, c_nlt, c_ne, c_m1, c_m1', ad_ne, ad_ne', ad_ne2, nar0, nar1, true_and, false_and, and_true, and_false, Nat.add_zero, Nat.zero_add, l1, ↓xb_34_5 hs, xn_38 hs, k4, ↓xb_34_4 hs, xn_37 hs, k3, hc1, hc2, Bool.false_eq_true]
  · by_cases hu : uu j = 0
    · have hcn : cn tt uu v j = true := by unfold cn; simp [hc1, hu]
      rw [hcn]
      rw [hu, utv0] at k4
      simp (disch := omega) only [f_Lo_gather_18b, f_Lo_gather_50, f_Lo_gather_51, f_Lo_gather_105, ↓xx_lE, ↓reduceIte, ↓bn_si, ↓bn_sl, ↓bn_s, ↓bn_ms, hp_i_si, hp_l_si, hp_r_si, hp_n_si, hp_i_sl, hp_l_sl, hp_r_sl, hp_n_sl, hp_i_sr, hp_l_sr, hp_r_sr, hp_n_sr, iL, nI_clamp, hp_in_nI, nI_add, pk_mul, pk_sub, c_le, c_nle, c_lt, c_nlt, c_ne, c_m1, c_m1', ad_ne, ad_ne', ad_ne2, nar0, nar1, true_and, false_and, and_true, and_false, Nat.add_zero, Nat.zero_add, l1, ↓xb_34_5 hs, xn_38 hs, k4, ↓xb_34_4 hs, xn_37 hs, k3, hc1, ↓xb_34_6 hs, xn_39 hs, ↓xb_34_2 hs, xn_35 hs, k1, ↓xb_34_3 hs, xn_36 hs, k2, ↓xb_34_7 hs, xn_40 hs, sh1]
    · rw [utv_s (by omega)] at k4
      by_cases hc2 : v < nI (uu j - 1)
      · have hcn : cn tt uu v j = true := by unfold cn; simp [hc1, hc2]
        rw [hcn]
        simp (disch := omega) only [f_Lo_gather_18b, f_Lo_gather_50, f_Lo_gather_51, f_Lo_gather_105, ↓xx_lE, ↓reduceIte, ↓bn_si, ↓bn_sl, ↓bn_s, ↓bn_ms, hp_i_si, hp_l_si, hp_r_si, hp_n_si, hp_i_sl, hp_l_sl, hp_r_sl, hp_n_sl, hp_i_sr, hp_l_sr, hp_r_sr, hp_n_sr, iL, nI_clamp, hp_in_nI, nI_add, pk_mul, pk_sub, c_le, c_nle, c_lt, c_nlt, c_ne, c_m1, c_m1', ad_ne, ad_ne', ad_ne2, nar0, nar1, true_and, false_and, and_true, and_false, Nat.add_zero, Nat.zero_add, l1, ↓xb_34_5 hs, xn_38 hs, k4, ↓xb_34_4 hs, xn_37 hs, k3, hc1, hc2, ↓xb_34_6 hs, xn_39 hs, ↓xb_34_2 hs, xn_35 hs, k1, ↓xb_34_3 hs, xn_36 hs, k2, ↓xb_34_7 hs, xn_40 hs, sh1]
      · have hcn : cn tt uu v j = false := by unfold cn; simp [hu, hc2]
        rw [hcn]
        simp (disch := omega) only [f_Lo_gather_18b, f_Lo_gather_50, f_Lo_gather_51, f_Lo_gather_105, ↓xx_lE, ↓reduceIte, ↓bn_si, ↓bn_sl, ↓bn_s, ↓bn_ms, hp_i_si, hp_l_si, hp_r_si, hp_n_si, hp_i_sl, hp_l_sl, hp_r_sl, hp_n_sl, hp_i_sr, hp_l_sr, hp_r_sr, hp_n_sr, iL, nI_clamp, hp_in_nI, nI_add, pk_mul, pk_sub, c_le, c_nle, c_lt, c_nlt, c_ne, c_m1, c_m1', ad_ne, ad_ne', ad_ne2, nar0, nar1, true_and, false_and, and_true, and_false, Nat.add_zero, Nat.zero_add, l1, ↓xb_34_5 hs, xn_38 hs, k4, ↓xb_34_4 hs, xn_37 hs, k3, hc1, hc2, Bool.false_eq_true]
theorem Lo_gather {n x : Nat} {dd mm tt uu : Nat → Nat} {v : Int32} {h : HP} (hs : XS x h) (hn : n ≤ 60) (hb : ∀ j, j < n → dd j < 100 ∧ mm j < 6 ∧ uu j < 2 ^ 30) (hl : LGX n dd mm tt uu x h) : pw (f_Lo_gather (x + 34) v h) (fun h' => hp_fr (S_ga x) h h' ∧ ∀ d, d < 100 → hp_i h' (x + 39) d = utv (mO dd mm tt uu v d n) ∧ hp_i h' (x + 40) d = nI (aO dd mm tt uu v d n)) := by
  unfold f_Lo_gather
  rw [xb_34_6 hs]
  refine pw_bind (pw_mono (A_fill (xn_39 hs) (by decide)) ?_)
  rintro g1 ⟨H1, e1⟩
  have hs1 := XS_fr H1 hs
  rw [xb_34_7 hs1]
  refine pw_bind (pw_mono (A_fill (xn_40 hs1) (by decide)) ?_)
  rintro g2 ⟨H2, e2⟩
  have H0 : hp_fr (S_ga x) h g2 := hp_fr_tr (hp_fr_mo H1 (by unfold S_ga; omega)) (hp_fr_mo H2 (by unfold S_ga; omega))
  unfold f_Lo_gather_18
  refine pw_cnt n (fun j s => s.1 = nI j ∧ hp_fr (S_ga x) h s.2 ∧ ∀ d, d < 100 → hp_i s.2 (x + 39) d = utv (mO dd mm tt uu v d j) ∧ hp_i s.2 (x + 40) d = nI (aO dd mm tt uu v d j)) ?_ ?_ 0 _ (by omega) ⟨rfl, H0, fun d hd => ⟨?_, e2 d hd⟩⟩
  · rintro j ⟨w, g⟩ hj ⟨rfl, H, e⟩
    dsimp only at H e ⊢
    obtain ⟨b1, b2, b3⟩ := hb j hj
    have hl' : LGX n dd mm tt uu x g := ⟨by rw [hf_i H (by unfold S_ga; omega)]; exact hl.1, fun k hk => by
      obtain ⟨k1, k2, k3, k4⟩ := hl.2 k hk
      refine ⟨?_, ?_, ?_, ?_⟩
      all_goals rw [hf_i H (by unfold S_ga; omega)]
      all_goals assumption⟩
    refine pw_L (Lo_body (XS_fr H hs) hn hj b1 b2 b3 hl') ⟨rfl, ?_, fun d hd => ?_⟩
    · dsimp only
      by_cases hc : cn tt uu v j = true
      · rw [if_pos hc]; exact hf_si (hf_si H (by unfold S_ga; omega)) (by unfold S_ga; omega)
      · rw [if_neg hc]; exact H
    · dsimp only
      obtain ⟨e3, e4⟩ := e d hd
      rw [mO_s, aO_s]
      by_cases hc : cn tt uu v j = true
      · rw [if_pos hc]
        by_cases hdd : dd j = d
        · rw [if_pos ⟨hc, hdd⟩, if_pos ⟨hc, hdd⟩]
          constructor
          · rw [hp_i_si, if_neg (by omega), hp_i_si, if_pos ⟨rfl, hdd.symm⟩, utv_s (by omega)]; rfl
          · rw [hp_i_si, if_pos ⟨rfl, hdd.symm⟩, hdd, e4, fa_or]
        · rw [if_neg (fun z => hdd z.2), if_neg (fun z => hdd z.2)]
          constructor
          · rw [hp_i_si, if_neg (by omega), hp_i_si, if_neg (by omega)]; exact e3
          · rw [hp_i_si, if_neg (by omega), hp_i_si, if_neg (by omega)]; exact e4
      · rw [if_neg hc, if_neg (fun z => hc z.1), if_neg (fun z => hc z.1)]; exact ⟨e3, e4⟩
  · rintro ⟨w, g⟩ ⟨rfl, H, e⟩
    dsimp only at H e ⊢
    have l1 : hp_i g (x + 34) 0 = nI n := by rw [hf_i H (by unfold S_ga; omega)]; exact hl.1
    refine pw_R (t := g) ?_ ⟨H, e⟩
    simp (disch := omega) only [f_Lo_gather_18b, ↓xx_lE, ↓reduceIte, ↓bn_si, ↓bn_sl, ↓bn_s, ↓bn_ms, hp_i_si, hp_l_si, hp_r_si, hp_n_si, hp_i_sl, hp_l_sl, hp_r_sl, hp_n_sl, hp_i_sr, hp_l_sr, hp_r_sr, hp_n_sr, iL, nI_clamp, hp_in_nI, nI_add, pk_mul, pk_sub, c_le, c_nle, c_lt, c_nlt, c_ne, c_m1, c_m1', ad_ne, ad_ne', ad_ne2, nar0, nar1, true_and, false_and, and_true, and_false, Nat.add_zero, Nat.zero_add, l1]
  · rw [hf_i H2 (by omega)]; exact e1 d hd
/-! the reference -/
def LGM (n : Nat) (dd mm tt uu : Nat → Nat) (m : Nat) (h : HP) : Prop := hp_i h m 85 = nI n ∧ ∀ k, k < n → hp_i h (m + 41) k = nI (dd k) ∧ hp_i h (m + 42) k = nI (mm k) ∧ hp_i h (m + 43) k = nI (tt k) ∧ hp_i h (m + 44) k = utv (uu k)
def S_ll (m : Nat) : Nat → Nat → Prop := fun a _ => a = m + 45 ∨ a = m + 46
def c01 (c : Nat) (p : Bool) : Nat := if c = 1 ∨ p = true then 1 else 0
theorem Ml_70 {m j dj mj mo c : Nat} {v : Int32} {g : HP} (hs : MS m g) (hj : j < 60) (b1 : dj < 100) (b2 : mj < 6) (b3 : mo < 7) (b4 : c < 2) (k1 : hp_i g (m + 41) j = nI dj) (k2 : hp_i g (m + 42) j = nI mj) (k3 : hp_i g (m + 45) dj = utv mo) (k4 : hp_i g (m + 46) dj = nI c) : f_M_layLogs_70 m v (nI j) g = some (.inl (nI (j + 1), hp_si (hp_si g (m + 46) dj (nI (if c = 1 ∨ mo ≠ 0 ∧ mo ≠ mj + 1 then 1 else 0))) (m + 45) dj (nI mj))) := by
  have hc : c = 0 ∨ c = 1 := by omega
  rcases hc with rfl | rfl
  · by_cases hm : mo = 0
    · subst hm
      rw [utv0] at k3
      simp (disch := omega) only [f_M_layLogs_70, f_M_layLogs_115, f_M_layLogs_119, f_M_layLogs_120, f_M_layLogs_133, ↓xx_lE, ↓reduceIte, ↓bn_si, ↓bn_sl, ↓bn_s, ↓bn_ms, hp_i_si, hp_l_si, hp_r_si, hp_n_si, hp_i_sl, hp_l_sl, hp_r_sl, hp_n_sl, hp_i_sr, hp_l_sr, hp_r_sr, hp_n_sr, iL, nI_clamp, hp_in_nI, nI_add, pk_mul, pk_sub, c_le, c_nle, c_lt, c_nlt, c_ne, c_m1, c_m1', ad_ne, ad_ne', ad_ne2, nar0, nar1, true_and, false_and, and_true, and_false, Nat.add_zero, Nat.zero_add, ↓mb_79 hs, mn_41 hs, k1, ↓mb_84 hs, mn_46 hs, k4, ↓mb_83 hs, mn_45 hs, k3, ng_lt0, ↓mb_80 hs, mn_42 hs, k2]
      simp
    · rw [utv_s (by omega)] at k3
      by_cases hm2 : mo = mj + 1
      · subst hm2
        rw [show mj + 1 - 1 = mj by omega] at k3
        simp (disch := omega) only [f_M_layLogs_70, f_M_layLogs_115, f_M_layLogs_119, f_M_layLogs_120, f_M_layLogs_133, ↓xx_lE, ↓reduceIte, ↓bn_si, ↓bn_sl, ↓bn_s, ↓bn_ms, hp_i_si, hp_l_si, hp_r_si, hp_n_si, hp_i_sl, hp_l_sl, hp_r_sl, hp_n_sl, hp_i_sr, hp_l_sr, hp_r_sr, hp_n_sr, iL, nI_clamp, hp_in_nI, nI_add, pk_mul, pk_sub, c_le, c_nle, c_lt, c_nlt, c_ne, c_m1, c_m1', ad_ne, ad_ne', ad_ne2, nar0, nar1, true_and, false_and, and_true, and_false, Nat.add_zero, Nat.zero_add, ↓mb_79 hs, mn_41 hs, k1, ↓mb_84 hs, mn_46 hs, k4, ↓mb_83 hs, mn_45 hs, k3, ng_lt0, ↓mb_80 hs, mn_42 hs, k2]
        simp
      · have hm3 : mo - 1 ≠ mj := by omega
        simp (disch := omega) only [f_M_layLogs_70, f_M_layLogs_115, f_M_layLogs_119, f_M_layLogs_120, f_M_layLogs_133, ↓xx_lE, ↓reduceIte, ↓bn_si, ↓bn_sl, ↓bn_s, ↓bn_ms, hp_i_si, hp_l_si, hp_r_si, hp_n_si, hp_i_sl, hp_l_sl, hp_r_sl, hp_n_sl, hp_i_sr, hp_l_sr, hp_r_sr, hp_n_sr, iL, nI_clamp, hp_in_nI, nI_add, pk_mul, pk_sub, c_le, c_nle, c_lt, c_nlt, c_ne, c_m1, c_m1', ad_ne, ad_ne', ad_ne2, nar0, nar1, true_and, false_and, and_true, and_false, Nat.add_zero, Nat.zero_add, ↓mb_79 hs, mn_41 hs, k1, ↓mb_84 hs, mn_46 hs, k4, ↓mb_83 hs, mn_45 hs, k3, ng_lt0, ↓mb_80 hs, mn_42 hs, k2]
        simp [hm, hm2]
  · simp (disch := omega) only [f_M_layLogs_70, f_M_layLogs_115, f_M_layLogs_119, f_M_layLogs_120, f_M_layLogs_133, ↓xx_lE, ↓reduceIte, ↓bn_si, ↓bn_sl, ↓bn_s, ↓bn_ms, hp_i_si, hp_l_si, hp_r_si, hp_n_si, hp_i_sl, hp_l_sl, hp_r_sl, hp_n_sl, hp_i_sr, hp_l_sr, hp_r_sr, hp_n_sr, iL, nI_clamp, hp_in_nI, nI_add, pk_mul, pk_sub, c_le, c_nle, c_lt, c_nlt, c_ne, c_m1, c_m1', ad_ne, ad_ne', ad_ne2, nar0, nar1, true_and, false_and, and_true, and_false, Nat.add_zero, Nat.zero_add, ↓mb_79 hs, mn_41 hs, k1, ↓mb_84 hs, mn_46 hs, k4, ↓mb_83 hs, mn_45 hs, ng_lt0, ↓mb_80 hs, mn_42 hs, k2]
    simp
theorem Ml_body {n m j mo c : Nat} {dd mm tt uu : Nat → Nat} {v : Int32} {g : HP} (hs : MS m g) (hn : n ≤ 60) (hj : j < n) (b1 : dd j < 100) (b2 : mm j < 6) (b3 : uu j < 2 ^ 30) (hl : LGM n dd mm tt uu m g) (c1 : mo < 7) (c2 : c < 2) (c3 : hp_i g (m + 45) (dd j) = utv mo) (c4 : hp_i g (m + 46) (dd j) = nI c) : f_M_layLogs_30b m v (nI j) g = some (.inl (nI (j + 1), if cn tt uu v j = true then hp_si (hp_si g (m + 46) (dd j) (nI (if c = 1 ∨ mo ≠ 0 ∧ mo ≠ mm j + 1 then 1 else 0))) (m + 45) (dd j) (nI (mm j)) else g)) := by
  obtain ⟨l1, l2⟩ := hl
  obtain ⟨k1, k2, k3, k4⟩ := l2 j hj
  have h70 := Ml_70 (v := v) hs (show j < 60 by omega) b1 b2 c1 c2 k1 k2 c3 c4
  by_cases hc1 : v < nI (tt j)
  · have hcn : cn tt uu v j = false := by unfold cn; simp [hc1]
    rw [hcn]
    simp (disch := omega) only [f_M_layLogs_30b, f_M_layLogs_133, ↓xx_lE, ↓reduceIte, ↓bn_si, ↓bn_sl, ↓bn_s, ↓bn_ms, hp_i_si, hp_l_si, hp_r_si, hp_n_si, hp_i_sl, hp_l_sl, hp_r_sl, hp_n_sl, hp_i_sr, hp_l_sr, hp_r_sr, hp_n_sr, iL, nI_clamp, hp_in_nI, nI_add, pk_mul, pk_sub, c_le, c_nle, c_lt, c_nlt, c_ne, c_m1, c_m1', ad_ne, ad_ne', ad_ne2, nar0, nar1, true_and, false_and, and_true, and_false, Nat.add_zero, Nat.zero_add, l1, ↓mb_81 hs, mn_43 hs, k3, hc1, Bool.false_eq_true]
  · by_cases hu : uu j = 0
    · have hcn : cn tt uu v j = true := by unfold cn; simp [hc1, hu]
      rw [hcn]
      rw [hu, utv0] at k4
      simp (disch := omega) only [f_M_layLogs_30b, ↓xx_lE, ↓reduceIte, ↓bn_si, ↓bn_sl, ↓bn_s, ↓bn_ms, hp_i_si, hp_l_si, hp_r_si, hp_n_si, hp_i_sl, hp_l_sl, hp_r_sl, hp_n_sl, hp_i_sr, hp_l_sr, hp_r_sr, hp_n_sr, iL, nI_clamp, hp_in_nI, nI_add, pk_mul, pk_sub, c_le, c_nle, c_lt, c_nlt, c_ne, c_m1, c_m1', ad_ne, ad_ne', ad_ne2, nar0, nar1, true_and, false_and, and_true, and_false, Nat.add_zero, Nat.zero_add, l1, ↓mb_81 hs, mn_43 hs, k3, hc1, ↓mb_82 hs, mn_44 hs, k4, ng_lt0, h70]
    · rw [utv_s (by omega)] at k4
      by_cases hc2 : v < nI (uu j - 1)
      · have hcn : cn tt uu v j = true := by unfold cn; simp [hc1, hc2]
        rw [hcn]
        simp (disch := omega) only [f_M_layLogs_30b, ↓xx_lE, ↓reduceIte, ↓bn_si, ↓bn_sl, ↓bn_s, ↓bn_ms, hp_i_si, hp_l_si, hp_r_si, hp_n_si, hp_i_sl, hp_l_sl, hp_r_sl, hp_n_sl, hp_i_sr, hp_l_sr, hp_r_sr, hp_n_sr, iL, nI_clamp, hp_in_nI, nI_add, pk_mul, pk_sub, c_le, c_nle, c_lt, c_nlt, c_ne, c_m1, c_m1', ad_ne, ad_ne', ad_ne2, nar0, nar1, true_and, false_and, and_true, and_false, Nat.add_zero, Nat.zero_add, l1, ↓mb_81 hs, mn_43 hs, k3, hc1, ↓mb_82 hs, mn_44 hs, k4, hc2, h70]
      · have hcn : cn tt uu v j = false := by unfold cn; simp [hu, hc2]
        rw [hcn]
        simp (disch := omega) only [f_M_layLogs_30b, f_M_layLogs_133, ↓xx_lE, ↓reduceIte, ↓bn_si, ↓bn_sl, ↓bn_s, ↓bn_ms, hp_i_si, hp_l_si, hp_r_si, hp_n_si, hp_i_sl, hp_l_sl, hp_r_sl, hp_n_sl, hp_i_sr, hp_l_sr, hp_r_sr, hp_n_sr, iL, nI_clamp, hp_in_nI, nI_add, pk_mul, pk_sub, c_le, c_nle, c_lt, c_nlt, c_ne, c_m1, c_m1', ad_ne, ad_ne', ad_ne2, nar0, nar1, true_and, false_and, and_true, and_false, Nat.add_zero, Nat.zero_add, l1, ↓mb_81 hs, mn_43 hs, k3, hc1, ↓mb_82 hs, mn_44 hs, k4, hc2, Bool.false_eq_true]
theorem M_layLogs {n m : Nat} {dd mm tt uu : Nat → Nat} {v : Int32} {h : HP} (hs : MS m h) (hn : n ≤ 60) (hb : ∀ j, j < n → dd j < 100 ∧ mm j < 6 ∧ uu j < 2 ^ 30) (hl : LGM n dd mm tt uu m h) : pw (f_M_layLogs m v h) (fun r => r.1 = nI (fb_ct (fun d => decide (kO dd mm tt uu v d n = 1)) 100) ∧ hp_fr (S_ll m) h r.2 ∧ ∀ d, d < 100 → hp_i r.2 (m + 45) d = utv (mO dd mm tt uu v d n)) := by
  unfold f_M_layLogs f_M_layLogs_2
  have hR : ∀ d j, j ≤ n → R3 (mO dd mm tt uu v d j) (aO dd mm tt uu v d j) (kO dd mm tt uu v d j) = true := fun d j hj => R3_all j (fun i hi => (hb i (by omega)).2.1)
  refine pw_cnt 100 (fun d s => s.1 = nI d ∧ hp_fr (S_ll m) h s.2 ∧ ∀ k, k < d → hp_i s.2 (m + 45) k = -nI 1 ∧ hp_i s.2 (m + 46) k = nI 0) ?_ ?_ 0 _ (by omega) ⟨rfl, hp_fr_rf h, fun k hk => by omega⟩
  · rintro d ⟨w, g⟩ hd ⟨rfl, H, e⟩
    dsimp only at H e ⊢
    have hg := MS_fr H hs
    refine pw_L (s := (nI (d + 1), hp_si (hp_si g (m + 45) d (-nI 1)) (m + 46) d (nI 0))) ?_ ⟨rfl, ?_, fun k hk => ?_⟩
    · simp (disch := omega) only [f_M_layLogs_2b, ↓xx_lE, ↓reduceIte, ↓bn_si, ↓bn_sl, ↓bn_s, ↓bn_ms, hp_i_si, hp_l_si, hp_r_si, hp_n_si, hp_i_sl, hp_l_sl, hp_r_sl, hp_n_sl, hp_i_sr, hp_l_sr, hp_r_sr, hp_n_sr, iL, nI_clamp, hp_in_nI, nI_add, pk_mul, pk_sub, c_le, c_nle, c_lt, c_nlt, c_ne, c_m1, c_m1', ad_ne, ad_ne', ad_ne2, nar0, nar1, true_and, false_and, and_true, and_false, Nat.add_zero, Nat.zero_add, ↓mb_83 hg, mn_45 hg, ↓mb_84 hg, mn_46 hg]
    · exact hf_si (hf_si H (by unfold S_ll; omega)) (by unfold S_ll; omega)
    · by_cases hk2 : k = d
      · subst hk2; simp [hp_i_si]
      · have := e k (by omega)
        simpa [hp_i_si, hk2] using this
  · rintro ⟨w, g⟩ ⟨rfl, H, e⟩
    dsimp only at H e ⊢
    have e0 : f_M_layLogs_2b m v (nI 100) g = (f_M_layLogs_28 m v g).map .inr := by
      simp (disch := omega) only [f_M_layLogs_2b, ↓xx_lE, ↓reduceIte, ↓bn_si, ↓bn_sl, ↓bn_s, ↓bn_ms, hp_i_si, hp_l_si, hp_r_si, hp_n_si, hp_i_sl, hp_l_sl, hp_r_sl, hp_n_sl, hp_i_sr, hp_l_sr, hp_r_sr, hp_n_sr, iL, nI_clamp, hp_in_nI, nI_add, pk_mul, pk_sub, c_le, c_nle, c_lt, c_nlt, c_ne, c_m1, c_m1', ad_ne, ad_ne', ad_ne2, nar0, nar1, true_and, false_and, and_true, and_false, Nat.add_zero, Nat.zero_add]
    rw [e0]
    refine pw_mapR ?_
    unfold f_M_layLogs_28 f_M_layLogs_30
    refine pw_cnt n (fun j s => s.1 = nI j ∧ hp_fr (S_ll m) h s.2 ∧ ∀ d, d < 100 → hp_i s.2 (m + 45) d = utv (mO dd mm tt uu v d j) ∧ hp_i s.2 (m + 46) d = nI (kO dd mm tt uu v d j)) ?_ ?_ 0 _ (by omega) ⟨rfl, H, fun d hd => e d hd⟩
    · rintro j ⟨w, g⟩ hj ⟨rfl, H, e⟩
      dsimp only at H e ⊢
      obtain ⟨b1, b2, b3⟩ := hb j hj
      have hl' : LGM n dd mm tt uu m g := ⟨by rw [hf_i H (by unfold S_ll; omega)]; exact hl.1, fun k hk => by
        obtain ⟨k1, k2, k3, k4⟩ := hl.2 k hk
        refine ⟨?_, ?_, ?_, ?_⟩
        all_goals rw [hf_i H (by unfold S_ll; omega)]
        all_goals assumption⟩
      obtain ⟨a1, a2, a3⟩ := R3_mo (hR (dd j) j (by omega))
      refine pw_L (Ml_body (MS_fr H hs) hn hj b1 b2 b3 hl' a1 a3 (e (dd j) b1).1 (e (dd j) b1).2) ⟨rfl, ?_, fun d hd => ?_⟩
      · dsimp only
        by_cases hc : cn tt uu v j = true
        · rw [if_pos hc]; exact hf_si (hf_si H (by unfold S_ll; omega)) (by unfold S_ll; omega)
        · rw [if_neg hc]; exact H
      · dsimp only
        obtain ⟨e3, e4⟩ := e d hd
        rw [mO_s, kO_s]
        by_cases hc : cn tt uu v j = true
        · rw [if_pos hc]
          by_cases hdd : dd j = d
          · rw [if_pos (show cn tt uu v j = true ∧ dd j = d from ⟨hc, hdd⟩), if_pos (show cn tt uu v j = true ∧ dd j = d from ⟨hc, hdd⟩)]
            constructor
            · rw [hp_i_si, if_pos ⟨rfl, hdd.symm⟩, utv_s (by omega)]; rfl
            · rw [hp_i_si, if_neg (by omega), hp_i_si, if_pos ⟨rfl, hdd.symm⟩, hdd]
          · rw [if_neg (show ¬ (cn tt uu v j = true ∧ dd j = d) from fun z => hdd z.2), if_neg (show ¬ (cn tt uu v j = true ∧ dd j = d) from fun z => hdd z.2)]
            constructor
            · rw [hp_i_si, if_neg (by omega), hp_i_si, if_neg (by omega)]; exact e3
            · rw [hp_i_si, if_neg (by omega), hp_i_si, if_neg (by omega)]; exact e4
        · rw [if_neg hc, if_neg (fun z => hc z.1), if_neg (fun z => hc z.1)]; exact ⟨e3, e4⟩
    · rintro ⟨w, g⟩ ⟨rfl, H, e⟩
      dsimp only at H e ⊢
      have l1 : hp_i g m 85 = nI n := by rw [hf_i H (by unfold S_ll; omega)]; exact hl.1
      have e0 : f_M_layLogs_30b m v (nI n) g = (f_M_layLogs_139 m g).map .inr := by
        simp (disch := omega) only [f_M_layLogs_30b, ↓xx_lE, ↓reduceIte, ↓bn_si, ↓bn_sl, ↓bn_s, ↓bn_ms, hp_i_si, hp_l_si, hp_r_si, hp_n_si, hp_i_sl, hp_l_sl, hp_r_sl, hp_n_sl, hp_i_sr, hp_l_sr, hp_r_sr, hp_n_sr, iL, nI_clamp, hp_in_nI, nI_add, pk_mul, pk_sub, c_le, c_nle, c_lt, c_nlt, c_ne, c_m1, c_m1', ad_ne, ad_ne', ad_ne2, nar0, nar1, true_and, false_and, and_true, and_false, Nat.add_zero, Nat.zero_add, l1]
      rw [e0]
      refine pw_mapR ?_
      unfold f_M_layLogs_139 f_M_layLogs_143
      have hg := MS_fr H hs
      let p : Nat → Bool := fun d => decide (kO dd mm tt uu v d n = 1)
      refine pw_cnt 100 (fun d s => s = (nI (fb_ct p d), nI d, g)) ?_ ?_ 0 _ (by omega) rfl
      · rintro d s hd rfl
        have hk2 := (R3_mo (hR d n (Nat.le_refl _))).2.2
        have hct := fb_ct_le p d
        refine pw_L (s := (nI (fb_ct p (d + 1)), nI (d + 1), g)) ?_ rfl
        rw [fb_ct_succ]
        have e5 := (e d hd).2
        by_cases hk : kO dd mm tt uu v d n = 1
        · have hp : p d = true := by simp only [p]; exact decide_eq_true hk
          rw [hk] at e5
          simp (disch := omega) only [f_M_layLogs_143b, f_M_layLogs_164, ↓xx_lE, ↓reduceIte, ↓bn_si, ↓bn_sl, ↓bn_s, ↓bn_ms, hp_i_si, hp_l_si, hp_r_si, hp_n_si, hp_i_sl, hp_l_sl, hp_r_sl, hp_n_sl, hp_i_sr, hp_l_sr, hp_r_sr, hp_n_sr, iL, nI_clamp, hp_in_nI, nI_add, pk_mul, pk_sub, c_le, c_nle, c_lt, c_nlt, c_ne, c_m1, c_m1', ad_ne, ad_ne', ad_ne2, nar0, nar1, true_and, false_and, and_true, and_false, Nat.add_zero, Nat.zero_add, ↓mb_84 hg, mn_46 hg, e5, hp]
        · have hp : p d = false := by simp only [p]; exact decide_eq_false hk
          rw [show kO dd mm tt uu v d n = 0 by omega] at e5
          simp (disch := omega) only [f_M_layLogs_143b, f_M_layLogs_164, ↓xx_lE, ↓reduceIte, ↓bn_si, ↓bn_sl, ↓bn_s, ↓bn_ms, hp_i_si, hp_l_si, hp_r_si, hp_n_si, hp_i_sl, hp_l_sl, hp_r_sl, hp_n_sl, hp_i_sr, hp_l_sr, hp_r_sr, hp_n_sr, iL, nI_clamp, hp_in_nI, nI_add, pk_mul, pk_sub, c_le, c_nle, c_lt, c_nlt, c_ne, c_m1, c_m1', ad_ne, ad_ne', ad_ne2, nar0, nar1, true_and, false_and, and_true, and_false, Nat.add_zero, Nat.zero_add, ↓mb_84 hg, mn_46 hg, e5, hp, Bool.false_eq_true]
      · rintro s rfl
        refine pw_R (t := (nI (fb_ct p 100), g)) ?_ ⟨rfl, H, fun d hd => (e d hd).1⟩
        simp (disch := omega) only [f_M_layLogs_143b, ↓xx_lE, ↓reduceIte, ↓bn_si, ↓bn_sl, ↓bn_s, ↓bn_ms, hp_i_si, hp_l_si, hp_r_si, hp_n_si, hp_i_sl, hp_l_sl, hp_r_sl, hp_n_sl, hp_i_sr, hp_l_sr, hp_r_sr, hp_n_sr, iL, nI_clamp, hp_in_nI, nI_add, pk_mul, pk_sub, c_le, c_nle, c_lt, c_nlt, c_ne, c_m1, c_m1', ad_ne, ad_ne', ad_ne2, nar0, nar1, true_and, false_and, and_true, and_false, Nat.add_zero, Nat.zero_add]
