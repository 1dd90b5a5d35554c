/-! a state packed and unpacked -/
def cd (N t : Nat) : Nat := N + 2 ^ 54 * t
theorem cd_lt {N t : Nat} (hN : N < 2 ^ 54) (ht : t < 2) : cd N t < 2 ^ 55 := by unfold cd; simp only [Nat.reducePow] at *; omega
theorem cd_N {N t : Nat} (hN : N < 2 ^ 54) : cd N t % 2 ^ 54 = N := by unfold cd; simp only [Nat.reducePow] at *; omega
theorem cd_t {N t : Nat} (hN : N < 2 ^ 54) : cd N t / 2 ^ 54 = t := by unfold cd; simp only [Nat.reducePow] at *; omega
theorem cd_of (E : Nat) : cd (E % 2 ^ 54) (E / 2 ^ 54) = E := by unfold cd; simp only [Nat.reducePow] at *; omega
theorem cd_inj {N t M u : Nat} (hN : N < 2 ^ 54) (hM : M < 2 ^ 54) (h : cd N t = cd M u) : N = M ∧ t = u := by unfold cd at h; simp only [Nat.reducePow] at *; omega
theorem v_low {N t : Nat} (hN : N < 2 ^ 54) (ht : t < 2) : pk (cd N t) % 2 ^ 7 = lm N + 4 * dy N + 64 * t := by unfold pk cd lm dy; simp only [Nat.reducePow] at *; omega
theorem v_ow {N t i : Nat} (hN : N < 2 ^ 54) (ht : t < 2) (hi : i < 6) : pk (cd N t) / 2 ^ (7 + 8 * i) % 256 = ow N i := by
  rcases six hi with rfl | rfl | rfl | rfl | rfl | rfl <;> (unfold pk cd ow; simp only [Nat.reduceMul, Nat.reduceAdd, Nat.reducePow] at *; omega)
theorem v_step {N t i : Nat} (hN : N < 2 ^ 54) (ht : t < 2) (hi : i < 6) : pk (cd N t) % 2 ^ (7 + 8 * (i + 1)) = pk (cd N t) % 2 ^ (7 + 8 * i) + ow N i * 2 ^ (7 + 8 * i) := by
  rw [← v_ow hN ht hi]
  generalize pk (cd N t) = V
  rcases six hi with rfl | rfl | rfl | rfl | rfl | rfl <;> (simp only [Nat.reduceMul, Nat.reduceAdd, Nat.reducePow] at *; omega)
theorem ob : ∀ a, a < 32 → ∀ v, v < 4 → (nI a ||| (nI v <<< ((5 : Int32) &&& 31))) ||| (0 : Int32) = nI (a + 32 * v) ∧ (nI a ||| (nI v <<< ((5 : Int32) &&& 31))) ||| (128 : Int32) = nI (a + 32 * v + 128) := by decide +kernel
theorem sh7 (i : Nat) : (7 : Int32) + (8 : Int32) * nI i = nI (7 + 8 * i) := by
  rw [show (8 : Int32) = nI 8 from rfl, show (7 : Int32) = nI 7 from rfl, pk_mul, nI_add]
theorem M_packed {m N t : Nat} {h : HP} (hs : MS m h) (hN : N < 2 ^ 54) (ht : t < 2) (hc : CM m N h) (h67 : hp_i h m 67 = nI t) : f_M_packed m h = some (lN (pk (cd N t)), h) := by
  obtain ⟨c1, c2, c3⟩ := hc
  have hl := lm_lt N
  have hdd := dy_lt N
  have key : pw (f_M_packed_31 m (lN (pk (cd N t) % 2 ^ (7 + 8 * 0))) (nI 0) h) (fun r => r = (lN (pk (cd N t)), h)) := by
    unfold f_M_packed_31
    refine pw_cnt 6 (fun i s => s = (lN (pk (cd N t) % 2 ^ (7 + 8 * i)), nI i, h)) ?_ ?_ 0 _ (by omega) rfl
    · rintro i s hi rfl
      obtain ⟨z1, z2, z3⟩ := c3 i hi
      have hh := hd_lt N i
      have hv := vs_lt N i
      have hb := be_lt N i
      have ho := ow_eq N i
      have ho2 := ow_lt N i
      refine pw_L (s := (lN (pk (cd N t) % 2 ^ (7 + 8 * (i + 1))), nI (i + 1), h)) ?_ rfl
      have fin : ∀ s0 : Int32, (nI (hd N i) ||| (nI (vs N i) <<< ((5 : Int32) &&& 31))) ||| s0 = nI (ow N i) → f_M_packed_69 m (nI i) s0 (nI (hd N i) ||| (nI (vs N i) <<< ((5 : Int32) &&& 31))) (lN (pk (cd N t) % 2 ^ (7 + 8 * i))) h = some (.inl (lN (pk (cd N t) % 2 ^ (7 + 8 * (i + 1))), nI (i + 1), h)) := by
        intro s0 e
        have hm : pk (cd N t) % 2 ^ (7 + 8 * i) < 2 ^ (7 + 8 * i) := Nat.mod_lt _ (Nat.two_pow_pos _)
        have hp55 : 2 ^ (7 + 8 * i) ≤ 2 ^ 47 := Nat.pow_le_pow_right (by decide) (by omega)
        have hmul : ow N i * 2 ^ (7 + 8 * i) ≤ 255 * 2 ^ 47 := Nat.mul_le_mul (by omega) hp55
        unfold f_M_packed_69
        rw [e, nI_l (by omega), sh7, wb_shl _ (by omega), xx_lE, xx_lE, g_or' (k := 7 + 8 * i) rfl hm (by omega), nI_1, ← v_step hN ht hi]
      unfold f_M_packed_31b
      dsimp only
      rw [if_neg (show ¬ (6 : Int32) ≤ nI i from nI_ge (b := 6) hi (by decide)), mb_47 hs, mn_20 hs, if_pos (hp_in_nI hi (by omega)), mb_48 hs, mn_21 hs, if_pos (hp_in_nI hi (by omega)), mb_50 hs, mn_23 hs, if_pos (hp_in_nI hi (by omega)), nI_clamp (by omega), z1, z2, z3]
      have : be N i = 0 ∨ be N i = 1 := by omega
      rcases this with e | e
      · rw [e, if_pos (show nI 0 = (0 : Int32) from rfl)]; exact fin 0 (by rw [(ob _ hh _ hv).1, ho, e]; rfl)
      · rw [e, if_neg (show ¬ nI 1 = (0 : Int32) by decide)]; exact fin 128 (by rw [(ob _ hh _ hv).2, ho, e])
    · rintro s rfl
      refine pw_R (t := (lN (pk (cd N t)), h)) ?_ rfl
      unfold f_M_packed_31b
      dsimp only
      rw [if_pos (show (6 : Int32) ≤ nI 6 by decide), Nat.mod_eq_of_lt (pk_lt55 (cd_lt hN ht))]
  obtain ⟨r, hr, rfl⟩ := key
  have e0 : ((nI (lm N)).toInt64 ||| ((nI (dy N)).toInt64 <<< (((2 : Int32)).toInt64 &&& 63))) = lN (lm N + dy N * 2 ^ 2) := by
    rw [nI_l (by omega), nI_l (by omega), show (2 : Int32) = nI 2 from rfl, wb_shl _ (by decide), g_or' (k := 2) rfl (by omega) (by omega)]
  have e1 : pk (cd N t) % 2 ^ (7 + 8 * 0) = lm N + dy N * 2 ^ 2 + t * 2 ^ 6 := by rw [show 7 + 8 * 0 = 7 from rfl, v_low hN ht]; omega
  unfold f_M_packed f_M_packed_27
  rw [h67, c1, c2, e0]
  have : t = 0 ∨ t = 1 := by omega
  rcases this with rfl | rfl
  · rw [if_pos (show nI 0 = (0 : Int32) from rfl), xx_lE, show (0 : Int64) = lN (0 * 2 ^ 6) from rfl, g_or' (k := 6) rfl (by omega) (by omega), ← e1]; exact hr
  · rw [if_neg (show ¬ nI 1 = (0 : Int32) by decide), xx_lE, show (64 : Int64) = lN (1 * 2 ^ 6) from rfl, g_or' (k := 6) rfl (by omega) (by omega), ← e1]; exact hr
theorem sra {a k : Nat} (ha : a < 2 ^ 62) (hk : k < 64) : lN a >>> ((nI k).toInt64 &&& 63) = lN (a / 2 ^ k) := by
  refine pf_shr ?_ ha
  rw [wb_c k hk, wb_tb, wb_sm k hk, BitVec.toNat_ofNat, Nat.mod_eq_of_lt (by omega)]
theorem un_bits : ∀ o, o < 256 → nI o &&& (31 : Int32) = nI (o % 32) ∧ (nI o >>> ((5 : Int32) &&& 31)) &&& (3 : Int32) = nI (o / 32 % 4) := by decide +kernel
def F_C3 (m : Nat) : Nat → Nat → Prop := fun a k => a = m ∧ k = 67 ∨ a = m + 20 ∨ a = m + 21 ∨ a = m + 23
def F_CU (m : Nat) : Nat → Nat → Prop := fun a k => a = m ∧ (k = 51 ∨ k = 52 ∨ k = 67) ∨ a = m + 20 ∨ a = m + 21 ∨ a = m + 23
theorem M_unpack {m N t : Nat} {h : HP} (hs : MS m h) (hN : N < 2 ^ 54) (ht : t < 2) : pw (f_M_unpack m (lN (pk (cd N t))) h) (fun g => hp_fr (F_CU m) h g ∧ CM m N g ∧ hp_i g m 67 = nI t) := by
  have hV := pk_lt55 (cd_lt hN ht)
  have hl := lm_lt N
  have hdd := dy_lt N
  have vl := v_low hN ht
  have e1 : ((lN (pk (cd N t)) &&& (3 : Int64))).toInt32 = nI (lm N) := by
    rw [show (3 : Int64) = lN (2 ^ 2 - 1) from rfl, fb_maskL, lN_i]; congr 1; omega
  have e2 : (((lN (pk (cd N t)) >>> (((2 : Int32)).toInt64 &&& 63)) &&& (15 : Int64))).toInt32 = nI (dy N) := by
    rw [show (2 : Int32) = nI 2 from rfl, sra (by omega) (by decide), show (15 : Int64) = lN (2 ^ 4 - 1) from rfl, fb_maskL, lN_i]; congr 1; omega
  have e3 : (lg_cmp (lN (pk (cd N t)) &&& (64 : Int64)) (0 : Int64) = 0) ↔ t = 0 := by
    rw [lg_cmp_eq, show (64 : Int64) = lN (2 ^ 6) from rfl, fb_bitL (by decide), Nat.testBit_eq_decide_div_mod_eq, decide_eq_false_iff_not]
    omega
  have h38 : ∀ g : HP, MS m g → pw (f_M_unpack_38 m (lN (pk (cd N t))) (nI t) m g) (fun g' => hp_fr (F_C3 m) g g' ∧ hp_i g' m 67 = nI t ∧ ∀ i, i < 6 → hp_i g' (m + 20) i = nI (hd N i) ∧ hp_i g' (m + 21) i = nI (vs N i) ∧ hp_i g' (m + 23) i = nI (be N i)) := by
    intro g hg
    unfold f_M_unpack_38
    rw [if_pos (z01 ht), xx_lE]
    unfold f_M_unpack_43
    refine pw_cnt 6 (fun i s => s.1 = nI i ∧ hp_fr (F_C3 m) g s.2 ∧ hp_i s.2 m 67 = nI t ∧ ∀ k, k < i → hp_i s.2 (m + 20) k = nI (hd N k) ∧ hp_i s.2 (m + 21) k = nI (vs N k) ∧ hp_i s.2 (m + 23) k = nI (be N k)) ?_ ?_ 0 _ (by omega) ⟨rfl, hf_si (hp_fr_rf g) (by unfold F_C3; omega), by rw [hp_i_si, if_pos ⟨rfl, rfl⟩], fun k hk => by omega⟩
    · rintro i ⟨w, k⟩ hi ⟨rfl, H, e67, e⟩
      dsimp only at H e67 e ⊢
      have hk := MS_fr H hg
      have ho2 := ow_lt N i
      have hb := be_lt N i
      have own : (((lN (pk (cd N t)) >>> ((((7 : Int32) + ((8 : Int32) * nI i))).toInt64 &&& 63)) &&& (255 : Int64))).toInt32 = nI (ow N i) := by
        rw [sh7, sra (by omega) (by omega), show (255 : Int64) = lN (2 ^ 8 - 1) from rfl, fb_maskL, lN_i, show (2 : Nat) ^ 8 = 256 from rfl, v_ow hN ht hi]
      obtain ⟨u1, u2⟩ := un_bits _ ho2
      have hbe : (ow N i < 128 ∧ be N i = 0) ∨ (¬ ow N i < 128 ∧ be N i = 1) := by unfold be; omega
      refine pw_L (s := (nI (i + 1), hp_si (hp_si (hp_si k (m + 20) i (nI (hd N i))) (m + 21) i (nI (vs N i))) (m + 23) i (nI (be N i)))) ?_ ⟨rfl, ?_, ?_, fun j hj => ?_⟩
      · unfold f_M_unpack_43b
        rw [if_neg (show ¬ (6 : Int32) ≤ nI i from nI_ge (b := 6) hi (by decide)), own, xx_lE, mb_47 hk, mn_20 hk, if_pos (hp_in_nI hi (by omega)), nI_clamp (by omega), xx_lE]
        rw [show ∀ z : Int32, hp_r (hp_si k (m + 20) i z) m 48 = some (m + 21) from fun z => mr_48 hk, bn_s, show ∀ z : Int32, hp_n (hp_si k (m + 20) i z) (m + 21) = 6 from fun z => mn_21 hk, if_pos (hp_in_nI hi (by omega)), xx_lE]
        rw [show ∀ z y : Int32, hp_r (hp_si (hp_si k (m + 20) i z) (m + 21) i y) m 50 = some (m + 23) from fun z y => mr_50 hk, bn_s, u1, u2]
        rcases hbe with ⟨b1, b2⟩ | ⟨b1, b2⟩
        · rw [if_pos (show nI (ow N i) < (128 : Int32) from nI_lt (b := 128) b1 (by decide)), b2]
          unfold f_M_unpack_106
          rw [show ∀ z y : Int32, hp_n (hp_si (hp_si k (m + 20) i z) (m + 21) i y) (m + 23) = 6 from fun z y => mn_23 hk, if_pos (hp_in_nI hi (by omega)), nI_clamp (by omega), xx_lE, xx_lE, nI_1]; rfl
        · rw [if_neg (show ¬ nI (ow N i) < (128 : Int32) from nI_nlt (b := 128) (by omega) (by omega)), b2]
          unfold f_M_unpack_106
          rw [show ∀ z y : Int32, hp_n (hp_si (hp_si k (m + 20) i z) (m + 21) i y) (m + 23) = 6 from fun z y => mn_23 hk, if_pos (hp_in_nI hi (by omega)), nI_clamp (by omega), xx_lE, xx_lE, nI_1]; rfl
      · exact hf_si (hf_si (hf_si H (by unfold F_C3; omega)) (by unfold F_C3; omega)) (by unfold F_C3; omega)
      · simpa [hp_i_si] using e67
      · by_cases hj2 : j = i
        · subst hj2; simp [hp_i_si]
        · have := e j (by omega)
          simpa [hp_i_si, hj2] using this
    · rintro ⟨w, k⟩ ⟨rfl, H, e67, e⟩
      refine pw_R (t := k) ?_ ⟨H, e67, e⟩
      unfold f_M_unpack_43b
      dsimp only
      rw [if_pos (show (6 : Int32) ≤ nI 6 by decide)]
  unfold f_M_unpack
  rw [e1, xx_lE, e2, xx_lE]
  have fin : pw (f_M_unpack_38 m (lN (pk (cd N t))) (nI t) m (hp_si (hp_si h m 51 (nI (lm N))) m 52 (nI (dy N)))) (fun g => hp_fr (F_CU m) h g ∧ CM m N g ∧ hp_i g m 67 = nI t) := by
    have H0 : hp_fr (F_CU m) h (hp_si (hp_si h m 51 (nI (lm N))) m 52 (nI (dy N))) := hf_si (hf_si (hp_fr_rf h) (by unfold F_CU; omega)) (by unfold F_CU; omega)
    have h38' := h38 _ (MS_fr H0 hs)
    refine pw_mono h38' ?_
    rintro g ⟨H, e67, e⟩
    refine ⟨hp_fr_tr H0 (hp_fr_mo H (by unfold F_C3 F_CU; omega)), ⟨?_, ?_, e⟩, e67⟩
    · rw [hf_i H (by unfold F_C3; omega)]; simp [hp_i_si]
    · rw [hf_i H (by unfold F_C3; omega)]; simp [hp_i_si]
  have : t = 0 ∨ t = 1 := by omega
  rcases this with rfl | rfl
  · rw [if_pos (e3.mpr rfl)]; exact fin
  · rw [if_neg (fun z => by have := e3.mp z; omega)]; exact fin
