/-! what an e is worth -/
theorem it_s {α : Type} {c : Prop} [Decidable c] {a b : α} {h : HP} : (if c then some (a, h) else some (b, h)) = some (if c then a else b, h) := by by_cases hc : c <;> simp [hc]
def wk (w : Nat) (x y : Int32) : Int32 := if w = 20 then (if x = 0 then (if y = 0 then 0 else 1) else 1) else if w = 21 then (if x = 0 then 0 else if y = 0 then 0 else 1) else if w = 23 then (if x = y then 1 else 0) else if w = 24 then (if y ≤ x then 0 else 1) else if w = 25 then (if x ≤ y then 0 else 1) else if w = 26 then x + y else if w = 27 then x - y else x * y
def ask (e : Nat → Nat) (w n : Nat) : Int32 := if w = 0 then nI n else nI (e w)
def up3 (f : Nat → Int32) (k : Nat) (v : Int32) : Nat → Int32 := fun j => if j = k then v else f j
/-- the pile behind n steps from a -/
def evs (fw fn e : Nat → Nat) (a : Nat) : Nat → (Nat → Int32)
  | 0 => fun _ => 0
  | n + 1 => if fw (a + n) < 20 then up3 (evs fw fn e a n) (dpt fw a n) (ask e (fw (a + n)) (fn (a + n))) else if fw (a + n) = 22 then up3 (evs fw fn e a n) (dpt fw a n - 1) (if evs fw fn e a n (dpt fw a n - 1) = 0 then 1 else 0) else up3 (evs fw fn e a n) (dpt fw a n - 2) (wk (fw (a + n)) (evs fw fn e a n (dpt fw a n - 2)) (evs fw fn e a n (dpt fw a n - 1)))
def va (P : PT) (e : Nat → Nat) (k : Nat) : Int32 := evs (p_fw P) (p_fn P) e (p_bd P k) (p_bd P (k + 1) - p_bd P k) 0
theorem bd_mono {P : PT} (ok : POK P) : ∀ j k, k + j ≤ 3 * p_nu P → p_bd P k ≤ p_bd P (k + j) := by
  have o := ok.2.2.2.2.2.2.2.2.2.2.2.2.1
  intro j
  induction j with
  | zero => intro k _; exact Nat.le_refl _
  | succ j ih => intro k hk; have := ih k (by omega); have := (o (k + j) (by omega)).1; rw [← Nat.add_assoc]; omega
theorem dpt_lt {fw : Nat → Nat} {a b : Nat} (h : wf fw a b) : ∀ n, n ≤ b - a → dpt fw a n ≤ 60 := by
  intro n
  induction n with
  | zero => intro _; simp [dpt]
  | succ n ih =>
    intro hn
    have := ih (by omega)
    have := h.2.2 n (by omega)
    unfold dpt
    by_cases h1 : fw (a + n) < 20
    · rw [if_pos h1]; omega
    · rw [if_neg h1]
      by_cases h2 : fw (a + n) = 22
      · rw [if_pos h2]; omega
      · rw [if_neg h2]; omega
theorem M_worked {w : Nat} {x y : Int32} {h : HP} (h1 : 20 ≤ w) (h2 : w ≠ 22) (h3 : w ≤ 28) : f_M_worked (nI w) x y h = some (wk w x y, h) := by
  have hw : w = 20 ∨ w = 21 ∨ w = 23 ∨ w = 24 ∨ w = 25 ∨ w = 26 ∨ w = 27 ∨ w = 28 := by omega
  rcases hw with rfl | rfl | rfl | rfl | rfl | rfl | rfl | rfl <;> (simp (disch := omega) only [f_M_worked, ↓xx_lE, ↓reduceIte, ↓bn_si, ↓bn_sl, ↓bn_s, ↓bn_ms, hp_i_si, hp_l_si, hp_r_si, hp_n_si, hp_i_sl, hp_l_sl, hp_r_sl, hp_n_sl, hp_i_sr, hp_l_sr, hp_r_sr, hp_n_sr, iL, nI_clamp, hp_in_nI, nI_add, pk_mul, pk_sub, c_le, c_nle, c_lt, c_nlt, c_ne, c_m1, c_m1', ad_ne, ad_ne', ad_ne2, nar0, nar1, true_and, false_and, and_true, and_false, Nat.add_zero, Nat.zero_add, wk, Nat.reduceEqDiff, it_s]; try (by_cases hx : x = nI 0 <;> by_cases hy : y = nI 0 <;> simp only [hx, hy, if_true, if_false]))
theorem X_joined {w n : Nat} {x y : Int32} {h : HP} (h1 : 20 ≤ w) (h2 : w ≠ 22) (h3 : w ≤ 28) : f_Pl_joined (xo w n) x y h = some (wk w x y, h) := by
  have hw : w = 20 ∨ w = 21 ∨ w = 23 ∨ w = 24 ∨ w = 25 ∨ w = 26 ∨ w = 27 ∨ w = 28 := by omega
  have d : ∀ a b : Nat, a ≠ b → a < 100 → b < 100 → ((-nI a : Int32) = -nI b) = False := fun a b h1 h2 h3 => eq_false (fun z => h1 (by
    have := congrArg Int32.toInt z
    rw [neg_toInt (by omega), neg_toInt (by omega)] at this
    omega))
  rcases hw with rfl | rfl | rfl | rfl | rfl | rfl | rfl | rfl <;> (simp (disch := omega) only [f_Pl_joined, ↓xx_lE, ↓reduceIte, ↓bn_si, ↓bn_sl, ↓bn_s, ↓bn_ms, hp_i_si, hp_l_si, hp_r_si, hp_n_si, hp_i_sl, hp_l_sl, hp_r_sl, hp_n_sl, hp_i_sr, hp_l_sr, hp_r_sr, hp_n_sr, iL, nI_clamp, hp_in_nI, nI_add, pk_mul, pk_sub, c_le, c_nle, c_lt, c_nlt, c_ne, c_m1, c_m1', ad_ne, ad_ne', ad_ne2, nar0, nar1, true_and, false_and, and_true, and_false, Nat.add_zero, Nat.zero_add, wk, xo, Nat.reduceEqDiff, Nat.reduceLT, d, it_s]; try (by_cases hx : x = nI 0 <;> by_cases hy : y = nI 0 <;> simp only [hx, hy, if_true, if_false]))
theorem M_asked {P : PT} {m i k : Nat} {h : HP} {e : Nat → Nat} (hs : MS m h) (ok : POK P) (hp : PM P m h) (hk : k < p_bd P (3 * p_nu P)) (hw : p_fw P k < 6) (hi : i < 6) (e1 : hp_i h m 51 = nI (e 1)) (e2 : hp_i h (m + 20) i = nI (e 2)) (e3 : hp_i h m 52 = nI (e 3)) (e4 : hp_i h (m + 21) i = nI (e 4)) (e5 : e 5 = p_nm P) : f_M_asked m (nI k) (nI i) h = some (ask e (p_fw P k) (p_fn P k), h) := by
  have hb := ok.2.2.2.2.2.2.2.2.2.2.2.2.2.1 _ (Nat.le_refl _)
  obtain ⟨_, _, _, _, _, p6, _, _, _, _, _, _, _, p14⟩ := hp
  obtain ⟨a1, a2⟩ := p14 k hk
  have hw : p_fw P k = 0 ∨ p_fw P k = 1 ∨ p_fw P k = 2 ∨ p_fw P k = 3 ∨ p_fw P k = 4 ∨ p_fw P k = 5 := by omega
  rcases hw with hw | hw | hw | hw | hw | hw <;> simp (disch := omega) only [f_M_asked, ↓xx_lE, ↓reduceIte, ↓bn_si, ↓bn_sl, ↓bn_s, ↓bn_ms, hp_i_si, hp_l_si, hp_r_si, hp_n_si, hp_i_sl, hp_l_sl, hp_r_sl, hp_n_sl, hp_i_sr, hp_l_sr, hp_r_sr, hp_n_sr, iL, nI_clamp, hp_in_nI, nI_add, pk_mul, pk_sub, c_le, c_nle, c_lt, c_nlt, c_ne, c_m1, c_m1', ad_ne, ad_ne', ad_ne2, nar0, nar1, true_and, false_and, and_true, and_false, Nat.add_zero, Nat.zero_add, hw, ask, ↓mb_39 hs, mn_15 hs, ↓mb_40 hs, mn_16 hs, a1, a2, e1, e2, e3, e4, e5, p6, ↓mb_47 hs, ↓mb_48 hs, mn_20 hs, mn_21 hs, Nat.reduceEqDiff]
def S_pile (m : Nat) : Nat → Nat → Prop := fun a _ => a = m + 19
theorem M_worth {P : PT} {m i r w : Nat} {h : HP} {e : Nat → Nat} (hs : MS m h) (ok : POK P) (hp : PM P m h) (hr : r < p_nu P) (hw : w < 3) (hi : i < 6) (e1 : hp_i h m 51 = nI (e 1)) (e2 : hp_i h (m + 20) i = nI (e 2)) (e3 : hp_i h m 52 = nI (e 3)) (e4 : hp_i h (m + 21) i = nI (e 4)) (e5 : e 5 = p_nm P) : pw (f_M_worth m (nI r) (nI w) (nI i) h) (fun x => x.1 = va P e (3 * r + w) ∧ hp_fr (S_pile m) h x.2) := by
  have hwf := ok.2.2.2.2.2.2.2.2.2.2.2.2.1 (3 * r + w) (by omega)
  have hb := ok.2.2.2.2.2.2.2.2.2.2.2.2.2.1
  have hb1 := hb (3 * r + w) (by omega)
  have hb2 := hb (3 * r + w + 1) (by omega)
  have hmono := bd_mono ok (3 * p_nu P - (3 * r + w + 1)) (3 * r + w + 1) (by omega)
  rw [show 3 * r + w + 1 + (3 * p_nu P - (3 * r + w + 1)) = 3 * p_nu P by omega] at hmono
  have hnu := ok.2.2.2.2.2.2.1
  have p13 := hp.2.2.2.2.2.2.2.2.2.2.2.2.1
  have p14 := hp.2.2.2.2.2.2.2.2.2.2.2.2.2
  have b1 := p13 (3 * r + w) (by omega) (by omega)
  have b2 := p13 (3 * r + w + 1) (by omega) (by omega)
  have hab := hwf.1
  have hd := dpt_lt hwf
  unfold f_M_worth f_M_worth_15
  simp (disch := omega) only [↓xx_lE, ↓reduceIte, ↓bn_si, ↓bn_sl, ↓bn_s, ↓bn_ms, hp_i_si, hp_l_si, hp_r_si, hp_n_si, hp_i_sl, hp_l_sl, hp_r_sl, hp_n_sl, hp_i_sr, hp_l_sr, hp_r_sr, hp_n_sr, iL, nI_clamp, hp_in_nI, nI_add, pk_mul, pk_sub, c_le, c_nle, c_lt, c_nlt, c_ne, c_m1, c_m1', ad_ne, ad_ne', ad_ne2, nar0, nar1, true_and, false_and, and_true, and_false, Nat.add_zero, Nat.zero_add, ↓mb_41 hs, mn_17 hs, b1]
  generalize hA : p_bd P (3 * r + w) = A at *
  generalize hB : p_bd P (3 * r + w + 1) = B at *
  refine pw_cnt (B - A) (fun n s => s.1 = nI (dpt (p_fw P) A n) ∧ s.2.1 = nI (A + n) ∧ hp_fr (S_pile m) h s.2.2 ∧ ∀ j, j < dpt (p_fw P) A n → hp_i s.2.2 (m + 19) j = evs (p_fw P) (p_fn P) e A n j) ?_ ?_ 0 _ (by omega) ?_
  · rintro n ⟨v4, v5, g⟩ hn ⟨rfl, rfl, H, hst⟩
    dsimp only at H hst
    have hg := MS_fr H hs
    have hpg : PM P m g := PM_ag (fun a k hk => hf_i H (by unfold F_PM at hk; unfold S_pile; omega)) hp
    have b2g : hp_i g (m + 17) (3 * r + w + 1) = nI B := by rw [hf_i H (by unfold S_pile; omega)]; exact b2
    have wg : hp_i g (m + 15) (A + n) = nI (p_fw P (A + n)) := (hpg.2.2.2.2.2.2.2.2.2.2.2.2.2 (A + n) (by omega)).1
    have hdn := hd n (by omega)
    rcases hwf.2.2 n hn with ⟨k1, k2⟩ | ⟨k1, k2⟩ | ⟨k1, k2, k3, k4⟩
    · have ha := M_asked (e := e) (k := A + n) (i := i) hg ok hpg (by omega) k1 hi (by rw [hf_i H (by unfold S_pile; omega)]; exact e1) (by rw [hf_i H (by unfold S_pile; omega)]; exact e2) (by rw [hf_i H (by unfold S_pile; omega)]; exact e3) (by rw [hf_i H (by unfold S_pile; omega)]; exact e4) e5
      refine pw_L (s := (nI (dpt (p_fw P) A n + 1), nI (A + n + 1), hp_si g (m + 19) (dpt (p_fw P) A n) (ask e (p_fw P (A + n)) (p_fn P (A + n))))) ?_ ⟨?_, rfl, hf_si H (by unfold S_pile; omega), fun j hj => ?_⟩
      · simp (disch := omega) only [f_M_worth_15b, f_M_worth_143, ↓xx_lE, ↓reduceIte, ↓bn_si, ↓bn_sl, ↓bn_s, ↓bn_ms, hp_i_si, hp_l_si, hp_r_si, hp_n_si, hp_i_sl, hp_l_sl, hp_r_sl, hp_n_sl, hp_i_sr, hp_l_sr, hp_r_sr, hp_n_sr, iL, nI_clamp, hp_in_nI, nI_add, pk_mul, pk_sub, c_le, c_nle, c_lt, c_nlt, c_ne, c_m1, c_m1', ad_ne, ad_ne', ad_ne2, nar0, nar1, true_and, false_and, and_true, and_false, Nat.add_zero, Nat.zero_add, ↓mb_41 hg, mn_17 hg, b2g, ↓mb_39 hg, mn_15 hg, wg, ↓bn_o ha, ↓mb_43 hg, mn_19 hg]
      · simp only [dpt]; rw [if_pos (by omega)]
      · simp only [dpt, if_pos (show p_fw P (A + n) < 20 by omega)] at hj
        simp only [evs, if_pos (show p_fw P (A + n) < 20 by omega), up3, hp_i_si, true_and]
        by_cases hj2 : j = dpt (p_fw P) A n
        · rw [if_pos hj2, if_pos hj2]
        · rw [if_neg hj2, if_neg hj2]; exact hst j (by omega)
    · have hv := hst (dpt (p_fw P) A n - 1) (by omega)
      refine pw_L (s := (nI (dpt (p_fw P) A n), nI (A + n + 1), hp_si g (m + 19) (dpt (p_fw P) A n - 1) (if evs (p_fw P) (p_fn P) e A n (dpt (p_fw P) A n - 1) = 0 then 1 else 0))) ?_ ⟨?_, rfl, hf_si H (by unfold S_pile; omega), fun j hj => ?_⟩
      · simp (disch := omega) only [f_M_worth_15b, f_M_worth_143, f_M_worth_101, ↓xx_lE, ↓reduceIte, ↓bn_si, ↓bn_sl, ↓bn_s, ↓bn_ms, hp_i_si, hp_l_si, hp_r_si, hp_n_si, hp_i_sl, hp_l_sl, hp_r_sl, hp_n_sl, hp_i_sr, hp_l_sr, hp_r_sr, hp_n_sr, iL, nI_clamp, hp_in_nI, nI_add, pk_mul, pk_sub, c_le, c_nle, c_lt, c_nlt, c_ne, c_m1, c_m1', ad_ne, ad_ne', ad_ne2, nar0, nar1, true_and, false_and, and_true, and_false, Nat.add_zero, Nat.zero_add, ↓mb_41 hg, mn_17 hg, b2g, ↓mb_39 hg, mn_15 hg, wg, k1, ↓mb_43 hg, mn_19 hg, hv]
        by_cases hx : evs (p_fw P) (p_fn P) e A n (dpt (p_fw P) A n - 1) = nI 0 <;> simp only [hx, if_true, if_false]
      · simp only [dpt]; rw [if_neg (by omega), if_pos k1]
      · simp only [dpt, if_neg (show ¬ p_fw P (A + n) < 20 by omega), if_pos k1] at hj
        simp only [evs, if_neg (show ¬ p_fw P (A + n) < 20 by omega), if_pos k1, up3, hp_i_si, true_and]
        by_cases hj2 : j = dpt (p_fw P) A n - 1
        · rw [if_pos hj2, if_pos hj2]
        · rw [if_neg hj2, if_neg hj2]; exact hst j (by omega)
    · have hv := hst (dpt (p_fw P) A n - 1) (by omega)
      have hv2 := hst (dpt (p_fw P) A n - 2) (by omega)
      have e0 : nI (dpt (p_fw P) A n) + (-nI 1) = nI (dpt (p_fw P) A n - 1) := by
        have := pk_m1 (dpt (p_fw P) A n - 1)
        rwa [show dpt (p_fw P) A n - 1 + 1 = dpt (p_fw P) A n by omega] at this
      refine pw_L (s := (nI (dpt (p_fw P) A n - 1), nI (A + n + 1), hp_si g (m + 19) (dpt (p_fw P) A n - 2) (wk (p_fw P (A + n)) (evs (p_fw P) (p_fn P) e A n (dpt (p_fw P) A n - 2)) (evs (p_fw P) (p_fn P) e A n (dpt (p_fw P) A n - 1))))) ?_ ⟨?_, rfl, hf_si H (by unfold S_pile; omega), fun j hj => ?_⟩
      · simp (disch := omega) only [f_M_worth_15b, f_M_worth_143, f_M_worth_101, ↓xx_lE, ↓reduceIte, ↓bn_si, ↓bn_sl, ↓bn_s, ↓bn_ms, hp_i_si, hp_l_si, hp_r_si, hp_n_si, hp_i_sl, hp_l_sl, hp_r_sl, hp_n_sl, hp_i_sr, hp_l_sr, hp_r_sr, hp_n_sr, iL, nI_clamp, hp_in_nI, nI_add, pk_mul, pk_sub, c_le, c_nle, c_lt, c_nlt, c_ne, c_m1, c_m1', ad_ne, ad_ne', ad_ne2, nar0, nar1, true_and, false_and, and_true, and_false, Nat.add_zero, Nat.zero_add, ↓mb_41 hg, mn_17 hg, b2g, ↓mb_39 hg, mn_15 hg, wg, ↓mb_43 hg, mn_19 hg, e0, Nat.sub_sub, Nat.reduceAdd, hv, hv2, M_worked]
      · simp only [dpt]; rw [if_neg (by omega), if_neg k2]
      · simp only [dpt, if_neg (show ¬ p_fw P (A + n) < 20 by omega), if_neg k2] at hj
        simp only [evs, if_neg (show ¬ p_fw P (A + n) < 20 by omega), if_neg k2, up3, hp_i_si, true_and]
        by_cases hj2 : j = dpt (p_fw P) A n - 2
        · rw [if_pos hj2, if_pos hj2]
        · rw [if_neg hj2, if_neg hj2]; exact hst j (by omega)
  · rintro ⟨v4, v5, g⟩ ⟨rfl, rfl, H, hst⟩
    dsimp only at H hst
    have hg := MS_fr H hs
    have b2g : hp_i g (m + 17) (3 * r + w + 1) = nI B := by rw [hf_i H (by unfold S_pile; omega)]; exact b2
    have h0 := hst 0 (by rw [hwf.2.1]; decide)
    refine pw_R (t := (evs (p_fw P) (p_fn P) e A (B - A) 0, g)) ?_ ⟨?_, H⟩
    · simp (disch := omega) only [f_M_worth_15b, ↓xx_lE, ↓reduceIte, ↓bn_si, ↓bn_sl, ↓bn_s, ↓bn_ms, hp_i_si, hp_l_si, hp_r_si, hp_n_si, hp_i_sl, hp_l_sl, hp_r_sl, hp_n_sl, hp_i_sr, hp_l_sr, hp_r_sr, hp_n_sr, iL, nI_clamp, hp_in_nI, nI_add, pk_mul, pk_sub, c_le, c_nle, c_lt, c_nlt, c_ne, c_m1, c_m1', ad_ne, ad_ne', ad_ne2, nar0, nar1, true_and, false_and, and_true, and_false, Nat.add_zero, Nat.zero_add, ↓mb_41 hg, mn_17 hg, b2g, ↓mb_43 hg, mn_19 hg, h0]
    · unfold va; rw [hA, hB]
  · exact ⟨rfl, rfl, hp_fr_rf h, fun j hj => absurd hj (by simp [dpt])⟩
def S_st (q : Nat) : Nat → Nat → Prop := fun a _ => a = q + 8
theorem xo_sees {w n : Nat} (h0 : w ≠ 0) (h1 : w < 6) : xo w n = -nI w := by unfold xo; rw [if_neg h0, if_pos (by omega)]
theorem xo_op {w n : Nat} (h1 : 20 ≤ w) (h3 : w ≤ 28) : ∃ j, 6 ≤ j ∧ j ≤ 14 ∧ xo w n = -nI j ∧ (w = 22 ↔ j = 8) := by
  have hw : w = 20 ∨ w = 21 ∨ w = 22 ∨ w = 23 ∨ w = 24 ∨ w = 25 ∨ w = 26 ∨ w = 27 ∨ w = 28 := by omega
  rcases hw with rfl | rfl | rfl | rfl | rfl | rfl | rfl | rfl | rfl
  · exact ⟨6, by decide, by decide, rfl, by decide⟩
  · exact ⟨7, by decide, by decide, rfl, by decide⟩
  · exact ⟨8, by decide, by decide, rfl, by decide⟩
  · exact ⟨11, by decide, by decide, rfl, by decide⟩
  · exact ⟨9, by decide, by decide, rfl, by decide⟩
  · exact ⟨10, by decide, by decide, rfl, by decide⟩
  · exact ⟨12, by decide, by decide, rfl, by decide⟩
  · exact ⟨13, by decide, by decide, rfl, by decide⟩
  · exact ⟨14, by decide, by decide, rfl, by decide⟩
theorem ng_lt {a b : Nat} (ha : a < 2 ^ 31) (hb : b < 2 ^ 31) : (-nI a < -nI b) = (b < a) := by
  rw [Int32.lt_iff_toInt_lt, neg_toInt ha, neg_toInt hb]; exact propext (by omega)
theorem ng_lt0 {a : Nat} (h : 0 < a) (ha : a < 2 ^ 31) : (-nI a < nI 0) = True := by
  rw [Int32.lt_iff_toInt_lt, neg_toInt ha, nI_toInt (by decide)]; exact eq_true (by omega)
theorem ng_nlt {a b : Nat} (ha : a < 2 ^ 31) (hb : b < 2 ^ 31) : (nI a < -nI b) = False := by
  rw [Int32.lt_iff_toInt_lt, neg_toInt hb, nI_toInt ha]; exact eq_false (by omega)
theorem ng_eq {a b : Nat} (ha : a < 2 ^ 31) (hb : b < 2 ^ 31) : (-nI a = -nI b) = (a = b) := by
  rw [← Int32.toInt_inj, neg_toInt ha, neg_toInt hb]; exact propext (by omega)
theorem ng_sub {a : Nat} (h : 0 < a) (ha : a < 100) : -nI 1 - (-nI a) = nI (a - 1) := by
  have : ∀ a, a < 100 → 0 < a → -nI 1 - (-nI a) = nI (a - 1) := by decide +kernel
  exact this a ha h
theorem X_value {P : PT} {q r w : Nat} {h : HP} {e : Nat → Nat} (hs : PSH q h) (ok : POK P) (hp : PX P q h) (hr : r < p_nu P) (hw : w < 3) (he : ∀ j, 0 < j → j < 6 → hp_i h (q + 7) (j - 1) = nI (e j)) : pw (f_Pl_valueOf q (nI r) (nI w) h) (fun x => x.1 = va P e (3 * r + w) ∧ hp_fr (S_st q) h x.2) := by
  have hwf := ok.2.2.2.2.2.2.2.2.2.2.2.2.1 (3 * r + w) (by omega)
  have hb := ok.2.2.2.2.2.2.2.2.2.2.2.2.2.1
  have hb1 := hb (3 * r + w) (by omega)
  have hb2 := hb (3 * r + w + 1) (by omega)
  have hb0 := ok.2.2.2.2.2.2.2.2.2.2.2.1
  have hfn := ok.2.2.2.2.2.2.2.2.2.2.2.2.2.2
  have hmono := bd_mono ok (3 * p_nu P - (3 * r + w + 1)) (3 * r + w + 1) (by omega)
  rw [show 3 * r + w + 1 + (3 * p_nu P - (3 * r + w + 1)) = 3 * p_nu P by omega] at hmono
  have hnu := ok.2.2.2.2.2.2.1
  have p13 := hp.2.2.2.2.2.2.2.2.2.2.2.2.1
  have b2 := p13 (3 * r + w) (by omega)
  have hab := hwf.1
  have hd := dpt_lt hwf
  have e3 : nI r * (nI 3) + nI w = nI (3 * r + w) := by rw [pk_mul, nI_add, Nat.mul_comm]
  have ent : f_Pl_valueOf q (nI r) (nI w) h = f_Pl_valueOf_22 q (nI (3 * r + w)) (nI (p_bd P (3 * r + w))) h := by
    unfold f_Pl_valueOf
    rw [show (3 : Int32) = nI 3 from rfl, e3]
    by_cases hc : 3 * r + w = 0
    · simp (disch := omega) only [↓xx_lE, ↓reduceIte, ↓bn_si, ↓bn_sl, ↓bn_s, ↓bn_ms, hp_i_si, hp_l_si, hp_r_si, hp_n_si, hp_i_sl, hp_l_sl, hp_r_sl, hp_n_sl, hp_i_sr, hp_l_sr, hp_r_sr, hp_n_sr, iL, nI_clamp, hp_in_nI, nI_add, pk_mul, pk_sub, c_le, c_nle, c_lt, c_nlt, c_ne, c_m1, c_m1', ad_ne, ad_ne', ad_ne2, nar0, nar1, true_and, false_and, and_true, and_false, Nat.add_zero, Nat.zero_add, hc, hb0]
    · have b1 := p13 (3 * r + w - 1) (by omega)
      rw [show 3 * r + w - 1 + 1 = 3 * r + w by omega] at b1
      simp (disch := omega) only [↓xx_lE, ↓reduceIte, ↓bn_si, ↓bn_sl, ↓bn_s, ↓bn_ms, hp_i_si, hp_l_si, hp_r_si, hp_n_si, hp_i_sl, hp_l_sl, hp_r_sl, hp_n_sl, hp_i_sr, hp_l_sr, hp_r_sr, hp_n_sr, iL, nI_clamp, hp_in_nI, nI_add, pk_mul, pk_sub, c_le, c_nle, c_lt, c_nlt, c_ne, c_m1, c_m1', ad_ne, ad_ne', ad_ne2, nar0, nar1, true_and, false_and, and_true, and_false, Nat.add_zero, Nat.zero_add, ↓pb_12 hs, pn_5 hs, b1]
  rw [ent]
  unfold f_Pl_valueOf_22 f_Pl_valueOf_31
  generalize hA : p_bd P (3 * r + w) = A at *
  generalize hB : p_bd P (3 * r + w + 1) = B at *
  refine pw_cnt (B - A) (fun n s => s.1 = nI (dpt (p_fw P) A n) ∧ s.2.1 = nI (A + n) ∧ hp_fr (S_st q) h s.2.2 ∧ ∀ j, j < dpt (p_fw P) A n → hp_i s.2.2 (q + 8) j = evs (p_fw P) (p_fn P) e A n j) ?_ ?_ 0 _ (by omega) ?_
  · rintro n ⟨v4, v5, g⟩ hn ⟨rfl, rfl, H, hst⟩
    dsimp only at H hst
    have hg := PSH_fr H hs
    have hpg : PX P q g := PX_ag (fun a k hk => hf_i H (by unfold F_PX at hk; unfold S_st; omega)) hp
    have b2g : hp_i g (q + 5) (3 * r + w) = nI B := by rw [hf_i H (by unfold S_st; omega)]; exact b2
    have wg : hp_i g (q + 6) (A + n) = xo (p_fw P (A + n)) (p_fn P (A + n)) := hpg.2.2.2.2.2.2.2.2.2.2.2.2.2 (A + n) (by omega)
    have hdn := hd n (by omega)
    have hfn1 := hfn (A + n)
    rcases hwf.2.2 n hn with ⟨k1, k2⟩ | ⟨k1, k2⟩ | ⟨k1, k2, k3, k4⟩
    · refine pw_L (s := (nI (dpt (p_fw P) A n + 1), nI (A + n + 1), hp_si g (q + 8) (dpt (p_fw P) A n) (ask e (p_fw P (A + n)) (p_fn P (A + n))))) ?_ ⟨?_, rfl, hf_si H (by unfold S_st; omega), fun j hj => ?_⟩
      · by_cases h0 : p_fw P (A + n) = 0
        · simp (disch := omega) only [f_Pl_valueOf_31b, f_Pl_valueOf_168, f_Pl_valueOf_80, f_Pl_push, ↓xx_lE, ↓reduceIte, ↓bn_si, ↓bn_sl, ↓bn_s, ↓bn_ms, hp_i_si, hp_l_si, hp_r_si, hp_n_si, hp_i_sl, hp_l_sl, hp_r_sl, hp_n_sl, hp_i_sr, hp_l_sr, hp_r_sr, hp_n_sr, iL, nI_clamp, hp_in_nI, nI_add, pk_mul, pk_sub, c_le, c_nle, c_lt, c_nlt, c_ne, c_m1, c_m1', ad_ne, ad_ne', ad_ne2, nar0, nar1, true_and, false_and, and_true, and_false, Nat.add_zero, Nat.zero_add, ↓pb_12 hg, pn_5 hg, b2g, ↓pb_13 hg, pn_6 hg, wg, h0, xo, ask, ng_nlt, ↓pb_16 hg, pn_8 hg]
        · have hev : hp_i g (q + 7) (p_fw P (A + n) - 1) = nI (e (p_fw P (A + n))) := by rw [hf_i H (by unfold S_st; omega)]; exact he _ (by omega) k1
          rw [xo_sees h0 k1] at wg
          simp (disch := omega) only [f_Pl_valueOf_31b, f_Pl_valueOf_168, f_Pl_valueOf_80, f_Pl_push, ↓xx_lE, ↓reduceIte, ↓bn_si, ↓bn_sl, ↓bn_s, ↓bn_ms, hp_i_si, hp_l_si, hp_r_si, hp_n_si, hp_i_sl, hp_l_sl, hp_r_sl, hp_n_sl, hp_i_sr, hp_l_sr, hp_r_sr, hp_n_sr, iL, nI_clamp, hp_in_nI, nI_add, pk_mul, pk_sub, c_le, c_nle, c_lt, c_nlt, c_ne, c_m1, c_m1', ad_ne, ad_ne', ad_ne2, nar0, nar1, true_and, false_and, and_true, and_false, Nat.add_zero, Nat.zero_add, ↓pb_12 hg, pn_5 hg, b2g, ↓pb_13 hg, pn_6 hg, wg, ng_lt, ng_lt0, show (5 < p_fw P (A + n)) = False from eq_false (by omega), ng_sub, ↓pb_15 hg, pn_7 hg, hev, ask, h0, ↓pb_16 hg, pn_8 hg]
      · simp only [dpt]; rw [if_pos (by omega)]
      · simp only [dpt, if_pos (show p_fw P (A + n) < 20 by omega)] at hj
        simp only [evs, if_pos (show p_fw P (A + n) < 20 by omega), up3, hp_i_si, true_and]
        by_cases hj2 : j = dpt (p_fw P) A n
        · rw [if_pos hj2, if_pos hj2]
        · rw [if_neg hj2, if_neg hj2]; exact hst j (by omega)
    · have hv := hst (dpt (p_fw P) A n - 1) (by omega)
      refine pw_L (s := (nI (dpt (p_fw P) A n), nI (A + n + 1), hp_si g (q + 8) (dpt (p_fw P) A n - 1) (if evs (p_fw P) (p_fn P) e A n (dpt (p_fw P) A n - 1) = 0 then 1 else 0))) ?_ ⟨?_, rfl, hf_si H (by unfold S_st; omega), fun j hj => ?_⟩
      · have wg' : xo (p_fw P (A + n)) (p_fn P (A + n)) = -nI 8 := by rw [k1]; rfl
        rw [wg'] at wg
        simp (disch := omega) only [f_Pl_valueOf_31b, f_Pl_valueOf_168, f_Pl_valueOf_125, ↓xx_lE, ↓reduceIte, ↓bn_si, ↓bn_sl, ↓bn_s, ↓bn_ms, hp_i_si, hp_l_si, hp_r_si, hp_n_si, hp_i_sl, hp_l_sl, hp_r_sl, hp_n_sl, hp_i_sr, hp_l_sr, hp_r_sr, hp_n_sr, iL, nI_clamp, hp_in_nI, nI_add, pk_mul, pk_sub, c_le, c_nle, c_lt, c_nlt, c_ne, c_m1, c_m1', ad_ne, ad_ne', ad_ne2, nar0, nar1, true_and, false_and, and_true, and_false, Nat.add_zero, Nat.zero_add, ↓pb_12 hg, pn_5 hg, b2g, ↓pb_13 hg, pn_6 hg, wg, ng_lt, Nat.reduceLT, ↓pb_16 hg, pn_8 hg, hv]
        by_cases hx : evs (p_fw P) (p_fn P) e A n (dpt (p_fw P) A n - 1) = nI 0 <;> simp only [hx, if_true, if_false]
      · simp only [dpt]; rw [if_neg (by omega), if_pos k1]
      · simp only [dpt, if_neg (show ¬ p_fw P (A + n) < 20 by omega), if_pos k1] at hj
        simp only [evs, if_neg (show ¬ p_fw P (A + n) < 20 by omega), if_pos k1, up3, hp_i_si, true_and]
        by_cases hj2 : j = dpt (p_fw P) A n - 1
        · rw [if_pos hj2, if_pos hj2]
        · rw [if_neg hj2, if_neg hj2]; exact hst j (by omega)
    · have hv := hst (dpt (p_fw P) A n - 1) (by omega)
      have hv2 := hst (dpt (p_fw P) A n - 2) (by omega)
      have e0 : nI (dpt (p_fw P) A n) + (-nI 1) = nI (dpt (p_fw P) A n - 1) := by
        have := pk_m1 (dpt (p_fw P) A n - 1)
        rwa [show dpt (p_fw P) A n - 1 + 1 = dpt (p_fw P) A n by omega] at this
      refine pw_L (s := (nI (dpt (p_fw P) A n - 1), nI (A + n + 1), hp_si g (q + 8) (dpt (p_fw P) A n - 2) (wk (p_fw P (A + n)) (evs (p_fw P) (p_fn P) e A n (dpt (p_fw P) A n - 2)) (evs (p_fw P) (p_fn P) e A n (dpt (p_fw P) A n - 1))))) ?_ ⟨?_, rfl, hf_si H (by unfold S_st; omega), fun j hj => ?_⟩
      · obtain ⟨jj, j1, j2, j3, j4⟩ := xo_op (n := p_fn P (A + n)) k1 k3
        have hjo := X_joined (n := p_fn P (A + n)) (x := evs (p_fw P) (p_fn P) e A n (dpt (p_fw P) A n - 2)) (y := evs (p_fw P) (p_fn P) e A n (dpt (p_fw P) A n - 1)) (h := g) k1 k2 k3
        rw [j3] at hjo wg
        have j5 : ¬ jj = 8 := fun z => k2 (j4.mpr z)
        simp (disch := omega) only [f_Pl_valueOf_31b, f_Pl_valueOf_168, f_Pl_valueOf_129, ↓xx_lE, ↓reduceIte, ↓bn_si, ↓bn_sl, ↓bn_s, ↓bn_ms, hp_i_si, hp_l_si, hp_r_si, hp_n_si, hp_i_sl, hp_l_sl, hp_r_sl, hp_n_sl, hp_i_sr, hp_l_sr, hp_r_sr, hp_n_sr, iL, nI_clamp, hp_in_nI, nI_add, pk_mul, pk_sub, c_le, c_nle, c_lt, c_nlt, c_ne, c_m1, c_m1', ad_ne, ad_ne', ad_ne2, nar0, nar1, true_and, false_and, and_true, and_false, Nat.add_zero, Nat.zero_add, ↓pb_12 hg, pn_5 hg, b2g, ↓pb_13 hg, pn_6 hg, wg, ng_lt, show (5 < jj) = True from eq_true (by omega), ng_eq, j5, e0, Nat.sub_sub, Nat.reduceAdd, hv, hv2, hjo, ↓pb_16 hg, pn_8 hg]
      · simp only [dpt]; rw [if_neg (by omega), if_neg k2]
      · simp only [dpt, if_neg (show ¬ p_fw P (A + n) < 20 by omega), if_neg k2] at hj
        simp only [evs, if_neg (show ¬ p_fw P (A + n) < 20 by omega), if_neg k2, up3, hp_i_si, true_and]
        by_cases hj2 : j = dpt (p_fw P) A n - 2
        · rw [if_pos hj2, if_pos hj2]
        · rw [if_neg hj2, if_neg hj2]; exact hst j (by omega)
  · rintro ⟨v4, v5, g⟩ ⟨rfl, rfl, H, hst⟩
    dsimp only at H hst
    have hg := PSH_fr H hs
    have b2g : hp_i g (q + 5) (3 * r + w) = nI B := by rw [hf_i H (by unfold S_st; omega)]; exact b2
    have h0 := hst 0 (by rw [hwf.2.1]; decide)
    refine pw_R (t := (evs (p_fw P) (p_fn P) e A (B - A) 0, g)) ?_ ⟨?_, H⟩
    · simp (disch := omega) only [f_Pl_valueOf_31b, f_Pl_valueOf_174, ↓xx_lE, ↓reduceIte, ↓bn_si, ↓bn_sl, ↓bn_s, ↓bn_ms, hp_i_si, hp_l_si, hp_r_si, hp_n_si, hp_i_sl, hp_l_sl, hp_r_sl, hp_n_sl, hp_i_sr, hp_l_sr, hp_r_sr, hp_n_sr, iL, nI_clamp, hp_in_nI, nI_add, pk_mul, pk_sub, c_le, c_nle, c_lt, c_nlt, c_ne, c_m1, c_m1', ad_ne, ad_ne', ad_ne2, nar0, nar1, true_and, false_and, and_true, and_false, Nat.add_zero, Nat.zero_add, ↓pb_12 hg, pn_5 hg, b2g, ↓pb_16 hg, pn_8 hg, hwf.2.1, Nat.sub_self, h0]
    · unfold va; rw [hA, hB]
  · exact ⟨rfl, rfl, hp_fr_rf h, fun j hj => absurd hj (by simp [dpt])⟩
