theorem SOL_fin {rr nx : Nat → Nat → Nat} {nm c n d : Nat} (hc : c ≠ 0) (hnx : ∀ s i, s < n → i < nm → rr s i = 0 → nx s i < n) (h : ∀ s, s < n → ¬ (sol rr nx nm c d s = 0 ∧ nea rr nx nm c (sol rr nx nm c d) (d + 1) s = true)) : SOL rr nx nm c n (sol rr nx nm c (d + 1)) := by
  have e : ∀ s, s < n → sol rr nx nm c (d + 1) s = sol rr nx nm c d s := fun s hs => by rw [sol, if_neg (h s hs)]
  refine SOL_of hc hnx (fun s hs => ⟨?_, ?_⟩) (fun s hs => .inl ?_)
  · have := sol_le rr nx nm c (d + 1) s; omega
  · rintro ⟨_, z⟩
    obtain ⟨i, hi, h3⟩ := nea_iff.mp z
    unfold nrb at h3
    rw [if_neg (by omega)] at h3
    simp only [Bool.and_eq_true, decide_eq_true_eq] at h3
    have ht := hnx s i hs hi h3.1
    have := sol_le rr nx nm c d (nx s i)
    have := e _ ht
    omega
  · have := sol_le rr nx nm c d s
    have := e s hs
    omega
/-! the reference's tables of it -/
def ncv (r x : Nat) : Int32 := if r = 1 then -2 else if r = 2 then -3 else nI x
theorem ncv_c {r x c : Nat} (hr : r < 3) (hx : x < 2 ^ 30) (hc : c = 1 ∨ c = 2) : (ncv r x = cvv c) ↔ r = c := by
  unfold ncv cvv
  have ne2 : ¬ nI x = (-2 : Int32) := fun z => (c_m1 (a := x) (n := 2) (by decide) (by omega) (by decide)).mp z
  have ne3 : ¬ nI x = (-3 : Int32) := fun z => (c_m1 (a := x) (n := 3) (by decide) (by omega) (by decide)).mp z
  have : r = 0 ∨ r = 1 ∨ r = 2 := by omega
  rcases this with h | h | h <;> rw [h] <;> rcases hc with rfl | rfl
  · rw [if_neg (by decide), if_neg (by decide), if_pos rfl]; exact ⟨fun z => absurd z ne2, fun z => absurd z (by decide)⟩
  · rw [if_neg (by decide), if_neg (by decide), if_neg (by decide)]; exact ⟨fun z => absurd z ne3, fun z => absurd z (by decide)⟩
  · rw [if_pos rfl, if_pos rfl]; exact ⟨fun _ => rfl, fun _ => rfl⟩
  · rw [if_pos rfl, if_neg (by decide)]; exact ⟨fun z => absurd z (by decide), fun z => absurd z (by decide)⟩
  · rw [if_neg (by decide), if_pos rfl, if_pos rfl]; exact ⟨fun z => absurd z (by decide), fun z => absurd z (by decide)⟩
  · rw [if_neg (by decide), if_pos rfl, if_neg (by decide)]; exact ⟨fun _ => rfl, fun _ => rfl⟩
theorem ncv_neg {r x : Nat} (hr : r < 3) (hx : x < 2 ^ 30) : (ncv r x < 0) ↔ r ≠ 0 := by
  unfold ncv
  have : r = 0 ∨ r = 1 ∨ r = 2 := by omega
  rcases this with h | h | h <;> rw [h]
  · rw [if_neg (by decide), if_neg (by decide)]; exact ⟨fun z => absurd z (nI_pos (by omega)), fun z => absurd rfl z⟩
  · rw [if_pos rfl]; exact ⟨fun _ => by decide, fun _ => by decide⟩
  · rw [if_neg (by decide), if_pos rfl]; exact ⟨fun _ => by decide, fun _ => by decide⟩
theorem ncv_0 (x : Nat) : ncv 0 x = nI x := by unfold ncv; rw [if_neg (by decide), if_neg (by decide)]
/-- the reference's table: n states, nm men, how each lead ends, where it goes -/
def TAB (m n nm : Nat) (rr nx : Nat → Nat → Nat) (g : HP) : Prop := MS m g ∧ n ≤ 5000 ∧ nm ≤ 6 ∧ hp_i g m 33 = nI nm ∧ hp_i g m 65 = nI n ∧ (∀ s i, s < n → i < nm → rr s i < 3) ∧ (∀ s i, s < n → i < nm → rr s i = 0 → nx s i < n) ∧ ∀ s i, s < n → i < nm → hp_i g (m + 29) (6 * s + i) = ncv (rr s i) (nx s i)
theorem TAB_fr {S : Nat → Nat → Prop} {m n nm : Nat} {rr nx : Nat → Nat → Nat} {h h' : HP} (H : hp_fr S h h') (hS : ∀ a k, S a k → ¬ (a = m ∧ (k = 33 ∨ k = 65)) ∧ a ≠ m + 29) (ht : TAB m n nm rr nx h) : TAB m n nm rr nx h' := by
  obtain ⟨a1, a2, a3, a4, a5, a6, a7, a8⟩ := ht
  refine ⟨MS_fr H a1, a2, a3, ?_, ?_, a6, a7, fun s i h1 h2 => ?_⟩
  · rw [hf_i H (fun z => (hS _ _ z).1 ⟨rfl, .inl rfl⟩)]; exact a4
  · rw [hf_i H (fun z => (hS _ _ z).1 ⟨rfl, .inr rfl⟩)]; exact a5
  · rw [hf_i H (fun z => (hS _ _ z).2 rfl)]; exact a8 s i h1 h2
theorem nxb {m n nm : Nat} {rr nx : Nat → Nat → Nat} {g : HP} (ht : TAB m n nm rr nx g) {s i : Nat} (hs : s < n) (hi : i < nm) : rr s i ≠ 0 ∨ nx s i < n := by
  by_cases h : rr s i = 0
  · exact .inr (ht.2.2.2.2.2.2.1 s i hs hi h)
  · exact .inl h
theorem ncv_c0 {r x : Nat} (hr : r ≠ 0) (h3 : r < 3) : ncv r x = ncv r 0 := by
  unfold ncv
  have : r = 1 ∨ r = 2 := by omega
  rcases this with h | h <;> rw [h]
  · rw [if_pos rfl, if_pos rfl]
  · rw [if_neg (by decide), if_pos rfl, if_neg (by decide), if_pos rfl]
theorem M_isNear {m n nm c s d : Nat} {rr nx : Nat → Nat → Nat} {sc : Nat → Nat} {g : HP} (ht : TAB m n nm rr nx g) (hc : c = 1 ∨ c = 2) (hs : s < n) (hd : 0 < d) (hd2 : d < 2 ^ 30) (hsc : ∀ t, t < n → hp_i g (m + 30) t = nI (sc t) ∧ sc t < 2 ^ 30) : f_M_isNear m (nI s) (cvv c) (nI d) g = some (nI (if nea rr nx nm c sc d s = true then 1 else 0), g) := by
  obtain ⟨hm, a2, a3, a4, a5, a6, a7, a8⟩ := id ht
  have key : pw (f_M_isNear m (nI s) (cvv c) (nI d) g) (fun r => r = (nI (if nea rr nx nm c sc d s = true then 1 else 0), g)) := by
    unfold f_M_isNear f_M_isNear_3
    refine pw_cnt nm (fun i t => t = (nI i, g) ∧ ∀ k, k < i → nrb rr nx c sc d s k = false) ?_ ?_ 0 _ (by omega) ⟨rfl, fun k hk => by omega⟩
    · rintro i t hi ⟨rfl, hk⟩
      have hr3 := a6 s i hs hi
      have go : nrb rr nx c sc d s i = false → pw (f_M_isNear_60 m (nI s) (cvv c) (nI d) (nI i) g) (xx_L2 (fun t => t = (nI (i + 1), g) ∧ ∀ k, k < i + 1 → nrb rr nx c sc d s k = false) (fun r => r = (nI (if nea rr nx nm c sc d s = true then 1 else 0), g))) := by
        intro hf
        unfold f_M_isNear_60
        rw [xx_lE]
        refine pw_some ⟨by rw [nI_1], fun k hk2 => ?_⟩
        by_cases hki : k = i
        · rw [hki]; exact hf
        · exact hk k (by omega)
      have yes : nrb rr nx c sc d s i = true → pw (some (Sum.inr ((1 : Int32), g) : (Int32 × HP) ⊕ (Int32 × HP))) (xx_L2 (fun t => t = (nI (i + 1), g) ∧ ∀ k, k < i + 1 → nrb rr nx c sc d s k = false) (fun r => r = (nI (if nea rr nx nm c sc d s = true then 1 else 0), g))) := by
        intro hf
        refine pw_some ?_
        show _ = _
        rw [if_pos (nea_iff.mpr ⟨i, hi, hf⟩)]; rfl
      unfold f_M_isNear_3b
      dsimp only
      rw [a4, if_neg (nI_ge hi (by omega)), mb_64 hm, show (6 : Int32) = nI 6 from rfl, pk_mul, nI_add, mn_29 hm, if_pos (hp_in_nI (by omega) (by omega)), nI_clamp (by omega), a8 s i hs hi, xx_lE]
      by_cases h1 : d = 1
      · subst h1
        rw [if_pos (show nI 1 = (1 : Int32) from rfl)]
        have enr : nrb rr nx c sc 1 s i = decide (rr s i = c) := by unfold nrb; rw [if_pos rfl]
        have hiff : (ncv (rr s i) (nx s i) = cvv c) ↔ rr s i = c := by
          rcases nxb ht hs hi with z | z
          · rw [ncv_c0 z hr3]; exact ncv_c hr3 (by decide) hc
          · exact ncv_c hr3 (by omega) hc
        by_cases hrc : rr s i = c
        · rw [if_pos (hiff.mpr hrc)]; exact yes (by rw [enr]; exact decide_eq_true hrc)
        · rw [if_neg (fun z => hrc (hiff.mp z))]; exact go (by rw [enr]; exact decide_eq_false hrc)
      · rw [if_neg (show ¬ nI d = (1 : Int32) from fun z => h1 ((nI_eq (b := 1) (by omega) (by decide)).mp z))]
        have enr : nrb rr nx c sc d s i = (decide (rr s i = 0) && decide (sc (nx s i) = d - 1)) := by unfold nrb; rw [if_neg h1]
        by_cases h0 : rr s i = 0
        · have hx := a7 s i hs hi h0
          rw [h0, ncv_0, if_neg (nI_pos (by omega)), mb_68 hm, mn_30 hm, if_pos (hp_in_nI (by omega) (by omega)), nI_clamp (by omega), (hsc _ hx).1, sub1 hd]
          have hb := (hsc _ hx).2
          by_cases he : sc (nx s i) = d - 1
          · rw [if_pos (by rw [he])]; exact yes (by rw [enr, decide_eq_true h0, decide_eq_true he]; rfl)
          · rw [if_neg (fun z => he ((nI_eq (by omega) (by omega)).mp z))]; exact go (by rw [enr, decide_eq_false he, Bool.and_false])
        · have hn : ncv (rr s i) (nx s i) < 0 := by
            rw [ncv_c0 h0 hr3]; exact (ncv_neg hr3 (by decide)).mpr h0
          rw [if_pos hn]; exact go (by rw [enr, decide_eq_false h0, Bool.false_and])
    · rintro t ⟨rfl, hk⟩
      unfold f_M_isNear_3b
      dsimp only
      rw [a4, if_pos (nI_le (Nat.le_refl _) (by omega))]
      refine pw_some ?_
      show _ = _
      have : ¬ nea rr nx nm c sc d s = true := fun z => by
        obtain ⟨i, hi, h3⟩ := nea_iff.mp z
        rw [hk i hi] at h3; exact absurd h3 (by decide)
      rw [if_neg this]; rfl
  obtain ⟨r, hr, rfl⟩ := key
  exact hr
/-- one round in place: the first s are done -/
def mix (rr nx : Nat → Nat → Nat) (nm c d s : Nat) : Nat → Nat := fun t => if t < s then sol rr nx nm c (d + 1) t else sol rr nx nm c d t
theorem nea_mix {rr nx : Nat → Nat → Nat} {nm c d s t : Nat} : nea rr nx nm c (mix rr nx nm c d t) (d + 1) s = nea rr nx nm c (sol rr nx nm c d) (d + 1) s := by
  have e : ∀ i, nrb rr nx c (mix rr nx nm c d t) (d + 1) s i = nrb rr nx c (sol rr nx nm c d) (d + 1) s i := by
    intro i
    unfold nrb
    by_cases h1 : d + 1 = 1
    · rw [if_pos h1, if_pos h1]
    · rw [if_neg h1, if_neg h1]
      congr 1
      have : (mix rr nx nm c d t (nx s i) = d + 1 - 1) ↔ (sol rr nx nm c d (nx s i) = d + 1 - 1) := by
        unfold mix
        split
        · rw [show d + 1 - 1 = d by omega, sol_keep (e := d) (by omega) (d + 1) (by omega)]
        · exact Iff.rfl
      by_cases h2 : sol rr nx nm c d (nx s i) = d + 1 - 1
      · rw [decide_eq_true h2, decide_eq_true (this.mpr h2)]
      · rw [decide_eq_false h2, decide_eq_false (fun z => h2 (this.mp z))]
  unfold nea
  rw [show nrb rr nx c (mix rr nx nm c d t) (d + 1) s = nrb rr nx c (sol rr nx nm c d) (d + 1) s from funext e]
def addd (rr nx : Nat → Nat → Nat) (nm c d s : Nat) : Bool := decide (sol rr nx nm c d s = 0) && nea rr nx nm c (sol rr nx nm c d) (d + 1) s
theorem M_round {m n nm c d : Nat} {rr nx : Nat → Nat → Nat} {h : HP} (ht : TAB m n nm rr nx h) (hc : c = 1 ∨ c = 2) (hd : d ≤ 5001) (hcell : ∀ t, t < n → hp_i h (m + 30) t = nI (sol rr nx nm c d t)) : pw (f_M_laySoon_36 m (cvv c) (nI (d + 1)) (nI 0) (nI 0) h) (fun r => match r with | .inl t => t.1 = nI (if 0 < fb_ct (addd rr nx nm c d) n then 1 else 0) ∧ t.2.1 = nI (d + 2) ∧ hp_fr (fun a _ => a = m + 30) h t.2.2 ∧ ∀ s, s < n → hp_i t.2.2 (m + 30) s = nI (sol rr nx nm c (d + 1) s) | .inr _ => False) := by
  unfold f_M_laySoon_36
  refine pw_cnt n (fun s t => t.1 = nI (if 0 < fb_ct (addd rr nx nm c d) s then 1 else 0) ∧ t.2.1 = nI s ∧ hp_fr (fun a _ => a = m + 30) h t.2.2 ∧ ∀ k, k < n → hp_i t.2.2 (m + 30) k = nI (mix rr nx nm c d s k)) ?_ ?_ 0 (nI 0, nI 0, h) (by omega) ?_
  · rintro s ⟨u, w, g⟩ hs ⟨rfl, rfl, H, e⟩
    dsimp only at H e ⊢
    have htg := TAB_fr H (by omega) ht
    obtain ⟨hm, a2, a3, a4, a5, a6, a7, a8⟩ := id htg
    have es : hp_i g (m + 30) s = nI (sol rr nx nm c d s) := by rw [e s hs]; unfold mix; rw [if_neg (by omega)]
    have hsl := sol_le rr nx nm c d s
    have hmx : ∀ t, t < n → hp_i g (m + 30) t = nI (mix rr nx nm c d s t) ∧ mix rr nx nm c d s t < 2 ^ 30 := fun t h1 => ⟨e t h1, by
      unfold mix; split
      · have := sol_le rr nx nm c (d + 1) t; omega
      · have := sol_le rr nx nm c d t; omega⟩
    -- going on with flag u
    have go : ∀ (k : HP) (b : Bool), hp_fr (fun a _ => a = m + 30) h k → addd rr nx nm c d s = b → (∀ j, j < n → hp_i k (m + 30) j = nI (mix rr nx nm c d (s + 1) j)) → pw (f_M_laySoon_79 m (cvv c) (if b = true then 1 else nI (if 0 < fb_ct (addd rr nx nm c d) s then 1 else 0)) (nI (d + 1)) (nI s) k) (xx_L2 (fun t => t.1 = nI (if 0 < fb_ct (addd rr nx nm c d) (s + 1) then 1 else 0) ∧ t.2.1 = nI (s + 1) ∧ hp_fr (fun a _ => a = m + 30) h t.2.2 ∧ ∀ j, j < n → hp_i t.2.2 (m + 30) j = nI (mix rr nx nm c d (s + 1) j)) (fun r => match r with | .inl t => t.1 = nI (if 0 < fb_ct (addd rr nx nm c d) n then 1 else 0) ∧ t.2.1 = nI (d + 2) ∧ hp_fr (fun a _ => a = m + 30) h t.2.2 ∧ ∀ s, s < n → hp_i t.2.2 (m + 30) s = nI (sol rr nx nm c (d + 1) s) | .inr _ => False)) := by
      intro k b K hb hk
      unfold f_M_laySoon_79
      rw [xx_lE]
      refine pw_some ⟨?_, nI_1 s, K, hk⟩
      dsimp only
      rw [fb_ct_succ, hb]
      cases b
      · simp
      · simp; rfl
    unfold f_M_laySoon_36b
    rw [a5, if_neg (nI_ge hs (by omega)), mb_68 hm, mn_30 hm, if_pos (hp_in_nI (by omega) (by omega)), nI_clamp (by omega), es]
    by_cases hz : sol rr nx nm c d s = 0
    · rw [hz, if_neg (show ¬ (0 : Int32) < nI 0 by decide), bn_o (M_isNear htg hc hs (by omega) (by omega) hmx)]
      dsimp only
      rw [nea_mix]
      by_cases hn : nea rr nx nm c (sol rr nx nm c d) (d + 1) s = true
      · rw [if_pos hn, if_neg (show ¬ nI 1 = (0 : Int32) by decide), mb_68 hm, mn_30 hm, if_pos (hp_in_nI (by omega) (by omega)), xx_lE]
        refine go _ true (hf_si H rfl) (by unfold addd; rw [decide_eq_true hz, hn]; rfl) (fun j hj => ?_)
        rw [hp_i_si]
        by_cases hjs : j = s
        · subst hjs; rw [if_pos ⟨rfl, rfl⟩]; unfold mix; rw [if_pos (by omega), sol, if_pos ⟨hz, hn⟩]
        · rw [if_neg (fun z => hjs z.2), e j hj]; unfold mix
          by_cases hl : j < s
          · rw [if_pos hl, if_pos (by omega)]
          · rw [if_neg hl, if_neg (by omega)]
      · rw [if_neg hn, if_pos (show nI 0 = (0 : Int32) from rfl)]
        refine go g false H (by unfold addd; rw [bool_f hn, Bool.and_false]) (fun j hj => ?_)
        rw [e j hj]; unfold mix
        by_cases hjs : j = s
        · subst hjs; rw [if_neg (by omega), if_pos (by omega), sol, if_neg (fun z => hn z.2)]
        · by_cases hl : j < s
          · rw [if_pos hl, if_pos (by omega)]
          · rw [if_neg hl, if_neg (by omega)]
    · rw [if_pos (show (0 : Int32) < nI _ from nI_lt (a := 0) (by omega) (by omega))]
      refine go g false H (by unfold addd; rw [decide_eq_false hz, Bool.false_and]) (fun j hj => ?_)
      rw [e j hj]; unfold mix
      by_cases hjs : j = s
      · subst hjs; rw [if_neg (by omega), if_pos (by omega), sol, if_neg (fun z => hz z.1)]
      · by_cases hl : j < s
        · rw [if_pos hl, if_pos (by omega)]
        · rw [if_neg hl, if_neg (by omega)]
  · rintro ⟨u, w, g⟩ ⟨rfl, rfl, H, e⟩
    dsimp only at H e ⊢
    have htg := TAB_fr H (by omega) ht
    unfold f_M_laySoon_36b f_M_laySoon_85
    rw [htg.2.2.2.2.1, if_pos (nI_le (Nat.le_refl _) (by have := htg.2.1; omega)), xx_lE]
    refine pw_mapR (pw_some ⟨rfl, nI_1 (d + 1), H, fun s hs => ?_⟩)
    dsimp only; rw [e s hs]; unfold mix; rw [if_pos hs]
  · exact ⟨by simp [fb_ct], rfl, hp_fr_rf h, fun k hk => by dsimp only; rw [hcell k hk]; unfold mix; rw [if_neg (by omega)]⟩
theorem M_laySoon {m n nm c : Nat} {rr nx : Nat → Nat → Nat} {h : HP} (ht : TAB m n nm rr nx h) (hc : c = 1 ∨ c = 2) : pw (f_M_laySoon m (cvv c) h) (fun g => hp_fr (fun a _ => a = m + 30) h g ∧ ∃ so : Nat → Nat, SOL rr nx nm c n so ∧ ∀ s, s < n → so s ≤ 5002 ∧ hp_i g (m + 30) s = nI (so s)) := by
  obtain ⟨hm, a2, a3, a4, a5, a6, a7, a8⟩ := id ht
  unfold f_M_laySoon f_M_laySoon_2
  refine pw_cnt n (fun i t => t.1 = nI i ∧ hp_fr (fun a _ => a = m + 30) h t.2 ∧ ∀ k, k < i → hp_i t.2 (m + 30) k = nI 0) ?_ ?_ 0 (nI 0, h) (by omega) ⟨rfl, hp_fr_rf h, fun k hk => by omega⟩
  · rintro i ⟨w, g⟩ hi ⟨rfl, H, e⟩
    dsimp only at H e ⊢
    have hg := MS_fr H hm
    have g5 : hp_i g m 65 = nI n := by rw [hf_i H (by omega)]; exact a5
    refine pw_L (s := (nI (i + 1), hp_si g (m + 30) i (nI 0))) ?_ ⟨rfl, hf_si H rfl, fun k hk => ?_⟩
    · simp (disch := omega) only [f_M_laySoon_2b, ↓xx_lE, ↓reduceIte, ↓bn_si, ↓bn_sl, ↓bn_s, ↓bn_ms, hp_i_si, hp_l_si, hp_r_si, hp_n_si, hp_i_sl, hp_l_sl, hp_r_sl, hp_n_sl, hp_i_sr, hp_l_sr, hp_r_sr, hp_n_sr, iL, nI_clamp, hp_in_nI, nI_add, pk_mul, pk_sub, c_le, c_nle, c_lt, c_nlt, c_ne, c_m1, c_m1', ad_ne, ad_ne', ad_ne2, nar0, nar1, true_and, false_and, and_true, and_false, Nat.add_zero, Nat.zero_add, g5, ↓mb_68 hg, mn_30 hg]
    · dsimp only; rw [hp_i_si]
      by_cases hk2 : k = i
      · rw [if_pos ⟨rfl, hk2⟩]
      · rw [if_neg (fun z => hk2 z.2)]; exact e k (by omega)
  · rintro ⟨w, g⟩ ⟨rfl, H, e⟩
    dsimp only at H e ⊢
    have g5 : hp_i g m 65 = nI n := by rw [hf_i H (by omega)]; exact a5
    have e0 : f_M_laySoon_2b m (cvv c) (nI n) g = (f_M_laySoon_23 m (cvv c) g).map .inr := by
      simp (disch := omega) only [f_M_laySoon_2b, ↓xx_lE, ↓reduceIte, ↓bn_si, ↓bn_sl, ↓bn_s, ↓bn_ms, hp_i_si, hp_l_si, hp_r_si, hp_n_si, hp_i_sl, hp_l_sl, hp_r_sl, hp_n_sl, hp_i_sr, hp_l_sr, hp_r_sr, hp_n_sr, iL, nI_clamp, hp_in_nI, nI_add, pk_mul, pk_sub, c_le, c_nle, c_lt, c_nlt, c_ne, c_m1, c_m1', ad_ne, ad_ne', ad_ne2, nar0, nar1, true_and, false_and, and_true, and_false, Nat.add_zero, Nat.zero_add, g5]
    rw [e0]
    refine pw_mapR ?_
    unfold f_M_laySoon_23 f_M_laySoon_27
    -- a round that adds makes more
    have more : ∀ d, fb_ct (fun s => !decide (sol rr nx nm c d s = 0)) n + fb_ct (addd rr nx nm c d) n ≤ fb_ct (fun s => !decide (sol rr nx nm c (d + 1) s = 0)) n := by
      intro d
      rw [← fb_ct_or]
      · refine fb_ct_sub (fun k hk h1 => ?_)
        simp only [Bool.or_eq_true] at h1
        rw [sol]
        rcases h1 with z | z
        · have hz : ¬ sol rr nx nm c d k = 0 := by simpa using z
          rw [if_neg (fun w => hz w.1)]; simpa using hz
        · unfold addd at z
          simp only [Bool.and_eq_true, decide_eq_true_eq] at z
          rw [if_pos z]; simp
      · rintro k hk ⟨h1, h2⟩
        unfold addd at h2
        simp only [Bool.and_eq_true, decide_eq_true_eq] at h2
        simp [h2.1] at h1
    refine pw_cnt (n + 1) (fun d t => t.2.1 = nI (d + 1) ∧ hp_fr (fun a _ => a = m + 30) h t.2.2 ∧ (∀ s, s < n → hp_i t.2.2 (m + 30) s = nI (sol rr nx nm c d s)) ∧ ((t.1 = nI 1 ∧ d ≤ fb_ct (fun s => !decide (sol rr nx nm c d s = 0)) n) ∨ (t.1 = nI 0 ∧ ∃ d', d = d' + 1 ∧ fb_ct (addd rr nx nm c d') n = 0))) ?_ ?_ 0 (nI 1, nI 1, g) (by omega) ?_
    · rintro d ⟨u, w, k⟩ hd ⟨rfl, K, ek, hcase⟩
      dsimp only at K ek hcase ⊢
      unfold f_M_laySoon_27b
      rcases hcase with ⟨rfl, hct⟩ | ⟨rfl, d', rfl, hct⟩
      · rw [if_neg (show ¬ nI 1 = (0 : Int32) by decide)]
        refine pw_mono (M_round (TAB_fr K (by omega) ht) hc (by omega) ek) ?_
        rintro (t | t) htt
        · obtain ⟨t1, t2, t3, t4⟩ := htt
          refine ⟨t2, hp_fr_tr K t3, t4, ?_⟩
          by_cases hp : 0 < fb_ct (addd rr nx nm c d) n
          · rw [if_pos hp] at t1
            exact .inl ⟨t1, by have := more d; omega⟩
          · rw [if_neg hp] at t1
            exact .inr ⟨t1, d, rfl, by omega⟩
        · exact absurd htt (fun z => z)
      · rw [if_pos (show nI 0 = (0 : Int32) from rfl)]
        refine pw_some ⟨K, sol rr nx nm c (d' + 1), SOL_fin (by rcases hc with rfl | rfl <;> decide) a7 (fun s hs z => ?_), fun s hs => ⟨?_, ek s hs⟩⟩
        · have := fb_ct_zero.mp hct s hs
          unfold addd at this
          rw [decide_eq_true z.1, z.2] at this; exact absurd this (by decide)
        · have := sol_le rr nx nm c (d' + 1) s; omega
    · rintro ⟨u, w, k⟩ ⟨rfl, K, ek, hcase⟩
      dsimp only at K ek hcase ⊢
      unfold f_M_laySoon_27b
      rcases hcase with ⟨rfl, hct⟩ | ⟨rfl, d', hdd, hct⟩
      · have := fb_ct_le (fun s => !decide (sol rr nx nm c (n + 1) s = 0)) n
        omega
      · rw [if_pos (show nI 0 = (0 : Int32) from rfl)]
        rw [hdd] at ek
        refine pw_some ⟨K, sol rr nx nm c (d' + 1), SOL_fin (by rcases hc with rfl | rfl <;> decide) a7 (fun s hs z => ?_), fun s hs => ⟨?_, ek s hs⟩⟩
        · have := fb_ct_zero.mp hct s hs
          unfold addd at this
          rw [decide_eq_true z.1, z.2] at this; exact absurd this (by decide)
        · have := sol_le rr nx nm c (d' + 1) s; omega
    · exact ⟨rfl, H, fun s hs => e s hs, .inl ⟨rfl, Nat.zero_le _⟩⟩
