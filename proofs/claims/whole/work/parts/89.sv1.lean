/-! where each state comes from: the first lead to it; days to it -/
def edg (P : PT) (f : Nat → Nat) (p : Nat) : Bool := decide (p % 8 < p_nm P) && decide (oS P (f (p / 8) % 2 ^ 54) (p % 8) = 0)
def ffp (P : PT) (f : Nat → Nat) (j : Nat) : Nat := fa_first (fun p => edg P f p && decide (tg P f (p / 8) (p % 8) = f j)) (8 * j)
theorem edg_at {P : PT} {f : Nat → Nat} {s i : Nat} (hi : i < p_nm P) (hn : p_nm P ≤ 6) : edg P f (8 * s + i) = decide (oS P (f s % 2 ^ 54) i = 0) := by
  unfold edg
  rw [show (8 * s + i) % 8 = i by omega, show (8 * s + i) / 8 = s by omega, decide_eq_true hi]; rfl
theorem first_cong {p q : Nat → Bool} : ∀ n, (∀ k, k < n → p k = q k) → fa_first p n = fa_first q n := by
  intro n h
  by_cases hc : fa_first q n < n
  · exact first_eq hc (by rw [h _ hc]; exact fa_first_yes q n hc) (fun k hk => by rw [h k (by omega)]; exact fa_first_no q n k hk)
  · have hq : fa_first q n = n := by have := fa_first_le q n; omega
    rw [hq]
    exact first_no (fun k hk => by rw [h k hk]; exact fa_first_no q n k (by omega))
theorem ffp_x {P : PT} {B C : BT} {j : Nat} (hx : xtd B C) (hj : j < B.1) : ffp P C.2.1 j = ffp P B.2.1 j := by
  unfold ffp
  refine first_cong _ (fun p hp => ?_)
  have hs : p / 8 < B.1 := by omega
  unfold edg tg
  rw [hx.2.1 _ hs, hx.2.1 j hj]
/-- parents: each comes from an earlier one, later ones from later leads; all from ahead of p -/
def PAR (P : PT) (st : Nat) (B : BT) (p : Nat) : Prop := ∀ j, st ≤ j → j < B.1 → ffp P B.2.1 j < 8 * j ∧ ffp P B.2.1 j < p ∧ ∀ k, st ≤ k → k < j → ffp P B.2.1 k < ffp P B.2.1 j
theorem PAR_mo {P : PT} {st p q : Nat} {B : BT} (h : PAR P st B p) (hpq : p ≤ q) : PAR P st B q := fun j h1 h2 => ⟨(h j h1 h2).1, by have := (h j h1 h2).2.1; omega, (h j h1 h2).2.2⟩
theorem PAR_new {P : PT} {st s i v : Nat} {B : BT} (hn : p_nm P ≤ 6) (hi : i < p_nm P) (hs : s < B.1) (hst : st ≤ B.1) (h0 : B.2.2 = false) (hc : CLP P B (8 * s + i)) (hv : v = tg P B.2.1 s i) (ho : oS P (B.2.1 s % 2 ^ 54) i = 0) (hid : idx B.2.1 B.1 v = B.1) (h : PAR P st B (8 * s + i)) : PAR P st (B.1 + 1, upN B.2.1 B.1 v, false) (8 * s + i + 1) ∧ ffp P (upN B.2.1 B.1 v) B.1 = 8 * s + i := by
  have hx : xtd B (B.1 + 1, upN B.2.1 B.1 v, false) := ⟨Nat.le_succ _, fun j hj => upN_n (by omega), fun z => by rw [h0] at z; exact absurd z (by decide)⟩
  have hf : ∀ k, k < B.1 → upN B.2.1 B.1 v k = B.2.1 k := fun k hk => upN_n (by omega)
  have hnew : ffp P (upN B.2.1 B.1 v) B.1 = 8 * s + i := by
    unfold ffp
    refine first_eq (by omega) ?_ (fun k hk => ?_)
    · rw [edg_at hi hn, hf s hs, decide_eq_true ho]
      show decide (_ = _) = true
      refine decide_eq_true ?_
      rw [upN_s, show (8 * s + i) % 8 = i by omega, show (8 * s + i) / 8 = s by omega]
      have e : tg P (upN B.2.1 B.1 v) s i = tg P B.2.1 s i := by unfold tg; rw [hf s hs]
      rw [e]; exact hv.symm
    · by_cases hm : k % 8 < p_nm P
      · have hks : k / 8 < B.1 := by omega
        by_cases hok : oS P (B.2.1 (k / 8) % 2 ^ 54) (k % 8) = 0
        · have hin := hc (k / 8) (k % 8) hm (by omega) hks hok
          have hne : tg P B.2.1 (k / 8) (k % 8) ≠ v := fun z => by rw [z] at hin; omega
          rw [upN_s]
          have e : tg P (upN B.2.1 B.1 v) (k / 8) (k % 8) = tg P B.2.1 (k / 8) (k % 8) := by unfold tg; rw [hf _ hks]
          rw [e, decide_eq_false hne, Bool.and_false]
        · unfold edg
          rw [hf _ hks, decide_eq_false hok, Bool.and_false, Bool.false_and]
      · unfold edg
        rw [decide_eq_false hm, Bool.false_and, Bool.false_and]
  refine ⟨fun j h1 h2 => ?_, hnew⟩
  by_cases hj : j = B.1
  · subst hj
    refine ⟨?_, ?_, fun k k1 k2 => ?_⟩
    · show ffp P (upN B.2.1 B.1 v) B.1 < _; rw [hnew]; omega
    · show ffp P (upN B.2.1 B.1 v) B.1 < _; rw [hnew]; omega
    · show ffp P (upN B.2.1 B.1 v) k < ffp P (upN B.2.1 B.1 v) B.1
      rw [hnew, ffp_x (C := (B.1 + 1, upN B.2.1 B.1 v, false)) hx k2]
      exact (h k k1 k2).2.1
  · have hj2 : j < B.1 := by have : j < B.1 + 1 := h2; omega
    obtain ⟨a1, a2, a3⟩ := h j h1 hj2
    rw [ffp_x hx hj2]
    refine ⟨a1, by omega, fun k k1 k2 => ?_⟩
    rw [ffp_x hx (by omega)]; exact a3 k k1 k2
/-- days to a state -/
def dpF (ff : Nat → Nat) (st : Nat) : Nat → Nat → Nat
  | 0, _ => 0
  | k + 1, j => if j < st then 0 else dpF ff st k (ff j / 8) + 1
def dp (ff : Nat → Nat) (st j : Nat) : Nat := dpF ff st (j + 1) j
theorem dpF_eq {ff : Nat → Nat} {st M : Nat} (h : ∀ j, st ≤ j → j < M → ff j / 8 < j) : ∀ a b j, j < a → j < b → j < M → dpF ff st a j = dpF ff st b j := by
  intro a
  induction a with
  | zero => intro b j hj; omega
  | succ a ih =>
    intro b j ha hb hM
    cases b with
    | zero => omega
    | succ b =>
      unfold dpF
      by_cases hs : j < st
      · rw [if_pos hs, if_pos hs]
      · rw [if_neg hs, if_neg hs]
        have h1 := h j (by omega) hM
        rw [ih b (ff j / 8) (by omega) (by omega) (by omega)]
theorem dp_0 {ff : Nat → Nat} {st j : Nat} (h : j < st) : dp ff st j = 0 := by unfold dp dpF; rw [if_pos h]
theorem dp_s {ff : Nat → Nat} {st M j : Nat} (h : ∀ j, st ≤ j → j < M → ff j / 8 < j) (h1 : st ≤ j) (h2 : j < M) : dp ff st j = dp ff st (ff j / 8) + 1 := by
  have h3 := h j h1 h2
  unfold dp
  rw [dpF, if_neg (by omega), dpF_eq h j (ff j / 8 + 1) (ff j / 8) (by omega) (by omega) (by omega)]
theorem dp_lt {ff : Nat → Nat} {st M : Nat} (h : ∀ j, st ≤ j → j < M → ff j / 8 < j) : ∀ j, j < M → dp ff st j ≤ j := by
  intro j
  induction j using Nat.strongRecOn with
  | ind j ih =>
    intro hM
    by_cases hs : j < st
    · rw [dp_0 hs]; omega
    · have h1 := h j (by omega) hM
      rw [dp_s h (by omega) hM]
      have := ih (ff j / 8) h1 (by omega)
      omega
/-- the e-th ahead of j -/
def anc (ff : Nat → Nat) (j : Nat) : Nat → Nat
  | 0 => j
  | e + 1 => ff (anc ff j e) / 8
theorem anc_dp {ff : Nat → Nat} {st M j : Nat} (h : ∀ j, st ≤ j → j < M → ff j / 8 < j) (hj : j < M) : ∀ e, e ≤ dp ff st j → anc ff j e < M ∧ dp ff st (anc ff j e) = dp ff st j - e := by
  intro e
  induction e with
  | zero => intro _; exact ⟨hj, rfl⟩
  | succ e ih =>
    intro he
    obtain ⟨i1, i2⟩ := ih (by omega)
    have hs : st ≤ anc ff j e := by
      refine Nat.le_of_not_lt (fun z => ?_)
      rw [dp_0 z] at i2; omega
    have h1 := h _ hs i1
    have h2 := dp_s h hs i1
    refine ⟨by show ff (anc ff j e) / 8 < M; omega, ?_⟩
    show dp ff st (ff (anc ff j e) / 8) = _
    omega
theorem anc_st {ff : Nat → Nat} {st M j : Nat} (h : ∀ j, st ≤ j → j < M → ff j / 8 < j) (hj : j < M) {e : Nat} (he : e < dp ff st j) : st ≤ anc ff j e := by
  obtain ⟨i1, i2⟩ := anc_dp h hj e (by omega)
  refine Nat.le_of_not_lt (fun z => ?_)
  rw [dp_0 z] at i2; omega
theorem anc_end {ff : Nat → Nat} {st M j : Nat} (h : ∀ j, st ≤ j → j < M → ff j / 8 < j) (hj : j < M) : anc ff j (dp ff st j) < st := by
  obtain ⟨i1, i2⟩ := anc_dp h hj (dp ff st j) (Nat.le_refl _)
  refine Nat.lt_of_not_le (fun z => ?_)
  have := dp_s h z i1
  omega
/-! the class: daysTo, keepRow -/
def CFX (sv st n : Nat) (ff : Nat → Nat) (h : HP) : Prop := hp_r h sv 13 = some (sv + 9) ∧ hp_n h (sv + 9) = 5000 ∧ n ≤ 5000 ∧ st ≤ n ∧ (∀ j, st ≤ j → j < n → ff j / 8 < j) ∧ ∀ j, j < n → hp_i h (sv + 9) j = if j < st then -1 else nI (ff j)
theorem CFX_fr {S : Nat → Nat → Prop} {sv st n : Nat} {ff : Nat → Nat} {h h' : HP} (H : hp_fr S h h') (hS : ∀ a k, S a k → a ≠ sv + 9) (hc : CFX sv st n ff h) : CFX sv st n ff h' := by
  obtain ⟨c1, c2, c3, c4, c5, c6⟩ := hc
  refine ⟨by rw [hp_fr_r H]; exact c1, by rw [hp_fr_n H]; exact c2, c3, c4, c5, fun j hj => ?_⟩
  rw [hf_i H (fun z => hS _ _ z rfl)]; exact c6 j hj
theorem am1 (a : Int32) : a + (-1 : Int32) = a - 1 := (Int32.sub_eq_add_neg a 1).symm
theorem shr3 {a : Nat} (h : a < 2 ^ 31) : nI a >>> ((3 : Int32) &&& 31) = nI (a / 8) := pk_shrN h _ 3 (by decide)
theorem and7 (a : Nat) : nI a &&& (7 : Int32) = nI (a % 8) := fa_mask a 3
theorem ffb {sv st n : Nat} {ff : Nat → Nat} {h : HP} (hc : CFX sv st n ff h) {j : Nat} (h1 : st ≤ j) (h2 : j < n) : ff j < 40000 := by
  obtain ⟨c1, c2, c3, c4, c5, c6⟩ := hc
  have := c5 j h1 h2
  omega
theorem X_daysTo {sv st n j : Nat} {ff : Nat → Nat} {h : HP} (hc : CFX sv st n ff h) (hj : j < n) : f_Sv_daysTo sv (nI j) h = some (nI (dp ff st j), h) := by
  obtain ⟨c1, c2, c3, c4, c5, c6⟩ := id hc
  have hd := dp_lt c5 j hj
  have key : pw (f_Sv_daysTo sv (nI j) h) (fun r => r = (nI (dp ff st j), h)) := by
    unfold f_Sv_daysTo f_Sv_daysTo_4
    refine pw_cnt (dp ff st j) (fun e t => t = (nI e, nI (anc ff j e), h)) ?_ ?_ 0 _ (by omega) rfl
    · rintro e t he rfl
      have a1 := (anc_dp c5 hj e (by omega)).1
      have a2 := anc_st c5 hj he
      have a3 := ffb hc a2 a1
      refine pw_L (s := (nI (e + 1), nI (anc ff j (e + 1)), h)) ?_ rfl
      unfold f_Sv_daysTo_4b
      dsimp only
      rw [if_neg (show ¬ (5000 : Int32) ≤ nI e from nI_ge (b := 5000) (by omega) (by decide)), bn_o c1, c2, if_pos (hp_in_nI (by omega) (by omega)), nI_clamp (by omega), c6 _ a1, if_neg (show ¬ anc ff j e < st by omega), if_neg (i_m1lt (by omega)), bn_o c1, c2, if_pos (hp_in_nI (by omega) (by omega))]
      simp only [xx_lE]
      rw [c6 _ a1, if_neg (show ¬ anc ff j e < st by omega), shr3 (by omega), nI_1]; rfl
    · rintro t rfl
      have a1 := (anc_dp c5 hj (dp ff st j) (Nat.le_refl _)).1
      have a2 := anc_end c5 hj
      refine pw_R (t := (nI (dp ff st j), h)) ?_ rfl
      unfold f_Sv_daysTo_4b
      dsimp only
      rw [if_neg (show ¬ (5000 : Int32) ≤ nI (dp ff st j) from nI_ge (b := 5000) (by omega) (by decide)), bn_o c1, c2, if_pos (hp_in_nI (by omega) (by omega)), nI_clamp (by omega), c6 _ a1, if_pos a2, if_pos rfl]
  obtain ⟨r, hr, rfl⟩ := key
  exact hr
theorem X_member {s lim n j : Nat} {f : Nat → Nat} {h : HP} (hs : SSX s lim n f h) (hj : j < n) : f_Ss_member s (nI j) h = some (lN (f j), h) := by
  obtain ⟨a1, a2, a3, a4, a5, a6, a7, a8, a9, _⟩ := hs
  unfold f_Ss_member
  rw [if_neg (nI_pos (by omega)), a3, if_neg (nI_ge hj (by omega)), bn_o a5, a7, if_pos (hp_in_nI (by omega) (by omega)), nI_clamp (by omega), (a9 j hj).2]
/-- the row to j and the man led there, as the class keeps it -/
def RWS (sv st : Nat) (f ff : Nat → Nat) (j i : Nat) (h : HP) : Prop := hp_i h sv 9 = nI (dp ff st j + 1) ∧ hp_i h sv 10 = nI (lm (f (anc ff j (dp ff st j)))) ∧ hp_i h (sv + 6) (dp ff st j) = nI i ∧ ∀ k, k < dp ff st j → hp_i h (sv + 6) k = nI (ff (anc ff j (dp ff st j - 1 - k)) % 8)
def S_kr (sv : Nat) : Nat → Nat → Prop := fun a k => a = sv ∧ (k = 9 ∨ k = 10) ∨ a = sv + 6
theorem X_keepRow {sv st lim n j i : Nat} {f ff : Nat → Nat} {h : HP} (hc : CFX sv st n ff h) (hset : SSX (sv + 3) lim n f h) (r1 : hp_r h sv 1 = some (sv + 3)) (r2 : hp_r h sv 2 = some (sv + 6)) (n6 : hp_n h (sv + 6) = 5000) (hj : j < n) (hi : i < 6) : pw (f_Sv_keepRow sv (nI j) (nI i) h) (fun g => hp_fr (S_kr sv) h g ∧ RWS sv st f ff j i g) := by
  obtain ⟨c1, c2, c3, c4, c5, c6⟩ := id hc
  have hd := dp_lt c5 j hj
  unfold f_Sv_keepRow
  rw [bn_o (X_daysTo hc hj)]
  simp only [xx_lE]
  rw [nI_1]
  let h2 := hp_si h sv 9 (nI (dp ff st j + 1))
  have e9 : hp_i h2 sv 9 = nI (dp ff st j + 1) := by simp only [h2]; rw [hp_i_si, if_pos ⟨rfl, rfl⟩]
  show pw ((hp_r h2 sv 2).bind _) _
  rw [show hp_r h2 sv 2 = some (sv + 6) from r2, bn_s, e9, sub1 (by omega), show dp ff st j + 1 - 1 = dp ff st j by omega, show hp_n h2 (sv + 6) = 5000 from n6, if_pos (hp_in_nI (by omega) (by omega)), nI_clamp (by omega)]
  let h5 := hp_si h2 (sv + 6) (dp ff st j) (nI i)
  have e9' : hp_i h5 sv 9 = nI (dp ff st j + 1) := by simp only [h5]; rw [hp_i_si, if_neg (by omega)]; exact e9
  have H5 : hp_fr (S_kr sv) h h5 := hf_si (hf_si (hp_fr_rf h) (by unfold S_kr; omega)) (by unfold S_kr; omega)
  show pw (f_Sv_keepRow_33 sv (nI j) (hp_i h5 sv 9 - (2 : Int32)) h5) _
  have e2 : nI (dp ff st j + 1) - (2 : Int32) = nI (dp ff st j) - 1 := by
    by_cases hz : dp ff st j = 0
    · rw [hz]; decide
    · rw [show (2 : Int32) = nI 2 from rfl, pk_sub (by omega), sub1 (by omega)]; congr 1
  rw [e9', e2]
  unfold f_Sv_keepRow_33
  refine pw_cnt (dp ff st j) (fun e t => t.1 = nI (anc ff j e) ∧ t.2.1 = nI (dp ff st j - e) - 1 ∧ hp_fr (S_kr sv) h t.2.2 ∧ hp_i t.2.2 sv 9 = nI (dp ff st j + 1) ∧ hp_i t.2.2 (sv + 6) (dp ff st j) = nI i ∧ ∀ k, dp ff st j - e ≤ k → k < dp ff st j → hp_i t.2.2 (sv + 6) k = nI (ff (anc ff j (dp ff st j - 1 - k)) % 8)) ?_ ?_ 0 (nI j, nI (dp ff st j) - 1, h5) (by omega) ?_
  · rintro e ⟨u, w, g⟩ he ⟨rfl, rfl, H, g9, gi, gk⟩
    dsimp only at H g9 gi gk ⊢
    have a1 := (anc_dp c5 hj e (by omega)).1
    have a2 := anc_st c5 hj he
    have hcg := CFX_fr H (by unfold S_kr; omega) hc
    have a3 := ffb hc a2 a1
    obtain ⟨d1, d2, d3, d4, d5, d6⟩ := id hcg
    have r2g : hp_r g sv 2 = some (sv + 6) := by rw [hp_fr_r H]; exact r2
    have n6g : hp_n g (sv + 6) = 5000 := by rw [hp_fr_n H]; exact n6
    let g' := hp_si g (sv + 6) (dp ff st j - e - 1) (nI (ff (anc ff j e) % 8))
    have H' : hp_fr (S_kr sv) h g' := hf_si H (by unfold S_kr; omega)
    have hcg' := CFX_fr H' (by unfold S_kr; omega) hc
    refine pw_L (s := (nI (anc ff j (e + 1)), nI (dp ff st j - (e + 1)) - 1, g')) ?_ ⟨rfl, rfl, H', ?_, ?_, fun k k1 k2 => ?_⟩
    · unfold f_Sv_keepRow_33b
      rw [sub1 (by omega), if_neg (nI_pos (by omega)), bn_o r2g, bn_o d1, d2, if_pos (hp_in_nI (by omega) (by omega)), n6g, if_pos (hp_in_nI (by omega) (by omega)), nI_clamp (by omega), nI_clamp (by omega), d6 _ a1, if_neg (show ¬ anc ff j e < st by omega), and7]
      simp only [xx_lE]
      show (hp_r g' sv 13).bind _ = _
      rw [bn_o hcg'.1, hcg'.2.1, if_pos (hp_in_nI (by omega) (by omega)), hcg'.2.2.2.2.2 _ a1, if_neg (show ¬ anc ff j e < st by omega), shr3 (by omega)]
      rw [show dp ff st j - (e + 1) = dp ff st j - e - 1 by omega, am1]; rfl
    · simp only [g']; rw [hp_i_si, if_neg (by omega)]; exact g9
    · simp only [g']; rw [hp_i_si, if_neg (by omega)]; exact gi
    · simp only [g']; rw [hp_i_si]
      by_cases hk : k = dp ff st j - e - 1
      · rw [if_pos ⟨rfl, hk⟩, show dp ff st j - 1 - k = e by omega]
      · rw [if_neg (fun z => hk z.2)]; exact gk k (by omega) k2
  · rintro ⟨u, w, g⟩ ⟨rfl, rfl, H, g9, gi, gk⟩
    dsimp only at H g9 gi gk ⊢
    have a1 := (anc_dp c5 hj (dp ff st j) (Nat.le_refl _)).1
    have hsg : SSX (sv + 3) lim n f g := SSX_fr H (by unfold S_kr F_SS; omega) hset
    have hfl := (hsg.2.2.2.2.2.2.2.2.1 _ a1).1
    unfold f_Sv_keepRow_33b
    rw [Nat.sub_self, if_pos (by decide)]
    refine pw_mapR ?_
    unfold f_Sv_keepRow_69
    rw [show hp_r g sv 1 = some (sv + 3) by rw [hp_fr_r H]; exact r1, bn_s, bn_o (X_member hsg a1)]
    dsimp only
    rw [bn_o (X_lamps _ _), xx_lE]
    refine pw_some ⟨hf_si H (by unfold S_kr; omega), ?_, ?_, ?_, fun k hk => ?_⟩
    · rw [hp_i_si, if_neg (by omega)]; exact g9
    · rw [hp_i_si, if_pos ⟨rfl, rfl⟩]
    · rw [hp_i_si, if_neg (by omega)]; exact gi
    · rw [hp_i_si, if_neg (by omega)]; exact gk k (by omega) hk
  · refine ⟨rfl, rfl, H5, e9', ?_, fun k k1 k2 => by omega⟩
    simp only [h5]; rw [hp_i_si, if_pos ⟨rfl, rfl⟩]
