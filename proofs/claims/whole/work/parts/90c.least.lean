/-! the least row: by the order in which states are found -/
/-- what the order of states gives: starts first, each later one from its first lead -/
def ORD (n st nm : Nat) (rr nx : Nat → Nat → Nat) (ff : Nat → Nat) : Prop := st ≤ n ∧ nm ≤ 6 ∧ (∀ s i, s < n → i < nm → rr s i = 0 → nx s i < n) ∧ (∀ j, st ≤ j → j < n → ff j / 8 < j ∧ ff j % 8 < nm ∧ rr (ff j / 8) (ff j % 8) = 0 ∧ nx (ff j / 8) (ff j % 8) = j) ∧ (∀ j k, st ≤ j → j < k → k < n → ff j < ff k) ∧ ∀ s i, s < n → i < nm → rr s i = 0 → st ≤ nx s i → ff (nx s i) ≤ 8 * s + i
theorem ORD_p {n st nm : Nat} {rr nx : Nat → Nat → Nat} {ff : Nat → Nat} (h : ORD n st nm rr nx ff) : ∀ j, st ≤ j → j < n → ff j / 8 < j := fun j h1 h2 => (h.2.2.2.1 j h1 h2).1
theorem dp_mono {n st nm : Nat} {rr nx : Nat → Nat → Nat} {ff : Nat → Nat} (h : ORD n st nm rr nx ff) : ∀ b a, a ≤ b → b < n → dp ff st a ≤ dp ff st b := by
  intro b
  induction b using Nat.strongRecOn with
  | ind b ih =>
    intro a hab hb
    by_cases hs : a < st
    · rw [dp_0 hs]; exact Nat.zero_le _
    · by_cases he : a = b
      · rw [he]; exact Nat.le_refl _
      · have h1 := h.2.2.2.2.1 a b (by omega) (by omega) hb
        have h2 := ORD_p h b (by omega) hb
        have h3 := ORD_p h a (by omega) (by omega)
        rw [dp_s (ORD_p h) (by omega) hb, dp_s (ORD_p h) (show st ≤ a by omega) (by omega)]
        have := ih (ff b / 8) h2 (ff a / 8) (by omega) (by omega)
        omega
theorem dp_edge {n st nm : Nat} {rr nx : Nat → Nat → Nat} {ff : Nat → Nat} (h : ORD n st nm rr nx ff) {s i : Nat} (hs : s < n) (hi : i < nm) (hr : rr s i = 0) : dp ff st (nx s i) ≤ dp ff st s + 1 := by
  have hx := h.2.2.1 s i hs hi hr
  have hnm := h.2.1
  by_cases hst : nx s i < st
  · rw [dp_0 hst]; omega
  · have h1 := h.2.2.2.2.2 s i hs hi hr (by omega)
    rw [dp_s (ORD_p h) (by omega) hx]
    have := dp_mono h s (ff (nx s i) / 8) (by omega) hs
    omega
/-- the first lead that ends so: w, i -/
def FST (n nm c : Nat) (rr : Nat → Nat → Nat) (w i : Nat) : Prop := w < n ∧ i < nm ∧ rr w i = c ∧ ∀ s j, s < n → j < nm → rr s j = c → 8 * w + i ≤ 8 * s + j
theorem so_low {n st nm c w i : Nat} {rr nx : Nat → Nat → Nat} {ff so : Nat → Nat} (h : ORD n st nm rr nx ff) (hS : SOL rr nx nm c n so) (hF : FST n nm c rr w i) : ∀ e a, a < n → so a = e → 0 < e → dp ff st w + 1 ≤ dp ff st a + e := by
  have hnm := h.2.1
  intro e
  induction e with
  | zero => intro a _ _ h0; omega
  | succ e ih =>
    intro a ha he _
    by_cases h0 : e = 0
    · subst h0
      obtain ⟨j, hj, hr⟩ := hS.2.1 a ha he
      have h1 := hF.2.2.2 a j ha hj hr
      have h2 := hF.2.1
      have := dp_mono h a w (by omega) ha
      omega
    · obtain ⟨j, hj, hr, hs⟩ := hS.2.2.1 a e ha (by omega) he
      have hx := h.2.2.1 a j ha hj hr
      have h1 := ih (nx a j) hx hs (by omega)
      have h2 := dp_edge h ha hj hr
      omega
/-- along the row to w -/
theorem so_row {n st nm c w i : Nat} {rr nx : Nat → Nat → Nat} {ff so : Nat → Nat} (h : ORD n st nm rr nx ff) (hS : SOL rr nx nm c n so) (hF : FST n nm c rr w i) : ∀ e, e ≤ dp ff st w → so (anc ff w e) = e + 1 := by
  have hw := hF.1
  intro e
  induction e with
  | zero => intro _; exact hS.1 w i hw hF.2.1 hF.2.2.1
  | succ e ih =>
    intro he
    have i1 := ih (by omega)
    obtain ⟨a1, a2⟩ := anc_dp (ORD_p h) hw e (by omega)
    have a3 := anc_st (ORD_p h) hw (show e < dp ff st w by omega)
    obtain ⟨b1, b2, b3, b4⟩ := h.2.2.2.1 _ a3 a1
    obtain ⟨c1, c2⟩ := anc_dp (ORD_p h) hw (e + 1) he
    have hc1 : ff (anc ff w e) / 8 < n := c1
    have h4 := hS.2.2.2 (ff (anc ff w e) / 8) (ff (anc ff w e) % 8) hc1 b2 b3 (by rw [b4, i1]; omega)
    rw [b4, i1] at h4
    have h5 := so_low h hS hF _ (anc ff w (e + 1)) c1 rfl h4.1
    show so (ff (anc ff w e) / 8) = e + 1 + 1
    have h6 : dp ff st w + 1 ≤ dp ff st (anc ff w (e + 1)) + so (ff (anc ff w e) / 8) := h5
    omega
/-- nothing ahead of the row says as soon -/
theorem so_no {n st nm c w i : Nat} {rr nx : Nat → Nat → Nat} {ff so : Nat → Nat} (h : ORD n st nm rr nx ff) (hS : SOL rr nx nm c n so) (hF : FST n nm c rr w i) : ∀ e a, e ≤ dp ff st w → a < n → a < anc ff w e → so a = e + 1 → False := by
  have hnm := h.2.1
  have hw := hF.1
  intro e
  induction e with
  | zero =>
    intro a _ ha hlt hs
    have hlt : a < w := hlt
    obtain ⟨j, hj, hr⟩ := hS.2.1 a ha hs
    have h1 := hF.2.2.2 a j ha hj hr
    omega
  | succ e ih =>
    intro a he ha hlt hs
    obtain ⟨j, hj, hr, ht⟩ := hS.2.2.1 a (e + 1) ha (by omega) hs
    have hx := h.2.2.1 a j ha hj hr
    obtain ⟨a1, a2⟩ := anc_dp (ORD_p h) hw e (by omega)
    have a3 := anc_st (ORD_p h) hw (show e < dp ff st w by omega)
    refine ih (nx a j) (by omega) hx ?_ ht
    by_cases hst : nx a j < st
    · omega
    · have h1 := h.2.2.2.2.2 a j ha hj hr (by omega)
      refine Nat.lt_of_not_le (fun z => ?_)
      have hlt' : a < ff (anc ff w e) / 8 := hlt
      by_cases hz : anc ff w e = nx a j
      · rw [← hz] at h1; omega
      · have := h.2.2.2.2.1 (anc ff w e) (nx a j) a3 (by omega) hx
        omega
/-- the least man by whom the row goes on -/
theorem so_man {n st nm c w i e : Nat} {rr nx : Nat → Nat → Nat} {ff so : Nat → Nat} (h : ORD n st nm rr nx ff) (hS : SOL rr nx nm c n so) (hF : FST n nm c rr w i) (he : e < dp ff st w) : ff (anc ff w e) % 8 < nm ∧ rr (anc ff w (e + 1)) (ff (anc ff w e) % 8) = 0 ∧ nx (anc ff w (e + 1)) (ff (anc ff w e) % 8) = anc ff w e ∧ ∀ j, j < ff (anc ff w e) % 8 → ¬ (rr (anc ff w (e + 1)) j = 0 ∧ so (nx (anc ff w (e + 1)) j) = e + 1) := by
  have hnm := h.2.1
  have hw := hF.1
  obtain ⟨a1, a2⟩ := anc_dp (ORD_p h) hw e (by omega)
  have a3 := anc_st (ORD_p h) hw he
  obtain ⟨b1, b2, b3, b4⟩ := h.2.2.2.1 _ a3 a1
  refine ⟨b2, b3, b4, fun j hj hjj => ?_⟩
  obtain ⟨j1, j2⟩ := hjj
  have hjn : j < nm := by omega
  have hs' : anc ff w (e + 1) < n := (anc_dp (ORD_p h) hw (e + 1) (by omega)).1
  have hx := h.2.2.1 _ j hs' hjn j1
  refine so_no h hS hF e _ (by omega) hx ?_ j2
  by_cases hst : nx (anc ff w (e + 1)) j < st
  · omega
  · have h1 := h.2.2.2.2.2 _ j hs' hjn j1 (by omega)
    have e1 : anc ff w (e + 1) = ff (anc ff w e) / 8 := rfl
    refine Nat.lt_of_not_le (fun z => ?_)
    by_cases hz : anc ff w e = nx (anc ff w (e + 1)) j
    · rw [← hz] at h1; omega
    · have := h.2.2.2.2.1 (anc ff w e) (nx (anc ff w (e + 1)) j) a3 (by omega) hx
      omega
/-! the states of a plan are in that order -/
def gr (P : PT) (B : BT) (s i : Nat) : Nat := rs3 P (B.2.1 s % 2 ^ 54) i
def gx (P : PT) (B : BT) (s i : Nat) : Nat := idx B.2.1 B.1 (tg P B.2.1 s i)
theorem grz {P : PT} {B : BT} {s i : Nat} : gr P B s i = 0 ↔ oS P (B.2.1 s % 2 ^ 54) i = 0 := by
  unfold gr
  constructor
  · intro h
    refine Decidable.of_not_not (fun z => ?_)
    rcases rs3_12 z with w | w <;> omega
  · exact rs3_0
theorem ORD_of {P : PT} {B : BT} {st : Nat} (hn : p_nm P ≤ 6) (hG : GB P B) (hst : st ≤ B.1) (hc : CLP P B (8 * B.1)) (hp : PAR P st B (8 * B.1)) : ORD B.1 st (p_nm P) (gr P B) (gx P B) (ffp P B.2.1) := by
  have hedge : ∀ s i, s < B.1 → i < p_nm P → gr P B s i = 0 → gx P B s i < B.1 := fun s i hs hi hr => hc s i hi (by omega) hs (grz.mp hr)
  have hfst : ∀ j, st ≤ j → j < B.1 → edg P B.2.1 (ffp P B.2.1 j) = true ∧ tg P B.2.1 (ffp P B.2.1 j / 8) (ffp P B.2.1 j % 8) = B.2.1 j := by
    intro j h1 h2
    have h3 := (hp j h1 h2).1
    have := fa_first_yes (fun p => edg P B.2.1 p && decide (tg P B.2.1 (p / 8) (p % 8) = B.2.1 j)) (8 * j) h3
    simp only [Bool.and_eq_true, decide_eq_true_eq] at this
    exact this
  refine ⟨hst, hn, hedge, fun j h1 h2 => ?_, fun j k h1 h2 h3 => (hp k (by omega) h3).2.2 j h1 h2, fun s i hs hi hr hge => ?_⟩
  · have h3 := (hp j h1 h2).1
    obtain ⟨e1, e2⟩ := hfst j h1 h2
    unfold edg at e1
    simp only [Bool.and_eq_true, decide_eq_true_eq] at e1
    refine ⟨by omega, e1.1, grz.mpr e1.2, ?_⟩
    unfold gx; rw [e2]; exact idx_eq hG.2.1 h2 rfl
  · have hx := hedge s i hs hi hr
    refine Nat.le_of_not_lt (fun z => ?_)
    have h3 := (hp _ hge hx).1
    have := fa_first_no (fun p => edg P B.2.1 p && decide (tg P B.2.1 (p / 8) (p % 8) = B.2.1 (gx P B s i))) (8 * gx P B s i) (8 * s + i) z
    rw [edg_at hi hn, decide_eq_true (grz.mp hr), show (8 * s + i) % 8 = i by omega, show (8 * s + i) / 8 = s by omega, Bool.true_and] at this
    exact of_decide_eq_false this (idx_yes hx).symm
theorem FST_of {P : PT} {B : BT} {c : Nat} (hn : p_nm P ≤ 6) (h : fa_first (rgt P B.2.1 c) (8 * B.1) < 8 * B.1) : FST B.1 (p_nm P) c (gr P B) (fa_first (rgt P B.2.1 c) (8 * B.1) / 8) (fa_first (rgt P B.2.1 c) (8 * B.1) % 8) := by
  have hy := fa_first_yes _ _ h
  unfold rgt at hy
  simp only [Bool.and_eq_true, decide_eq_true_eq] at hy
  refine ⟨by omega, hy.1, hy.2, fun s j hs hj hr => ?_⟩
  refine Nat.le_of_not_lt (fun z => ?_)
  have := fa_first_no (rgt P B.2.1 c) (8 * B.1) (8 * s + j) (by omega)
  rw [rgt_at hj hn] at this
  exact of_decide_eq_false this hr
theorem FST_no {P : PT} {B : BT} {c : Nat} (hn : p_nm P ≤ 6) (h : ¬ fa_first (rgt P B.2.1 c) (8 * B.1) < 8 * B.1) : ∀ s j, s < B.1 → j < p_nm P → gr P B s j ≠ c := by
  intro s j hs hj hr
  have := fa_first_no (rgt P B.2.1 c) (8 * B.1) (8 * s + j) (by omega)
  rw [rgt_at hj hn] at this
  exact of_decide_eq_false this hr
theorem SOL_none {rr nx : Nat → Nat → Nat} {nm c n : Nat} {so : Nat → Nat} (hnx : ∀ s i, s < n → i < nm → rr s i = 0 → nx s i < n) (hS : SOL rr nx nm c n so) (h : ∀ s j, s < n → j < nm → rr s j ≠ c) : ∀ s, s < n → so s = 0 := by
  have key : ∀ e s, s < n → so s = e + 1 → False := by
    intro e
    induction e with
    | zero => intro s hs h1; obtain ⟨i, hi, hr⟩ := hS.2.1 s hs h1; exact h s i hs hi hr
    | succ e ih =>
      intro s hs h1
      obtain ⟨i, hi, hr, ht⟩ := hS.2.2.1 s (e + 1) hs (by omega) h1
      exact ih _ (hnx s i hs hi hr) ht
  intro s hs
  refine Decidable.of_not_not (fun z => ?_)
  exact key (so s - 1) s hs (by omega)
