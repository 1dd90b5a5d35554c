/-! reach -/
def Rk (G : Nat → Nat → Prop) : Nat → Nat → Nat → Prop
  | 0, s, t => s = t
  | k + 1, s, t => ∃ u, G s u ∧ Rk G k u t
def Rch (G : Nat → Nat → Prop) (s t : Nat) : Prop := ∃ k, Rk G k s t
theorem Rch_rf {G : Nat → Nat → Prop} (s : Nat) : Rch G s s := ⟨0, rfl⟩
theorem Rch_e {G : Nat → Nat → Prop} {s t : Nat} (h : G s t) : Rch G s t := ⟨1, t, h, rfl⟩
theorem Rk_tr {G : Nat → Nat → Prop} : ∀ k j s t u, Rk G k s t → Rk G j t u → Rk G (k + j) s u := by
  intro k
  induction k with
  | zero => intro j s t u h1 h2; have h1 : s = t := h1; rw [h1, Nat.zero_add]; exact h2
  | succ k ih =>
    intro j s t u h1 h2
    obtain ⟨v, g, h1⟩ := h1
    rw [show k + 1 + j = (k + j) + 1 by omega]
    exact ⟨v, g, ih j v t u h1 h2⟩
theorem Rch_tr {G : Nat → Nat → Prop} {s t u : Nat} (h1 : Rch G s t) (h2 : Rch G t u) : Rch G s u := by
  obtain ⟨k, h1⟩ := h1
  obtain ⟨j, h2⟩ := h2
  exact ⟨k + j, Rk_tr k j s t u h1 h2⟩
theorem Rch_in {G : Nat → Nat → Prop} {S : Nat → Prop} (hS : ∀ s t, S s → G s t → S t) {s t : Nat} (hs : S s) (h : Rch G s t) : S t := by
  obtain ⟨k, h⟩ := h
  induction k generalizing s with
  | zero => have h : s = t := h; rw [← h]; exact hs
  | succ k ih =>
    obtain ⟨u, g, h⟩ := h
    exact ih (hS s u hs g) h
def Mut (G : Nat → Nat → Prop) (s t : Nat) : Prop := Rch G s t ∧ Rch G t s
theorem Mut_rf {G : Nat → Nat → Prop} (s : Nat) : Mut G s s := ⟨Rch_rf s, Rch_rf s⟩
theorem Mut_sy {G : Nat → Nat → Prop} {s t : Nat} (h : Mut G s t) : Mut G t s := ⟨h.2, h.1⟩
theorem Mut_tr {G : Nat → Nat → Prop} {s t u : Nat} (h1 : Mut G s t) (h2 : Mut G t u) : Mut G s u := ⟨Rch_tr h1.1 h2.1, Rch_tr h2.2 h1.2⟩
/-- a lead that goes on -/
def Gg (n nm : Nat) (rr nx : Nat → Nat → Nat) (s t : Nat) : Prop := s < n ∧ ∃ i, i < nm ∧ rr s i = 0 ∧ nx s i = t
/-- in a round in which each man is led -/
def good (n nm : Nat) (rr nx : Nat → Nat → Nat) (s : Nat) : Prop := nm ≠ 0 ∧ ∀ i, i < nm → ∃ u, u < n ∧ Mut (Gg n nm rr nx) s u ∧ rr u i = 0 ∧ Mut (Gg n nm rr nx) s (nx u i)
noncomputable def goodb (n nm : Nat) (rr nx : Nat → Nat → Nat) (s : Nat) : Bool := @decide (good n nm rr nx s) (Classical.propDecidable _)
theorem good_mut {n nm : Nat} {rr nx : Nat → Nat → Nat} {s t : Nat} (hm : Mut (Gg n nm rr nx) s t) : good n nm rr nx s ↔ good n nm rr nx t := by
  unfold good
  constructor
  · rintro ⟨h0, h⟩
    refine ⟨h0, fun i hi => ?_⟩
    obtain ⟨u, u0, u1, u2, u3⟩ := h i hi
    exact ⟨u, u0, Mut_tr (Mut_sy hm) u1, u2, Mut_tr (Mut_sy hm) u3⟩
  · rintro ⟨h0, h⟩
    refine ⟨h0, fun i hi => ?_⟩
    obtain ⟨u, u0, u1, u2, u3⟩ := h i hi
    exact ⟨u, u0, Mut_tr hm u1, u2, Mut_tr hm u3⟩
/-! the class's way: order, lowest, knots (one pass with two piles) -/
abbrev TS : Type := (Nat → Nat) × (Nat → Nat) × (Nat → Nat) × (Nat → Nat) × (Nat → Nat) × (Nat → Nat) × Nat × Nat × Nat × Nat
def t_or (T : TS) : Nat → Nat := T.1
def t_lo (T : TS) : Nat → Nat := T.2.1
def t_kn (T : TS) : Nat → Nat := T.2.2.1
def t_lk (T : TS) : Nat → Nat := T.2.2.2.1
def t_op (T : TS) : Nat → Nat := T.2.2.2.2.1
def t_pa (T : TS) : Nat → Nat := T.2.2.2.2.2.1
def t_no (T : TS) : Nat := T.2.2.2.2.2.2.1
def t_dp (T : TS) : Nat := T.2.2.2.2.2.2.2.1
def t_en (T : TS) : Nat := T.2.2.2.2.2.2.2.2.1
def t_kc (T : TS) : Nat := T.2.2.2.2.2.2.2.2.2
def opn (T : TS) (n s : Nat) : Prop := s < n ∧ t_or T s ≠ 0 ∧ t_kn T s = 0
/-- s lies above the j-th of the path and below the next -/
def sgm (T : TS) (j s : Nat) : Prop := j < t_dp T ∧ t_or T (t_pa T j) ≤ t_or T s ∧ (j + 1 < t_dp T → t_or T s < t_or T (t_pa T (j + 1)))
/-- its invariant -/
def TI (n nm : Nat) (rr nx : Nat → Nat → Nat) (T : TS) : Prop :=
  (∀ s, s < n → t_or T s ≤ t_en T ∧ (t_kn T s ≠ 0 → t_or T s ≠ 0) ∧ t_kn T s ≤ t_kc T ∧ (t_or T s ≠ 0 → t_lk T s ≤ nm)) ∧
  (∀ s t, s < n → t < n → t_or T s = t_or T t → t_or T s ≠ 0 → s = t) ∧
  (∀ j, j < t_no T → opn T n (t_op T j)) ∧ (∀ j k, j < k → k < t_no T → t_or T (t_op T j) < t_or T (t_op T k)) ∧ (∀ s, opn T n s → ∃ j, j < t_no T ∧ t_op T j = s) ∧
  (∀ j, j < t_dp T → opn T n (t_pa T j)) ∧ (∀ j, j + 1 < t_dp T → t_or T (t_pa T j) < t_or T (t_pa T (j + 1)) ∧ Rch (Gg n nm rr nx) (t_pa T j) (t_pa T (j + 1))) ∧
  (∀ s i, s < n → t_kn T s ≠ 0 → i < nm → rr s i = 0 → t_kn T (nx s i) ≠ 0) ∧
  (∀ s, opn T n s → (∀ j, j < t_dp T → t_pa T j ≠ s) → t_lk T s = nm) ∧
  (∀ s i, s < n → t_or T s ≠ 0 → t_kn T s = 0 → i < t_lk T s → rr s i = 0 → t_or T (nx s i) ≠ 0) ∧
  (∀ s, opn T n s → 0 < t_dp T ∧ t_or T (t_pa T 0) ≤ t_or T s) ∧
  (∀ s j, opn T n s → sgm T j s → Rch (Gg n nm rr nx) s (t_pa T j) ∧ Rch (Gg n nm rr nx) (t_pa T j) s) ∧
  (∀ j, j < t_dp T → t_lo T (t_pa T j) ≤ t_or T (t_pa T j) ∧ ∃ w, opn T n w ∧ t_or T w = t_lo T (t_pa T j) ∧ Rch (Gg n nm rr nx) (t_pa T j) w) ∧
  (∀ s j i, opn T n s → sgm T j s → i < t_lk T s → rr s i = 0 → t_kn T (nx s i) = 0 → t_lo T (t_pa T j) ≤ t_or T (nx s i)) ∧
  (∀ s t, s < n → t < n → t_kn T s ≠ 0 → (t_kn T s = t_kn T t ↔ Mut (Gg n nm rr nx) s t))
/-- every open one lies in a segment -/
theorem TI_sg {n nm : Nat} {rr nx : Nat → Nat → Nat} {T : TS} (h : TI n nm rr nx T) {s : Nat} (hs : opn T n s) : ∃ j, sgm T j s := by
  obtain ⟨_, _, _, _, _, _, _, _, _, _, h11, _⟩ := h
  obtain ⟨h0, h1⟩ := h11 s hs
  obtain ⟨j, j1, j2, j3⟩ := fb_last (p := fun j => t_or T (t_pa T j) ≤ t_or T s) ⟨0, h0, h1⟩
  exact ⟨j, j1, j2, fun hj => by have := j3 (j + 1) (by omega) hj; omega⟩
/-- the path rises -/
theorem TI_pu {n nm : Nat} {rr nx : Nat → Nat → Nat} {T : TS} (h7 : ∀ j, j + 1 < t_dp T → t_or T (t_pa T j) < t_or T (t_pa T (j + 1)) ∧ Rch (Gg n nm rr nx) (t_pa T j) (t_pa T (j + 1))) : ∀ d j, j + d < t_dp T → t_or T (t_pa T j) + d ≤ t_or T (t_pa T (j + d)) ∧ Rch (Gg n nm rr nx) (t_pa T j) (t_pa T (j + d)) := by
  intro d
  induction d with
  | zero => intro j _; exact ⟨Nat.le_refl _, Rch_rf _⟩
  | succ d ih =>
    intro j hj
    obtain ⟨a, b⟩ := ih j (by omega)
    obtain ⟨c, e⟩ := h7 (j + d) (by omega)
    exact ⟨by rw [show j + (d + 1) = j + d + 1 by omega]; omega, Rch_tr b e⟩
/-- the last of the path lies in the last segment alone -/
theorem TI_top {n nm j : Nat} {rr nx : Nat → Nat → Nat} {T : TS} (h7 : ∀ j, j + 1 < t_dp T → t_or T (t_pa T j) < t_or T (t_pa T (j + 1)) ∧ Rch (Gg n nm rr nx) (t_pa T j) (t_pa T (j + 1))) (hj : sgm T j (t_pa T (t_dp T - 1))) : j = t_dp T - 1 := by
  obtain ⟨j1, j2, j3⟩ := hj
  refine Decidable.of_not_not (fun z => ?_)
  have h := j3 (by omega)
  have up := (TI_pu h7 (t_dp T - 1 - (j + 1)) (j + 1) (by omega)).1
  rw [show j + 1 + (t_dp T - 1 - (j + 1)) = t_dp T - 1 by omega] at up
  omega
def t_enter (T : TS) (v : Nat) : TS := (upN (t_or T) v (t_en T + 1), upN (t_lo T) v (t_en T + 1), t_kn T, upN (t_lk T) v 0, upN (t_op T) (t_no T) v, upN (t_pa T) (t_dp T) v, t_no T + 1, t_dp T + 1, t_en T + 1, t_kc T)
/-- a lead of the path's last one is looked at -/
def t_lkd (T : TS) (v : Nat) : TS := (t_or T, t_lo T, t_kn T, upN (t_lk T) v (t_lk T v + 1), t_op T, t_pa T, t_no T, t_dp T, t_en T, t_kc T)
def t_low (T : TS) (v x : Nat) : TS := (t_or T, upN (t_lo T) v x, t_kn T, t_lk T, t_op T, t_pa T, t_no T, t_dp T, t_en T, t_kc T)
