/-! the reference's order: who is left first -/
abbrev DS : Type := (Nat → Nat) × (Nat → Nat) × Nat × (Nat → Nat) × Nat
def d_at (D : DS) : Nat → Nat := D.1
def d_o (D : DS) : Nat → Nat := D.2.1
def d_c (D : DS) : Nat := D.2.2.1
def d_st (D : DS) : Nat → Nat := D.2.2.2.1
def d_d (D : DS) : Nat := D.2.2.2.2
def DI (n nm : Nat) (rr nx : Nat → Nat → Nat) (D : DS) (w : Nat) : Prop :=
  (∀ s, s < n → d_at D s ≤ nm + 1) ∧ (∀ p, p < d_c D → d_o D p < n ∧ d_at D (d_o D p) = nm + 1) ∧ (∀ p q, p < q → q < d_c D → d_o D p ≠ d_o D q) ∧
  (∀ j, j < d_d D → d_st D j < n ∧ d_at D (d_st D j) ≠ 0 ∧ ∀ p, p < d_c D → d_o D p ≠ d_st D j) ∧
  (∀ i j, i < j → j < d_d D → d_st D i ≠ d_st D j ∧ Rch (Gg n nm rr nx) (d_st D i) (d_st D j)) ∧
  (∀ s, s < n → d_at D s ≠ 0 → (∃ p, p < d_c D ∧ d_o D p = s) ∨ ∃ j, j < d_d D ∧ d_st D j = s) ∧
  (∀ s i, s < n → i + 1 < d_at D s → rr s i = 0 → d_at D (nx s i) ≠ 0 ∨ nx s i = w ∧ ∀ p, p < d_c D → d_o D p ≠ s) ∧
  (∀ j, j < d_d D → ∃ k, k ≤ d_c D ∧ (∀ p, k ≤ p → p < d_c D → Rch (Gg n nm rr nx) (d_st D j) (d_o D p)) ∧ ∀ p, p < k → ∀ t, Gg n nm rr nx (d_o D p) t → (∃ q, q < k ∧ d_o D q = t) ∨ ∃ i, i < j ∧ d_st D i = t) ∧
  (∀ p, p < d_c D → ∃ k, k ≤ p ∧ (∀ q, k ≤ q → q < p → Rch (Gg n nm rr nx) (d_o D p) (d_o D q)) ∧ ∀ q, q < k → ∀ t, Gg n nm rr nx (d_o D q) t → (∃ r, r < k ∧ d_o D r = t) ∨ (∃ r, p < r ∧ r < d_c D ∧ d_o D r = t) ∨ ∃ j, j < d_d D ∧ d_st D j = t)
def d_lk (D : DS) (v : Nat) : DS := (upN (d_at D) v (d_at D v + 1), d_o D, d_c D, d_st D, d_d D)
def d_push (D : DS) (w : Nat) : DS := (upN (d_at D) w 1, d_o D, d_c D, upN (d_st D) (d_d D) w, d_d D + 1)
def d_fin (D : DS) (v : Nat) : DS := (d_at D, upN (d_o D) (d_c D) v, d_c D + 1, d_st D, d_d D - 1)
theorem DI_lk {n nm v w : Nat} {rr nx : Nat → Nat → Nat} {D : DS} (hnx : ∀ s i, s < n → i < nm → rr s i = 0 → nx s i < n) (h : DI n nm rr nx D n) (hd : 0 < d_d D) (hv : d_st D (d_d D - 1) = v) (ha : d_at D v ≤ nm) (hw : rr v (d_at D v - 1) = 0 → nx v (d_at D v - 1) = w ∨ d_at D (nx v (d_at D v - 1)) ≠ 0) : DI n nm rr nx (d_lk D v) w := by
  obtain ⟨h1, h2, h3, h4, h5, h6, h7, h8, h9⟩ := h
  have hv4 := h4 (d_d D - 1) (by omega)
  rw [hv] at hv4
  have ea : ∀ s, d_at (d_lk D v) s = upN (d_at D) v (d_at D v + 1) s := fun s => rfl
  have nz : ∀ s, d_at (d_lk D v) s ≠ 0 ↔ d_at D s ≠ 0 := fun s => by
    rw [ea]; unfold upN; split
    · rename_i z; rw [z]; exact ⟨fun _ => hv4.2.1, fun _ => by omega⟩
    · exact Iff.rfl
  refine ⟨fun s hs => ?_, fun p hp => ⟨(h2 p hp).1, ?_⟩, h3, fun j hj => ⟨(h4 j hj).1, (nz _).mpr (h4 j hj).2.1, (h4 j hj).2.2⟩, h5, fun s hs hz => h6 s hs ((nz s).mp hz), fun s i hs hi hr => ?_, h8, h9⟩
  · rw [ea]; unfold upN; split
    · omega
    · exact h1 s hs
  · show d_at (d_lk D v) (d_o D p) = nm + 1
    rw [ea, upN_n (hv4.2.2 p hp)]; exact (h2 p hp).2
  · rw [nz]
    rw [ea] at hi
    by_cases z : s = v
    · subst z
      rw [upN_s] at hi
      by_cases z2 : i = d_at D s - 1
      · subst z2
        rcases hw hr with y | y
        · exact .inr ⟨y, hv4.2.2⟩
        · exact .inl y
      · rcases h7 s i hs (by omega) hr with y | ⟨y, _⟩
        · exact .inl y
        · have := hnx s i hs (by omega) hr; omega
    · rw [upN_n z] at hi
      have := h1 s hs
      rcases h7 s i hs hi hr with y | ⟨y, _⟩
      · exact .inl y
      · have := hnx s i hs (by omega) hr; omega
theorem DI_push {n nm w : Nat} {rr nx : Nat → Nat → Nat} {D : DS} (hnx : ∀ s i, s < n → i < nm → rr s i = 0 → nx s i < n) (h : DI n nm rr nx D w) (hw : w < n) (h0 : d_at D w = 0) (hd : d_d D = 0 ∨ Rch (Gg n nm rr nx) (d_st D (d_d D - 1)) w) : DI n nm rr nx (d_push D w) n := by
  obtain ⟨h1, h2, h3, h4, h5, h6, h7, h8, h9⟩ := h
  have ea : ∀ s, d_at (d_push D w) s = upN (d_at D) w 1 s := fun s => rfl
  have es : ∀ j, d_st (d_push D w) j = upN (d_st D) (d_d D) w j := fun j => rfl
  have esl : ∀ j, j < d_d D → d_st (d_push D w) j = d_st D j := fun j hj => by rw [es, upN_n (by omega)]
  have est : d_st (d_push D w) (d_d D) = w := by rw [es, upN_s]
  have eo : ∀ p, d_o (d_push D w) p = d_o D p := fun p => rfl
  have how : ∀ p, p < d_c D → d_o D p ≠ w := fun p hp z => by have := (h2 p hp).2; rw [z, h0] at this; omega
  have hsw : ∀ j, j < d_d D → d_st D j ≠ w := fun j hj z => (h4 j hj).2.1 (by rw [z]; exact h0)
  have nz : ∀ s, d_at (d_push D w) s ≠ 0 ↔ d_at D s ≠ 0 ∨ s = w := fun s => by
    rw [ea]; unfold upN; split
    · rename_i z; exact ⟨fun _ => .inr z, fun _ => by omega⟩
    · rename_i z; exact ⟨fun y => .inl y, fun y => y.elim id (fun y => absurd y z)⟩
  have hnz : ∀ p i, p < d_c D → i < nm → rr (d_o D p) i = 0 → d_at D (nx (d_o D p) i) ≠ 0 := fun p i hp hi hr => by
    rcases h7 _ i (h2 p hp).1 (by rw [(h2 p hp).2]; omega) hr with y | ⟨_, y⟩
    · exact y
    · exact absurd rfl (y p hp)
  refine ⟨fun s hs => ?_, fun p hp => ⟨(h2 p hp).1, ?_⟩, h3, fun j hj => ?_, fun i j hij hj => ?_, fun s hs hz => ?_, fun s i hs hi hr => ?_, fun j hj => ?_, fun p hp => ?_⟩
  · rw [ea]; unfold upN; split
    · omega
    · exact h1 s hs
  · show d_at (d_push D w) (d_o D p) = nm + 1
    rw [ea, upN_n (how p hp)]; exact (h2 p hp).2
  · have hj : j < d_d D + 1 := hj
    by_cases z : j = d_d D
    · subst z; rw [est]; exact ⟨hw, (nz w).mpr (.inr rfl), how⟩
    · rw [esl j (by omega)]
      obtain ⟨a, b, c⟩ := h4 j (by omega)
      exact ⟨a, (nz _).mpr (.inl b), c⟩
  · have hj : j < d_d D + 1 := hj
    by_cases z : j = d_d D
    · subst z
      rw [est, esl i hij]
      refine ⟨hsw i hij, ?_⟩
      rcases hd with y | y
      · omega
      · by_cases z2 : i = d_d D - 1
        · rw [z2]; exact y
        · exact Rch_tr (h5 i (d_d D - 1) (by omega) (by omega)).2 y
    · rw [esl j (by omega), esl i (by omega)]; exact h5 i j hij (by omega)
  · rcases (nz s).mp hz with y | y
    · rcases h6 s hs y with ⟨p, q1, q2⟩ | ⟨j, q1, q2⟩
      · exact .inl ⟨p, q1, q2⟩
      · exact .inr ⟨j, by show j < d_d D + 1; omega, by rw [esl j q1]; exact q2⟩
    · exact .inr ⟨d_d D, by show d_d D < d_d D + 1; omega, by rw [est, y]⟩
  · rw [nz]
    rw [ea] at hi
    by_cases z : s = w
    · rw [z, upN_s] at hi; omega
    · rw [upN_n z] at hi
      rcases h7 s i hs hi hr with y | ⟨y, _⟩
      · exact .inl (.inl y)
      · exact .inl (.inr y)
  · have hj : j < d_d D + 1 := hj
    by_cases z : j = d_d D
    · subst z
      refine ⟨d_c D, Nat.le_refl _, fun p q1 q2 => by have : p < d_c D := q2; omega, fun p hp t ht => ?_⟩
      obtain ⟨g0, i, i1, i2, i3⟩ := ht
      rw [eo] at i2 i3
      have hp : p < d_c D := hp
      have htn : d_at D t ≠ 0 := by rw [← i3]; exact hnz p i hp i1 i2
      have htl : t < n := by rw [← i3]; exact hnx _ i (h2 p hp).1 i1 i2
      rcases h6 t htl htn with y | ⟨j, y1, y2⟩
      · exact .inl y
      · exact .inr ⟨j, y1, by rw [esl j y1]; exact y2⟩
    · obtain ⟨k, k1, k2, k3⟩ := h8 j (by omega)
      refine ⟨k, k1, fun p q1 q2 => by rw [esl j (by omega)]; exact k2 p q1 q2, fun p hp t ht => ?_⟩
      rcases k3 p hp t ht with q | ⟨i, q1, q2⟩
      · exact .inl q
      · exact .inr ⟨i, q1, by rw [esl i (by omega)]; exact q2⟩
  · obtain ⟨k, k1, k2, k3⟩ := h9 p hp
    refine ⟨k, k1, k2, fun q hq t ht => ?_⟩
    rcases k3 q hq t ht with y | y | ⟨j, y1, y2⟩
    · exact .inl y
    · exact .inr (.inl y)
    · exact .inr (.inr ⟨j, by show j < d_d D + 1; omega, by rw [esl j y1]; exact y2⟩)
theorem DI_fin {n nm v : Nat} {rr nx : Nat → Nat → Nat} {D : DS} (hnx : ∀ s i, s < n → i < nm → rr s i = 0 → nx s i < n) (h : DI n nm rr nx D n) (hd : 0 < d_d D) (hv : d_st D (d_d D - 1) = v) (ha : d_at D v = nm + 1) : DI n nm rr nx (d_fin D v) n := by
  obtain ⟨h1, h2, h3, h4, h5, h6, h7, h8, h9⟩ := h
  have hv4 := h4 (d_d D - 1) (by omega)
  rw [hv] at hv4
  have eol : ∀ p, p < d_c D → d_o (d_fin D v) p = d_o D p := fun p hp => by show upN (d_o D) (d_c D) v p = _; rw [upN_n (by omega)]
  have eot : d_o (d_fin D v) (d_c D) = v := by show upN (d_o D) (d_c D) v (d_c D) = _; rw [upN_s]
  have es : ∀ j, d_st (d_fin D v) j = d_st D j := fun j => rfl
  refine ⟨h1, fun p hp => ?_, fun p q hpq hq => ?_, fun j hj => ?_, fun i j hij hj => ?_, fun s hs hz => ?_, fun s i hs hi hr => ?_, fun j hj => ?_, fun p hp => ?_⟩
  · have hp : p < d_c D + 1 := hp
    show d_o (d_fin D v) p < n ∧ d_at D (d_o (d_fin D v) p) = nm + 1
    by_cases z : p = d_c D
    · rw [z, eot]; exact ⟨hv4.1, ha⟩
    · rw [eol p (by omega)]; exact h2 p (by omega)
  · have hq : q < d_c D + 1 := hq
    rw [eol p (by omega)]
    by_cases z : q = d_c D
    · rw [z, eot]; exact hv4.2.2 p (by omega)
    · rw [eol q (by omega)]; exact h3 p q hpq (by omega)
  · have hj : j < d_d D - 1 := hj
    obtain ⟨a, b, c⟩ := h4 j (by omega)
    refine ⟨a, b, fun p hp => ?_⟩
    have hp : p < d_c D + 1 := hp
    rw [es]
    by_cases z : p = d_c D
    · rw [z, eot, ← hv]; exact fun y => (h5 j (d_d D - 1) hj (by omega)).1 y.symm
    · rw [eol p (by omega)]; exact c p (by omega)
  · exact h5 i j hij (by have : j < d_d D - 1 := hj; omega)
  · rcases h6 s hs hz with ⟨p, q1, q2⟩ | ⟨j, q1, q2⟩
    · exact .inl ⟨p, by show p < d_c D + 1; omega, by rw [eol p q1]; exact q2⟩
    · by_cases z : j = d_d D - 1
      · exact .inl ⟨d_c D, by show d_c D < d_c D + 1; omega, by rw [eot, ← hv, ← z]; exact q2⟩
      · exact .inr ⟨j, by show j < d_d D - 1; omega, q2⟩
  · rcases h7 s i hs hi hr with y | ⟨y, _⟩
    · exact .inl y
    · have := hnx s i hs (by have := h1 s hs; have hi : i + 1 < d_at D s := hi; omega) hr
      omega
  · have hj : j < d_d D - 1 := hj
    obtain ⟨k, k1, k2, k3⟩ := h8 j (by omega)
    refine ⟨k, by show k ≤ d_c D + 1; omega, fun p q1 q2 => ?_, fun p hp t ht => ?_⟩
    · have q2 : p < d_c D + 1 := q2
      rw [es]
      by_cases z : p = d_c D
      · rw [z, eot, ← hv]; exact (h5 j (d_d D - 1) hj (by omega)).2
      · rw [eol p (by omega)]; exact k2 p q1 (by omega)
    · rw [eol p (by omega)] at ht
      rcases k3 p hp t ht with ⟨q, y1, y2⟩ | y
      · exact .inl ⟨q, y1, by rw [eol q (by omega)]; exact y2⟩
      · exact .inr y
  · have hp : p < d_c D + 1 := hp
    by_cases z : p = d_c D
    · subst z
      obtain ⟨k, k1, k2, k3⟩ := h8 (d_d D - 1) (by omega)
      rw [hv] at k2
      refine ⟨k, k1, fun q q1 q2 => ?_, fun q hq t ht => ?_⟩
      · rw [eot, eol q q2]; exact k2 q q1 q2
      · rw [eol q (by omega)] at ht
        rcases k3 q hq t ht with ⟨r, y1, y2⟩ | ⟨i, y1, y2⟩
        · exact .inl ⟨r, y1, by rw [eol r (by omega)]; exact y2⟩
        · exact .inr (.inr ⟨i, y1, y2⟩)
    · obtain ⟨k, k1, k2, k3⟩ := h9 p (by omega)
      refine ⟨k, k1, fun q q1 q2 => ?_, fun q hq t ht => ?_⟩
      · rw [eol p (by omega), eol q (by omega)]; exact k2 q q1 q2
      · rw [eol q (by omega)] at ht
        rcases k3 q hq t ht with ⟨r, y1, y2⟩ | ⟨r, y1, y2, y3⟩ | ⟨j, y1, y2⟩
        · exact .inl ⟨r, y1, by rw [eol r (by omega)]; exact y2⟩
        · exact .inr (.inl ⟨r, y1, by show r < d_c D + 1; omega, by rw [eol r y2]; exact y3⟩)
        · by_cases w : j = d_d D - 1
          · exact .inr (.inl ⟨d_c D, by omega, by show d_c D < d_c D + 1; omega, by rw [eot, ← hv, ← w]; exact y2⟩)
          · exact .inr (.inr ⟨j, by show j < d_d D - 1; omega, y2⟩)
def psi (n : Nat) (D : DS) : Nat := fb_sm (d_at D) n + d_c D
theorem psi_le {n nm w : Nat} {rr nx : Nat → Nat → Nat} {D : DS} (h : DI n nm rr nx D w) (hn : n ≤ 5000) (hm : nm ≤ 6) : psi n D ≤ 40000 ∧ d_c D ≤ n ∧ d_d D ≤ n := by
  obtain ⟨h1, h2, h3, h4, h5, _⟩ := h
  have a := fb_holes n (d_c D) (d_o D) (fun i hi => (h2 i hi).1) h3
  have b : fb_sm (d_at D) n ≤ n * 7 := fb_sm_bound (fun k hk => by have := h1 k hk; omega)
  have c := fb_holes n (d_d D) (d_st D) (fun i hi => (h4 i hi).1) (fun i j x y => (h5 i j x y).1)
  unfold psi
  omega
theorem sm_up {f : Nat → Nat} {v x n : Nat} (hv : v < n) : fb_sm (upN f v x) n + f v = fb_sm f n + x := by
  have := fb_sm_upd f x hv
  rw [← this]
  congr 1
/-- all are left: the order -/
def KOR (n nm : Nat) (rr nx : Nat → Nat → Nat) (o : Nat → Nat) : Prop := (∀ p, p < n → o p < n) ∧ (∀ p q, p < q → q < n → o p ≠ o q) ∧ ∀ p, p < n → ∃ k, k ≤ p ∧ (∀ q, k ≤ q → q < p → Rch (Gg n nm rr nx) (o p) (o q)) ∧ ∀ q, q < k → ∀ t, Gg n nm rr nx (o q) t → (∃ r, r < k ∧ o r = t) ∨ ∃ r, p < r ∧ r < n ∧ o r = t
theorem KOR_of {n nm w : Nat} {rr nx : Nat → Nat → Nat} {D : DS} (h : DI n nm rr nx D w) (hd : d_d D = 0) (ha : ∀ s, s < n → d_at D s ≠ 0) : d_c D = n ∧ KOR n nm rr nx (d_o D) := by
  obtain ⟨h1, h2, h3, h4, h5, h6, h7, h8, h9⟩ := h
  have a := fb_holes n (d_c D) (d_o D) (fun i hi => (h2 i hi).1) h3
  have ex : ∀ s, ∃ p, s < n → p < d_c D ∧ d_o D p = s := fun s => by
    by_cases hs : s < n
    · rcases h6 s hs (ha s hs) with ⟨p, q⟩ | ⟨j, q, _⟩
      · exact ⟨p, fun _ => q⟩
      · omega
    · exact ⟨0, fun z => absurd z hs⟩
  have b := fb_holes (d_c D) n (fun s => Classical.choose (ex s)) (fun s hs => (Classical.choose_spec (ex s) hs).1) (fun i j hij hj z => by
    have e1 := (Classical.choose_spec (ex i) (by omega)).2
    have e2 := (Classical.choose_spec (ex j) hj).2
    rw [show Classical.choose (ex i) = Classical.choose (ex j) from z, e2] at e1
    omega)
  have e : d_c D = n := by omega
  refine ⟨e, fun p hp => (h2 p (by omega)).1, fun p q x y => h3 p q x (by omega), fun p hp => ?_⟩
  obtain ⟨k, k1, k2, k3⟩ := h9 p (by omega)
  refine ⟨k, k1, k2, fun q hq t ht => ?_⟩
  rcases k3 q hq t ht with y | ⟨r, y1, y2, y3⟩ | ⟨j, y1, _⟩
  · exact .inl y
  · exact .inr ⟨r, y1, by omega, y3⟩
  · omega
