/-! the class's way with faults: what lies behind one is counted apart -/
def FBS (P : PT) (F lim n : Nat) (f : Nat → Nat) (sp : Bool) : Prop := dst f n ∧ n ≤ lim ∧ (∀ j, j < n → f j < 2 ^ 54 ∧ dy (f j) < p_cy P ∧ RB P F (cd (f j) 1)) ∧ (sp = true → n = lim ∧ ∃ v, v < 2 ^ 54 ∧ RB P F (cd v 1) ∧ idx f n v = n)
def brv (P : PT) (F : Nat) : Int32 := if (BF P F).2.2 = true then -2 else if fb_ct (rgt P (BF P F).2.1 2) (8 * (BF P F).1) = 0 then 1 else 0
theorem rgt_pos {P : PT} {f : Nat → Nat} {c n : Nat} (hn : p_nm P ≤ 6) : fb_ct (rgt P f c) (8 * n) ≠ 0 ↔ ∃ s i, s < n ∧ i < p_nm P ∧ rs3 P (f s % 2 ^ 54) i = c := by
  constructor
  · intro h
    obtain ⟨p, p1, p2⟩ := fb_ct_pos.mp (Nat.pos_of_ne_zero h)
    unfold rgt at p2
    simp only [Bool.and_eq_true, decide_eq_true_eq] at p2
    exact ⟨p / 8, p % 8, by omega, p2.1, p2.2⟩
  · rintro ⟨s, i, h1, h2, h3⟩ z
    have := fb_ct_zero.mp z (8 * s + i) (by omega)
    rw [rgt_at h2 hn] at this
    exact of_decide_eq_false this h3
theorem fj_lt {P : PT} (ok : POK P) {j : Nat} (hj : j < (BF P 3).1) : (BF P 3).2.1 j < 2 ^ 54 := RB_3lt ok ((BF_S P 3).1 j hj)
theorem brv_sp {P : PT} (ok : POK P) {F n : Nat} {f : Nat → Nat} (h0 : (BF P 3).2.2 = false) (h : FBS P F (5000 - (BF P 3).1) n f true) : (BF P F).2.2 = true := by
  obtain ⟨d1, d2, d3, d4⟩ := h
  obtain ⟨e, v, v1, v2, v3⟩ := d4 rfl
  have hn0 := BF_n ok 3
  refine Decidable.of_not_not (fun z => ?_)
  have hf := bool_f z
  obtain ⟨N, hN⟩ : ∃ N, (BF P 3).1 = N := ⟨_, rfl⟩
  rw [hN] at hn0 e
  have hd := dst_up d1 v3
  let g : Nat → Nat := fun j => if j < N then (BF P 3).2.1 j else cd (upN f n v (j - N)) 1
  have gl : ∀ j, j < n + 1 → upN f n v j < 2 ^ 54 ∧ RB P F (cd (upN f n v j) 1) := fun j hj => by
    unfold upN; split
    · exact ⟨v1, v2⟩
    · have := d3 j (by omega); exact ⟨this.1, this.2.2⟩
  have g0 : ∀ j, j < N → g j = (BF P 3).2.1 j := fun j hj => if_pos hj
  have g1 : ∀ j, N ≤ j → g j = cd (upN f n v (j - N)) 1 := fun j hj => if_neg (by omega)
  have gR : ∀ j, j < 5001 → RB P F (g j) := fun j hj => by
    by_cases z : j < N
    · rw [g0 j z]; exact RB_3 ((BF_S P 3).1 j (by omega))
    · rw [g1 j (by omega)]; exact (gl (j - N) (by omega)).2
  have gd : dst g 5001 := fun i j hij hj z => by
    by_cases zi : i < N
    · have hl := fj_lt ok (j := i) (by omega)
      rw [g0 i zi] at z
      by_cases zj : j < N
      · rw [g0 j zj] at z
        exact (BF_G ok 3).2.1 i j hij (by omega) z
      · rw [g1 j (by omega)] at z
        rw [z] at hl
        have := cd_t (t := 1) (gl (j - N) (by omega)).1
        rw [Nat.div_eq_of_lt hl] at this; omega
    · rw [g1 i (by omega), g1 j (by omega)] at z
      have := (cd_inj (gl (i - N) (by omega)).1 (gl (j - N) (by omega)).1 z).1
      exact hd (i - N) (j - N) (by omega) (by omega) this
  have hle := fb_holes (BF P F).1 5001 (fun j => idx (BF P F).2.1 (BF P F).1 (g j)) (fun j hj => BF_all ok hf (gR j hj)) (fun i j hij hj z => by
    have a := idx_yes (BF_all ok hf (gR i (by omega)))
    have b := idx_yes (BF_all ok hf (gR j hj))
    have z : idx (BF P F).2.1 (BF P F).1 (g i) = idx (BF P F).2.1 (BF P F).1 (g j) := z
    rw [z, b] at a
    exact gd i j hij hj a.symm)
  have := BF_n ok F
  omega
theorem brv_all {P : PT} (ok : POK P) {F n : Nat} {f : Nat → Nat} (h0 : (BF P 3).2.2 = false) (c1 : ∀ s, s < (BF P 3).1 → ∀ j, j < wys P F → idx f n (ftc P F ((BF P 3).2.1 s) j) < n) (c2 : ∀ s, s < n → ∀ i, i < p_nm P → oS P (f s) i = 0 → idx f n (gn P (f s) i) < n) (hfl : ∀ j, j < n → f j < 2 ^ 54) {E : Nat} (h : RB P F E) : (∃ j, j < (BF P 3).1 ∧ (BF P 3).2.1 j = E) ∨ ∃ j, j < n ∧ E = cd (f j) 1 := by
  refine RB_in (S := fun E => (∃ j, j < (BF P 3).1 ∧ (BF P 3).2.1 j = E) ∨ ∃ j, j < n ∧ E = cd (f j) 1) (fun l hl hi => ?_) (fun E E' hR hS he => ?_) h
  · have := BF_all ok h0 (RB_st (F := 3) hl hi)
    exact .inl ⟨_, this, idx_yes this⟩
  · rcases hS with ⟨j, j1, j2⟩ | ⟨j, j1, j2⟩
    · have hE : E < 2 ^ 54 := by rw [← j2]; exact fj_lt ok j1
      rcases he with ⟨i, i1, i2, i3⟩ | ⟨z1, z2, k, k1, k2⟩
      · have hR3 : RB P 3 E' := RB_e (by rw [← j2]; exact (BF_S P 3).1 j j1) (.inl ⟨i, i1, i2, i3⟩)
        have := BF_all ok h0 hR3
        exact .inl ⟨_, this, idx_yes this⟩
      · rw [Nat.mod_eq_of_lt hE] at k2
        have := c1 j j1 k k1
        rw [j2] at this
        exact .inr ⟨_, this, by rw [idx_yes this]; exact k2⟩
    · have hl := hfl j j1
      rcases he with ⟨i, i1, i2, i3⟩ | ⟨z1, z2, k, k1, k2⟩
      · rw [j2, cd_N hl] at i2
        rw [j2, cd_N hl, cd_t hl] at i3
        have := c2 j j1 i i1 i2
        exact .inr ⟨_, this, by rw [idx_yes this]; exact i3⟩
      · have := cd_t (t := 1) hl
        rw [← j2, Nat.div_eq_of_lt z2] at this; omega
theorem brv_few {P : PT} {F n0 n : Nat} {f0 f : Nat → Nat} (d0 : dst f0 n0) (d1 : dst f n) (hn : n0 + n ≤ 5000) (l0 : ∀ j, j < n0 → f0 j < 2 ^ 54) (l1 : ∀ j, j < n → f j < 2 ^ 54) (all : ∀ E, RB P F E → (∃ j, j < n0 ∧ f0 j = E) ∨ ∃ j, j < n ∧ E = cd (f j) 1) {g : Nat → Nat} (gR : ∀ j, j < 5001 → RB P F (g j)) (gd : dst g 5001) : False := by
  have w0 : ∀ j, ∃ w, j < 5001 → (g j < 2 ^ 54 ∧ w < n0 ∧ f0 w = g j) ∨ (n0 ≤ w ∧ w < n0 + n ∧ g j = cd (f (w - n0)) 1) := by
    intro j
    by_cases hj : j < 5001
    · rcases all _ (gR j hj) with ⟨k, k1, k2⟩ | ⟨k, k1, k2⟩
      · exact ⟨k, fun _ => .inl ⟨by rw [← k2]; exact l0 k k1, k1, k2⟩⟩
      · exact ⟨n0 + k, fun _ => .inr ⟨by omega, by omega, by rw [show n0 + k - n0 = k by omega]; exact k2⟩⟩
    · exact ⟨0, fun z => absurd z hj⟩
  have := fb_holes 5000 5001 (fun j => Classical.choose (w0 j)) (fun j hj => by
    show Classical.choose (w0 j) < 5000
    rcases Classical.choose_spec (w0 j) hj with y | y <;> omega) (fun i j hij hj z => by
    have z : Classical.choose (w0 i) = Classical.choose (w0 j) := z
    refine gd i j hij hj ?_
    rcases Classical.choose_spec (w0 i) (by omega) with ⟨y1, y2, y3⟩ | ⟨y2, y3, y4⟩ <;> rcases Classical.choose_spec (w0 j) hj with ⟨x1, x2, x3⟩ | ⟨x2, x3, x4⟩
    · rw [← y3, ← x3, z]
    · omega
    · omega
    · rw [y4, x4, z])
  omega
theorem brv_ok {P : PT} (ok : POK P) {F n : Nat} {f : Nat → Nat} (h0 : (BF P 3).2.2 = false) (h : FBS P F (5000 - (BF P 3).1) n f false) (c1 : ∀ s, s < (BF P 3).1 → ∀ j, j < wys P F → idx f n (ftc P F ((BF P 3).2.1 s) j) < n) (c2 : ∀ s, s < n → ∀ i, i < p_nm P → oS P (f s) i = 0 → idx f n (gn P (f s) i) < n) : (BF P F).2.2 = false ∧ (fb_ct (rgt P (BF P F).2.1 2) (8 * (BF P F).1) ≠ 0 ↔ fb_ct (rgt P (BF P 3).2.1 2) (8 * (BF P 3).1) ≠ 0 ∨ ∃ s i, s < n ∧ i < p_nm P ∧ rs3 P (f s) i = 2) := by
  obtain ⟨d1, d2, d3, _⟩ := h
  have hnm := ok.2.2.2.2.2.1
  have hn0 := BF_n ok 3
  have all := fun {E : Nat} (h : RB P F E) => brv_all ok h0 c1 c2 (fun j hj => (d3 j hj).1) h
  have hf : (BF P F).2.2 = false := by
    refine bool_f (fun z => ?_)
    obtain ⟨g, gR, gd⟩ := BF_many ok z
    exact brv_few (BF_G ok 3).2.1 d1 (by omega) (fun j hj => fj_lt ok hj) (fun j hj => (d3 j hj).1) (fun E h => all h) gR gd
  refine ⟨hf, ?_⟩
  rw [rgt_pos hnm, rgt_pos hnm]
  constructor
  · rintro ⟨s, i, s1, s2, s3⟩
    rcases all ((BF_S P F).1 s s1) with ⟨j, j1, j2⟩ | ⟨j, j1, j2⟩
    · rw [← j2] at s3
      exact .inl ⟨j, i, j1, s2, s3⟩
    · rw [j2, cd_N (d3 j j1).1] at s3
      exact .inr ⟨j, i, j1, s2, s3⟩
  · rintro (⟨s, i, s1, s2, s3⟩ | ⟨s, i, s1, s2, s3⟩)
    · have := BF_all ok hf (RB_3 (F := F) ((BF_S P 3).1 s s1))
      exact ⟨_, i, this, s2, by rw [idx_yes this]; exact s3⟩
    · have := BF_all ok hf (d3 s s1).2.2
      exact ⟨_, i, this, s2, by rw [idx_yes this, cd_N (d3 s s1).1]; exact s3⟩
