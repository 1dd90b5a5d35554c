/-! a reference elsewhere changes nothing of the survey -/
theorem SSX_sr {s lim n b j : Nat} {f : Nat → Nat} {v : Option Nat} {h : HP} (hb : b ≠ s) (hs : SSX s lim n f h) : SSX s lim n f (hp_sr h b j v) := by
  obtain ⟨a1, a2, a3, a4, a5, a6, a7, a8, a9, sl, a10, a11⟩ := hs
  refine ⟨a1, a2, a3, a4, ?_, ?_, a7, a8, a9, sl, a10, a11⟩
  · rw [hp_r_sr, if_neg (by omega)]; exact a5
  · rw [hp_r_sr, if_neg (by omega)]; exact a6
theorem SVJ_sr {P : PT} {sv p b j : Nat} {B : BT} {v : Option Nat} {h : HP} (hb : b < sv ∨ sv + 9 < b) (hj : SVJ P sv B p h) : SVJ P sv B p (hp_sr h b j v) := by
  rcases hj with ⟨h0, i1, i2, i3, i4, i5, i6, i7, i8, i9, i10⟩ | ⟨h0, i2⟩
  · refine .inl ⟨h0, SSX_sr (by omega) i1, i2, i3, i4, i5, i6, ?_, i8, i9, i10⟩
    obtain ⟨c1, c2, c3, c4, c5, c6⟩ := i7
    exact ⟨by rw [hp_r_sr, if_neg (by omega)]; exact c1, c2, c3, c4, c5, c6⟩
  · exact .inr ⟨h0, i2⟩
