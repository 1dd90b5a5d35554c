/-! the survey's own cells decide -/
theorem SVJ_ag {P : PT} {sv p : Nat} {B : BT} {h h' : HP} (hp : p ≤ 8 * B.1) (hi : ∀ a k, sv ≤ a → a < sv + 10 → ¬ (a = sv ∧ 12 ≤ k) → hp_i h' a k = hp_i h a k) (hl : ∀ a k, sv ≤ a → a < sv + 10 → hp_l h' a k = hp_l h a k) (hr : ∀ a k, sv ≤ a → a < sv + 10 → ¬ (a = sv ∧ k = 14) → hp_r h' a k = hp_r h a k) (hn : ∀ a, sv ≤ a → a < sv + 10 → hp_n h' a = hp_n h a) (hj : SVJ P sv B p h) : SVJ P sv B p h' := by
  rcases hj with ⟨h0, i1, i2, i3, i4, i5, i6, i7, i8, i9, i10⟩ | ⟨h0, i2⟩
  · refine .inl ⟨h0, ?_, by rw [hi _ _ (by omega) (by omega) (by omega)]; exact i2, FND_x (xtd_rf B) hp i7.2.2.2.2.1 (fun a k hk => hi a k (by unfold F_FN at hk; omega) (by unfold F_FN at hk; omega) (by unfold F_FN at hk; omega)) i3, by rw [hi _ _ (by omega) (by omega) (by omega)]; exact i4, fun i hi' => by rw [hi _ _ (by omega) (by omega) (by omega)]; exact i5 i hi', fun s i a1 a2 a3 => by rw [hi _ _ (by omega) (by omega) (by omega)]; exact i6 s i a1 a2 a3, ?_, STC_ag (fun k => hi _ _ (by omega) (by omega) (by omega)) i8, i9, i10⟩
    · obtain ⟨a1, a2, a3, a4, a5, a6, a7, a8, a9, sl, a10, a11⟩ := i1
      refine ⟨a1, a2, ?_, ?_, ?_, ?_, ?_, ?_, fun j hj => ⟨(a9 j hj).1, ?_⟩, sl, a10, fun p hp => ?_⟩
      · rw [hi _ _ (by omega) (by omega) (by omega)]; exact a3
      · rw [hi _ _ (by omega) (by omega) (by omega)]; exact a4
      · rw [hr _ _ (by omega) (by omega) (by omega)]; exact a5
      · rw [hr _ _ (by omega) (by omega) (by omega)]; exact a6
      · rw [hn _ (by omega) (by omega)]; exact a7
      · rw [hn _ (by omega) (by omega)]; exact a8
      · rw [hl _ _ (by omega) (by omega)]; exact (a9 j hj).2
      · rw [hi _ _ (by omega) (by omega) (by omega)]; exact a11 p hp
    · obtain ⟨c1, c2, c3, c4, c5, c6⟩ := i7
      refine ⟨by rw [hr _ _ (by omega) (by omega) (by omega)]; exact c1, by rw [hn _ (by omega) (by omega)]; exact c2, c3, c4, c5, fun j hj => ?_⟩
      rw [hi _ _ (by omega) (by omega) (by omega)]; exact c6 j hj
  · exact .inr ⟨h0, by rw [hi _ _ (by omega) (by omega) (by omega)]; exact i2⟩
