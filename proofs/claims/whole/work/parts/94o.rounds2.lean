/-! cells below decide: faults, chance -/
def agb (z sv : Nat) (h g : HP) : Prop := (∀ a k, a < z → hp_i g a k = hp_i h a k ∧ hp_l g a k = hp_l h a k) ∧ (∀ a k, a < z → ¬ (a = sv ∧ k = 14) → hp_r g a k = hp_r h a k) ∧ ∀ a, a < z → hp_n g a = hp_n h a
theorem SVZ_agb {z sv : Nat} {h g : HP} (H : agb z sv h g) (hz : sv + 10 ≤ z) (hs : SVZ sv h) : SVZ sv g := by
  obtain ⟨_, hr, hn⟩ := H
  obtain ⟨b1, b2, b3, b4, b5, b6, b7, b8, b9, b10, b11, b12, b13, b14, b15, b16⟩ := hs
  refine ⟨?_, ?_, ?_, ?_, ?_, ?_, ?_, ?_, ?_, ?_, ?_, ?_, ?_, ?_, ?_, ?_⟩
  · rw [hr _ _ (by omega) (by omega)]; exact b1
  · rw [hr _ _ (by omega) (by omega)]; exact b2
  · rw [hr _ _ (by omega) (by omega)]; exact b3
  · rw [hr _ _ (by omega) (by omega)]; exact b4
  · rw [hr _ _ (by omega) (by omega)]; exact b5
  · rw [hr _ _ (by omega) (by omega)]; exact b6
  · rw [hr _ _ (by omega) (by omega)]; exact b7
  · rw [hr _ _ (by omega) (by omega)]; exact b8
  · rw [hr _ _ (by omega) (by omega)]; exact b9
  · rw [hn _ (by omega)]; exact b10
  · rw [hn _ (by omega)]; exact b11
  · rw [hn _ (by omega)]; exact b12
  · rw [hn _ (by omega)]; exact b13
  · rw [hn _ (by omega)]; exact b14
  · rw [hn _ (by omega)]; exact b15
  · rw [hn _ (by omega)]; exact b16
theorem KFA_agb {P : PT} {z sv x fa : Nat} {h g : HP} (H : agb z sv h g) (hx : x < z) (hf : fa + 5 ≤ z) (hs : sv + 10 ≤ fa) (hk : KFA P x fa h) : KFA P x fa g := by
  obtain ⟨hi, hr, hn⟩ := H
  obtain ⟨⟨a1, a2, a3, a4, a5, a6, a7⟩, k2⟩ := hk
  refine ⟨⟨?_, ?_, ?_, ?_, ?_, ?_, ?_⟩, fun F hF => ?_⟩
  · rw [hr _ _ (by omega) (by omega)]; exact a1
  · rw [hr _ _ (by omega) (by omega)]; exact a2
  · rw [hn _ (by omega)]; exact a3
  · rw [hr _ _ (by omega) (by omega)]; exact a4
  · rw [hr _ _ (by omega) (by omega)]; exact a5
  · rw [hn _ (by omega)]; exact a6
  · rw [hn _ (by omega)]; exact a7
  · rw [(hi _ _ (by omega)).1, (hi x 11 hx).1]; exact k2 F hF
theorem KCH_agb {P : PT} {z sv x ch : Nat} {h g : HP} (H : agb z sv h g) (hx : x < z) (hf : ch + 6 ≤ z) (hs : sv + 10 ≤ ch) (hk : KCH P x ch h) : KCH P x ch g := by
  obtain ⟨hi, hr, hn⟩ := H
  obtain ⟨⟨c, a0, a1, a2, a3, a4, a5, a6, a7, a8, a9, a10⟩, k2⟩ := hk
  refine ⟨⟨c, a0, ?_, ?_, ?_, ?_, ?_, ?_, ?_, ?_, ?_, ?_⟩, ?_⟩
  · rw [hr _ _ (by omega) (by omega)]; exact a1
  · rw [hr _ _ (by omega) (by omega)]; exact a2
  · rw [hr _ _ (by omega) (by omega)]; exact a3
  · rw [hr _ _ (by omega) (by omega)]; exact a4
  · rw [hr _ _ (by omega) (by omega)]; exact a5
  · rw [hn _ (by omega)]; exact a6
  · rw [hn _ (by omega)]; exact a7
  · rw [hn _ (by omega)]; exact a8
  · rw [hn _ (by omega)]; exact a9
  · rw [hn _ (by omega)]; exact a10
  · rw [(hi x 11 hx).1]
    rcases k2 with ⟨w1, w2⟩ | w1
    · refine .inl ⟨w1, fun l hl => ?_⟩
      rw [(hi (ch + 1) l (by omega)).1]
      rcases w2 l hl with v | ⟨v1, v2⟩
      · exact .inl v
      · exact .inr ⟨v1, fun d hd => by rw [(hi _ _ (by omega)).2, (hi _ _ (by omega)).2]; exact v2 d hd⟩
    · exact .inr (fun l hl => by rw [(hi _ _ (by omega)).1]; exact w1 l hl)
