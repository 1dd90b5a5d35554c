/-! heaps grown, one reference of the class anew -/
theorem SVZ_sr2 {sv b j : Nat} {v : Option Nat} {h : HP} (hb : b < sv) (hs : SVZ sv h) : SVZ sv (hp_sr h b j v) := by
  obtain ⟨b1, b2, b3, b4, b5, b6, b7, b8, b9, b10, b11, b12, b13, b14, b15, b16⟩ := hs
  refine ⟨?_, ?_, ?_, ?_, ?_, ?_, ?_, ?_, ?_, ?_, ?_, ?_, ?_, ?_, ?_, ?_⟩
  · rw [hp_r_sr, if_neg (by omega)]; exact b1
  · rw [hp_r_sr, if_neg (by omega)]; exact b2
  · rw [hp_r_sr, if_neg (by omega)]; exact b3
  · rw [hp_r_sr, if_neg (by omega)]; exact b4
  · rw [hp_r_sr, if_neg (by omega)]; exact b5
  · rw [hp_r_sr, if_neg (by omega)]; exact b6
  · rw [hp_r_sr, if_neg (by omega)]; exact b7
  · rw [hp_r_sr, if_neg (by omega)]; exact b8
  · rw [hp_r_sr, if_neg (by omega)]; exact b9
  · rw [hp_n_sr]; exact b10
  · rw [hp_n_sr]; exact b11
  · rw [hp_n_sr]; exact b12
  · rw [hp_n_sr]; exact b13
  · rw [hp_n_sr]; exact b14
  · rw [hp_n_sr]; exact b15
  · rw [hp_n_sr]; exact b16
theorem KSV_sr {P : PT} {q x sv ro b j : Nat} {v : Option Nat} {h : HP} (hb : b < sv) (hk : KSV P q x sv ro h) : KSV P q x sv ro (hp_sr h b j v) := by
  obtain ⟨k1, k2, k3⟩ := hk
  refine ⟨SVZ_sr2 hb k1, by rw [hp_r_sr, if_neg (by omega)]; exact k2, ?_⟩
  rw [hp_i_sr, hp_i_sr, hp_r_sr, if_neg (by omega)]
  rcases k3 with z | ⟨z1, z2, z3, z4⟩
  · exact .inl z
  · exact .inr ⟨z1, z2, SVJ_sr (.inl hb) z3, z4⟩
theorem KSV_agb {P : PT} {z q x sv ro : Nat} {h g : HP} (H : agb z sv h g) (h14 : hp_r g sv 14 = hp_r h sv 14) (hx : x < sv) (hz : sv + 10 ≤ z) (hk : KSV P q x sv ro h) : KSV P q x sv ro g := by
  obtain ⟨k1, k2, k3⟩ := hk
  obtain ⟨hi, hr, hn⟩ := id H
  refine ⟨SVZ_agb H hz k1, by rw [h14]; exact k2, ?_⟩
  rw [(hi x 11 (by omega)).1, (hi sv 15 (by omega)).1, hr sv 4 (by omega) (by omega)]
  rcases k3 with z | ⟨z1, z2, z3, z4⟩
  · exact .inl z
  · exact .inr ⟨z1, z2, SVJ_ag (Nat.le_refl _) (fun a j q1 q2 _ => (hi a j (by omega)).1) (fun a j q1 q2 => (hi a j (by omega)).2) (fun a j q1 q2 q3 => hr a j (by omega) q3) (fun a q1 q2 => hn a (by omega)) z3, z4⟩
theorem KFA_sr {P : PT} {x fa b j : Nat} {v : Option Nat} {h : HP} (hb : b < fa) (hk : KFA P x fa h) : KFA P x fa (hp_sr h b j v) := by
  refine ⟨FAX_sr (by omega) (by omega) hk.1, fun F hF => ?_⟩
  rw [hp_i_sr, hp_i_sr]; exact hk.2 F hF
theorem KCH_sr {P : PT} {x ch b j : Nat} {v : Option Nat} {h : HP} (hb : b < ch) (hk : KCH P x ch h) : KCH P x ch (hp_sr h b j v) := by
  obtain ⟨⟨c, k1⟩, k2⟩ := hk
  refine ⟨⟨c, CHX_sr (by omega) k1⟩, ?_⟩
  rw [hp_i_sr]
  rcases k2 with ⟨z1, z2⟩ | z
  · refine .inl ⟨z1, fun l hl => ?_⟩
    rw [hp_i_sr]
    rcases z2 l hl with w | ⟨w1, w2⟩
    · exact .inl w
    · refine .inr ⟨w1, fun d hd => ?_⟩
      rw [hp_l_sr, hp_l_sr]; exact w2 d hd
  · exact .inr (fun l hl => by rw [hp_i_sr]; exact z l hl)
/-- all four blocks over a grown heap, with one reference of x changed -/
theorem GRW {P : PT} {q x m sv ro fa ch kk : Nat} {g k : HP} (hx : x < m) (hc : CCH P q x m sv ro fa ch g) (hs : sv ≠ 0) (hi : ∀ a j, a < hp_z g → hp_i k a j = hp_i g a j ∧ hp_l k a j = hp_l g a j) (hr : ∀ a j, a < hp_z g → ¬ (a = x ∧ j = kk) → hp_r k a j = hp_r g a j) (hn : ∀ a, a < hp_z g → hp_n k a = hp_n g a) : KSV P q x sv ro k ∧ (ro ≠ 0 → ROY ro k) ∧ (fa ≠ 0 → KFA P x fa k) ∧ (ch ≠ 0 → KCH P x ch k) := by
  obtain ⟨c1, c2, c3, c4, c5, c6, c7, c8, c9⟩ := hc
  have hsv := c4.2.1 hs
  have H : agb (hp_z g) sv (hp_sr g x kk (hp_r k x kk)) k := by
    refine ⟨fun a j ha => by rw [hp_i_sr, hp_l_sr]; exact hi a j ha, fun a j ha _ => ?_, fun a ha => by rw [hp_n_sr]; exact hn a ha⟩
    rw [hp_r_sr]
    by_cases w : a = x ∧ j = kk
    · rw [if_pos w, w.1, w.2]
    · rw [if_neg w]; exact hr a j ha w
  refine ⟨KSV_agb H (by rw [hp_r_sr, if_neg (by omega)]; exact hr _ _ (by omega) (by omega)) (by omega) (by omega) (KSV_sr (by omega) (c6 hs)), fun w => ?_, fun w => ?_, fun w => ?_⟩
  · have l3 := c4.2.2.1 w
    obtain ⟨b1, b2, b3, b4, b5, b6, b7, b8, b9, b10, b11, b12⟩ := c7 w
    refine ⟨?_, ?_, ?_, ?_, ?_, ?_, ?_, ?_, ?_, ?_, ?_, ?_⟩
    · rw [hr _ _ (by omega) (by omega)]; exact b1
    · rw [hr _ _ (by omega) (by omega)]; exact b2
    · rw [hr _ _ (by omega) (by omega)]; exact b3
    · rw [hr _ _ (by omega) (by omega)]; exact b4
    · rw [hr _ _ (by omega) (by omega)]; exact b5
    · rw [hr _ _ (by omega) (by omega)]; exact b6
    · rw [hn _ (by omega)]; exact b7
    · rw [hn _ (by omega)]; exact b8
    · rw [hn _ (by omega)]; exact b9
    · rw [hn _ (by omega)]; exact b10
    · rw [hn _ (by omega)]; exact b11
    · rw [hn _ (by omega)]; exact b12
  · have l4 := c4.2.2.2.1 w
    exact KFA_agb H (by omega) (by omega) (by omega) (KFA_sr (by omega) (c8 w))
  · have l5 := c4.2.2.2.2.1 w
    exact KCH_agb H (by omega) (by omega) (by omega) (KCH_sr (by omega) (c9 w))
