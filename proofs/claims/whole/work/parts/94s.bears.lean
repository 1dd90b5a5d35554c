/-! bears: where faults are kept -/
theorem SVI_st {S : Nat → Nat → Prop} {P : PT} {sv p : Nat} {B : BT} {h h' : HP} (H : hp_fr S h h') (hS : ∀ a k, S a k → ¬ (sv ≤ a ∧ a < sv + 10 ∧ a ≠ sv + 2)) (hp : p ≤ 8 * B.1) (hst : STC P (sv + 2) h') (hj : SVI P sv B p h) : SVI P sv B p h' := by
  have e : ∀ a k, sv ≤ a ∧ a < sv + 10 ∧ a ≠ sv + 2 → hp_i h' a k = hp_i h a k := fun a k hk => hf_i H (fun z => hS a k z hk)
  obtain ⟨i1, i2, i3, i4, i5, i6, i7, i8, i9, i10⟩ := hj
  exact ⟨SSX_fr H (fun a k z y => hS a k z (by unfold F_SS at y; omega)) i1, by rw [e _ _ (by omega)]; exact i2, FND_x (xtd_rf B) hp i7.2.2.2.2.1 (fun a k hk => e a k (by unfold F_FN at hk; omega)) i3, by rw [e _ _ (by omega)]; exact i4, fun i hi => by rw [e _ _ (by omega)]; exact i5 i hi, fun s i a1 a2 a3 => by rw [e _ _ (by omega)]; exact i6 s i a1 a2 a3, CFX_fr H (fun a k z y => hS a k z (by omega)) i7, hst, i9, i10⟩
theorem brv_n3 (P : PT) (F : Nat) : brv P F ≠ -3 := by
  unfold brv
  split
  · decide
  · split <;> decide
theorem X_bears44 {P : PT} {q x m sv ro fa ch ZT ST F : Nat} {g : HP} (hb : BAS P q x m g) (hc : CCH P q x m sv ro fa ch g) (hr : RM ZT ST sv ro fa ch g) (hs : sv ≠ 0) (hd : SVD P q x sv g) (h0 : (BF P 3).2.2 = false) (hfa : fa ≠ 0) (hF : F < 3) : pw (f_X_bears_44 x (nI F) sv g) (fun r => r.1 = brv P F ∧ BAS P q x m r.2 ∧ CCH P q x m sv ro fa ch r.2 ∧ RM ZT ST sv ro fa ch r.2) := by
  obtain ⟨hm, hq⟩ := BAS_q hb
  have ok := hb.2.2.2.2.2.2.1
  obtain ⟨d1, d2, d3⟩ := hd
  obtain ⟨c1, c2, c3, c4, c5, c6, c7, c8, c9⟩ := id hc
  obtain ⟨k1, k2, k3⟩ := c6 hs
  have hsv := c4.2.1 hs
  have hfl := c4.2.2.2.1 hfa
  obtain ⟨y1, y2⟩ := c8 hfa
  have hI : SVI P sv (BF P 3) (8 * (BF P 3).1) g := by
    rcases d3 with ⟨_, z⟩ | ⟨z, _⟩
    · exact z
    · rw [h0] at z; exact absurd z (by decide)
  obtain ⟨z1, z2, z3, z4⟩ : hp_i g x 11 = 1 ∧ hp_r g sv 4 = some q ∧ SVJ P sv (BF P 3) (8 * (BF P 3).1) g ∧ (hp_i g sv 15 = -1 ∨ hp_i g sv 15 = nI (enl P)) := by
    rcases k3 with z | z
    · rw [d1] at z; exact absurd z (by decide)
    · exact z
  have hlook := X_look ok hF (show q + 8 < sv by omega) (show sv + 9 < fa by omega) y1 d2 h0 hI
  have n3 := brv_n3 P F
  obtain ⟨bv, hbv⟩ : ∃ bv, brv P F = bv := ⟨_, rfl⟩
  have y2F := y2 F hF
  rw [hbv] at hlook n3 y2F ⊢
  unfold f_X_bears_44 f_Fa_borne
  rw [bn_o (by rw [c2, op_p hfa]), if_neg (nI_pos (by omega)), if_pos (show nI F < (3 : Int32) from nI_lt (b := 3) hF (by decide)), bn_o y1.1, y1.2.2.1, if_pos (hp_in_nI (by omega) (by omega)), nI_clamp (by omega)]
  by_cases hk : hp_i g (fa + 1) F = -3
  · rw [hk, if_pos rfl, bn_o y1.1]
    refine pw_bind (pw_bind (pw_mono hlook ?_))
    rintro ⟨bw, k⟩ ⟨hbw, K, kst⟩
    dsimp only at hbw K kst ⊢
    rw [hbw]
    have kn : hp_n k (fa + 1) = 3 := by rw [hp_fr_n K]; exact y1.2.2.1
    rw [kn, if_pos (hp_in_nI (by omega) (by omega)), xx_lE]
    obtain ⟨k', hk'⟩ : ∃ k', hp_si k (fa + 1) F bv = k' := ⟨_, rfl⟩
    rw [hk']
    have K' : hp_fr (fun a j => (S_lt fa sv q a j ∨ a = fa + 2) ∨ a = fa + 1 ∧ j = F) g k' := by rw [← hk']; exact hf_si (hp_fr_mo K (fun a j z => .inl z)) (.inr ⟨rfl, rfl⟩)
    have kst' : STC P (sv + 2) k' := STC_ag (fun j => by rw [← hk', hp_i_si, if_neg (by omega)]) kst
    have eF : hp_i k' (fa + 1) F = bv := by rw [← hk', hp_i_si, if_pos ⟨rfl, rfl⟩]
    have ka := FAX_fr K' y1
    rw [bn_o ka.1, ka.2.2.1, if_pos (hp_in_nI (by omega) (by omega)), eF]
    refine pw_some (pw_some ⟨rfl, BAS_gen hb (fun a j q1 q2 => ⟨hf_i K' ?_, hf_l K' ?_⟩) (fun a j _ _ => hp_fr_r K' a j) (fun a _ => hp_fr_n K' a) (Nat.le_of_eq (hp_fr_z K').symm) (fun N hN => CM_ag (fun a j hk => hf_i K' (by unfold F_CM at hk; unfold S_lt S_fa S_set S_sp S_oc; omega)) hN), ⟨by rw [hp_fr_r K']; exact c1, by rw [hp_fr_r K']; exact c2, by rw [hp_fr_r K']; exact c3, by rw [hp_fr_z K']; exact c4, fun w => absurd w hs, fun _ => ⟨SVZ_fr K' k1, by rw [hp_fr_r K']; exact k2, .inr ⟨by rw [hf_i K' (by unfold S_lt S_fa S_set S_sp S_oc; omega)]; exact z1, by rw [hp_fr_r K']; exact z2, .inl ⟨h0, SVI_st K' (by unfold S_lt S_fa S_set S_sp S_oc; omega) (Nat.le_refl _) kst' hI⟩, by rw [hf_i K' (by unfold S_lt S_fa S_set S_sp S_oc; omega)]; exact z4⟩⟩, fun w => ROY_fr K' (c7 w), fun _ => ⟨ka, fun G hG => ?_⟩, fun w => ?_⟩, ?_⟩)
    · exact fun z => q2 (by unfold S_lt S_fa S_set S_sp S_oc at z; unfold S_sc; omega)
    · exact fun z => q2 (by unfold S_lt S_fa S_set S_sp S_oc at z; unfold S_sc; omega)
    · show hp_i k' (fa + 1) G = -3 ∨ (hp_i k' x 11 = 1 ∧ hp_i k' (fa + 1) G = brv P G)
      rw [hf_i K' (a := x) (k := 11) (by unfold S_lt S_fa S_set S_sp S_oc; omega)]
      by_cases w : G = F
      · rw [w, hbv]; exact .inr ⟨z1, eF⟩
      · rw [hf_i K' (by unfold S_lt S_fa S_set S_sp S_oc; omega)]; exact y2 G hG
    · have l5 := c4.2.2.2.2.1 w
      have l8 := c4.2.2.2.2.2.2.2 hfa w
      exact KCH_fr K' (by unfold S_lt S_fa S_set S_sp S_oc; omega) (by unfold S_lt S_fa S_set S_sp S_oc; omega) (c9 w)
    · unfold RM; rw [hp_fr_z K', hp_fr_s K']; exact hr
  · have eF : hp_i g (fa + 1) F = bv := by
      rcases y2F with w | ⟨_, w⟩
      · exact absurd w hk
      · exact w
    rw [if_neg hk, bn_o y1.1, y1.2.2.1, if_pos (hp_in_nI (by omega) (by omega)), eF]
    exact pw_some ⟨rfl, hb, hc, hr⟩
