/-! shows -/
theorem M_showsS {P : PT} {q x m sv ro fa ch ZT ST : Nat} {v : Int32} {g : HP} (b1 : BAS P q x m g) (b2 : CCH P q x m sv ro fa ch g) (b3 : RM ZT ST sv ro fa ch g) (z0 : (BF P 3).2.2 = true) : pw (f_M_shows m v g) (fun s => s.1 = -2 ∧ INV P x m ZT ST s.2) := by
  unfold f_M_shows
  refine pw_bind (pw_mono (M_plan (F := 3) b1 b2 b3 (by decide)) ?_)
  rintro r ⟨r1, r2, r3, r4, _⟩
  have e1 := r1.1
  rw [z0] at e1
  rw [e1, if_pos (show nI (if true = true then 0 else 1) = (0 : Int32) from rfl)]
  exact pw_some ⟨rfl, q, _, _, _, _, r2, r3, r4⟩
theorem op_shows (x m : Nat) (v : Int32) : OK2 (f_X_shows x v) (f_M_shows m v) x m := by
  rintro P ZT ST h ⟨q, sv, ro, fa, ch, hb, hc, hr⟩
  have ok := hb.2.2.2.2.2.2.1
  unfold f_X_shows
  refine pw_bind (pw_mono (X_survey hb hc hr) ?_)
  rintro ⟨sv', g⟩ ⟨_, rfl, hs, b1, b2, b3, d⟩
  dsimp only at b1 b2 b3 d ⊢
  rcases d.2.2 with ⟨z0, hI⟩ | ⟨z0, h5⟩
  · have ho := ORD_3 ok hI
    have hst := ho.1
    have hn5 := BF_n ok 3
    have e9' := SVI_9 hI
    rw [hI.2.1, if_pos (show nI 0 = (0 : Int32) from rfl)]
    by_cases hf : fa_first (rgt P (BF P 3).2.1 2) (8 * (BF P 3).1) < 8 * (BF P 3).1
    · have e9 := e9'.1 hf
      have hF := FST_3 ok hf
      obtain ⟨w, hw⟩ : ∃ w, fa_first (rgt P (BF P 3).2.1 2) (8 * (BF P 3).1) / 8 = w := ⟨_, rfl⟩
      obtain ⟨i, hi⟩ : ∃ i, fa_first (rgt P (BF P 3).2.1 2) (8 * (BF P 3).1) % 8 = i := ⟨_, rfl⟩
      rw [hw, hi] at hF e9
      have hdl := dp_lt (ORD_p ho) _ hF.1
      have hF1 := hF.1
      have hal := al_le P
      obtain ⟨D, hD⟩ : ∃ D, dp (ffp P (BF P 3).2.1) (stN P) w = D := ⟨_, rfl⟩
      have fin : ∀ (v u : Int32), (v < 0 → u = -1) → (∀ K, v = nI K → K ≤ D → u = nI (rwv (ffp P (BF P 3).2.1) (stN P) w i K)) → (∀ K, v = nI K → D < K → K < 2 ^ 31 → u = -1) → pw (f_M_shows m v g) (fun s => u = s.1 ∧ INV P x m ZT ST s.2) := by
        intro v u u1 u2 u3
        unfold f_M_shows
        refine pw_bind (pw_mono (M_plan (F := 3) b1 b2 b3 (by decide)) ?_)
        rintro r ⟨r1, r2, r3, r4, _⟩
        have e1 := r1.1
        rw [z0] at e1
        rw [e1, if_neg (show ¬ nI (if false = true then 0 else 1) = (0 : Int32) by decide), show (-3 : Int32) = cvv 2 from rfl]
        have tb := TAB_3 ok r2.2.2.1 r2.2.2.2.2.2.2.2.2.1 r1 z0
        refine pw_bind (pw_mono (M_soonF ok r2.2.2.2.2.2.2.2.2.1 tb ho (.inr rfl) hF) ?_)
        rintro s ⟨H, so, l, hS, hcell, s1, l1, l2, l3, l4, l5⟩
        obtain ⟨w1, w2, w3⟩ := M30 r2 r3 r4 H
        have hm := w1.2.2.1
        have tb2 := TAB_fr H (fun a k z => ⟨by omega, by omega⟩) tb
        rw [s1, if_neg (nI_pos (by omega))]
        rcases i_rng v D (by omega) with hv | ⟨K, hK, rfl⟩ | ⟨K, n1, n2, rfl⟩
        · rw [if_pos hv]
          exact pw_some ⟨u1 hv, q, _, _, _, _, w1, w2, w3⟩
        · rw [if_neg (nI_pos (by omega)), mb_68 hm, bn_o (M_startNumber ok w1.2.2.2.2.2.2.2.2.1 (by omega))]
          dsimp only
          rw [mn_30 hm, if_pos (hp_in_nI (by omega) (by omega)), nI_clamp (by omega), (hcell _ l3).2, l5, hD, if_pos (nI_lt (by omega) (by omega)), bn_o (M_startNumber ok w1.2.2.2.2.2.2.2.2.1 (by omega))]
          dsimp only
          rw [l4, show (0 : Int32) = nI 0 from rfl, M_shows54 ho tb2 hS hF hcell (by omega)]
          exact pw_some ⟨u2 K rfl hK, q, _, _, _, _, w1, w2, w3⟩
        · rw [if_neg (nI_pos (by omega)), mb_68 hm, bn_o (M_startNumber ok w1.2.2.2.2.2.2.2.2.1 (by omega))]
          dsimp only
          rw [mn_30 hm, if_pos (hp_in_nI (by omega) (by omega)), nI_clamp (by omega), (hcell _ l3).2, l5, hD, if_neg (nI_nlt (by omega) (by omega))]
          exact pw_some ⟨u3 K rfl n1 n2, q, _, _, _, _, w1, w2, w3⟩
      rcases i_rng v D (by omega) with hv | ⟨K, hK, rfl⟩ | ⟨K, n1, n2, rfl⟩
      · rw [if_pos hv]
        exact pw_some (fin _ _ (fun _ => rfl) (fun K z _ => by rw [z] at hv; exact absurd hv (nI_pos (by omega))) (fun _ _ _ _ => rfl))
      · have hrow : hp_i g (sv' + 6) K = nI (rwv (ffp P (BF P 3).2.1) (stN P) w i K) := by
          unfold rwv
          rw [hD]
          obtain ⟨_, _, y3, y4⟩ := e9
          rw [hD] at y3 y4
          by_cases z : K < D
          · rw [if_pos z]; exact y4 K z
          · rw [if_neg z, show K = D by omega]; exact y3
        have hr2 := d.2.1.2.2.2.2.2.1
        have hn6 := d.2.1.2.2.2.2.2.2.2.2.2.2.2.1
        rw [if_neg (nI_pos (by omega)), e9.1, hD, if_pos (nI_lt (by omega) (by omega)), bn_o hr2, hn6, if_pos (hp_in_nI (by omega) (by omega)), nI_clamp (by omega), hrow]
        exact pw_some (fin _ _ (fun z => absurd z (nI_pos (by omega))) (fun K' z hK' => by rw [(nI_eq (by omega) (by omega)).mp z]) (fun K' z y y2 => by have := (nI_eq (by omega) (by omega)).mp z; omega))
      · rw [if_neg (nI_pos (by omega)), e9.1, hD, if_neg (nI_nlt (by omega) (by omega))]
        exact pw_some (fin _ _ (fun _ => rfl) (fun K' z hK' => by have := (nI_eq (by omega) (by omega)).mp z; omega) (fun _ _ _ _ => rfl))
    · have e9 := e9'.2 hf
      have fin : ∀ v : Int32, pw (f_M_shows m v g) (fun s => -1 = s.1 ∧ INV P x m ZT ST s.2) := by
        intro v
        unfold f_M_shows
        refine pw_bind (pw_mono (M_plan (F := 3) b1 b2 b3 (by decide)) ?_)
        rintro r ⟨r1, r2, r3, r4, _⟩
        have e1 := r1.1
        rw [z0] at e1
        rw [e1, if_neg (show ¬ nI (if false = true then 0 else 1) = (0 : Int32) by decide), show (-3 : Int32) = cvv 2 from rfl]
        refine pw_bind (pw_mono (M_soonN ok r2.2.2.2.2.2.2.2.2.1 (TAB_3 ok r2.2.2.1 r2.2.2.2.2.2.2.2.2.1 r1 z0) hst (.inr rfl) (FNO_3 ok hf)) ?_)
        rintro s ⟨H, s1⟩
        obtain ⟨w1, w2, w3⟩ := M30 r2 r3 r4 H
        rw [s1, if_pos (show (-1 : Int32) < 0 by decide)]
        exact pw_some ⟨rfl, q, _, _, _, _, w1, w2, w3⟩
      rw [e9.1]
      by_cases hv : v < 0
      · rw [if_pos hv]; exact pw_some (fin v)
      · rw [if_neg hv, if_neg (show ¬ v < nI 0 from hv)]; exact pw_some (fin v)
  · rw [h5, if_neg (show ¬ nI 1 = (0 : Int32) by decide)]
    refine pw_some ?_
    refine pw_mono (M_showsS b1 b2 b3 z0) ?_
    rintro s ⟨s1, s2⟩
    exact ⟨s1.symm, s2⟩
