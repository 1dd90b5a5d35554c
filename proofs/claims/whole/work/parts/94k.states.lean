/-! states -/
theorem op_states (x m : Nat) (v : Int32) : OK2 (f_X_states x v) (f_M_states m v) x m := by
  rintro P ZT ST h ⟨q, sv, ro, fa, ch, hb, hc, hr⟩
  have ok := hb.2.2.2.2.2.2.1
  unfold f_X_states
  by_cases hv : v < 0
  · rw [if_pos hv]
    refine pw_some ?_
    unfold f_M_states
    rw [if_pos hv]
    exact pw_some ⟨rfl, q, sv, ro, fa, ch, hb, hc, hr⟩
  rw [if_neg hv]
  by_cases hv2 : v ≤ 2
  · rw [if_pos hv2]
    refine pw_bind (pw_mono (X_survey hb hc hr) ?_)
    rintro ⟨sv', g⟩ ⟨_, rfl, hs, b1, b2, b3, d1, d2, d3⟩
    dsimp only at b1 b2 b3 d1 d2 d3 ⊢
    have mp := M_plan (F := 3) b1 b2 b3 (by decide)
    rcases d3 with ⟨z0, hI⟩ | ⟨z0, h5⟩
    · have h6 : hp_i g sv' 6 = nI (fb_ct (rgt P (BF P 3).2.1 1) (8 * (BF P 3).1)) := hI.2.2.1.1
      have h7 : hp_i g sv' 7 = nI (fb_ct (rgt P (BF P 3).2.1 2) (8 * (BF P 3).1)) := hI.2.2.1.2.1
      have hcn : hp_i g (sv' + 3) 0 = nI (BF P 3).1 := hI.1.2.2.1
      rw [hI.2.1, if_pos (show nI 0 = (0 : Int32) from rfl)]
      have mid : ∀ w : Int32, (∀ r : Int32 × HP, LAYR m P 3 r → BAS P q x m r.2 → pw (if v = 0 then some (hp_i r.2 m 65, r.2) else if v = 1 then f_M_states_46 (-2) m r.2 else f_M_states_46 (-3) m r.2) (fun s => w = s.1 ∧ s.2 = r.2)) → pw (f_M_states m v g) (fun s => w = s.1 ∧ INV P x m ZT ST s.2) := by
        intro w hw
        unfold f_M_states
        rw [if_neg hv, if_pos hv2]
        refine pw_bind (pw_mono mp ?_)
        rintro r ⟨r1, r2, r3, r4, _⟩
        have e1 := r1.1
        rw [z0] at e1
        rw [e1, if_neg (show ¬ nI (if false = true then 0 else 1) = (0 : Int32) by decide)]
        refine pw_mono (hw r r1 r2) ?_
        rintro s ⟨s1, s2⟩
        exact ⟨s1, by rw [s2]; exact ⟨q, _, _, _, _, r2, r3, r4⟩⟩
      by_cases v0 : v = 0
      · rw [if_pos v0, bn_o d2.2.2.2.2.1, hcn]
        refine pw_some (mid _ (fun r r1 r2 => ?_))
        rw [if_pos v0]
        exact pw_some ⟨r1.2.1.1.2.1.symm, rfl⟩
      · rw [if_neg v0]
        by_cases v1 : v = 1
        · rw [if_pos v1, h6]
          refine pw_some (mid _ (fun r r1 r2 => ?_))
          rw [if_neg v0, if_pos v1]
          unfold f_M_states_46
          rw [show (-2 : Int32) = cvv 1 from rfl, bn_o (M_lead3 ok r2.2.2.1 r2.2.2.2.2.2.2.2.2.1 r1 z0 (.inl rfl))]
          exact pw_some ⟨rfl, rfl⟩
        · rw [if_neg v1, h7]
          refine pw_some (mid _ (fun r r1 r2 => ?_))
          rw [if_neg v0, if_neg v1]
          unfold f_M_states_46
          rw [show (-3 : Int32) = cvv 2 from rfl, bn_o (M_lead3 ok r2.2.2.1 r2.2.2.2.2.2.2.2.2.1 r1 z0 (.inr rfl))]
          exact pw_some ⟨rfl, rfl⟩
    · rw [h5, if_neg (show ¬ nI 1 = (0 : Int32) by decide)]
      refine pw_some ?_
      unfold f_M_states
      rw [if_neg hv, if_pos hv2]
      refine pw_bind (pw_mono mp ?_)
      rintro r ⟨r1, r2, r3, r4, _⟩
      have e1 := r1.1
      rw [z0] at e1
      rw [e1, if_pos (show nI (if true = true then 0 else 1) = (0 : Int32) from rfl)]
      exact pw_some ⟨rfl, q, _, _, _, _, r2, r3, r4⟩
  · rw [if_neg hv2]
    refine pw_some ?_
    unfold f_M_states
    rw [if_neg hv, if_neg hv2]
    exact pw_some ⟨rfl, q, sv, ro, fa, ch, hb, hc, hr⟩
