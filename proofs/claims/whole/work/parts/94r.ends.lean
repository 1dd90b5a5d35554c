/-! ends -/
theorem op_ends (x m : Nat) : OK2 (f_X_ends x) (f_M_ends m) x m := by
  rintro P ZT ST h ⟨q, sv, ro, fa, ch, hb, hc, hr⟩
  have ok := hb.2.2.2.2.2.2.1
  have hel := enl_le ok
  unfold f_X_ends
  refine pw_bind (pw_mono (X_survey hb hc hr) ?_)
  rintro ⟨sv', g⟩ ⟨_, rfl, hs, b1, b2, b3, d⟩
  dsimp only at b1 b2 b3 d ⊢
  rcases d.2.2 with ⟨z0, hI⟩ | ⟨z0, h5⟩
  · rw [hI.2.1, if_pos (show nI 0 = (0 : Int32) from rfl)]
    refine pw_bind (pw_mono (X_rounds b1 b2 b3 hs d z0) ?_)
    rintro t ⟨t1, ro', t2, t3, t4⟩
    have fin : ∀ v : Int32, (v = if enl P = 0 then 1 else 0) → pw (f_M_ends m t.2) (fun s => v = s.1 ∧ INV P x m ZT ST s.2) := by
      intro v hv
      unfold f_M_ends
      refine pw_bind (pw_mono (M_plan (F := 3) t2 t3 t4 (by decide)) ?_)
      rintro r ⟨r1, r2, r3, r4, _⟩
      have e1 := r1.1
      rw [z0] at e1
      rw [e1, if_neg (show ¬ nI (if false = true then 0 else 1) = (0 : Int32) by decide)]
      refine pw_bind (pw_mono (M_endlessMany (TAB_3 ok r2.2.2.1 r2.2.2.2.2.2.2.2.2.1 r1 z0)) ?_)
      rintro s ⟨s1, s2⟩
      have s1 : s.1 = nI (enl P) := s1
      obtain ⟨w1, w2, w3⟩ := KEEP_m r2 r3 r4 s2 (fun a k z => .inr (by unfold S_en at z; omega)) (fun N hN => CM_ag (fun a k hk => hf_i s2 (by unfold F_CM at hk; unfold S_en; omega)) hN)
      rw [s1]
      by_cases z : enl P = 0
      · rw [z, if_pos (show nI 0 = (0 : Int32) from rfl)]
        exact pw_some ⟨by rw [hv, if_pos z], q, _, _, _, _, w1, w2, w3⟩
      · rw [if_neg (nI_ne0 (by omega) (by omega))]
        exact pw_some ⟨by rw [hv, if_neg z], q, _, _, _, _, w1, w2, w3⟩
    rw [t1]
    by_cases z : enl P = 0
    · rw [z, if_pos (show nI 0 = (0 : Int32) from rfl)]
      exact pw_some (fin 1 (by rw [if_pos z]))
    · rw [if_neg (nI_ne0 (by omega) (by omega))]
      exact pw_some (fin 0 (by rw [if_neg z]))
  · rw [h5, if_neg (show ¬ nI 1 = (0 : Int32) by decide)]
    refine pw_some ?_
    unfold f_M_ends
    refine pw_bind (pw_mono (M_plan (F := 3) b1 b2 b3 (by decide)) ?_)
    rintro r ⟨r1, r2, r3, r4, _⟩
    have e1 := r1.1
    rw [z0] at e1
    rw [e1, if_pos (show nI (if true = true then 0 else 1) = (0 : Int32) from rfl)]
    exact pw_some ⟨rfl, q, _, _, _, _, r2, r3, r4⟩
