/-! right -/
theorem M_lead3 {P : PT} {m c : Nat} {r : Int32 × HP} (ok : POK P) (hs : MS m r.2) (hp : PM P m r.2) (hL : LAYR m P 3 r) (h0 : (BF P 3).2.2 = false) (hc : c = 1 ∨ c = 2) : f_M_leads m (cvv c) r.2 = some (nI (fb_ct (rgt P (BF P 3).2.1 c) (8 * (BF P 3).1)), r.2) := by
  obtain ⟨_, l2, l3⟩ := hL
  obtain ⟨_, n2⟩ := l3 h0
  have hn := BF_n ok 3
  generalize BF P 3 = B at *
  exact M_leads hs ok hp.2.2.2.2.2.1 hn hc l2.1.2.1 (fun s i h1 h2 => n2 s i h1 (by have := ok.2.2.2.2.2.1; omega) h2)
theorem op_right (x m : Nat) : OK2 (f_X_right x) (f_M_right m) x m := by
  rintro P ZT ST h ⟨q, sv, ro, fa, ch, hb, hc, hr⟩
  have ok := hb.2.2.2.2.2.2.1
  have hn := BF_n ok 3
  unfold f_X_right
  refine pw_bind (pw_mono (X_survey hb hc hr) ?_)
  rintro ⟨sv', g⟩ ⟨_, rfl, hs, b1, b2, b3, d1, d2, d3⟩
  dsimp only at b1 b2 b3 d1 d2 d3 ⊢
  have mp := M_plan (F := 3) b1 b2 b3 (by decide)
  rcases d3 with ⟨z0, hI⟩ | ⟨z0, h5⟩
  · have h7 : hp_i g sv' 7 = nI (fb_ct (rgt P (BF P 3).2.1 2) (8 * (BF P 3).1)) := hI.2.2.1.2.1
    have hle := fb_ct_le (rgt P (BF P 3).2.1 2) (8 * (BF P 3).1)
    rw [hI.2.1, if_pos (show nI 0 = (0 : Int32) from rfl), h7]
    have fin : ∀ v : Int32, (v = if fb_ct (rgt P (BF P 3).2.1 2) (8 * (BF P 3).1) = 0 then 1 else 0) → pw (f_M_right m g) (fun s => v = s.1 ∧ INV P x m ZT ST s.2) := by
      intro v hv
      unfold f_M_right
      refine pw_bind (pw_mono mp ?_)
      rintro r ⟨r1, r2, r3, r4, _⟩
      have e1 := r1.1
      rw [z0] at e1
      rw [e1, if_neg (show ¬ nI (if false = true then 0 else 1) = (0 : Int32) by decide), show (-3 : Int32) = cvv 2 from rfl, bn_o (M_lead3 ok r2.2.2.1 r2.2.2.2.2.2.2.2.2.1 r1 z0 (.inr rfl))]
      dsimp only
      by_cases z : fb_ct (rgt P (BF P 3).2.1 2) (8 * (BF P 3).1) = 0
      · rw [z, if_pos (show nI 0 = (0 : Int32) from rfl)]
        exact pw_some ⟨by rw [hv, if_pos z], q, _, _, _, _, r2, r3, r4⟩
      · rw [if_neg (nI_ne0 (by omega) (by omega))]
        exact pw_some ⟨by rw [hv, if_neg z], q, _, _, _, _, r2, r3, r4⟩
    by_cases z : fb_ct (rgt P (BF P 3).2.1 2) (8 * (BF P 3).1) = 0
    · rw [z, if_pos (show nI 0 = (0 : Int32) from rfl)]
      exact pw_some (fin 1 (by rw [if_pos z]))
    · rw [if_neg (nI_ne0 (by omega) (by omega))]
      exact pw_some (fin 0 (by rw [if_neg z]))
  · rw [h5, if_neg (show ¬ nI 1 = (0 : Int32) by decide)]
    refine pw_some ?_
    unfold f_M_right
    refine pw_bind (pw_mono mp ?_)
    rintro r ⟨r1, r2, r3, r4, _⟩
    have e1 := r1.1
    rw [z0] at e1
    rw [e1, if_pos (show nI (if true = true then 0 else 1) = (0 : Int32) from rfl)]
    exact pw_some ⟨rfl, q, _, _, _, _, r2, r3, r4⟩
