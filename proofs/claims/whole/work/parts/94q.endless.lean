/-! endless, ends -/
theorem TAB_3 {P : PT} {m : Nat} {r : Int32 × HP} (ok : POK P) (hs : MS m r.2) (hp : PM P m r.2) (hL : LAYR m P 3 r) (h0 : (BF P 3).2.2 = false) : TAB m (BF P 3).1 (p_nm P) (brr P) (bnx P) r.2 := TAB_of ok (BF_n ok 3) hs hp hL.2.1 (hL.2.2 h0).1 (hL.2.2 h0).2
theorem op_endless (x m : Nat) : OK2 (f_X_endless x) (f_M_endless m) x m := by
  rintro P ZT ST h ⟨q, sv, ro, fa, ch, hb, hc, hr⟩
  have ok := hb.2.2.2.2.2.2.1
  unfold f_X_endless
  refine pw_bind (pw_mono (X_survey hb hc hr) ?_)
  rintro ⟨sv', g⟩ ⟨_, rfl, hs, b1, b2, b3, d⟩
  dsimp only at b1 b2 b3 d ⊢
  rcases d.2.2 with ⟨z0, hI⟩ | ⟨z0, h5⟩
  · rw [hI.2.1, if_pos (show nI 0 = (0 : Int32) from rfl)]
    refine pw_bind (pw_mono (X_rounds b1 b2 b3 hs d z0) ?_)
    rintro t ⟨t1, ro', t2, t3, t4⟩
    refine pw_some ?_
    dsimp only
    unfold f_M_endless
    refine pw_bind (pw_mono (M_plan (F := 3) t2 t3 t4 (by decide)) ?_)
    rintro r ⟨r1, r2, r3, r4, _⟩
    have e1 := r1.1
    rw [z0] at e1
    rw [e1, if_neg (show ¬ nI (if false = true then 0 else 1) = (0 : Int32) by decide)]
    refine pw_bind (pw_mono (M_endlessMany (TAB_3 ok r2.2.2.1 r2.2.2.2.2.2.2.2.2.1 r1 z0)) ?_)
    rintro s ⟨s1, s2⟩
    obtain ⟨w1, w2, w3⟩ := KEEP_m r2 r3 r4 s2 (fun a k z => .inr (by unfold S_en at z; omega)) (fun N hN => CM_ag (fun a k hk => hf_i s2 (by unfold F_CM at hk; unfold S_en; omega)) hN)
    exact pw_some ⟨by rw [t1, s1]; rfl, q, _, _, _, _, w1, w2, w3⟩
  · rw [h5, if_neg (show ¬ nI 1 = (0 : Int32) by decide)]
    refine pw_some ?_
    unfold f_M_endless
    refine pw_bind (pw_mono (M_plan (F := 3) b1 b2 b3 (by decide)) ?_)
    rintro r ⟨r1, r2, r3, r4, _⟩
    have e1 := r1.1
    rw [z0] at e1
    rw [e1, if_pos (show nI (if true = true then 0 else 1) = (0 : Int32) from rfl)]
    exact pw_some ⟨rfl, q, _, _, _, _, r2, r3, r4⟩
