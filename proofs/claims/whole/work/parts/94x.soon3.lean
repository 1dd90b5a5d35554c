/-! soonest, shown, shows -/
theorem fs_lm {P : PT} {l : Nat} (hl : l < 4) : lm (fs P l) = l := by unfold fs; exact ex_lm hl
theorem SVI_9 {P : PT} {sv p : Nat} {B : BT} {h : HP} (hI : SVI P sv B p h) : (fa_first (rgt P B.2.1 2) p < p → RWS sv (stN P) B.2.1 (ffp P B.2.1) (fa_first (rgt P B.2.1 2) p / 8) (fa_first (rgt P B.2.1 2) p % 8) h) ∧ (¬ fa_first (rgt P B.2.1 2) p < p → hp_i h sv 9 = nI 0 ∧ hp_i h sv 10 = -1) := by
  have h4 := hI.2.2.1.2.2.2
  exact ⟨fun z => by rw [if_pos z] at h4; exact h4, fun z => by rw [if_neg z] at h4; exact h4⟩
theorem M_soonF {P : PT} {m c n w i : Nat} {rr nx : Nat → Nat → Nat} {ff : Nat → Nat} {h : HP} (ok : POK P) (hp : PM P m h) (ht : TAB m n (p_nm P) rr nx h) (ho : ORD n (stN P) (p_nm P) rr nx ff) (hc : c = 1 ∨ c = 2) (hF : FST n (p_nm P) c rr w i) : pw (f_M_soonStart m (cvv c) h) (fun r => hp_fr (fun a _ => a = m + 30) h r.2 ∧ ∃ (so : Nat → Nat) (l : Nat), SOL rr nx (p_nm P) c n so ∧ (∀ s, s < n → so s ≤ 5002 ∧ hp_i r.2 (m + 30) s = nI (so s)) ∧ r.1 = nI l ∧ l ≤ al P ∧ ist P l = true ∧ sx P l < n ∧ sx P l = anc ff w (dp ff (stN P) w) ∧ so (sx P l) = dp ff (stN P) w + 1) := by
  refine pw_mono (M_soonStart ok hp ht ho.1 hc) ?_
  rintro r ⟨H, so, hS, hcell, hr⟩
  have hw := hF.1
  obtain ⟨l, l1, l2, l3⟩ := sx_at ok (anc_end (ORD_p ho) hw)
  have hb := bst_root ok ho hS hF l1 l2 l3
  have hrow := so_row ho hS hF (dp ff (stN P) w) (Nat.le_refl _)
  have hlt := sx_lt ok (show l < 4 by have := al_le P; omega) l2
  refine ⟨H, so, l, hS, hcell, ?_, l1, l2, Nat.lt_of_lt_of_le hlt ho.1, l3, by rw [l3]; exact hrow⟩
  rw [hr, hb, utv_s (by omega)]; rfl
theorem M_soonN {P : PT} {m c n : Nat} {rr nx : Nat → Nat → Nat} {h : HP} (ok : POK P) (hp : PM P m h) (ht : TAB m n (p_nm P) rr nx h) (hst : stN P ≤ n) (hc : c = 1 ∨ c = 2) (hF : ∀ s j, s < n → j < p_nm P → rr s j ≠ c) : pw (f_M_soonStart m (cvv c) h) (fun r => hp_fr (fun a _ => a = m + 30) h r.2 ∧ r.1 = -1) := by
  refine pw_mono (M_soonStart ok hp ht hst hc) ?_
  rintro r ⟨H, so, hS, hcell, hr⟩
  refine ⟨H, ?_⟩
  rw [hr, bst_none ok hst (SOL_none ht.2.2.2.2.2.2.1 hS hF)]; rfl
theorem ORD_3 {P : PT} {sv : Nat} {h : HP} (ok : POK P) (hI : SVI P sv (BF P 3) (8 * (BF P 3).1) h) : ORD (BF P 3).1 (stN P) (p_nm P) (brr P) (bnx P) (ffp P (BF P 3).2.1) := ORD_of ok.2.2.2.2.2.1 (BF_G ok 3) hI.2.2.2.2.2.2.1.2.2.2.1 hI.2.2.2.2.2.2.2.2.1 hI.2.2.2.2.2.2.2.2.2
theorem FST_3 {P : PT} {c : Nat} (ok : POK P) (h : fa_first (rgt P (BF P 3).2.1 c) (8 * (BF P 3).1) < 8 * (BF P 3).1) : FST (BF P 3).1 (p_nm P) c (brr P) (fa_first (rgt P (BF P 3).2.1 c) (8 * (BF P 3).1) / 8) (fa_first (rgt P (BF P 3).2.1 c) (8 * (BF P 3).1) % 8) := FST_of ok.2.2.2.2.2.1 h
theorem FNO_3 {P : PT} {c : Nat} (ok : POK P) (h : ¬ fa_first (rgt P (BF P 3).2.1 c) (8 * (BF P 3).1) < 8 * (BF P 3).1) : ∀ s j, s < (BF P 3).1 → j < p_nm P → brr P s j ≠ c := FST_no ok.2.2.2.2.2.1 h
theorem M30 {P : PT} {q x m sv ro fa ch ZT ST : Nat} {h s : HP} (hb : BAS P q x m h) (hc : CCH P q x m sv ro fa ch h) (hr : RM ZT ST sv ro fa ch h) (H : hp_fr (fun a _ => a = m + 30) h s) : BAS P q x m s ∧ CCH P q x m sv ro fa ch s ∧ RM ZT ST sv ro fa ch s := KEEP_m hb hc hr H (fun a k z => .inr (by omega)) (fun N hN => CM_ag (fun a k hk => hf_i H (by unfold F_CM at hk; omega)) hN)
theorem op_soonest (x m : Nat) : OK2 (f_X_soonest x) (f_M_soonest m) x m := by
  rintro P ZT ST h ⟨q, sv, ro, fa, ch, hb, hc, hr⟩
  have ok := hb.2.2.2.2.2.2.1
  unfold f_X_soonest
  refine pw_bind (pw_mono (X_survey hb hc hr) ?_)
  rintro ⟨sv', g⟩ ⟨_, rfl, hs, b1, b2, b3, d⟩
  dsimp only at b1 b2 b3 d ⊢
  rcases d.2.2 with ⟨z0, hI⟩ | ⟨z0, h5⟩
  · have ho := ORD_3 ok hI
    have e8 := hI.2.2.1.2.2.1
    rw [hI.2.1, if_pos (show nI 0 = (0 : Int32) from rfl), e8]
    refine pw_some ?_
    dsimp only
    unfold f_M_soonest
    refine pw_bind (pw_mono (M_plan (F := 3) b1 b2 b3 (by decide)) ?_)
    rintro r ⟨r1, r2, r3, r4, _⟩
    have e1 := r1.1
    rw [z0] at e1
    rw [e1, if_neg (show ¬ nI (if false = true then 0 else 1) = (0 : Int32) by decide), show (-2 : Int32) = cvv 1 from rfl]
    have tb := TAB_3 ok r2.2.2.1 r2.2.2.2.2.2.2.2.2.1 r1 z0
    have pm := r2.2.2.2.2.2.2.2.2.1
    by_cases hf : fa_first (rgt P (BF P 3).2.1 1) (8 * (BF P 3).1) < 8 * (BF P 3).1
    · rw [if_pos hf]
      refine pw_bind (pw_mono (M_soonF ok pm tb ho (.inl rfl) (FST_3 ok hf)) ?_)
      rintro s ⟨H, so, l, hS, hcell, s1, l1, l2, l3, l4, l5⟩
      obtain ⟨w1, w2, w3⟩ := M30 r2 r3 r4 H
      have hl3 := al_le P
      have hm := w1.2.2.1
      have hn5 := tb.2.1
      rw [s1, if_pos (show (0 : Int32) ≤ nI l from nI_le (a := 0) (by omega) (by omega)), mb_68 hm, bn_o (M_startNumber ok w1.2.2.2.2.2.2.2.2.1 (by omega))]
      dsimp only
      rw [mn_30 hm, if_pos (hp_in_nI (by omega) (by omega)), nI_clamp (by omega), (hcell _ l3).2, l5]
      exact pw_some ⟨rfl, q, _, _, _, _, w1, w2, w3⟩
    · rw [if_neg hf]
      refine pw_bind (pw_mono (M_soonN ok pm tb ho.1 (.inl rfl) (FNO_3 ok hf)) ?_)
      rintro s ⟨H, s1⟩
      obtain ⟨w1, w2, w3⟩ := M30 r2 r3 r4 H
      rw [s1, if_neg (show ¬ (0 : Int32) ≤ -1 by decide)]
      exact pw_some ⟨rfl, q, _, _, _, _, w1, w2, w3⟩
  · rw [h5, if_neg (show ¬ nI 1 = (0 : Int32) by decide)]
    refine pw_some ?_
    unfold f_M_soonest
    refine pw_bind (pw_mono (M_plan (F := 3) b1 b2 b3 (by decide)) ?_)
    rintro r ⟨r1, r2, r3, r4, _⟩
    have e1 := r1.1
    rw [z0] at e1
    rw [e1, if_pos (show nI (if true = true then 0 else 1) = (0 : Int32) from rfl)]
    exact pw_some ⟨rfl, q, _, _, _, _, r2, r3, r4⟩
theorem op_shown (x m : Nat) (v : Int32) : OK2 (f_X_shown x v) (f_M_shown m v) x m := by
  rintro P ZT ST h ⟨q, sv, ro, fa, ch, hb, hc, hr⟩
  have ok := hb.2.2.2.2.2.2.1
  unfold f_X_shown
  by_cases hv : v < 0
  · rw [if_pos hv]
    refine pw_some ?_
    unfold f_M_shown
    rw [if_pos hv]
    exact pw_some ⟨rfl, q, sv, ro, fa, ch, hb, hc, hr⟩
  by_cases hv2 : v ≤ 1
  rotate_left
  · rw [if_neg hv, if_neg hv2]
    refine pw_some ?_
    unfold f_M_shown
    rw [if_neg hv, if_neg hv2]
    exact pw_some ⟨rfl, q, sv, ro, fa, ch, hb, hc, hr⟩
  rw [if_neg hv, if_pos hv2]
  refine pw_bind (pw_mono (X_survey hb hc hr) ?_)
  rintro ⟨sv', g⟩ ⟨_, rfl, hs, b1, b2, b3, d⟩
  dsimp only at b1 b2 b3 d ⊢
  rcases d.2.2 with ⟨z0, hI⟩ | ⟨z0, h5⟩
  · have ho := ORD_3 ok hI
    have hst := ho.1
    have hn5 := BF_n ok 3
    have e9' := SVI_9 hI
    rw [hI.2.1, if_pos (show nI 0 = (0 : Int32) from rfl)]
    by_cases hf : fa_first (rgt P (BF P 3).2.1 2) (8 * (BF P 3).1) < 8 * (BF P 3).1
    · have e9 := e9'.1 hf
      have hF := FST_3 ok hf
      have hdl := dp_lt (ORD_p ho) _ hF.1
      have hF1 := hF.1
      obtain ⟨l, l1, l2, l3⟩ := sx_at ok (anc_end (ORD_p ho) hF.1)
      have hal := al_le P
      have e10 : hp_i g sv' 10 = nI l := by
        rw [e9.2.1, ← l3, sx_f ok 3 (by omega) l2, fs_lm (by omega)]
      rw [e9.1, if_neg (nI_ne0 (by omega) (by omega)), e10]
      have fin : pw (f_M_shown m v g) (fun s => (if v = 0 then nI (dp (ffp P (BF P 3).2.1) (stN P) (fa_first (rgt P (BF P 3).2.1 2) (8 * (BF P 3).1) / 8) + 1) else nI l) = s.1 ∧ INV P x m ZT ST s.2) := by
        unfold f_M_shown
        rw [if_neg hv, if_pos hv2]
        refine pw_bind (pw_mono (M_plan (F := 3) b1 b2 b3 (by decide)) ?_)
        rintro r ⟨r1, r2, r3, r4, _⟩
        have e1 := r1.1
        rw [z0] at e1
        rw [e1, if_neg (show ¬ nI (if false = true then 0 else 1) = (0 : Int32) by decide), show (-3 : Int32) = cvv 2 from rfl]
        refine pw_bind (pw_mono (M_soonF ok r2.2.2.2.2.2.2.2.2.1 (TAB_3 ok r2.2.2.1 r2.2.2.2.2.2.2.2.2.1 r1 z0) ho (.inr rfl) hF) ?_)
        rintro s ⟨H, so, l', hS, hcell, s1, l1', l2', l3', l4', l5'⟩
        obtain ⟨w1, w2, w3⟩ := M30 r2 r3 r4 H
        have hm := w1.2.2.1
        have hll : l' = l := by
          rcases Nat.lt_trichotomy l' l with y | y | y
          · have := sx_mono l2' y; omega
          · exact y
          · have := sx_mono l2 y; omega
        rw [s1, if_pos (show (0 : Int32) ≤ nI l' from nI_le (a := 0) (by omega) (by omega))]
        by_cases v0 : v = 0
        · rw [if_pos v0, if_pos v0, mb_68 hm, bn_o (M_startNumber ok w1.2.2.2.2.2.2.2.2.1 (by omega))]
          dsimp only
          rw [mn_30 hm, if_pos (hp_in_nI (by omega) (by omega)), nI_clamp (by omega), (hcell _ l3').2, l5']
          exact pw_some ⟨rfl, q, _, _, _, _, w1, w2, w3⟩
        · rw [if_neg v0, if_neg v0]
          exact pw_some ⟨by rw [hll], q, _, _, _, _, w1, w2, w3⟩
      by_cases v0 : v = 0
      · rw [if_pos v0] at fin ⊢; exact pw_some fin
      · rw [if_neg v0] at fin ⊢; exact pw_some fin
    · have e9 := e9'.2 hf
      rw [e9.1, if_pos (show nI 0 = (0 : Int32) from rfl)]
      refine pw_some ?_
      unfold f_M_shown
      rw [if_neg hv, if_pos hv2]
      refine pw_bind (pw_mono (M_plan (F := 3) b1 b2 b3 (by decide)) ?_)
      rintro r ⟨r1, r2, r3, r4, _⟩
      have e1 := r1.1
      rw [z0] at e1
      rw [e1, if_neg (show ¬ nI (if false = true then 0 else 1) = (0 : Int32) by decide), show (-3 : Int32) = cvv 2 from rfl]
      refine pw_bind (pw_mono (M_soonN ok r2.2.2.2.2.2.2.2.2.1 (TAB_3 ok r2.2.2.1 r2.2.2.2.2.2.2.2.2.1 r1 z0) hst (.inr rfl) (FNO_3 ok hf)) ?_)
      rintro s ⟨H, s1⟩
      obtain ⟨w1, w2, w3⟩ := M30 r2 r3 r4 H
      rw [s1, if_neg (show ¬ (0 : Int32) ≤ -1 by decide)]
      exact pw_some ⟨rfl, q, _, _, _, _, w1, w2, w3⟩
  · rw [h5, if_neg (show ¬ nI 1 = (0 : Int32) by decide)]
    refine pw_some ?_
    unfold f_M_shown
    rw [if_neg hv, if_pos hv2]
    refine pw_bind (pw_mono (M_plan (F := 3) b1 b2 b3 (by decide)) ?_)
    rintro r ⟨r1, r2, r3, r4, _⟩
    have e1 := r1.1
    rw [z0] at e1
    rw [e1, if_pos (show nI (if true = true then 0 else 1) = (0 : Int32) from rfl)]
    exact pw_some ⟨rfl, q, _, _, _, _, r2, r3, r4⟩
