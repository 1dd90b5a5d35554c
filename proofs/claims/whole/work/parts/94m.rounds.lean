/-! the class's rounds, asked for -/
theorem enl_le {P : PT} (ok : POK P) : enl P ≤ 5000 := by
  have h1 := fb_ct_le (goodb (BF P 3).1 (p_nm P) (brr P) (bnx P)) (BF P 3).1
  have h2 := BF_n ok 3
  unfold enl
  omega
theorem XTB_3 {P : PT} {sv q : Nat} {h : HP} (ok : POK P) (hQ : SVQ P sv q h) (hI : SVI P sv (BF P 3) (8 * (BF P 3).1) h) : XTB sv q (BF P 3).1 (p_nm P) (brr P) (bnx P) h := XTB_of ok (BF_n ok 3) hQ hI
theorem X_rd18 {P : PT} {q x m sv ro fa ch ZT ST : Nat} {g : HP} (hb : BAS P q x m g) (hc : CCH P q x m sv ro fa ch g) (hr : RM ZT ST sv ro fa ch g) (hs : sv ≠ 0) (hd : SVD P q x sv g) (h0 : (BF P 3).2.2 = false) (hro : ro ≠ 0) : pw (f_Sv_statesInRounds_18 sv g) (fun r => r.1 = nI (enl P) ∧ BAS P q x m r.2 ∧ CCH P q x m sv ro fa ch r.2 ∧ RM ZT ST sv ro fa ch r.2) := by
  obtain ⟨hm, hq⟩ := BAS_q hb
  have ok := hb.2.2.2.2.2.2.1
  have hel := enl_le ok
  obtain ⟨d1, d2, d3⟩ := hd
  obtain ⟨c1, c2, c3, c4, c5, c6, c7, c8, c9⟩ := id hc
  obtain ⟨k1, k2, k3⟩ := c6 hs
  have hsv := c4.2.1 hs
  have hrl := c4.2.2.1 hro
  have hI : SVI P sv (BF P 3) (8 * (BF P 3).1) g := by
    rcases d3 with ⟨_, z⟩ | ⟨z, _⟩
    · exact z
    · rw [h0] at z; exact absurd z (by decide)
  obtain ⟨z1, z2, z3, z4⟩ : hp_i g x 11 = 1 ∧ hp_r g sv 4 = some q ∧ SVJ P sv (BF P 3) (8 * (BF P 3).1) g ∧ (hp_i g sv 15 = -1 ∨ hp_i g sv 15 = nI (enl P)) := by
    rcases k3 with z | z
    · rw [d1] at z; exact absurd z (by decide)
    · exact z
  unfold f_Sv_statesInRounds_18
  rcases z4 with z4 | z4
  · rw [z4, if_pos rfl, bn_o (by rw [k2, op_p hro])]
    have hY := c7 hro
    have hX : ROX ro sv (hp_sr g ro 0 (some sv)) := by
      obtain ⟨y1, y2, y3, y4, y5, y6, y7⟩ := hY
      refine ⟨sr_at, ?_, ?_, ?_, ?_, ?_, ?_, y7⟩
      · rw [hp_r_sr, if_neg (by omega)]; exact y1
      · rw [hp_r_sr, if_neg (by omega)]; exact y2
      · rw [hp_r_sr, if_neg (by omega)]; exact y3
      · rw [hp_r_sr, if_neg (by omega)]; exact y4
      · rw [hp_r_sr, if_neg (by omega)]; exact y5
      · rw [hp_r_sr, if_neg (by omega)]; exact y6
    refine pw_bind (pw_mono (R_count (by omega) (by omega) hX (XTB_3 ok d2 hI)) ?_)
    rintro ⟨_, k⟩ ⟨rfl, K⟩
    dsimp only at K ⊢
    rw [xx_lE]
    obtain ⟨k', hk'⟩ : ∃ k', hp_si k sv 15 (nI (fb_ct (goodb (BF P 3).1 (p_nm P) (brr P) (bnx P)) (BF P 3).1)) = k' := ⟨_, rfl⟩
    rw [hk']
    have K' : hp_fr (fun a j => S_ro ro a j ∨ a = sv ∧ j = 15) (hp_sr g ro 0 (some sv)) k' := by rw [← hk']; exact hf_si (hp_fr_mo K (fun a j z => .inl z)) (.inr ⟨rfl, rfl⟩)
    have e15 : hp_i k' sv 15 = nI (enl P) := by rw [← hk', hp_i_si, if_pos ⟨rfl, rfl⟩]; rfl
    have gr : ∀ a j, ¬ (a = ro ∧ j = 0) → hp_r k' a j = hp_r g a j := fun a j w => by rw [hp_fr_r K', hp_r_sr, if_neg w]
    have gn : ∀ a, hp_n k' a = hp_n g a := fun a => by rw [hp_fr_n K', hp_n_sr]
    have gi : ∀ a j, ¬ (ro ≤ a ∧ a < ro + 7 ∨ a = sv ∧ j = 15) → hp_i k' a j = hp_i g a j ∧ hp_l k' a j = hp_l g a j := fun a j w => by
      rw [hf_i K' (by unfold S_ro; omega), hf_l K' (by unfold S_ro; omega)]; exact ⟨rfl, rfl⟩
    have gz : hp_z k' = hp_z g := by rw [hp_fr_z K', hp_z_sr]
    have gs : hp_s k' = hp_s g := by rw [hp_fr_s K', hp_s_sr]
    refine pw_some ⟨e15, BAS_gen hb (fun a j q1 _ => gi a j (by omega)) (fun a j q1 _ => gr a j (by omega)) (fun a _ => gn a) (Nat.le_of_eq gz.symm) (fun N hN => CM_ag (fun a j hk => (gi a j (by unfold F_CM at hk; omega)).1) hN), ⟨?_, ?_, ?_, by rw [gz]; exact c4, fun w => absurd w hs, fun _ => ⟨SVZ_fr K' ?_, ?_, .inr ⟨?_, ?_, SVJ_fr K' (by unfold S_ro; omega) (Nat.le_refl _) (SVJ_sr (by omega) z3), .inr e15⟩⟩, fun _ => ?_, fun w => ?_, fun w => ?_⟩, ?_⟩
    · rw [gr _ _ (by omega)]; exact c1
    · rw [gr _ _ (by omega)]; exact c2
    · rw [gr _ _ (by omega)]; exact c3
    · unfold SVZ
      simp only [hp_n_sr]
      obtain ⟨b1, b2, b3, b4, b5, b6, b7, b8, b9, b10⟩ := k1
      refine ⟨?_, ?_, ?_, ?_, ?_, ?_, ?_, ?_, ?_, b10⟩
      · rw [hp_r_sr, if_neg (by omega)]; exact b1
      · rw [hp_r_sr, if_neg (by omega)]; exact b2
      · rw [hp_r_sr, if_neg (by omega)]; exact b3
      · rw [hp_r_sr, if_neg (by omega)]; exact b4
      · rw [hp_r_sr, if_neg (by omega)]; exact b5
      · rw [hp_r_sr, if_neg (by omega)]; exact b6
      · rw [hp_r_sr, if_neg (by omega)]; exact b7
      · rw [hp_r_sr, if_neg (by omega)]; exact b8
      · rw [hp_r_sr, if_neg (by omega)]; exact b9
    · rw [gr _ _ (by omega)]; exact k2
    · rw [(gi _ _ (by omega)).1]; exact z1
    · rw [gr _ _ (by omega)]; exact z2
    · obtain ⟨y1, y2, y3, y4, y5, y6, y7⟩ := hY
      refine ROY_fr K' ⟨?_, ?_, ?_, ?_, ?_, ?_, y7⟩
      · rw [hp_r_sr, if_neg (by omega)]; exact y1
      · rw [hp_r_sr, if_neg (by omega)]; exact y2
      · rw [hp_r_sr, if_neg (by omega)]; exact y3
      · rw [hp_r_sr, if_neg (by omega)]; exact y4
      · rw [hp_r_sr, if_neg (by omega)]; exact y5
      · rw [hp_r_sr, if_neg (by omega)]; exact y6
    · have l4 := c4.2.2.2.1 w
      have l6 := c4.2.2.2.2.2.1 hro w
      obtain ⟨y1, y2⟩ := c8 w
      refine ⟨FAX_fr K' (FAX_sr (by omega) (by omega) y1), fun F hF => ?_⟩
      rw [(gi _ _ (by omega)).1, (gi _ _ (by omega)).1]; exact y2 F hF
    · have l5 := c4.2.2.2.2.1 w
      have l7 := c4.2.2.2.2.2.2.1 hro w
      obtain ⟨⟨c, y1⟩, y2⟩ := c9 w
      refine ⟨⟨c, CHX_fr K' (CHX_sr (by omega) y1)⟩, ?_⟩
      rw [(gi x 11 (by omega)).1]
      rcases y2 with ⟨w1, w2⟩ | w1
      · refine .inl ⟨w1, fun l hl => ?_⟩
        rw [(gi (ch + 1) l (by omega)).1]
        rcases w2 l hl with v | ⟨v1, v2⟩
        · exact .inl v
        · exact .inr ⟨v1, fun d hd => by rw [(gi _ _ (by omega)).2, (gi _ _ (by omega)).2]; exact v2 d hd⟩
      · exact .inr (fun l hl => by rw [(gi _ _ (by omega)).1]; exact w1 l hl)
    · unfold RM; rw [gz, gs]; exact hr
  · rw [z4, if_neg (nI_nm1 (by omega))]
    exact pw_some ⟨rfl, hb, hc, hr⟩
