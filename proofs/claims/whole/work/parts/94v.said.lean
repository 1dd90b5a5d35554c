/-! said -/
def OK2L (fx fm : HP → Option (Int64 × HP)) (x m : Nat) : Prop := ∀ (P : PT) (ZT ST : Nat) (h : HP), INV P x m ZT ST h → pw (fx h) (fun r => pw (fm r.2) (fun s => r.1 = s.1 ∧ INV P x m ZT ST s.2))
theorem OK2L_ez {fx fm : HP → Option (Int64 × HP)} {x m : Nat} (he : EZL fx fm x m) : OK2L fx fm x m := by
  rintro P ZT ST h ⟨q, sv, ro, fa, ch, hb, hc, hr⟩
  refine pw_mono (he P q h hb) ?_
  intro r hr'
  refine pw_mono hr' ?_
  rintro s ⟨s1, s2, s3⟩
  have hm := hb.1
  refine ⟨s1, q, sv, ro, fa, ch, s2, CCH_fr s3 (by omega) (by unfold S_ez; omega) hc, ?_⟩
  unfold RM
  rw [hp_fr_z s3, hp_fr_s s3]; exact hr
theorem st_no (P : PT) (ok : POK P) (v : Int32) : (∃ l, l ≤ al P ∧ v = nI l) ∨ ((∀ q h, PX P q h → f_Pl_isStart q v h = some (nI 0, h)) ∧ ∀ m h, hp_i h m 28 = nI (p_lc P) → f_M_isLight m v h = some (nI 0, h)) := by
  obtain ⟨k1, k2⟩ := p_lc2 ok
  have ha := al_le P
  by_cases z : ∃ l, l ≤ al P ∧ v = nI l
  · exact .inl z
  refine .inr ?_
  have hcan : (∀ q h, PX P q h → f_Pl_canBeLamps q v h = some (nI 0, h)) ∧ ∀ m h, hp_i h m 28 = nI (p_lc P) → f_M_isLight m v h = some (nI 0, h) := by
    rcases lam_cases P ok v with ⟨l, l1, l2⟩ | y
    · exact absurd ⟨l, by omega, l2⟩ z
    · exact y
  refine ⟨fun q h hp => ?_, hcan.2⟩
  unfold f_Pl_isStart
  rw [hp.2.2.2.1]
  have e : ∀ a, a ≤ al P → f_Pl_isStart_31 (nI a) v h = some (nI 0, h) := fun a h1 => by
    unfold f_Pl_isStart_31
    rw [if_neg (fun y => z ⟨a, h1, y⟩)]; rfl
  rcases st_cases ok with y | y | y <;> rw [y]
  · rw [if_neg (show ¬ nI 0 = (2 : Int32) by decide), if_neg (show ¬ nI 0 = (1 : Int32) by decide)]
    exact e 0 (by omega)
  · rw [if_neg (show ¬ nI 1 = (2 : Int32) by decide), if_pos (show nI 1 = (1 : Int32) from rfl), bn_o (X_allOn ok hp)]
    exact e _ (Nat.le_refl _)
  · rw [if_pos (show nI 2 = (2 : Int32) from rfl), bn_o (hcan.1 q h hp), if_pos (z01 (by omega))]
theorem ROY_fs {S R : Nat → Nat → Prop} {r : Nat} {h h' : HP} (H : frs S R h h') (hR : ∀ k, ¬ R r k) (hs : ROY r h) : ROY r h' := by
  unfold ROY
  simp only [H.2.1 _ _ (hR _), H.2.2.1]; exact hs
theorem KFA_fs {S R : Nat → Nat → Prop} {P : PT} {x fa : Nat} {h h' : HP} (H : frs S R h h') (hR : ∀ k, ¬ R fa k) (hR2 : ∀ k, ¬ R (fa + 2) k) (h11 : ¬ S x 11) (hS : ∀ k, ¬ S (fa + 1) k) (hk : KFA P x fa h) : KFA P x fa h' := by
  refine ⟨?_, fun F hF => ?_⟩
  · unfold FAX
    simp only [H.2.1 _ _ (hR _), H.2.1 _ _ (hR2 _), H.2.2.1]; exact hk.1
  · rw [frs_i H h11, frs_i H (hS F)]; exact hk.2 F hF
theorem KSV_fs {S R : Nat → Nat → Prop} {P : PT} {q x sv ro : Nat} {h h' : HP} (H : frs S R h h') (h11 : ¬ S x 11) (hS : ∀ a k, sv ≤ a → a < sv + 10 → ¬ S a k) (hR : ∀ a k, sv ≤ a → a < sv + 10 → ¬ R a k) (hk : KSV P q x sv ro h) : KSV P q x sv ro h' := by
  obtain ⟨k1, k2, k3⟩ := hk
  refine ⟨?_, by rw [frs_r H (hR _ _ (by omega) (by omega))]; exact k2, ?_⟩
  · obtain ⟨b1, b2, b3, b4, b5, b6, b7, b8, b9, b10⟩ := k1
    refine ⟨?_, ?_, ?_, ?_, ?_, ?_, ?_, ?_, ?_, ?_⟩
    · rw [frs_r H (hR _ _ (by omega) (by omega))]; exact b1
    · rw [frs_r H (hR _ _ (by omega) (by omega))]; exact b2
    · rw [frs_r H (hR _ _ (by omega) (by omega))]; exact b3
    · rw [frs_r H (hR _ _ (by omega) (by omega))]; exact b4
    · rw [frs_r H (hR _ _ (by omega) (by omega))]; exact b5
    · rw [frs_r H (hR _ _ (by omega) (by omega))]; exact b6
    · rw [frs_r H (hR _ _ (by omega) (by omega))]; exact b7
    · rw [frs_r H (hR _ _ (by omega) (by omega))]; exact b8
    · rw [frs_r H (hR _ _ (by omega) (by omega))]; exact b9
    · simp only [H.2.2.1]; exact b10
  · rw [frs_i H h11, frs_r H (hR _ _ (by omega) (by omega)), frs_i H (hS _ _ (by omega) (by omega))]
    rcases k3 with z | ⟨z1, z2, z3, z4⟩
    · exact .inl z
    · exact .inr ⟨z1, z2, SVJ_ag (Nat.le_refl _) (fun a k q1 q2 _ => frs_i H (hS a k q1 q2)) (fun a k q1 q2 => frs_l H (hS a k q1 q2)) (fun a k q1 q2 _ => frs_r H (hR a k q1 q2)) (fun a _ _ => H.2.2.1 a) z3, z4⟩
theorem X_said91 {P : PT} {q x m sv ro fa ch ZT ST l D k p : Nat} {g : HP} (hb : BAS P q x m g) (hc : CCH P q x m sv ro fa ch g) (hr : RM ZT ST sv ro fa ch g) (hs : sv ≠ 0) (hd : SVD P q x sv g) (h0 : (BF P 3).2.2 = false) (hch : ch ≠ 0) (hl : l < 4) (hi : ist P l = true) (hD : D ≤ 12) (hk : k < 2) (hp : p < 2) (hnm : p_nm P ≠ 0) : pw (f_X_said_91 x (nI l) (nI D) (nI k) (nI p) sv g) (fun r => r.1 = lN (sdv (brr P) (bnx P) (p_nm P) (BF P 3).1 (sx P l) D k p) ∧ BAS P q x m r.2 ∧ CCH P q x m sv ro fa ch r.2 ∧ RM ZT ST sv ro fa ch r.2) := by
  obtain ⟨hm, hq⟩ := BAS_q hb
  have ok := hb.2.2.2.2.2.2.1
  obtain ⟨d1, d2, d3⟩ := hd
  obtain ⟨c1, c2, c3, c4, c5, c6, c7, c8, c9⟩ := id hc
  have hsv := c4.2.1 hs
  have hcl := c4.2.2.2.2.1 hch
  obtain ⟨⟨c, y1⟩, y2⟩ := c9 hch
  have hI : SVI P sv (BF P 3) (8 * (BF P 3).1) g := by
    rcases d3 with ⟨_, z⟩ | ⟨z, _⟩
    · exact z
    · rw [h0] at z; exact absurd z (by decide)
  have hC : CHC P ch (BF P 3).1 (brr P) (bnx P) g := by
    rcases y2 with ⟨_, z⟩ | z
    · exact z
    · exact fun l hl => .inl (z l hl)
  have hx3 := XTB_3 ok d2 hI
  have hsl : sx P l < (BF P 3).1 := Nat.lt_of_lt_of_le (sx_lt ok hl hi) hI.2.2.2.2.2.2.1.2.2.2.1
  have hsi : idx (BF P 3).2.1 (BF P 3).1 (fs P l) = sx P l := idx_eq (BF_G ok 3).2.1 hsl (sx_f ok 3 hl hi)
  have hset : SSX (sv + 3) 5000 (BF P 3).1 (BF P 3).2.1 g := hI.1
  have hnx := hx3.2.2.2.2.2.2.2.2.2.1
  have hn6 := ok.2.2.2.2.2.1
  obtain ⟨B, hB⟩ : ∃ B, BF P 3 = B := ⟨_, rfl⟩
  obtain ⟨n, hn⟩ : ∃ n, B.1 = n := ⟨_, rfl⟩
  rw [hB] at hx3 hsl hsi hset hC hnx ⊢
  rw [hn] at hx3 hsl hsi hset hC hnx ⊢
  have wl := X_wsaid ok (show sv + 9 < ch by omega) (show q + 8 < sv by omega) d2.1 d2.2.1 y1 hx3 hset hl hsl hsi hD hk hC
  have hu := usd_b (k := k) hnx hsl hn6 hD
  have hv := pow6 hn6 hD
  have hv0 : 0 < p_nm P ^ D := Nat.pow_pos (by omega)
  unfold f_X_said_91
  rw [bn_o (by rw [c3, op_p hch])]
  refine pw_bind (pw_mono wl ?_)
  rintro ⟨_, g2⟩ ⟨rfl, H, ⟨c', r2⟩, r3⟩
  dsimp only at H r2 r3 ⊢
  have l7 := c4.2.2.2.2.2.2.1
  have l8 := c4.2.2.2.2.2.2.2
  have hb' : BAS P q x m g2 := BAS_gen hb (fun a j q1 _ => H.1 a j (by unfold S_ws; omega)) (fun a j q1 _ => frs_r H (by unfold R_cw; omega)) (fun a _ => H.2.2.1 a) (Nat.le_of_eq H.2.2.2.1.symm) (fun N hN => CM_ag (fun a j hk => frs_i H (by unfold F_CM at hk; unfold S_ws; omega)) hN)
  have k6 := KSV_fs H (by unfold S_ws; omega) (by unfold S_ws; omega) (by unfold R_cw; omega) (c6 hs)
  rw [bn_o hb'.2.2.2.2.1, hb'.2.2.2.2.2.2.2.1.2.2.2.2.2.1, bn_o (X_power (by omega) (by omega))]
  dsimp only
  rw [bn_o (X_part (by omega) hv0 (by omega) hp)]
  refine pw_some ⟨rfl, hb', ⟨?_, ?_, ?_, ?_, fun w => absurd w hs, fun _ => k6, fun w => ?_, fun w => ?_, fun _ => ⟨⟨c', r2⟩, .inl ⟨?_, ?_⟩⟩⟩, ?_⟩
  · rw [frs_r H (by unfold R_cw; omega)]; exact c1
  · rw [frs_r H (by unfold R_cw; omega)]; exact c2
  · rw [frs_r H (by unfold R_cw; omega)]; exact c3
  · rw [H.2.2.2.1]; exact c4
  · have := c4.2.2.1 w; have := l7 w hch
    exact ROY_fs H (by unfold R_cw; omega) (c7 w)
  · have := c4.2.2.2.1 w; have := l8 w hch
    exact KFA_fs H (by unfold R_cw; omega) (by unfold R_cw; omega) (by unfold S_ws; omega) (by unfold S_ws; omega) (c8 w)
  · rw [frs_i H (by unfold S_ws; omega)]; exact d1
  · rw [hB, hn]; exact r3
  · unfold RM; rw [H.2.2.2.1, H.2.2.2.2]; exact hr
