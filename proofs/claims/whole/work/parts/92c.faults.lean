/-! the class's faults over the heap -/
theorem nI_nm1 {a : Nat} (h : a < 2 ^ 31) : ¬ nI a = (-1 : Int32) := fun z => (c_m1 (a := a) (n := 1) (by decide) h (by decide)).mp z
def FAX (fa : Nat) (h : HP) : Prop := hp_r h fa 0 = some (fa + 1) ∧ hp_r h fa 1 = some (fa + 2) ∧ hp_n h (fa + 1) = 3 ∧ hp_r h (fa + 2) 2 = some (fa + 3) ∧ hp_r h (fa + 2) 3 = some (fa + 4) ∧ hp_n h (fa + 3) = 5000 ∧ hp_n h (fa + 4) = 8192
theorem FAX_fr {S : Nat → Nat → Prop} {fa : Nat} {h h' : HP} (H : hp_fr S h h') (hs : FAX fa h) : FAX fa h' := by unfold FAX; simp only [hp_fr_r H, hp_fr_n H]; exact hs
def FBX (P : PT) (F fa lim : Nat) (B : BT) (h : HP) : Prop := FBS P F lim B.1 B.2.1 B.2.2 ∧ SSX (fa + 2) lim B.1 B.2.1 h ∧ hp_i h fa 2 = nI (if B.2.2 = true then 1 else 0)
theorem FBX_fr {S : Nat → Nat → Prop} {P : PT} {F fa lim : Nat} {B : BT} {h h' : HP} (H : hp_fr S h h') (hS : ∀ a k, S a k → ¬ F_SS (fa + 2) a k ∧ ¬ (a = fa ∧ k = 2)) (hs : FBX P F fa lim B h) : FBX P F fa lim B h' := ⟨hs.1, SSX_fr H (fun a k z => (hS a k z).1) hs.2.1, by rw [hf_i H (fun z => (hS _ _ z).2 ⟨rfl, rfl⟩)]; exact hs.2.2⟩
def S_fa (fa : Nat) : Nat → Nat → Prop := fun a k => a = fa ∧ k = 2 ∨ S_set (fa + 2) a k
theorem X_pb {P : PT} {F fa lim v : Nat} {B : BT} {h : HP} (hs : FAX fa h) (hB : FBX P F fa lim B h) (hv : v < 2 ^ 54) (hd : dy v < p_cy P) (hR : RB P F (cd v 1)) : pw (f_Fa_putBehind fa (lN v) h) (fun g => hp_fr (S_fa fa) h g ∧ ∃ C, xtd B C ∧ FBX P F fa lim C g ∧ (C.2.2 = false → INB C v)) := by
  obtain ⟨hF, hS, h2⟩ := hB
  obtain ⟨d1, d2, d3, d4⟩ := id hF
  have hl := hS.2.1
  unfold f_Fa_putBehind
  rw [bn_o hs.2.1]
  refine pw_bind (pw_mono (X_number hS hv) ?_)
  rintro ⟨x, g⟩ hq
  rcases hq with ⟨q1, q2, q3⟩ | ⟨q1, q2, q3, q4, q5⟩ | ⟨q1, q2, q3, q4⟩
  · dsimp only at q2 q3 ⊢
    subst q2; subst q3
    rw [if_neg (nI_nm1 (by omega))]
    exact pw_some ⟨hp_fr_rf _, B, xtd_rf B, ⟨hF, hS, h2⟩, fun _ => q1⟩
  · dsimp only at q3 q4 q5 ⊢
    subst q3
    rw [if_neg (nI_nm1 (by omega))]
    have hsp : B.2.2 = false := bool_f (fun z => by have := (d4 z).1; omega)
    refine pw_some ⟨hp_fr_mo q5 (fun a k z => .inr z), (B.1 + 1, upN B.2.1 B.1 v, false), ⟨by show B.1 ≤ B.1 + 1; omega, fun j hj => upN_n (by omega), fun z => by rw [hsp] at z; exact absurd z (by decide)⟩, ⟨⟨dst_up d1 q1, by show B.1 + 1 ≤ lim; omega, fun j hj => ?_, fun z => absurd (show false = true from z) (by decide)⟩, q4, ?_⟩, fun _ => ?_⟩
    · have hj : j < B.1 + 1 := hj
      show upN B.2.1 B.1 v j < 2 ^ 54 ∧ dy (upN B.2.1 B.1 v j) < p_cy P ∧ RB P F (cd (upN B.2.1 B.1 v j) 1)
      unfold upN; split
      · exact ⟨hv, hd, hR⟩
      · exact d3 j (by omega)
    · rw [hf_i q5 (by unfold S_set; omega), h2, hsp]
    · show idx (upN B.2.1 B.1 v) (B.1 + 1) v < B.1 + 1
      rw [idx_eq (j := B.1) (dst_up d1 q1) (by omega) (upN_s _ _ _)]; omega
  · dsimp only at q3 q4 ⊢
    subst q3; subst q4
    rw [if_pos rfl, xx_lE]
    refine pw_some ⟨hf_si (hp_fr_rf _) (.inl ⟨rfl, rfl⟩), (B.1, B.2.1, true), ⟨Nat.le_refl _, fun _ _ => rfl, fun z => by rw [← z]⟩, ⟨⟨d1, d2, d3, fun _ => ⟨q2, v, hv, hR, q1⟩⟩, SSX_fr (S := fun a k => a = fa ∧ k = 2) (hf_si (hp_fr_rf _) ⟨rfl, rfl⟩) (by unfold F_SS; omega) hS, ?_⟩, fun z => absurd (show true = false from z) (by decide)⟩
    rw [hp_i_si, if_pos ⟨rfl, rfl⟩]; rfl
theorem ftc_R {P : PT} (ok : POK P) {F N j : Nat} (hF : F < 3) (hN : N < 2 ^ 54) (hR : RB P F N) (hj : j < wys P F) : ftc P F N j < 2 ^ 54 ∧ dy (ftc P F N j) < p_cy P ∧ RB P F (cd (ftc P F N j) 1) := by
  have h1 := okc_ft ok (RB_ok ok hR) hj
  rw [Nat.mod_eq_of_lt hN] at h1
  have h2 := h1.1.2
  rw [cd_N h1.2] at h2
  exact ⟨h1.2, h2, RB_e hR (.inr ⟨hF, hN, j, hj, by rw [Nat.mod_eq_of_lt hN]⟩)⟩
theorem X_pf {P : PT} {F fa lim N q : Nat} {B : BT} {h : HP} (ok : POK P) (hps : PSH q h) (hp : PX P q h) (hqf : q + 8 < fa) (hF : F < 3) (hs : FAX fa h) (hB : FBX P F fa lim B h) (hN : N < 2 ^ 54) (hR : RB P F N) : pw (f_Fa_putFaulty fa q (lN N) (nI F) h) (fun g => hp_fr (S_fa fa) h g ∧ ∃ C, xtd B C ∧ FBX P F fa lim C g ∧ (C.2.2 = false → ∀ j, j < wys P F → INB C (ftc P F N j))) := by
  have one : ∀ j, j < wys P F → F ≠ 0 → pw (f_Fa_putBehind fa (lN (ftc P F N j)) h) (fun g => hp_fr (S_fa fa) h g ∧ ∃ C, xtd B C ∧ FBX P F fa lim C g ∧ (C.2.2 = false → ∀ j, j < wys P F → INB C (ftc P F N j))) := by
    intro j hj h0
    obtain ⟨r1, r2, r3⟩ := ftc_R ok hF hN hR hj
    refine pw_mono (X_pb hs hB r1 r2 r3) ?_
    rintro g ⟨H, C, c1, c2, c3⟩
    refine ⟨H, C, c1, c2, fun z k hk => ?_⟩
    have e : ftc P F N k = ftc P F N j := by unfold ftc; rw [if_neg h0, if_neg h0]
    rw [e]; exact c3 z
  unfold f_Fa_putFaulty
  by_cases h0 : F = 0
  · subst h0
    rw [if_pos (show nI 0 = (0 : Int32) from rfl)]
    have hnm := ok.2.2.2.2.2.1
    unfold f_Fa_putFaulty_8
    refine pw_cnt (p_nm P) (fun j t => t.1 = nI j ∧ hp_fr (S_fa fa) h t.2 ∧ ∃ C, xtd B C ∧ FBX P 0 fa lim C t.2 ∧ (C.2.2 = false → ∀ k, k < j → INB C (ftc P 0 N k))) ?_ ?_ 0 (0, h) (by omega) ⟨rfl, hp_fr_rf h, B, xtd_rf B, hB, fun _ k hk => absurd hk (Nat.not_lt_zero _)⟩
    · rintro j ⟨_, g⟩ hj ⟨rfl, H, C, c1, c2, c3⟩
      dsimp only at H c2 ⊢
      have hpg : PX P q g := PX_ag (fun a k hk => hf_i H (by unfold F_PX at hk; unfold S_fa S_set; omega)) hp
      obtain ⟨r1, r2, r3⟩ := ftc_R ok hF hN hR (show j < wys P 0 from hj)
      unfold f_Fa_putFaulty_8b
      rw [hpg.2.2.2.2.2.1, if_neg (nI_ge hj (by omega)), bn_o (X_forgot (PSH_fr H hps) ok hpg hj hN)]
      dsimp only
      have e : fg P N j = ftc P 0 N j := by unfold ftc; rw [if_pos rfl]
      rw [e]
      refine pw_bind (pw_mono (X_pb (FAX_fr H hs) c2 r1 r2 r3) ?_)
      rintro g2 ⟨H2, D, x1, x2, x3⟩
      rw [xx_lE]
      refine pw_L rfl ⟨nI_1 j, hp_fr_tr H H2, D, xtd_tr c1 x1, x2, fun z k hk => ?_⟩
      by_cases w : k = j
      · rw [w]; exact x3 z
      · exact INB_x x1 (c3 (xtd_sp x1 z) k (by omega))
    · rintro ⟨_, g⟩ ⟨rfl, H, C, c1, c2, c3⟩
      dsimp only at H c2 ⊢
      have hpg : PX P q g := PX_ag (fun a k hk => hf_i H (by unfold F_PX at hk; unfold S_fa S_set; omega)) hp
      refine pw_R (t := g) ?_ ⟨H, C, c1, c2, c3⟩
      unfold f_Fa_putFaulty_8b
      rw [hpg.2.2.2.2.2.1, if_pos (nI_le (Nat.le_refl _) (by omega))]
  · rw [if_neg (nI_ne0 (by omega) (by omega))]
    have hw : 0 < wys P F := by unfold wys; rw [if_neg h0]; omega
    have := one 0 hw h0
    by_cases h1 : F = 1
    · subst h1
      rw [if_pos (show nI 1 = (1 : Int32) from rfl)]
      unfold f_Fa_putFaulty_53
      rw [show (0 : Int32) = nI 0 from rfl, bn_o (X_wlamps hN (by decide) h)]
      dsimp only
      refine pw_bind (pw_mono this ?_)
      intro g hg; exact pw_some hg
    · rw [if_neg (show ¬ nI F = (1 : Int32) from fun z => h1 ((nI_eq (b := 1) (by omega) (by decide)).mp z)), bn_o (X_lamps N h)]
      dsimp only
      unfold f_Fa_putFaulty_53
      rw [show (1 : Int32) = nI 1 from rfl, fb_xorI, bn_o (X_wlamps hN (lx1 N) h)]
      dsimp only
      have e : ftc P F N 0 = ex (lm N ^^^ 1) (dy N) (ow N) := by unfold ftc; rw [if_neg h0, if_neg h1]
      rw [e] at this
      refine pw_bind (pw_mono this ?_)
      intro g hg; exact pw_some hg
