/-! saysWrongly, lookThrough -/
def S_lt (fa sv q : Nat) : Nat → Nat → Prop := fun a k => S_fa fa a k ∨ S_sp sv q a k
theorem or_1 {w : Nat} (h : w < 2) : w ||| 1 = 1 := by
  have : w = 0 ∨ w = 1 := by omega
  rcases this with z | z <;> rw [z] <;> decide
theorem X_sw {P : PT} {F fa lim N q sv : Nat} {B : BT} {h : HP} (ok : POK P) (hq : q + 8 < sv) (hsf : sv + 9 < fa) (hs : FAX fa h) (hB : FBX P F fa lim B h) (hQ : SVQ P sv q h) (hst : STC P (sv + 2) h) (hN : N < 2 ^ 54) (hdc : dy N < p_cy P) (hR : RB P F (cd N 1)) : pw (f_Fa_saysWrongly fa sv (lN N) h) (fun r => hp_fr (S_lt fa sv q) h r.2 ∧ STC P (sv + 2) r.2 ∧ ∃ w C, r.1 = nI w ∧ w < 2 ∧ (w = 1 ↔ ∃ i, i < p_nm P ∧ rs3 P N i = 2) ∧ xtd B C ∧ FBX P F fa lim C r.2 ∧ (C.2.2 = false → ∀ i, i < p_nm P → oS P N i = 0 → INB C (gn P N i))) := by
  have hnm := ok.2.2.2.2.2.1
  unfold f_Fa_saysWrongly
  rw [bn_o hQ.2.2.2.2.2.2.2.1]
  unfold f_Fa_saysWrongly_12
  refine pw_cnt (p_nm P) (fun i t => t.2.1 = nI i ∧ hp_fr (S_lt fa sv q) h t.2.2 ∧ STC P (sv + 2) t.2.2 ∧ ∃ w C, t.1 = nI w ∧ w < 2 ∧ (w = 1 ↔ ∃ j, j < i ∧ rs3 P N j = 2) ∧ xtd B C ∧ FBX P F fa lim C t.2.2 ∧ (C.2.2 = false → ∀ j, j < i → oS P N j = 0 → INB C (gn P N j))) ?_ ?_ 0 (0, 0, h) (by omega) ⟨rfl, hp_fr_rf h, hst, 0, B, rfl, by decide, ⟨fun z => absurd z (by decide), fun z => by obtain ⟨j, hj, _⟩ := z; omega⟩, xtd_rf B, hB, fun _ j hj => absurd hj (Nat.not_lt_zero _)⟩
  · rintro i ⟨_, _, g⟩ hi ⟨rfl, H, gst, w, C, rfl, w2, w3, c1, c2, c3⟩
    dsimp only at H gst c2 ⊢
    have hi6 : i < 6 := by omega
    have hps := PSH_fr H hQ.1
    have hp : PX P q g := PX_ag (fun a k hk => hf_i H (by unfold F_PX at hk; unfold S_lt S_fa S_set S_sp S_oc; omega)) hQ.2.1
    have hv := SVS_fr H hQ.2.2
    unfold f_Fa_saysWrongly_12b
    rw [hp.2.2.2.2.2.1, if_neg (nI_ge hi (by omega)), bn_o hv.1]
    refine pw_bind (pw_mono (X_steps hps ok hp hq hv.2.1 hv.2.2.2.2.2.2.2.2.1 hi hN hdc gst) ?_)
    rintro ⟨oo, g1⟩ ⟨rfl, H1, gst1⟩
    dsimp only at H1 gst1 ⊢
    have hp1 : PX P q g1 := PX_ag (fun a k hk => hf_i H1 (by unfold F_PX at hk; unfold S_sp S_oc; omega)) hp
    have hoc := oc_lt ok N i
    have hos := oS_lt ok N i
    obtain ⟨_, _, o3, _, _⟩ := oc_mod ok N i
    have hg := gn_lt ok N i
    have H01 : hp_fr (S_lt fa sv q) h g1 := hp_fr_tr H (hp_fr_mo H1 (fun a k z => .inr z))
    have c21 : FBX P F fa lim C g1 := FBX_fr H1 (by unfold S_sp S_oc F_SS; omega) c2
    rw [bn_o (X_after ok hp1 hi6 hN)]
    dsimp only
    by_cases hz : oS P N i = 0
    · rw [if_pos ((bit128 hoc).mpr (by omega))]
      have hRg : RB P F (cd (gn P N i) 1) := RB_e hR (.inl ⟨i, hi, by rw [cd_N hN]; exact hz, by rw [cd_N hN, cd_t hN]⟩)
      have hgd : dy (gn P N i) < p_cy P := by have := (RB_ok ok hRg).2; rw [cd_N hg] at this; exact this
      refine pw_bind (pw_mono (X_pb (FAX_fr H01 hs) c21 hg hgd hRg) ?_)
      rintro g2 ⟨H2, D, x1, x2, x3⟩
      unfold f_Fa_saysWrongly_86
      rw [xx_lE]
      refine pw_L rfl ⟨nI_1 i, hp_fr_tr H01 (hp_fr_mo H2 (fun a k z => .inl z)), STC_ag (fun k => hf_i H2 (by unfold S_fa S_set; omega)) gst1, w, D, rfl, w2, w3.trans ?_, xtd_tr c1 x1, x2, fun z j hj ho => ?_⟩
      · constructor
        · rintro ⟨j, j1, j2⟩; exact ⟨j, by omega, j2⟩
        · rintro ⟨j, j1, j2⟩
          refine ⟨j, ?_, j2⟩
          by_cases y : j = i
          · rw [y, rs3_0 hz] at j2; omega
          · omega
      · by_cases y : j = i
        · rw [y]; exact x3 z
        · exact INB_x x1 (c3 (xtd_sp x1 z) j (by omega) ho)
    · rw [if_neg (fun z => by have := (bit128 hoc).mp z; omega), bn_o (X_all ok hp1 hg)]
      dsimp only
      unfold f_Fa_saysWrongly_83 f_Fa_saysWrongly_86
      have hrs : rs3 P N i = if ab P (gn P N i) then 1 else 2 := by unfold rs3; rw [if_neg hz]
      by_cases hab : ab P (gn P N i) = true
      · rw [if_pos hab] at hrs
        rw [if_pos hab, if_neg (show ¬ nI 1 = (0 : Int32) by decide), show (0 : Int32) = nI 0 from rfl, fa_or, Nat.or_zero, xx_lE, xx_lE]
        refine pw_L rfl ⟨nI_1 i, H01, gst1, w, C, rfl, w2, w3.trans ?_, c1, c21, fun z j hj ho => ?_⟩
        · constructor
          · rintro ⟨j, j1, j2⟩; exact ⟨j, by omega, j2⟩
          · rintro ⟨j, j1, j2⟩
            refine ⟨j, ?_, j2⟩
            by_cases y : j = i
            · rw [y, hrs] at j2; omega
            · omega
        · by_cases y : j = i
          · rw [y] at ho; exact absurd ho hz
          · exact c3 z j (by omega) ho
      · rw [if_neg hab] at hrs
        rw [if_neg hab, if_pos (show nI 0 = (0 : Int32) from rfl), show (1 : Int32) = nI 1 from rfl, fa_or, or_1 w2, xx_lE, xx_lE]
        refine pw_L rfl ⟨nI_add i 1, H01, gst1, 1, C, rfl, by decide, ⟨fun _ => ⟨i, by omega, hrs⟩, fun _ => rfl⟩, c1, c21, fun z j hj ho => ?_⟩
        by_cases y : j = i
        · rw [y] at ho; exact absurd ho hz
        · exact c3 z j (by omega) ho
  · rintro ⟨_, _, g⟩ ⟨rfl, H, gst, w, C, rfl, w2, w3, c1, c2, c3⟩
    dsimp only at H gst c2 ⊢
    have hp : PX P q g := PX_ag (fun a k hk => hf_i H (by unfold F_PX at hk; unfold S_lt S_fa S_set S_sp S_oc; omega)) hQ.2.1
    refine pw_R (t := (nI w, g)) ?_ ⟨H, gst, w, C, rfl, w2, w3, c1, c2, c3⟩
    unfold f_Fa_saysWrongly_12b
    rw [hp.2.2.2.2.2.1, if_pos (nI_le (Nat.le_refl _) (by omega)), if_pos]
    have : w = 0 ∨ w = 1 := by omega
    rcases this with z | z <;> rw [z] <;> decide
theorem X_lt132 {fa w : Nat} {sp : Bool} {h : HP} (hw : w < 2) (h2 : hp_i h fa 2 = nI (if sp = true then 1 else 0)) : f_Fa_lookThrough_132 fa (nI w) h = some ((if sp = true then (-2 : Int32) else if w = 0 then 1 else 0), h) := by
  unfold f_Fa_lookThrough_132
  rw [h2]
  cases sp
  · rw [if_neg (show ¬ false = true by decide), if_pos (show nI 0 = (0 : Int32) from rfl), if_neg (show ¬ false = true by decide)]
    have : w = 0 ∨ w = 1 := by omega
    rcases this with z | z <;> rw [z] <;> rfl
  · rfl
theorem X_look {P : PT} {F fa q sv : Nat} {h : HP} (ok : POK P) (hF : F < 3) (hq : q + 8 < sv) (hsf : sv + 9 < fa) (hs : FAX fa h) (hQ : SVQ P sv q h) (h0 : (BF P 3).2.2 = false) (hI : SVI P sv (BF P 3) (8 * (BF P 3).1) h) : pw (f_Fa_lookThrough fa sv (nI F) h) (fun r => r.1 = brv P F ∧ hp_fr (fun a k => S_lt fa sv q a k ∨ a = fa + 2) h r.2 ∧ STC P (sv + 2) r.2) := by
  have hnm := ok.2.2.2.2.2.1
  have hn0 := BF_n ok 3
  obtain ⟨i1, i2, i3, _, _, _, _, i8, _⟩ := hI
  have hc3 : hp_i h (sv + 3) 0 = nI (BF P 3).1 := i1.2.2.1
  have h7 : hp_i h sv 7 = nI (fb_ct (rgt P (BF P 3).2.1 2) (8 * (BF P 3).1)) := i3.2.1
  have hS3 := (BF_S P 3).1
  have fl := fun j hj => fj_lt (P := P) ok (j := j) hj
  have spec := fun (n : Nat) (f : Nat → Nat) => brv_sp ok (F := F) (n := n) (f := f) h0
  have spok := fun (n : Nat) (f : Nat → Nat) => brv_ok ok (F := F) (n := n) (f := f) h0
  have ebr : brv P F = if (BF P F).2.2 = true then -2 else if fb_ct (rgt P (BF P F).2.1 2) (8 * (BF P F).1) = 0 then 1 else 0 := rfl
  obtain ⟨n0, hn⟩ : ∃ n0, (BF P 3).1 = n0 := ⟨_, rfl⟩
  obtain ⟨f0, hf⟩ : ∃ f0, (BF P 3).2.1 = f0 := ⟨_, rfl⟩
  rw [hn, hf] at i1 hS3 fl h7 spok
  rw [hn] at spec hc3 hn0
  have hwl := fb_ct_le (rgt P f0 2) (8 * n0)
  unfold f_Fa_lookThrough
  rw [bn_o hs.2.1, bn_o hQ.2.2.2.2.1, hc3, show (5000 : Int32) = nI 5000 from rfl, pk_sub (by omega)]
  unfold f_Ss_clear
  rw [show (if (5000 : Int32) < nI (5000 - n0) then (5000 : Int32) else nI (5000 - n0)) = nI (5000 - n0) from if_neg (nI_nlt (a := 5000) (by omega) (by decide))]
  simp only [xx_lE]
  obtain ⟨g1, hg1⟩ : ∃ g1, hp_si (hp_si h (fa + 2) 0 0) (fa + 2) 1 (nI (5000 - n0)) = g1 := ⟨_, rfl⟩
  rw [hg1]
  have H1 : hp_fr (fun a k => S_lt fa sv q a k ∨ a = fa + 2) h g1 := by rw [← hg1]; exact hf_si (hf_si (hp_fr_rf h) (.inr rfl)) (.inr rfl)
  have s1 := FAX_fr H1 hs
  rw [bn_o s1.2.2.2.2.1]
  refine pw_bind (pw_bind (pw_mono (A_fill s1.2.2.2.2.2.2 (by decide)) ?_))
  rintro g2 ⟨H2, e2⟩
  refine pw_some ?_
  obtain ⟨g3, hg3⟩ : ∃ g3, hp_si g2 fa 2 0 = g3 := ⟨_, rfl⟩
  rw [hg3]
  have H2' : hp_fr (fun a k => S_lt fa sv q a k ∨ a = fa + 2) g1 g2 := hp_fr_mo H2 (by unfold S_lt S_fa S_set; omega)
  have H3 : hp_fr (fun a k => S_lt fa sv q a k ∨ a = fa + 2) h g3 := by rw [← hg3]; exact hf_si (hp_fr_tr H1 H2') (.inl (.inl (.inl ⟨rfl, rfl⟩)))
  have s3 := FAX_fr H3 hs
  have hB3 : FBX P F fa (5000 - n0) (0, fun _ => 0, false) g3 := by
    refine ⟨⟨fun i j _ hj => absurd hj (Nat.not_lt_zero _), Nat.zero_le _, fun j hj => absurd hj (Nat.not_lt_zero _), fun z => absurd (show false = true from z) (by decide)⟩, ⟨Nat.zero_le _, by omega, ?_, ?_, s3.2.2.2.1, s3.2.2.2.2.1, s3.2.2.2.2.2.1, s3.2.2.2.2.2.2, fun j hj => absurd hj (Nat.not_lt_zero _), fun _ => 0, HT_0 (by decide) (fun _ _ => rfl), fun p hp => ?_⟩, ?_⟩
    · rw [← hg3, hp_i_si, if_neg (by omega), hf_i H2 (by omega), ← hg1, hp_i_si, if_neg (by omega), hp_i_si, if_pos ⟨rfl, rfl⟩]; rfl
    · rw [← hg3, hp_i_si, if_neg (by omega), hf_i H2 (by omega), ← hg1, hp_i_si, if_pos ⟨rfl, rfl⟩]
    · rw [← hg3, hp_i_si, if_neg (by omega)]; exact e2 p hp
    · rw [← hg3, hp_i_si, if_pos ⟨rfl, rfl⟩]; rfl
  have st3 : STC P (sv + 2) g3 := STC_ag (fun k => hf_i (S := fun a k => a = fa ∧ k = 2 ∨ a = fa + 2 ∨ a = fa + 4) (h := h) (by
    rw [← hg3]
    refine hf_si (hp_fr_tr (hp_fr_mo (S := fun a k => a = fa + 2) ?_ (fun a k z => .inr (.inl z))) (hp_fr_mo H2 (fun a k z => .inr (.inr (by omega))))) (.inl ⟨rfl, rfl⟩)
    rw [← hg1]; exact hf_si (S := fun a _ => a = fa + 2) (hf_si (S := fun a _ => a = fa + 2) (hp_fr_rf h) rfl) rfl) (by omega)) i8
  obtain ⟨w0, hw0, hw02⟩ : ∃ w0, w0 = (if fb_ct (rgt P f0 2) (8 * n0) = 0 then 0 else 1) ∧ w0 < 2 := ⟨_, rfl, by split <;> omega⟩
  have keep : ∀ g, hp_fr (fun a k => S_lt fa sv q a k ∨ a = fa + 2) h g → FAX fa g ∧ SVQ P sv q g ∧ SSX (sv + 3) 5000 n0 f0 g ∧ hp_i g sv 7 = nI (fb_ct (rgt P f0 2) (8 * n0)) := fun g H => ⟨FAX_fr H hs, ⟨PSH_fr H hQ.1, PX_ag (fun a k hk => hf_i H (by unfold F_PX at hk; unfold S_lt S_fa S_set S_sp S_oc; omega)) hQ.2.1, SVS_fr H hQ.2.2⟩, SSX_fr H (by unfold S_lt S_fa S_set S_sp S_oc F_SS; omega) i1, by rw [hf_i H (by unfold S_lt S_fa S_set S_sp S_oc; omega)]; exact h7⟩
  -- the second stage
  have two : ∀ g C, hp_fr (fun a k => S_lt fa sv q a k ∨ a = fa + 2) h g → STC P (sv + 2) g → FBX P F fa (5000 - n0) C g → (C.2.2 = false → ∀ s, s < n0 → ∀ j, j < wys P F → INB C (ftc P F (f0 s) j)) → pw (f_Fa_lookThrough_66 fa sv g) (fun r => r.1 = brv P F ∧ hp_fr (fun a k => S_lt fa sv q a k ∨ a = fa + 2) h r.2 ∧ STC P (sv + 2) r.2) := by
    intro g C H gst hB hc1
    obtain ⟨k1, k2, k3, k4⟩ := keep g H
    have e66 : f_Fa_lookThrough_66 fa sv g = f_Fa_lookThrough_82 fa sv (nI w0) 0 g := by
      unfold f_Fa_lookThrough_66 f_Fa_lookThrough_78
      rw [k4, hw0]
      by_cases z : fb_ct (rgt P f0 2) (8 * n0) = 0
      · rw [z, if_pos (show nI 0 ≤ (0 : Int32) from Int32.le_refl _), if_pos rfl]; rfl
      · rw [if_neg (nI_nle (by omega) (by omega)), if_neg z]; rfl
    rw [e66]
    unfold f_Fa_lookThrough_82
    have fin : ∀ g2 w k D, hp_fr (fun a k => S_lt fa sv q a k ∨ a = fa + 2) h g2 → STC P (sv + 2) g2 → w < 2 → xtd C D → FBX P F fa (5000 - n0) D g2 → (D.2.2 = false → k ≤ D.1 ∧ (w = 1 ↔ w0 = 1 ∨ ∃ s i, s < k ∧ i < p_nm P ∧ rs3 P (D.2.1 s) i = 2) ∧ ∀ s, s < k → ∀ i, i < p_nm P → oS P (D.2.1 s) i = 0 → INB D (gn P (D.2.1 s) i)) → (D.2.2 = true ∨ D.1 ≤ k) → pw (f_Fa_lookThrough_132 fa (nI w) g2) (fun r => r.1 = brv P F ∧ hp_fr (fun a k => S_lt fa sv q a k ∨ a = fa + 2) h r.2 ∧ STC P (sv + 2) r.2) := by
      intro g2 w k D H2 gst2 w2 x1 x2 x3 hend
      rw [X_lt132 w2 x2.2.2]
      refine pw_some ⟨?_, H2, gst2⟩
      dsimp only
      rw [ebr]
      cases hD : D.2.2
      · have hk : D.1 ≤ k := hend.elim (fun z => by rw [hD] at z; exact absurd z (by decide)) id
        obtain ⟨y1, y2, y3⟩ := x3 hD
        have hkD : k = D.1 := by omega
        rw [hkD] at y2 y3
        have hF2 := x2.1
        rw [hD] at hF2
        obtain ⟨r1, r2⟩ := spok D.1 D.2.1 hF2 (fun s hs' j hj => INB_x x1 (hc1 (xtd_sp x1 hD) s hs' j hj)) y3
        rw [if_neg (show ¬ false = true by decide), r1, if_neg (show ¬ false = true by decide)]
        have hiff : w = 0 ↔ fb_ct (rgt P (BF P F).2.1 2) (8 * (BF P F).1) = 0 := by
          have hw1 : w0 = 1 ↔ fb_ct (rgt P f0 2) (8 * n0) ≠ 0 := by
            rw [hw0]
            by_cases z : fb_ct (rgt P f0 2) (8 * n0) = 0
            · rw [if_pos z]; exact ⟨fun y => absurd y (by decide), fun y => absurd z y⟩
            · rw [if_neg z]; exact ⟨fun _ => z, fun _ => rfl⟩
          rw [hw1] at y2
          have r3 := y2.trans r2.symm
          constructor
          · intro z
            exact Decidable.of_not_not (fun y => by have := r3.mpr y; omega)
          · intro z
            have : ¬ w = 1 := fun y => r3.mp y z
            omega
        by_cases z : w = 0
        · rw [if_pos z, if_pos (hiff.mp z)]
        · rw [if_neg z, if_neg (fun y => z (hiff.mpr y))]
      · have hF2 := x2.1
        rw [hD] at hF2
        rw [if_pos rfl, spec D.1 D.2.1 hF2, if_pos rfl]
    refine pw_cnt 5000 (fun k t => t.2.1 = nI k ∧ hp_fr (fun a k => S_lt fa sv q a k ∨ a = fa + 2) h t.2.2 ∧ STC P (sv + 2) t.2.2 ∧ ∃ w D, t.1 = nI w ∧ w < 2 ∧ xtd C D ∧ FBX P F fa (5000 - n0) D t.2.2 ∧ (D.2.2 = false → k ≤ D.1 ∧ (w = 1 ↔ w0 = 1 ∨ ∃ s i, s < k ∧ i < p_nm P ∧ rs3 P (D.2.1 s) i = 2) ∧ ∀ s, s < k → ∀ i, i < p_nm P → oS P (D.2.1 s) i = 0 → INB D (gn P (D.2.1 s) i))) ?_ ?_ 0 (nI w0, 0, g) (by omega) ⟨rfl, H, gst, w0, C, rfl, hw02, xtd_rf C, hB, fun _ => ⟨Nat.zero_le _, ⟨.inl, fun z => z.elim id (fun ⟨s, _, hs', _⟩ => absurd hs' (Nat.not_lt_zero _))⟩, fun s hs' => absurd hs' (Nat.not_lt_zero _)⟩⟩
    · rintro k ⟨_, _, g2⟩ hk ⟨rfl, H2, gst2, w, D, rfl, w2, x1, x2, x3⟩
      dsimp only at H2 gst2 x2 ⊢
      obtain ⟨m1, m2, m3, m4⟩ := keep g2 H2
      have hcD : hp_i g2 (fa + 2) 0 = nI D.1 := x2.2.1.2.2.1
      have hDl := x2.1.2.1
      unfold f_Fa_lookThrough_82b
      rw [if_neg (show ¬ (5000 : Int32) ≤ nI k from nI_ge (b := 5000) hk (by decide)), bn_o m1.2.1, hcD]
      by_cases hkD : D.1 ≤ k
      · rw [if_pos (nI_le hkD (by omega))]
        exact pw_mapR (fin g2 w k D H2 gst2 w2 x1 x2 x3 (.inr hkD))
      · rw [if_neg (nI_ge (by omega) (by omega)), x2.2.2]
        cases hD : D.2.2
        · obtain ⟨y1, y2, y3⟩ := x3 hD
          obtain ⟨d1, d2, d3⟩ := x2.1.2.2.1 k (by omega)
          rw [if_pos (show nI (if false = true then 1 else 0) = (0 : Int32) from rfl), bn_o m1.2.1, bn_o (X_member x2.2.1 (by omega))]
          dsimp only
          refine pw_bind (pw_mono (X_sw ok hq hsf m1 x2 m2 gst2 d1 d2 d3) ?_)
          rintro ⟨_, g3⟩ ⟨H3', gst3, w', D', rfl, v2, v3, z1, z2, z3⟩
          dsimp only at H3' gst3 z2 ⊢
          rw [fa_or, xx_lE, xx_lE]
          have hww : w ||| w' < 2 := Nat.or_lt_two_pow (n := 1) w2 v2
          have hwo : (w ||| w' = 1) ↔ w = 1 ∨ w' = 1 := by
            have h1 : w = 0 ∨ w = 1 := by omega
            have h2 : w' = 0 ∨ w' = 1 := by omega
            rcases h1 with a | a <;> rcases h2 with b | b <;> rw [a, b] <;> decide
          have eD : ∀ s, s < D.1 → D'.2.1 s = D.2.1 s := z1.2.1
          refine pw_L rfl ⟨nI_1 k, hp_fr_tr H2 (hp_fr_mo H3' (fun a k z => .inl z)), gst3, w ||| w', D', rfl, hww, xtd_tr x1 z1, z2, fun hD' => ⟨by have := z1.1; omega, ?_, fun s hs' i hi ho => ?_⟩⟩
          · rw [hwo, y2, v3]
            constructor
            · rintro ((a | ⟨s, i, a1, a2, a3⟩) | ⟨i, a1, a2⟩)
              · exact .inl a
              · exact .inr ⟨s, i, by omega, a2, by rw [eD s (by omega)]; exact a3⟩
              · exact .inr ⟨k, i, by omega, a1, by rw [eD k (by omega)]; exact a2⟩
            · rintro (a | ⟨s, i, a1, a2, a3⟩)
              · exact .inl (.inl a)
              · rw [eD s (by omega)] at a3
                by_cases y : s = k
                · rw [y] at a3; exact .inr ⟨i, a2, a3⟩
                · exact .inl (.inr ⟨s, i, by omega, a2, a3⟩)
          · rw [eD s (by omega)] at ho ⊢
            by_cases y : s = k
            · rw [y] at ho ⊢; exact z3 hD' i hi ho
            · exact INB_x z1 (y3 s (by omega) i hi ho)
        · rw [if_neg (show ¬ nI (if true = true then 1 else 0) = (0 : Int32) by decide)]
          exact pw_mapR (fin g2 w k D H2 gst2 w2 x1 x2 x3 (.inl hD))
    · rintro ⟨_, _, g2⟩ ⟨rfl, H2, gst2, w, D, rfl, w2, x1, x2, x3⟩
      dsimp only at H2 gst2 x2 ⊢
      have hDl := x2.1.2.1
      unfold f_Fa_lookThrough_82b
      rw [if_pos (show (5000 : Int32) ≤ nI 5000 from Int32.le_refl _)]
      exact pw_mapR (fin g2 w 5000 D H2 gst2 w2 x1 x2 x3 (.inr (by omega)))
  unfold f_Fa_lookThrough_25
  refine pw_cnt n0 (fun s t => t.1 = nI s ∧ hp_fr (fun a k => S_lt fa sv q a k ∨ a = fa + 2) h t.2 ∧ STC P (sv + 2) t.2 ∧ ∃ C, FBX P F fa (5000 - n0) C t.2 ∧ (C.2.2 = false → ∀ s', s' < s → ∀ j, j < wys P F → INB C (ftc P F (f0 s') j))) ?_ ?_ 0 (0, g3) (by omega) ⟨rfl, H3, st3, _, hB3, fun _ s' hs' => absurd hs' (Nat.not_lt_zero _)⟩
  · rintro s ⟨_, g⟩ hsn ⟨rfl, H, gst, C, hB, hc⟩
    dsimp only at H gst hB ⊢
    obtain ⟨m1, m2, m3, m4⟩ := keep g H
    unfold f_Fa_lookThrough_25b
    rw [bn_o m2.2.2.2.2.1, m3.2.2.1, if_neg (nI_ge hsn (by omega)), hB.2.2]
    cases hC : C.2.2
    · rw [if_pos (show nI (if false = true then 1 else 0) = (0 : Int32) from rfl), bn_o m2.2.2.2.2.2.2.2.1, bn_o m2.2.2.2.2.1, bn_o (X_member m3 hsn)]
      dsimp only
      refine pw_bind (pw_mono (X_pf ok m2.1 m2.2.1 (by omega) hF m1 hB (fl s hsn) (RB_3 (hS3 s hsn))) ?_)
      rintro g2 ⟨H2, D, x1, x2, x3⟩
      rw [xx_lE]
      refine pw_L rfl ⟨nI_1 s, hp_fr_tr H (hp_fr_mo H2 (fun a k z => .inl (.inl z))), STC_ag (fun k => hf_i H2 (by unfold S_fa S_set; omega)) gst, D, x2, fun hD s' hs' j hj => ?_⟩
      by_cases y : s' = s
      · rw [y]; exact x3 hD j hj
      · exact INB_x x1 (hc hC s' (by omega) j hj)
    · rw [if_neg (show ¬ nI (if true = true then 1 else 0) = (0 : Int32) by decide)]
      exact pw_mapR (two g C H gst hB (fun z => by rw [hC] at z; exact absurd z (by decide)))
  · rintro ⟨_, g⟩ ⟨rfl, H, gst, C, hB, hc⟩
    dsimp only at H gst hB ⊢
    obtain ⟨m1, m2, m3, m4⟩ := keep g H
    unfold f_Fa_lookThrough_25b
    rw [bn_o m2.2.2.2.2.1, m3.2.2.1, if_pos (nI_le (Nat.le_refl _) (by omega))]
    exact pw_mapR (two g C H gst hB hc)
