/-! the law's loop -/
def OPI (fx fm : HP → Option (Int32 × HP)) (x m : Nat) : Prop := ∀ (P : PT) (ZT ST : Nat) (h : HP), INV P x m ZT ST h → pw (fx h) (fun r => pw (fm r.2) (fun s => r.1 = s.1 ∧ ∃ P', INV P' x m ZT ST s.2))
def OPL (fx fm : HP → Option (Int64 × HP)) (x m : Nat) : Prop := ∀ (P : PT) (ZT ST : Nat) (h : HP), INV P x m ZT ST h → pw (fx h) (fun r => pw (fm r.2) (fun s => r.1 = s.1 ∧ ∃ P', INV P' x m ZT ST s.2))
theorem OPI_2 {fx fm : HP → Option (Int32 × HP)} {x m : Nat} (h : OK2 fx fm x m) : OPI fx fm x m := fun P ZT ST g hi => pw_mono (h P ZT ST g hi) (fun _ hr => pw_mono hr (fun _ hs => ⟨hs.1, P, hs.2⟩))
theorem OPL_2 {fx fm : HP → Option (Int64 × HP)} {x m : Nat} (h : OK2L fx fm x m) : OPL fx fm x m := fun P ZT ST g hi => pw_mono (h P ZT ST g hi) (fun _ hr => pw_mono hr (fun _ hs => ⟨hs.1, P, hs.2⟩))
def LWI (x m ZT ST n : Nat) (t : Int32 × HP) : Prop := t.1 = nI n ∧ ∃ P, INV P x m ZT ST t.2
theorem br_n {xs : Nat → Int32} {L v0 x m ZT ST n : Nat} {P : PT} {h : HP} {Q : Int32 × HP → Prop} (hi : INV P x m ZT ST h) : pw (f_Lw_law_1089 xs L v0 x m (nI n) h) (xx_L2 (LWI x m ZT ST (n + 6)) Q) := by
  unfold f_Lw_law_1089
  rw [xx_lE, show (6 : Int32) = nI 6 from rfl, nI_add]
  exact pw_L rfl ⟨rfl, P, hi⟩
theorem br_i {fx fm : HP → Option (Int32 × HP)} {xs : Nat → Int32} {L v0 x m ZT ST n : Nat} {P : PT} {h : HP} {Q : Int32 × HP → Prop} (ho : OPI fx fm x m) (hi : INV P x m ZT ST h) : pw ((fx h).bind fun a => (fm a.2).bind fun b => if a.1 = b.1 then f_Lw_law_1089 xs L v0 x m (nI n) b.2 else some (.inr ((0 : Int32), b.2))) (xx_L2 (LWI x m ZT ST (n + 6)) Q) := by
  refine pw_bind (pw_mono (ho P ZT ST h hi) ?_)
  intro a ha
  refine pw_bind (pw_mono ha ?_)
  rintro b ⟨b1, P', b2⟩
  rw [if_pos b1]
  exact br_n b2
theorem br_l {fx fm : HP → Option (Int64 × HP)} {xs : Nat → Int32} {L v0 x m ZT ST n : Nat} {P : PT} {h : HP} {Q : Int32 × HP → Prop} (ho : OPL fx fm x m) (hi : INV P x m ZT ST h) : pw ((fx h).bind fun a => (fm a.2).bind fun b => if lg_cmp a.1 b.1 = 0 then f_Lw_law_1089 xs L v0 x m (nI n) b.2 else some (.inr ((0 : Int32), b.2))) (xx_L2 (LWI x m ZT ST (n + 6)) Q) := by
  refine pw_bind (pw_mono (ho P ZT ST h hi) ?_)
  intro a ha
  refine pw_bind (pw_mono ha ?_)
  rintro b ⟨b1, P', b2⟩
  rw [if_pos ((lg_cmp_eq _ _).mpr b1)]
  exact br_n b2
theorem lw_neg : ∀ L : Fin 6, Int32.ofNat L.1 - (6 : Int32) < nI 0 := by decide +kernel
theorem lw_18 {xs : Nat → Int32} {L v0 x m ZT ST : Nat} {P : PT} {h : HP} (hL : L ≤ 3072) (hi : INV P x m ZT ST h) : pw (f_Lw_law_18 xs L v0 x m 0 h) (fun q => q.1 = 1 ∧ ∃ P, INV P x m ZT ST q.2) := by
  unfold f_Lw_law_18
  refine pw_lp (fun t => ∃ n, n ≤ 3078 ∧ LWI x m ZT ST n t) (fun t => 4000 - t.1.toNatClampNeg) ?_ (0, h) ⟨0, by omega, rfl, P, hi⟩
  rintro ⟨v, g⟩ ⟨n, hn, rfl, P, hi⟩
  dsimp only at hi ⊢
  by_cases hc : n + 6 ≤ L
  · have c0 : ¬ Int32.ofNat L - (6 : Int32) < nI n := by
      show ¬ nI L - (6 : Int32) < nI n
      rw [show (6 : Int32) = nI 6 from rfl, pk_sub (by omega)]
      exact nI_nlt (by omega) (by omega)
    have i0 : hp_in (nI n) L = true := hp_in_nI (by omega) (by omega)
    have i1 : hp_in (nI n + (1 : Int32)) L = true := by rw [nI_1]; exact hp_in_nI (by omega) (by omega)
    have i2 : hp_in (nI n + (2 : Int32)) L = true := by rw [show (2 : Int32) = nI 2 from rfl, nI_add]; exact hp_in_nI (by omega) (by omega)
    have i3 : hp_in (nI n + (3 : Int32)) L = true := by rw [show (3 : Int32) = nI 3 from rfl, nI_add]; exact hp_in_nI (by omega) (by omega)
    have i4 : hp_in (nI n + (4 : Int32)) L = true := by rw [show (4 : Int32) = nI 4 from rfl, nI_add]; exact hp_in_nI (by omega) (by omega)
    have i5 : hp_in (nI n + (5 : Int32)) L = true := by rw [show (5 : Int32) = nI 5 from rfl, nI_add]; exact hp_in_nI (by omega) (by omega)
    have key : pw (f_Lw_law_18b xs L v0 x m (nI n) g) (xx_L2 (LWI x m ZT ST (n + 6)) (fun q => q.1 = 1 ∧ ∃ P, INV P x m ZT ST q.2)) := by
      unfold f_Lw_law_18b
      rw [if_neg c0, if_pos i0, xx_lE]
      simp only [i1, i2, i3, i4, i5, if_true]
      generalize xs (nI n).toNatClampNeg &&& (63 : Int32) = w
      by_cases w0 : w = (0 : Int32)
      · rw [if_pos w0]; exact br_i (OPI_2 (OK2_ez (op_feed _ _ _ _ _))) hi
      rw [if_neg w0]
      by_cases w1 : w = (1 : Int32)
      · rw [if_pos w1]; exact br_i (OPI_2 (OK2_ez (op_end _))) hi
      rw [if_neg w1]
      by_cases w2 : w = (2 : Int32)
      · rw [if_pos w2]; exact br_i op_plan hi
      rw [if_neg w2]
      by_cases w3 : w = (3 : Int32)
      · rw [if_pos w3]; exact br_i (OPI_2 (OK2_ez (op_fault _))) hi
      rw [if_neg w3]
      by_cases w4 : w = (4 : Int32)
      · rw [if_pos w4]; exact br_i (OPI_2 (OK2_ez (op_begin _))) hi
      rw [if_neg w4]
      by_cases w5 : w = (5 : Int32)
      · rw [if_pos w5]; exact br_i (OPI_2 (OK2_ez (op_lead _))) hi
      rw [if_neg w5]
      by_cases w6 : w = (6 : Int32)
      · rw [if_pos w6]; exact br_i (OPI_2 (OK2_ez (op_forget _))) hi
      rw [if_neg w6]
      by_cases w7 : w = (7 : Int32)
      · rw [if_pos w7]; exact br_i (OPI_2 (OK2_ez (op_dark _))) hi
      rw [if_neg w7]
      by_cases w8 : w = (8 : Int32)
      · rw [if_pos w8]; exact br_i (OPI_2 (OK2_ez (op_man _ _))) hi
      rw [if_neg w8]
      by_cases w9 : w = (9 : Int32)
      · rw [if_pos w9]; exact br_i (OPI_2 (op_states _ _ _)) hi
      rw [if_neg w9]
      by_cases w10 : w = (10 : Int32)
      · rw [if_pos w10]; exact br_i (OPI_2 (op_right _ _)) hi
      rw [if_neg w10]
      by_cases w11 : w = (11 : Int32)
      · rw [if_pos w11]; exact br_i (OPI_2 (op_shown _ _ _)) hi
      rw [if_neg w11]
      by_cases w12 : w = (12 : Int32)
      · rw [if_pos w12]; exact br_i (OPI_2 (op_shows _ _ _)) hi
      rw [if_neg w12]
      by_cases w13 : w = (13 : Int32)
      · rw [if_pos w13]; exact br_i (OPI_2 (op_soonest _ _)) hi
      rw [if_neg w13]
      by_cases w14 : w = (14 : Int32)
      · rw [if_pos w14]; exact br_i (OPI_2 (op_ends _ _)) hi
      rw [if_neg w14]
      by_cases w15 : w = (15 : Int32)
      · rw [if_pos w15]; exact br_i (OPI_2 (op_endless _ _)) hi
      rw [if_neg w15]
      by_cases w16 : w = (16 : Int32)
      · rw [if_pos w16]; exact br_i (OPI_2 (op_idle _ _)) hi
      rw [if_neg w16]
      by_cases w17 : w = (17 : Int32)
      · rw [if_pos w17]; exact br_i (OPI_2 (op_most _ _ _)) hi
      rw [if_neg w17]
      by_cases w18 : w = (18 : Int32)
      · rw [if_pos w18]; exact br_i (OPI_2 (op_bears _ _ _)) hi
      rw [if_neg w18]
      by_cases w19 : w = (19 : Int32)
      · rw [if_pos w19]; exact br_l (OPL_2 (op_said _ _ _ _ _ _)) hi
      rw [if_neg w19]
      by_cases w20 : w = (20 : Int32)
      · rw [if_pos w20]; exact br_l (OPL_2 (OK2L_ez (op_all _ _ _))) hi
      rw [if_neg w20]
      by_cases w21 : w = (21 : Int32)
      · rw [if_pos w21]; exact br_i (OPI_2 (OK2_ez (op_guess _ _))) hi
      rw [if_neg w21]
      by_cases w22 : w = (22 : Int32)
      · rw [if_pos w22]; exact br_l (OPL_2 (OK2L_ez (op_mean _ _))) hi
      rw [if_neg w22]
      by_cases w23 : w = (23 : Int32)
      · rw [if_pos w23]; exact br_i (OPI_2 (OK2_ez (op_counter _ _ _ _))) hi
      rw [if_neg w23]
      by_cases w24 : w = (24 : Int32)
      · rw [if_pos w24]; exact br_i (OPI_2 (OK2_ez (op_fair))) hi
      rw [if_neg w24]
      by_cases w25 : w = (25 : Int32)
      · rw [if_pos w25]; exact br_i (OPI_2 (OK2_ez (op_log _ _))) hi
      rw [if_neg w25]
      by_cases w26 : w = (26 : Int32)
      · rw [if_pos w26]; exact br_i (OPI_2 (OK2_ez (op_untell _))) hi
      rw [if_neg w26]
      by_cases w27 : w = (27 : Int32)
      · rw [if_pos w27]; exact br_i (OPI_2 (OK2_ez (op_later _))) hi
      rw [if_neg w27]
      by_cases w28 : w = (28 : Int32)
      · rw [if_pos w28]; exact br_i (OPI_2 (OK2_ez (op_logged _ _))) hi
      rw [if_neg w28]
      by_cases w29 : w = (29 : Int32)
      · rw [if_pos w29]; exact br_i (OPI_2 (OK2_ez (op_last _ _))) hi
      rw [if_neg w29]
      by_cases w30 : w = (30 : Int32)
      · rw [if_pos w30]; exact br_i (OPI_2 (OK2_ez (op_agrees _ _))) hi
      rw [if_neg w30]
      by_cases w31 : w = (31 : Int32)
      · rw [if_pos w31]; exact br_i (OPI_2 (OK2_ez (op_image _))) hi
      rw [if_neg w31]
      by_cases w32 : w = (32 : Int32)
      · rw [if_pos w32]; exact br_i (OPI_2 (OK2_ez (op_back _))) hi
      rw [if_neg w32]
      by_cases w33 : w = (33 : Int32)
      · rw [if_pos w33]; exact br_i (OPI_2 (OK2_ez (op_about _))) hi
      rw [if_neg w33]
      exact br_n hi
    refine pw_mono key ?_
    rintro (⟨v, g'⟩ | q) hq
    · obtain ⟨e, P', i'⟩ := hq
      dsimp only at e i'
      subst e
      refine ⟨⟨n + 6, by omega, rfl, P', i'⟩, ?_⟩
      dsimp only
      rw [nI_clamp (by omega), nI_clamp (by omega)]; omega
    · exact hq
  · have c0 : Int32.ofNat L - (6 : Int32) < nI n := by
      by_cases h6 : L < 6
      · exact Int32.lt_of_lt_of_le (lw_neg ⟨L, h6⟩) (nI_le (Nat.zero_le _) (by omega))
      · show nI L - (6 : Int32) < nI n
        rw [show (6 : Int32) = nI 6 from rfl, pk_sub (by omega)]
        exact nI_lt (by omega) (by omega)
    unfold f_Lw_law_18b
    rw [if_pos c0]
    exact pw_R rfl ⟨rfl, P, hi⟩
