theorem X_both {K : TKS} {part r pl d k u : Nat} {B : List Nat} {o : List (Nat × Nat)} {G : GT} {E : Nat → Prop} {fA fO : Nat → Int32 → HP → Option HP} {h : HP} (hb : BW K part G E) (hA : d ≤ 6 → SPX G E K r pl 20 F_a fA (d + 1)) (hAd : DSP K r pl (fA r (nI (d + 1)))) (hO : d ≤ 6 → SPX G E K r pl 23 F_o fO (d + 1)) (hOd : DSP K r pl (fO r (nI (d + 1)))) (hx : CTX K r pl h) (hxe : XE K r pl o u k h) (hcn : CN 0 B o u) (hdp : dep B = d) (hB : BSE 21 B) : pw (f_Rd_readBoth fA fO r (nI d) h) (PST G E K r pl F_b k 0 k B o u h) := by
  have hN := hx.2.1.1
  unfold f_Rd_readBoth f_Rd_readBoth_7
  refine pw_bind (pw_mono (X_one hb hA hAd hO hOd hx hxe hcn hdp (fun c hc => by have := hB c hc; omega)) ?_)
  rintro g ⟨H, z⟩
  refine X_loop (kk := k) (isop := fun t => t = 16) (F := fun t p => (∀ a, a ∈ p → 21 ≤ a ∧ a ≤ 28) ∧ F_st t p) hN (fun i c p g hd => E_both hd) ?_ ?_ 1401 0 g (by omega) (Nat.le_refl _) ⟨H, ?_⟩
  · intro i g k' ha hn
    have htk := (hx.2.1.2.2.2.1 k' ha.1).1
    unfold f_Rd_readBoth_7b
    rw [ha.2.2.2.2, if_neg (show ¬ nI (t_k K k') = (16 : Int32) from fun y => hn ((nI_eq (b := 16) (by omega) (by decide)).mp y))]
    split <;> rfl
  · intro i g k' e p u' hi Hf hxe' hc' hF hop hG
    have hxg := S_xpC Hf hx
    unfold f_Rd_readBoth_7b
    dsimp only
    rw [if_neg (show ¬ (1400 : Int32) ≤ nI i from nI_ge (b := 1400) (by omega) (by decide)), hxe'.1.2.2.2.2, if_pos (show nI (t_k K k') = (16 : Int32) by rw [hop]; rfl)]
    refine pw_b3 (X_bin (c := 21) (sub := f_Rd_readOne fA fO) (Fs := F_o) hb hxg Hf hxe' hc' hG (by rw [hop]; rfl) (by decide) hF.1 hB (fun z => absurd z (by decide)) hdp (fun k2 o2 u2 g2 q1 q2 q3 => X_one hb hA hAd hO hOd q1 q2 q3 (by rw [dep, if_neg (by decide)]; omega) (fun a ha => by rw [List.head?_cons] at ha; have := Option.some.inj ha; omega)) D_one (Nat.le_refl _)) ?_
    rintro g2 ⟨H2, q⟩
    rw [xx_lE, nI_1]
    refine pw_some ⟨g2, rfl, H2, ?_⟩
    rcases q with q | ⟨k2, e2, p2, u2, q1, q2, q3, ⟨p3, rfl, q4, f1, f2, f3, f4⟩, q5⟩
    · exact .inl q
    · refine .inr ⟨k2, e2, _, u2, q1, q2, q3, ⟨fun a ha => ?_, f1, f2, f3, fun z => cmt_ap (f4 z)⟩, q5⟩
      rcases List.mem_append.mp ha with y | y
      · have := q4 a y; omega
      · rw [List.mem_singleton.mp y]; decide
  · rcases z with q | ⟨k2, e2, p2, u2, q1, q2, q3, q4, q5⟩
    · exact .inl q
    · exact .inr ⟨k2, e2, _, u2, by omega, q2, q3, ⟨fun a ha => by have := q4.1 a ha; omega, q4.2⟩, q5⟩
theorem X_any {K : TKS} {part r pl d k u : Nat} {B : List Nat} {o : List (Nat × Nat)} {G : GT} {E : Nat → Prop} {fA fO : Nat → Int32 → HP → Option HP} {h : HP} (hb : BW K part G E) (hA : d ≤ 6 → SPX G E K r pl 20 F_a fA (d + 1)) (hAd : DSP K r pl (fA r (nI (d + 1)))) (hO : d ≤ 6 → SPX G E K r pl 23 F_o fO (d + 1)) (hOd : DSP K r pl (fO r (nI (d + 1)))) (hx : CTX K r pl h) (hxe : XE K r pl o u k h) (hcn : CN 0 B o u) (hdp : dep B = d) (hB : BSE 20 B) : pw (f_Rd_readAny fA fO r (nI d) h) (PST G E K r pl F_a k 0 k B o u h) := by
  have hN := hx.2.1.1
  unfold f_Rd_readAny f_Rd_readAny_7
  refine pw_bind (pw_mono (X_both hb hA hAd hO hOd hx hxe hcn hdp (fun c hc => by have := hB c hc; omega)) ?_)
  rintro g ⟨H, z⟩
  refine X_loop (kk := k) (isop := fun t => t = 15) (F := fun t p => (∀ a, a ∈ p → 20 ≤ a ∧ a ≤ 28) ∧ F_st t p ∧ ¬ t = 16) hN (fun i c p g hd => E_any hd) ?_ ?_ 1401 0 g (by omega) (Nat.le_refl _) ⟨H, ?_⟩
  · intro i g k' ha hn
    have htk := (hx.2.1.2.2.2.1 k' ha.1).1
    unfold f_Rd_readAny_7b
    rw [ha.2.2.2.2, if_neg (show ¬ nI (t_k K k') = (15 : Int32) from fun y => hn ((nI_eq (b := 15) (by omega) (by decide)).mp y))]
    split <;> rfl
  · intro i g k' e p u' hi Hf hxe' hc' hF hop hG
    have hxg := S_xpC Hf hx
    unfold f_Rd_readAny_7b
    dsimp only
    rw [if_neg (show ¬ (1400 : Int32) ≤ nI i from nI_ge (b := 1400) (by omega) (by decide)), hxe'.1.2.2.2.2, if_pos (show nI (t_k K k') = (15 : Int32) by rw [hop]; rfl)]
    refine pw_b3 (X_bin (c := 20) (sub := f_Rd_readBoth fA fO) (Fs := F_b) hb hxg Hf hxe' hc' hG (by rw [hop]; rfl) (by decide) hF.1 hB (fun z => absurd z (by decide)) hdp (fun k2 o2 u2 g2 q1 q2 q3 => X_both hb hA hAd hO hOd q1 q2 q3 (by rw [dep, if_neg (by decide)]; omega) (fun a ha => by rw [List.head?_cons] at ha; have := Option.some.inj ha; omega)) D_both (Nat.le_refl _)) ?_
    rintro g2 ⟨H2, q⟩
    rw [xx_lE, nI_1]
    refine pw_some ⟨g2, rfl, H2, ?_⟩
    rcases q with q | ⟨k2, e2, p2, u2, q1, q2, q3, ⟨p3, rfl, ⟨q4, f1, f2, f3, f4⟩, f5⟩, q5⟩
    · exact .inl q
    · refine .inr ⟨k2, e2, _, u2, q1, q2, q3, ⟨fun a ha => ?_, ⟨f1, f2, f3, fun z => cmt_ap (f4 z)⟩, f5⟩, q5⟩
      rcases List.mem_append.mp ha with y | y
      · have := q4 a y; omega
      · rw [List.mem_singleton.mp y]; decide
  · rcases z with q | ⟨k2, e2, p2, u2, q1, q2, q3, q4, q5⟩
    · exact .inl q
    · exact .inr ⟨k2, e2, _, u2, by omega, q2, q3, ⟨fun a ha => by have := q4.1.1 a ha; omega, q4.1.2, q4.2⟩, q5⟩
theorem D_rec {K : TKS} {r pl : Nat} {v : Int32} : ∀ n, 1 ≤ n → DSP K r pl ((f_Rd_rec n).1 r v) ∧ DSP K r pl ((f_Rd_rec n).2 r v) := by
  intro n hn
  cases n with
  | zero => omega
  | succ n => exact ⟨D_any, D_one⟩
theorem X_rec {K : TKS} {part r pl : Nat} {G : GT} {E : Nat → Prop} (hb : BW K part G E) : ∀ n d, d ≤ 7 → 8 - d < n → SPX G E K r pl 20 F_a (f_Rd_rec n).1 d ∧ SPX G E K r pl 23 F_o (f_Rd_rec n).2 d := by
  intro n
  induction n with
  | zero => intro d _ h; omega
  | succ n ih =>
    intro d h7 hn
    rw [f_Rd_rec]
    dsimp only
    obtain ⟨i3, i4⟩ := D_rec (K := K) (r := r) (pl := pl) (v := nI (d + 1)) n (by omega)
    have i1 : d ≤ 6 → SPX G E K r pl 20 F_a (f_Rd_rec n).1 (d + 1) := fun hd => (ih (d + 1) (by omega) (by omega)).1
    have i2 : d ≤ 6 → SPX G E K r pl 23 F_o (f_Rd_rec n).2 (d + 1) := fun hd => (ih (d + 1) (by omega) (by omega)).2
    exact ⟨fun k B o u g q1 q2 q3 q4 q5 => X_any hb i1 i3 i2 i4 q1 q2 q3 q4 q5, fun k B o u g q1 q2 q3 q4 q5 => X_one hb i1 i3 i2 i4 q1 q2 q3 q4 q5⟩
theorem X_anyD {K : TKS} {r pl : Nat} {v : Int32} : DSP K r pl (f_Rd_any r v) := (D_rec 10 (by decide)).1
theorem X_any0 {K : TKS} {part r pl k u : Nat} {o : List (Nat × Nat)} {G : GT} {E : Nat → Prop} {h : HP} (hb : BW K part G E) (hx : CTX K r pl h) (hxe : XE K r pl o u k h) (hcn : CN 0 [] o u) : pw (f_Rd_any r (0 : Int32) h) (PST G E K r pl F_a k 0 k [] o u h) := (X_rec hb 10 0 (by decide) (by decide)).1 k [] o u h hx hxe hcn rfl (fun c hc => by cases hc)
