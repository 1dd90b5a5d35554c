/-! the reference's laying out keeps all -/
theorem KEEP_m {S : Nat → Nat → Prop} {P : PT} {q x m sv ro fa ch ZT ST : Nat} {h s : HP} (hb : BAS P q x m h) (hc : CCH P q x m sv ro fa ch h) (hr : RM ZT ST sv ro fa ch h) (H : hp_fr S h s) (hS : ∀ a k, S a k → S_lp m a k ∨ m + 30 ≤ a ∧ a ≤ m + 40) (hcm : ∀ N, CM m N h → CM m N s) : BAS P q x m s ∧ CCH P q x m sv ro fa ch s ∧ RM ZT ST sv ro fa ch s := by
  obtain ⟨hm, _⟩ := BAS_q hb
  have hS2 : ∀ a k, S a k → S_sc x m a k := fun a k z => by
    rcases hS a k z with w | w
    · exact .inr (.inr (.inr (.inr (.inr (.inl w)))))
    · exact .inr (.inr (.inr (.inr (.inr (.inr w)))))
  refine ⟨BAS_gen hb (fun a k _ q2 => ⟨hf_i H (fun z => q2 (hS2 a k z)), hf_l H (fun z => q2 (hS2 a k z))⟩) (fun a k _ _ => hp_fr_r H a k) (fun a _ => hp_fr_n H a) (by rw [hp_fr_z H]; exact Nat.le_refl _) hcm, CCH_fr H (by omega) (fun a k z => ?_) hc, ?_⟩
  · rcases hS a k z with w | w
    · unfold S_lp S_lay F_KM at w; omega
    · omega
  · unfold RM; rw [hp_fr_z H, hp_fr_s H]; exact hr
theorem M_plan {P : PT} {q x m sv ro fa ch ZT ST F : Nat} {h : HP} (hb : BAS P q x m h) (hc : CCH P q x m sv ro fa ch h) (hr : RM ZT ST sv ro fa ch h) (hF : F ≤ 3) : pw (f_M_layPlan m (fvv F) h) (fun r => LAYR m P F r ∧ BAS P q x m r.2 ∧ CCH P q x m sv ro fa ch r.2 ∧ RM ZT ST sv ro fa ch r.2 ∧ hp_fr (S_lp m) h r.2) := by
  have ok := hb.2.2.2.2.2.2.1
  have hp := hb.2.2.2.2.2.2.2.2.1
  obtain ⟨N, td, ov, bu, _, _, c3⟩ := hb.2.2.2.2.2.2.2.2.2.2.2.1
  obtain ⟨r, er, r1, r2, r3⟩ := M_layPlan hb.2.2.1 ok hp hF c3.1
  obtain ⟨k1, k2, k3⟩ := KEEP_m hb hc hr r2 (fun a k z => .inl z) (fun N' hN' => by
    obtain ⟨r', er', _, _, w⟩ := M_layPlan hb.2.2.1 ok hp hF hN'
    rw [er] at er'
    rw [Option.some.inj er']; exact w)
  exact ⟨r, er, r1, k1, k2, k3, r2⟩
