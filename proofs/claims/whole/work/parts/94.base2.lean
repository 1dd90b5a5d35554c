/-! what the great calls may change -/
def S_sc (x m : Nat) : Nat → Nat → Prop := fun a k => a = x ∧ 8 ≤ k ∨ a = x + 14 ∨ a = x + 15 ∨ a = x + 23 ∨ a = x + 24 ∨ S_lp m a k ∨ m + 30 ≤ a ∧ a ≤ m + 40
theorem xs_lt : ∀ q ∈ xs_r, q.1 < 41 ∧ ¬ (q.1 = 0 ∧ 8 ≤ q.2.1) := by decide
theorem xs_lt2 : ∀ q ∈ xs_n, q.1 < 41 := by decide
theorem ms_lt : ∀ q ∈ ms_t, q.2.1 < 56 := by decide
theorem BAS_gen {P : PT} {q x m : Nat} {h h' : HP} (hb : BAS P q x m h) (hI : ∀ a k, a < m + 56 → ¬ S_sc x m a k → hp_i h' a k = hp_i h a k ∧ hp_l h' a k = hp_l h a k) (hR : ∀ a k, a < m + 56 → ¬ (a = x ∧ 8 ≤ k) → hp_r h' a k = hp_r h a k) (hN : ∀ a, a < m + 56 → hp_n h' a = hp_n h a) (hz : hp_z h ≤ hp_z h') (hc : ∀ N, CM m N h → CM m N h') : BAS P q x m h' := by
  obtain ⟨a1, a2, a3, a4, a5, a6, a7, a8, a9, ⟨T, t, a10⟩, a11, ⟨N, td, ov, bu, c1, c2, c3⟩, a13, ⟨ln, tm, dd, mm, tt, uu, a14⟩⟩ := id hb
  obtain ⟨_, hq⟩ := BAS_q hb
  have hi : ∀ a k, a < m + 56 → ¬ S_sc x m a k → hp_i h' a k = hp_i h a k := fun a k h1 h2 => (hI a k h1 h2).1
  refine ⟨a1, ⟨fun r hr => ?_, fun r hr => ?_⟩, fun r hr => ?_, by omega, ?_, ?_, a7, ?_, ?_, ⟨T, t, TP_ag (fun a k hk => hi a k ?_ ?_) a10⟩, FL_ag (fun a k hk => hi a k ?_ ?_) a11, ⟨N, td, ov, bu, c1, CCX_ag (fun a k hk => hI a k ?_ ?_) c2, hc N c3.1, ?_, ?_, fun i hi' => ?_⟩, fun b hb' => BX_ag hb' (fun a k hk => hI a k ?_ ?_) (a13 b hb'), ⟨ln, tm, dd, mm, tt, uu, LG_ag (fun a k hk => hi a k ?_ ?_) a14⟩⟩
  · have := xs_lt r hr
    rw [hR _ _ (by omega) (by omega)]; exact a2.1 r hr
  · have := xs_lt2 r hr
    rw [hN _ (by omega)]; exact a2.2 r hr
  · have := ms_lt r hr
    rw [hR _ _ (by omega) (by omega), hN _ (by omega)]; exact a3 r hr
  · rw [hR _ _ (by omega) (by omega)]; exact a5
  · rw [hR _ _ (by omega) (by omega)]; exact a6
  · exact PX_ag (fun a k hk => hi a k (by unfold F_PX at hk; omega) (by unfold F_PX at hk; unfold S_sc S_lp S_lay F_KM; omega)) a8
  · exact PM_ag (fun a k hk => hi a k (by unfold F_PM at hk; omega) (by unfold F_PM at hk; unfold S_sc S_lp S_lay F_KM; omega)) a9
  · unfold F_TP at hk; omega
  · unfold F_TP at hk; unfold S_sc S_lp S_lay F_KM; omega
  · unfold F_FL at hk; omega
  · unfold F_FL at hk; unfold S_sc S_lp S_lay F_KM; omega
  · unfold F_CCX at hk; omega
  · unfold F_CCX at hk; unfold S_sc S_lp S_lay F_KM; omega
  · rw [hi m 55 (by omega) (by unfold S_sc S_lp S_lay F_KM; omega)]; exact c3.2.1
  · rw [hi m 56 (by omega) (by unfold S_sc S_lp S_lay F_KM; omega)]; exact c3.2.2.1
  · rw [hi (m + 22) i (by omega) (by unfold S_sc S_lp S_lay F_KM; omega)]; exact c3.2.2.2 i hi'
  · unfold F_BX at hk; omega
  · unfold F_BX at hk; unfold S_sc S_lp S_lay F_KM; omega
  · unfold F_LG at hk; omega
  · unfold F_LG at hk; unfold S_sc S_lp S_lay F_KM; omega
/-! what is made anew -/
def afr (z : Nat) (h g : HP) : Prop := ∀ a, a < z → (∀ k, hp_i g a k = hp_i h a k ∧ hp_l g a k = hp_l h a k ∧ hp_r g a k = hp_r h a k) ∧ hp_n g a = hp_n h a
theorem afr_rf (z : Nat) (h : HP) : afr z h h := fun _ _ => ⟨fun _ => ⟨rfl, rfl, rfl⟩, rfl⟩
theorem afr_nw {z : Nat} {h g : HP} {k n s : Nat} (H : afr z h g) (hz : z ≤ hp_z g) : afr z h (hp_nw g k n s) := fun a ha => by
  have hne : a ≠ hp_z g := by omega
  refine ⟨fun j => ?_, ?_⟩
  · rw [hp_i_nw, hp_l_nw, hp_r_nw, if_neg hne, if_neg hne, if_neg hne]; exact (H a ha).1 j
  · rw [hp_n_nw, if_neg hne]; exact (H a ha).2
theorem afr_sr {z : Nat} {h g : HP} {b k : Nat} {v : Option Nat} (H : afr z h g) (hz : z ≤ b) : afr z h (hp_sr g b k v) := fun a ha => by
  refine ⟨fun j => ?_, ?_⟩
  · rw [hp_i_sr, hp_l_sr, hp_r_sr, if_neg (by omega)]; exact (H a ha).1 j
  · rw [hp_n_sr]; exact (H a ha).2
