/-! once refused, all is passed over -/
theorem D_unit {K : TKS} {r pl : Nat} {v : Int32} {fA : Nat → Int32 → HP → Option HP} : DSP K r pl (f_Rd_readUnit fA r v) := by
  intro c p g hx hd
  have e : f_Rd_unitCode r g = some (-101, g) := by
    unfold f_Rd_unitCode
    rw [hd.1.2.2.2.2, xx_lE, if_neg (by decide), if_neg (by decide), if_neg (by decide), if_neg (by decide), if_neg (by decide), if_neg (by decide), if_neg (by decide)]
  unfold f_Rd_readUnit f_Rd_readUnit_35
  rw [bn_o e, bn_o hx.2.2.1.1]
  have fin : pw ((f_Rd_refuse r (2 : Int32) g).bind fun x_3 => some x_3) (fun g' => hp_fr (S_xp r pl) g g' ∧ DEX r pl c p g') := by
    refine pw_bind (pw_mono (R_refD hd.1) ?_)
    rintro g' ⟨H, D⟩
    exact pw_some ⟨ra_xp H, DEX_ra hx.1 H hd D⟩
  dsimp only
  by_cases z : (60 : Int32) ≤ hp_i g pl 7
  · rw [if_pos z]; exact fin
  · rw [if_neg z, if_pos rfl]; exact fin
theorem D_lp {S : Type} {K : TKS} {r pl : Nat} {f : HP → Option HP} {body : Int32 × HP → Option ((Int32 × HP) ⊕ HP)} (hf : DSP K r pl f) (hb : ∀ i c p g, DEX r pl c p g → body (i, g) = some (.inr g)) {S' : S} : DSP K r pl (fun g => (f g).bind fun x => xx_lp body (0, x)) := by
  intro c p g hx hd
  refine pw_bind (pw_mono (hf c p g hx hd) ?_)
  rintro g' ⟨H, D⟩
  exact pw_go (pw_R (hb _ _ _ g' D) ⟨H, D⟩)
theorem E_term {r pl c p : Nat} {v i : Int32} {fA : Nat → Int32 → HP → Option HP} {g : HP} (hd : DEX r pl c p g) : f_Rd_readTerm_7b fA r v i g = some (.inr g) := by
  unfold f_Rd_readTerm_7b
  rw [hd.1.2.2.2.2, if_neg (show ¬ (23 : Int32) = 42 by decide)]
  split <;> rfl
theorem D_term {K : TKS} {r pl : Nat} {v : Int32} {fA : Nat → Int32 → HP → Option HP} : DSP K r pl (f_Rd_readTerm fA r v) := D_lp (S' := ()) (body := fun s => f_Rd_readTerm_7b fA r v s.1 s.2) D_unit (fun _ _ _ _ hd => E_term hd)
theorem E_sum {r pl c p : Nat} {v i : Int32} {fA : Nat → Int32 → HP → Option HP} {g : HP} (hd : DEX r pl c p g) : f_Rd_readSum_7b fA r v i g = some (.inr g) := by
  unfold f_Rd_readSum_7b
  rw [hd.1.2.2.2.2, if_neg (show ¬ (23 : Int32) = 43 by decide), if_neg (show ¬ (23 : Int32) = 45 by decide)]
  split <;> rfl
theorem D_sum {K : TKS} {r pl : Nat} {v : Int32} {fA : Nat → Int32 → HP → Option HP} : DSP K r pl (f_Rd_readSum fA r v) := D_lp (S' := ()) (body := fun s => f_Rd_readSum_7b fA r v s.1 s.2) D_term (fun _ _ _ _ hd => E_sum hd)
theorem D_one {K : TKS} {r pl : Nat} {v : Int32} {fA fO : Nat → Int32 → HP → Option HP} : DSP K r pl (f_Rd_readOne fA fO r v) := by
  intro c p g hx hd
  unfold f_Rd_readOne
  rw [hd.1.2.2.2.2, if_neg (show ¬ (23 : Int32) = 17 by decide)]
  refine pw_bind (pw_mono (D_sum c p g hx hd) ?_)
  rintro g' ⟨H, D⟩
  rw [D.1.2.2.2.2, if_neg (show ¬ (23 : Int32) = 60 by decide), if_neg (show ¬ (23 : Int32) = 62 by decide), if_neg (show ¬ (23 : Int32) = 61 by decide)]
  exact pw_some ⟨H, D⟩
theorem E_both {r pl c p : Nat} {v i : Int32} {fA fO : Nat → Int32 → HP → Option HP} {g : HP} (hd : DEX r pl c p g) : f_Rd_readBoth_7b fA fO r v i g = some (.inr g) := by
  unfold f_Rd_readBoth_7b
  rw [hd.1.2.2.2.2, if_neg (show ¬ (23 : Int32) = 16 by decide)]
  split <;> rfl
theorem D_both {K : TKS} {r pl : Nat} {v : Int32} {fA fO : Nat → Int32 → HP → Option HP} : DSP K r pl (f_Rd_readBoth fA fO r v) := D_lp (S' := ()) (body := fun s => f_Rd_readBoth_7b fA fO r v s.1 s.2) D_one (fun _ _ _ _ hd => E_both hd)
theorem E_any {r pl c p : Nat} {v i : Int32} {fA fO : Nat → Int32 → HP → Option HP} {g : HP} (hd : DEX r pl c p g) : f_Rd_readAny_7b fA fO r v i g = some (.inr g) := by
  unfold f_Rd_readAny_7b
  rw [hd.1.2.2.2.2, if_neg (show ¬ (23 : Int32) = 15 by decide)]
  split <;> rfl
theorem D_any {K : TKS} {r pl : Nat} {v : Int32} {fA fO : Nat → Int32 → HP → Option HP} : DSP K r pl (f_Rd_readAny fA fO r v) := D_lp (S' := ()) (body := fun s => f_Rd_readAny_7b fA fO r v s.1 s.2) D_both (fun _ _ _ _ hd => E_any hd)
/-! what can stand for a number -/
theorem R_unit {K : TKS} {r pl k : Nat} {h : HP} (hx : CTX K r pl h) (ha : ALV K r k h) : f_Rd_unitCode r h = some (if uc (t_k K k) < 6 then xo (uc (t_k K k)) (t_n K k) else if t_k K k = 40 then -100 else -101, h) := by
  obtain ⟨a1, a2, a3, a4, a5⟩ := ha
  obtain ⟨x1, x2, x3, x4, x5⟩ := hx
  have hN := x2.1
  obtain ⟨b1, b2, b3, b4, b5⟩ := x2.2.2.2.1 k a1
  obtain ⟨t, ht⟩ : ∃ t, t_k K k = t := ⟨_, rfl⟩
  have v9 := (x5 k a1).2.2
  rw [ht] at a5 b1 b4 v9 ⊢
  have ne : ∀ j : Nat, j < 2 ^ 31 → t ≠ j → ¬ nI t = nI j := fun j hj z y => z ((nI_eq (by omega) hj).mp y)
  unfold f_Rd_unitCode
  rw [a5, xx_lE]
  by_cases z0 : t = 0
  · subst z0; rfl
  rw [if_neg (show ¬ nI t = (0 : Int32) from ne 0 (by decide) z0)]
  by_cases z8 : t = 8
  · subst z8; rfl
  rw [if_neg (show ¬ nI t = (8 : Int32) from ne 8 (by decide) z8)]
  by_cases z9 : t = 9
  · subst z9; rfl
  rw [if_neg (show ¬ nI t = (9 : Int32) from ne 9 (by decide) z9)]
  by_cases z18 : t = 18
  · subst z18; rfl
  rw [if_neg (show ¬ nI t = (18 : Int32) from ne 18 (by decide) z18)]
  by_cases z19 : t = 19
  · subst z19; rfl
  rw [if_neg (show ¬ nI t = (19 : Int32) from ne 19 (by decide) z19)]
  by_cases z21 : t = 21
  · subst z21
    rw [if_pos rfl] at v9
    rw [if_pos (show nI 21 = (21 : Int32) from rfl), bn_o x3.2.2.2.2.1, a4.1, x3.2.2.2.2.2.2.2.2.1, if_pos (hp_in_nI (by omega) (by omega)), nI_clamp (by omega), v9, lN_i]
    rfl
  rw [if_neg (show ¬ nI t = (21 : Int32) from ne 21 (by decide) z21)]
  have eu : uc t = 6 := by unfold uc; rw [if_neg z0, if_neg z9, if_neg z18, if_neg z19, if_neg z8, if_neg z21]
  rw [eu, if_neg (show ¬ 6 < 6 by decide)]
  by_cases z40 : t = 40
  · subst z40; rfl
  · rw [if_neg (show ¬ nI t = (40 : Int32) from ne 40 (by decide) z40), if_neg z40]
theorem xo_n {c v : Nat} (hc : c < 6) (hv : v ≤ 9999) : xo c v ≠ -101 ∧ xo c v ≠ -100 := by
  unfold xo
  rcases (show c = 0 ∨ c = 1 ∨ c = 2 ∨ c = 3 ∨ c = 4 ∨ c = 5 by omega) with rfl | rfl | rfl | rfl | rfl | rfl
  · rw [if_pos rfl]
    exact ⟨fun z => absurd (show nI v < 0 by rw [z]; decide) (nI_pos (by omega)), fun z => absurd (show nI v < 0 by rw [z]; decide) (nI_pos (by omega))⟩
  all_goals (rw [if_neg (by decide), if_pos (by decide)]; exact ⟨by decide, by decide⟩)
