/-! feed -/
def bb (v : Int32) (c : Nat) : Nat := (((v).toUInt32 >>> ((nI c).toUInt32 &&& Int32.toUInt32 31)).toInt32).toBitVec.toNat % 2 ^ 8
theorem bb_lt (v : Int32) (c : Nat) : bb v c < 256 := Nat.mod_lt _ (by decide)
theorem us_and (v : Int32) (c : Nat) : (((v).toUInt32 >>> ((nI c).toUInt32 &&& Int32.toUInt32 31)).toInt32) &&& (255 : Int32) = nI (bb v c) := pk_and _ 8 (by decide)
theorem mb_bb (v : Int32) {c : Nat} (hc : c ≤ 24) : mb v c = nI (bb v c) := by
  rw [← us_and]
  unfold mb
  refine b_ext (fun i hi => ?_)
  rw [b_and, b_and, b_255]
  by_cases h8 : i < 8
  · rw [b_sshr c (by omega) v hi, if_pos (by omega), b_ushr c (by omega) v i]
  · rw [decide_eq_false h8, Bool.and_false, Bool.and_false]
theorem xb_bb (v : Int32) (c : Nat) : xb v c = sby (bb v c) := by
  unfold xb
  rw [← fa_byte_low, us_and]
  have : ∀ b, b < 256 → vp_nar .byte (nI b).toInt8.toInt32 = sby b := by decide +kernel
  exact this _ (bb_lt v c)
/-- four bytes more -/
def t4 (T : Nat → Nat) (t : Nat) (v : Int32) : Nat → Nat := fun k => if k = t then bb v 24 else if k = t + 1 then bb v 16 else if k = t + 2 then bb v 8 else if k = t + 3 then bb v 0 else T k
theorem t4_lt {T : Nat → Nat} {t : Nat} {v : Int32} (h : ∀ k, k < t → T k < 256) : ∀ k, k < t + 4 → t4 T t v k < 256 := by
  intro k hk
  unfold t4
  split
  · exact bb_lt _ _
  split
  · exact bb_lt _ _
  split
  · exact bb_lt _ _
  split
  · exact bb_lt _ _
  · exact h k (by omega)
def TSX (T : Nat → Nat) (t a o : Nat) (φ : Nat → Int32) (h : HP) : Prop := hp_i h o 1 = nI t ∧ ∀ k, k < t → hp_i h a k = φ (T k)
theorem tp4_TS {T : Nat → Nat} {t a o : Nat} {φ : Nat → Int32} {b : Nat → Int32} {v : Int32} {h : HP} (hao : a ≠ o) (hb : ∀ c, c ≤ 24 → b c = φ (bb v c)) (ht : TSX T t a o φ h) : TSX (t4 T t v) (t + 4) a o φ (tp4 a o t b h) ∧ hp_fr (fun q k => q = a ∨ q = o ∧ k = 1) h (tp4 a o t b h) := by
  unfold tp4
  refine ⟨⟨by rw [hp_i_si, if_pos ⟨rfl, rfl⟩], fun k hk => ?_⟩, ?_⟩
  · have e : ∀ (g : HP) (z : Int32) (j : Nat), hp_i (hp_si g o 1 z) a j = hp_i g a j := fun g z j => by rw [hp_i_si, if_neg (fun w => hao w.1)]
    rw [e, hp_i_si, e, hp_i_si, e, hp_i_si, e, hp_i_si]
    unfold t4
    by_cases h0 : k = t
    · subst h0
      rw [if_neg (by omega), if_neg (by omega), if_neg (by omega), if_pos ⟨rfl, rfl⟩, if_pos rfl]; exact hb 24 (by decide)
    · by_cases h1 : k = t + 1
      · subst h1
        rw [if_neg (by omega), if_neg (by omega), if_pos ⟨rfl, rfl⟩, if_neg (by omega), if_pos rfl]; exact hb 16 (by decide)
      · by_cases h2 : k = t + 2
        · subst h2
          rw [if_neg (by omega), if_pos ⟨rfl, rfl⟩, if_neg (by omega), if_neg (by omega), if_pos rfl]; exact hb 8 (by decide)
        · by_cases h3 : k = t + 3
          · subst h3
            rw [if_pos ⟨rfl, rfl⟩, if_neg (by omega), if_neg (by omega), if_neg (by omega), if_pos rfl]; exact hb 0 (by decide)
          · rw [if_neg (fun w => h3 w.2), if_neg (fun w => h2 w.2), if_neg (fun w => h1 w.2), if_neg (fun w => h0 w.2), if_neg h0, if_neg h1, if_neg h2, if_neg h3]
            exact ht.2 k (by omega)
  · exact hf_si (hf_si (hf_si (hf_si (hf_si (hf_si (hf_si (hf_si (hp_fr_rf h) (.inl rfl)) (.inr ⟨rfl, rfl⟩)) (.inl rfl)) (.inr ⟨rfl, rfl⟩)) (.inl rfl)) (.inr ⟨rfl, rfl⟩)) (.inl rfl)) (.inr ⟨rfl, rfl⟩)
theorem X_feed1 {T : Nat → Nat} {x t : Nat} {v : Int32} {h : HP} (hs : XS x h) (h4 : t + 4 ≤ 1400) (ht : TSX T t (x + 1) x sby h) : pw (f_X_putOnTape x v h) (fun g => TSX (t4 T t v) (t + 4) (x + 1) x sby g ∧ hp_fr (fun q k => q = x + 1 ∨ q = x ∧ k = 1) h g) := pw_eq (X_put hs ht.1 h4) (tp4_TS (by omega) (fun c hc => xb_bb v c) ht)
theorem M_feed1 {T : Nat → Nat} {m t : Nat} {v : Int32} {h : HP} (hs : MS m h) (h4 : t + 4 ≤ 1400) (ht : TSX T t (m + 1) m nI h) : pw (f_M_four m v h) (fun g => TSX (t4 T t v) (t + 4) (m + 1) m nI g ∧ hp_fr (fun q k => q = m + 1 ∨ q = m ∧ k = 1) h g) := pw_eq (M_four hs ht.1 h4) (tp4_TS (by omega) (fun c hc => mb_bb v hc) ht)
def t20 (T : Nat → Nat) (t : Nat) (a b c d e : Int32) : Nat → Nat := t4 (t4 (t4 (t4 (t4 T t a) (t + 4) b) (t + 4 + 4) c) (t + 4 + 4 + 4) d) (t + 4 + 4 + 4 + 4) e
theorem op_feed {x m : Nat} (a b c d e : Int32) : EZ (fun h => f_X_feed x a b c d e h) (fun h => f_M_feed m a b c d e h) x m := by
  intro P q h hb
  have hm := bm hb
  have hxs := bxs hb
  obtain ⟨T, t, u1, u2, u3, u4⟩ := bT hb
  by_cases ht : t ≤ 1380
  · have hX : TSX T t (x + 1) x sby h := ⟨u2, fun k hk => (u4 k hk).2.1⟩
    unfold f_X_feed
    dsimp only
    rw [u2, if_pos (show nI t ≤ (1380 : Int32) from nI_le (b := 1380) ht (by decide))]
    refine pw_bind (pw_mono (X_feed1 hxs (by omega) hX) ?_)
    rintro g1 ⟨a1, H1⟩
    refine pw_bind (pw_mono (X_feed1 (XS_fr H1 hxs) (by omega) a1) ?_)
    rintro g2 ⟨a2, H2⟩
    have G2 := hp_fr_tr H1 H2
    refine pw_bind (pw_mono (X_feed1 (XS_fr G2 hxs) (by omega) a2) ?_)
    rintro g3 ⟨a3, H3⟩
    have G3 := hp_fr_tr G2 H3
    refine pw_bind (pw_mono (X_feed1 (XS_fr G3 hxs) (by omega) a3) ?_)
    rintro g4 ⟨a4, H4⟩
    have G4 := hp_fr_tr G3 H4
    refine pw_bind (pw_mono (X_feed1 (XS_fr G4 hxs) (by omega) a4) ?_)
    rintro g5 ⟨a5, H5⟩
    have G5 := hp_fr_tr G4 H5
    rw [a5.1]
    refine pw_some ?_
    dsimp only
    have hms := MS_fr G5 (bms hb)
    have hM : TSX T t (m + 1) m nI g5 := ⟨by rw [hf_i G5 (by omega)]; exact u3, fun k hk => by rw [hf_i G5 (by omega)]; exact (u4 k hk).2.2⟩
    unfold f_M_feed
    rw [hM.1, show (20 : Int32) = nI 20 from rfl, nI_add, if_pos (show nI (t + 20) ≤ (1400 : Int32) from nI_le (b := 1400) (by omega) (by decide))]
    refine pw_bind (pw_mono (M_feed1 hms (by omega) hM) ?_)
    rintro k1 ⟨b1, J1⟩
    refine pw_bind (pw_mono (M_feed1 (MS_fr J1 hms) (by omega) b1) ?_)
    rintro k2 ⟨b2, J2⟩
    have L2 := hp_fr_tr J1 J2
    refine pw_bind (pw_mono (M_feed1 (MS_fr L2 hms) (by omega) b2) ?_)
    rintro k3 ⟨b3, J3⟩
    have L3 := hp_fr_tr L2 J3
    refine pw_bind (pw_mono (M_feed1 (MS_fr L3 hms) (by omega) b3) ?_)
    rintro k4 ⟨b4, J4⟩
    have L4 := hp_fr_tr L3 J4
    refine pw_bind (pw_mono (M_feed1 (MS_fr L4 hms) (by omega) b4) ?_)
    rintro k5 ⟨b5, J5⟩
    have L5 := hp_fr_tr L4 J5
    rw [b5.1]
    have H : hp_fr (fun q k => (q = x + 1 ∨ q = x ∧ k = 1) ∨ (q = m + 1 ∨ q = m ∧ k = 1)) h k5 := hp_fr_tr (hp_fr_mo G5 (fun a k hk => .inl hk)) (hp_fr_mo L5 (fun a k hk => .inr hk))
    have l1 := t4_lt (v := a) (fun k hk => (u4 k hk).1)
    have l2 := t4_lt (v := b) l1
    have l3 := t4_lt (v := c) l2
    have l4 := t4_lt (v := d) l3
    have l5 := t4_lt (v := e) l4
    refine pw_some ⟨rfl, ?_, hp_fr_mo H (by unfold S_ez; omega)⟩
    refine BAS_mk hb H (by unfold F_core F_PM; omega) ⟨t20 T t a b c d e, t + 4 + 4 + 4 + 4 + 4, by omega, ?_, b5.1, fun k hk => ⟨l5 k hk, ?_, b5.2 k hk⟩⟩ (FL_fr H (by unfold F_FL; omega) (bF hb)) (CR_fr H (by unfold F_CCX F_CMM; omega) (bC hb)) (BX_fr H (by unfold F_BX; omega) (bB hb)) (LG_fr H (by unfold F_LG; omega) (bL hb))
    · rw [hf_i L5 (by omega)]; exact a5.1
    · rw [hf_i L5 (by omega)]; exact a5.2 k hk
  · refine EZ_id hb (v := -1) ?_ ?_
    · unfold f_X_feed
      rw [u2, if_neg (show ¬ nI t ≤ (1380 : Int32) from nI_ge (a := 1380) (by omega) (by omega))]
    · unfold f_M_feed
      rw [u3, show (20 : Int32) = nI 20 from rfl, nI_add, if_neg (show ¬ nI (t + 20) ≤ (1400 : Int32) from nI_ge (a := 1400) (by omega) (by omega))]
