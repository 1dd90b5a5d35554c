/-! the tape: both sides -/
theorem pw_inl {S T : Type} {body : S → Option (S ⊕ T)} {s s' : S} {P : T → Prop} (hb : body s = some (.inl s')) (k : pw (xx_lp body s') P) : pw (xx_lp body s) P := by
  obtain ⟨t, ht, hP⟩ := k
  obtain ⟨n, hn⟩ := xx_lp_ex ht
  exact ⟨t, xx_lp_of (n := n + 1) (by simp only [xx_ln, hb]; exact hn), hP⟩
theorem pw_inr {S T : Type} {body : S → Option (S ⊕ T)} {s : S} {t : T} {P : T → Prop} (hb : body s = some (.inr t)) (k : P t) : pw (xx_lp body s) P := ⟨t, xx_lp_of (n := 1) (by simp only [xx_ln, hb]), k⟩
def mb (v : Int32) (c : Nat) : Int32 := (v >>> (nI c &&& 31)) &&& 255
def xb (v : Int32) (c : Nat) : Int32 := vp_nar .byte (((v).toUInt32 >>> ((nI c).toUInt32 &&& Int32.toUInt32 31)).toInt32).toInt8.toInt32
theorem ne_add {m a : Nat} (h : 0 < a) : ¬ m = m + a := by omega
theorem M_four_1 {m t c : Nat} {v : Int32} {h : HP} (hs : MS m h) (ht : hp_i h m 1 = nI t) (h4 : t < 1400) (hc : c < 100) : f_M_four_3b m v (nI c) h = some (.inl (nI c + (-8 : Int32), hp_si (hp_si h (m + 1) t (mb v c)) m 1 (nI (t + 1)))) := by
  unfold f_M_four_3b
  rw [if_neg (nI_pos (by omega)), mr_0 hs, Option.bind_some, mn_1 hs, ht, if_pos (hp_in_nI h4 (by omega)), nI_clamp (by omega)]
  simp only [xx_l, hp_i_si, ne_add (m := m) (a := 1) (by decide), false_and, if_false, ht]
  rw [← nI_succ]
  rfl
theorem M_four_0 {m : Nat} {v : Int32} {h : HP} : f_M_four_3b m v (-8) h = some (.inr h) := by
  unfold f_M_four_3b
  rw [if_pos (by decide)]
theorem X_put_1 {x t c : Nat} {v : Int32} {h : HP} (hs : XS x h) (ht : hp_i h x 1 = nI t) (h4 : t < 1400) (hc : c < 100) : f_X_putOnTape_3b x v (nI c) h = some (.inl (nI c + (-8 : Int32), hp_si (hp_si h (x + 1) t (xb v c)) x 1 (nI (t + 1)))) := by
  unfold f_X_putOnTape_3b
  rw [if_neg (nI_pos (by omega)), ht, if_neg (show ¬ (1400 : Int32) ≤ nI t from nI_ge (a := t) (b := 1400) h4 (by decide)), xr_0_0 hs, Option.bind_some, xn_1 hs, if_pos (hp_in_nI h4 (by omega)), nI_clamp (by omega)]
  simp only [xx_l, hp_i_si, ne_add (m := x) (a := 1) (by decide), false_and, if_false, ht]
  rw [← nI_succ]
  rfl
theorem X_put_0 {m : Nat} {v : Int32} {h : HP} : f_X_putOnTape_3b m v (-8) h = some (.inr h) := by
  unfold f_X_putOnTape_3b
  rw [if_pos (by decide)]
/-- four bytes behind t -/
def tp4 (a o t : Nat) (b : Nat → Int32) (h : HP) : HP := hp_si (hp_si (hp_si (hp_si (hp_si (hp_si (hp_si (hp_si h a t (b 24)) o 1 (nI (t + 1))) a (t + 1) (b 16)) o 1 (nI (t + 2))) a (t + 2) (b 8)) o 1 (nI (t + 3))) a (t + 3) (b 0)) o 1 (nI (t + 4))
theorem M_four {m t : Nat} {v : Int32} {h : HP} (hs : MS m h) (ht : hp_i h m 1 = nI t) (h4 : t + 4 ≤ 1400) : f_M_four m v h = some (tp4 (m + 1) m t (mb v) h) := by
  have k : pw (f_M_four m v h) (fun h' => h' = tp4 (m + 1) m t (mb v) h) := by
    unfold f_M_four f_M_four_3
    refine pw_inl (s' := ((16 : Int32), _)) (M_four_1 (c := 24) hs ht (by omega) (by decide)) ?_
    refine pw_inl (s' := ((8 : Int32), _)) (M_four_1 (c := 16) (t := t + 1) hs (by simp [hp_i_si]) (by omega) (by decide)) ?_
    refine pw_inl (s' := ((0 : Int32), _)) (M_four_1 (c := 8) (t := t + 2) hs (by simp [hp_i_si]) (by omega) (by decide)) ?_
    refine pw_inl (s' := ((-8 : Int32), _)) (M_four_1 (c := 0) (t := t + 3) hs (by simp [hp_i_si]) (by omega) (by decide)) ?_
    exact pw_inr M_four_0 rfl
  obtain ⟨y, hy, rfl⟩ := k
  exact hy
theorem X_put {x t : Nat} {v : Int32} {h : HP} (hs : XS x h) (ht : hp_i h x 1 = nI t) (h4 : t + 4 ≤ 1400) : f_X_putOnTape x v h = some (tp4 (x + 1) x t (xb v) h) := by
  have k : pw (f_X_putOnTape x v h) (fun h' => h' = tp4 (x + 1) x t (xb v) h) := by
    unfold f_X_putOnTape f_X_putOnTape_3
    refine pw_inl (s' := ((16 : Int32), _)) (X_put_1 (c := 24) hs ht (by omega) (by decide)) ?_
    refine pw_inl (s' := ((8 : Int32), _)) (X_put_1 (c := 16) (t := t + 1) hs (by simp [hp_i_si]) (by omega) (by decide)) ?_
    refine pw_inl (s' := ((0 : Int32), _)) (X_put_1 (c := 8) (t := t + 2) hs (by simp [hp_i_si]) (by omega) (by decide)) ?_
    refine pw_inl (s' := ((-8 : Int32), _)) (X_put_1 (c := 0) (t := t + 3) hs (by simp [hp_i_si]) (by omega) (by decide)) ?_
    exact pw_inr X_put_0 rfl
  obtain ⟨y, hy, rfl⟩ := k
  exact hy
