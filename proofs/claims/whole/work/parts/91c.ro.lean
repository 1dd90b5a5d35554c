/-! the class's rounds over the heap -/
def ROX (r sv : Nat) (h : HP) : Prop := hp_r h r 0 = some sv ∧ hp_r h r 1 = some (r + 1) ∧ hp_r h r 2 = some (r + 2) ∧ hp_r h r 3 = some (r + 3) ∧ hp_r h r 4 = some (r + 4) ∧ hp_r h r 5 = some (r + 5) ∧ hp_r h r 6 = some (r + 6) ∧ hp_n h (r + 1) = 5000 ∧ hp_n h (r + 2) = 5000 ∧ hp_n h (r + 3) = 5000 ∧ hp_n h (r + 4) = 5000 ∧ hp_n h (r + 5) = 5000 ∧ hp_n h (r + 6) = 5000
theorem ROX_fr {S : Nat → Nat → Prop} {r sv : Nat} {h h' : HP} (H : hp_fr S h h') (hs : ROX r sv h) : ROX r sv h' := by unfold ROX; simp only [hp_fr_r H, hp_fr_n H]; exact hs
def TRX (r n : Nat) (T : TS) (h : HP) : Prop := hp_i h r 7 = nI (t_no T) ∧ hp_i h r 8 = nI (t_dp T) ∧ hp_i h r 9 = nI (t_en T) ∧ hp_i h r 10 = nI (t_kc T) ∧ (∀ s, s < n → hp_i h (r + 1) s = nI (t_or T s) ∧ hp_i h (r + 3) s = nI (t_kn T s) ∧ (t_or T s ≠ 0 → hp_i h (r + 2) s = nI (t_lo T s) ∧ hp_i h (r + 4) s = nI (t_lk T s))) ∧ (∀ j, j < t_no T → hp_i h (r + 5) j = nI (t_op T j)) ∧ ∀ j, j < t_dp T → hp_i h (r + 6) j = nI (t_pa T j)
def S_ro (r : Nat) : Nat → Nat → Prop := fun a k => a = r ∧ 7 ≤ k ∧ k ≤ 11 ∨ r + 1 ≤ a ∧ a ≤ r + 6
theorem TI_no {n nm : Nat} {rr nx : Nat → Nat → Nat} {T : TS} (h : TI n nm rr nx T) : t_no T ≤ n ∧ t_dp T ≤ n := by
  obtain ⟨h1, h2, h3, h4, h5, h6, h7, _⟩ := h
  refine ⟨fb_holes n (t_no T) (t_op T) (fun i hi => (h3 i hi).1) (fun i j hij hj z => ?_), fb_holes n (t_dp T) (t_pa T) (fun i hi => (h6 i hi).1) (fun i j hij hj z => ?_)⟩
  · have := h4 i j hij hj; rw [z] at this; omega
  · have := (TI_pu h7 (j - i) i (by omega)).1
    rw [show i + (j - i) = j by omega, z] at this; omega
/-- what else is counted -/
def TC (n : Nat) (T : TS) : Prop := t_en T = fb_ct (fun s => !decide (t_or T s = 0)) n ∧ t_kc T ≤ fb_ct (fun s => !decide (t_kn T s = 0)) n ∧ t_dp T ≤ t_en T
def phi (n : Nat) (T : TS) : Nat := fb_sm (fun s => if t_or T s = 0 then 0 else t_lk T s) n + (t_en T - t_dp T)
theorem TC_n {n : Nat} {T : TS} (h : TC n T) : t_en T ≤ n ∧ t_kc T ≤ n := by
  obtain ⟨a, b, _⟩ := h
  have := fb_ct_le (fun s => !decide (t_or T s = 0)) n
  have := fb_ct_le (fun s => !decide (t_kn T s = 0)) n
  omega
theorem TC_enter {n v : Nat} {T : TS} (h : TC n T) (hv : v < n) (hw : t_or T v = 0) : TC n (t_enter T v) ∧ phi n (t_enter T v) = phi n T := by
  obtain ⟨a, b, c⟩ := h
  have e := fb_ct_upd (fun s => !decide (t_or T s = 0)) true hv
  have ec : fb_ct (fun k => if k = v then true else (fun s => !decide (t_or T s = 0)) k) n = fb_ct (fun s => !decide (t_or (t_enter T v) s = 0)) n := by
    refine fb_ct_cong (fun k _ => ?_)
    show _ = !decide (upN (t_or T) v (t_en T + 1) k = 0)
    unfold upN
    by_cases hk : k = v
    · rw [if_pos hk, if_pos hk, decide_eq_false (by omega)]; rfl
    · rw [if_neg hk, if_neg hk]
  rw [ec] at e
  have hz : (!decide (t_or T v = 0)) = false := by rw [hw]; rfl
  have e' : fb_ct (fun s => !decide (t_or (t_enter T v) s = 0)) n = fb_ct (fun s => !decide (t_or T s = 0)) n + 1 := by
    have := e
    simp only [hw] at this
    simpa using this
  refine ⟨⟨?_, b, ?_⟩, ?_⟩
  · show t_en T + 1 = _; rw [e', a]
  · show t_dp T + 1 ≤ t_en T + 1; omega
  · unfold phi
    show fb_sm (fun s => if upN (t_or T) v (t_en T + 1) s = 0 then 0 else upN (t_lk T) v 0 s) n + (t_en T + 1 - (t_dp T + 1)) = _
    rw [show t_en T + 1 - (t_dp T + 1) = t_en T - t_dp T by omega]
    congr 1
    refine fb_sm_cong (fun k _ => ?_)
    unfold upN
    by_cases hk : k = v
    · rw [if_pos hk, if_neg (by omega), if_pos hk, hk, if_pos hw]
    · rw [if_neg hk, if_neg hk]
theorem TC_lkd {n a : Nat} {T : TS} (h : TC n T) (ha : a < n) (ho : t_or T a ≠ 0) : TC n (t_lkd T a) ∧ phi n (t_lkd T a) = phi n T + 1 := by
  refine ⟨h, ?_⟩
  unfold phi
  show fb_sm (fun s => if t_or T s = 0 then 0 else upN (t_lk T) a (t_lk T a + 1) s) n + (t_en T - t_dp T) = _
  have e := fb_sm_upd (fun s => if t_or T s = 0 then 0 else t_lk T s) (t_lk T a + 1) ha
  have ec : fb_sm (fun k => if k = a then t_lk T a + 1 else (fun s => if t_or T s = 0 then 0 else t_lk T s) k) n = fb_sm (fun s => if t_or T s = 0 then 0 else upN (t_lk T) a (t_lk T a + 1) s) n := by
    refine fb_sm_cong (fun k _ => ?_)
    unfold upN
    by_cases hk : k = a
    · rw [if_pos hk, hk, if_neg ho, if_pos rfl]
    · rw [if_neg hk, if_neg hk]
  rw [ec] at e
  have e2 : (fun s => if t_or T s = 0 then 0 else t_lk T s) a = t_lk T a := if_neg ho
  have e3 : fb_sm (fun s => if t_or T s = 0 then 0 else upN (t_lk T) a (t_lk T a + 1) s) n + t_lk T a = fb_sm (fun s => if t_or T s = 0 then 0 else t_lk T s) n + (t_lk T a + 1) := by
    have := e; simp only [ho, if_false] at this; exact this
  omega
theorem R_enter {r sv n nm v : Nat} {rr nx : Nat → Nat → Nat} {T : TS} {h : HP} (hs : ROX r sv h) (hn : n ≤ 5000) (hv : v < n) (hw : t_or T v = 0) (hT : TI n nm rr nx (t_enter T v)) (hC : TC n (t_enter T v)) (hx : TRX r n T h) : pw (f_Ro_enter r (nI v) h) (fun g => hp_fr (S_ro r) h g ∧ TRX r n (t_enter T v) g ∧ hp_i g r 11 = hp_i h r 11) := by
  obtain ⟨s0, s1, s2, s3, s4, s5, s6, m1, m2, m3, m4, m5, m6⟩ := id hs
  obtain ⟨x7, x8, x9, x10, xa, xo, xp⟩ := hx
  obtain ⟨b1, b2⟩ := TI_no hT
  have b3 := (TC_n hC).1
  have b1 : t_no T + 1 ≤ n := b1
  have b2 : t_dp T + 1 ≤ n := b2
  have b3 : t_en T + 1 ≤ n := b3
  let g := hp_si (hp_si (hp_si (hp_si (hp_si (hp_si (hp_si (hp_si h r 9 (nI (t_en T + 1))) (r + 1) v (nI (t_en T + 1))) (r + 2) v (nI (t_en T + 1))) (r + 4) v (nI 0)) (r + 5) (t_no T) (nI v)) r 7 (nI (t_no T + 1))) (r + 6) (t_dp T) (nI v)) r 8 (nI (t_dp T + 1))
  have e : f_Ro_enter r (nI v) h = some g := by
    simp (disch := omega) only [f_Ro_enter, ↓xx_lE, ↓reduceIte, ↓bn_si, ↓bn_sl, ↓bn_s, ↓bn_ms, hp_i_si, hp_l_si, hp_r_si, hp_n_si, hp_i_sl, hp_l_sl, hp_r_sl, hp_n_sl, hp_i_sr, hp_l_sr, hp_r_sr, hp_n_sr, iL, nI_clamp, hp_in_nI, nI_add, pk_mul, pk_sub, c_le, c_nle, c_lt, c_nlt, c_ne, c_m1, c_m1', ad_ne, ad_ne', ad_ne2, nar0, nar1, true_and, false_and, and_true, and_false, Nat.add_zero, Nat.zero_add, x9, x7, x8, ↓bn_o s1, ↓bn_o s2, ↓bn_o s4, ↓bn_o s5, ↓bn_o s6, m1, m2, m4, m5, m6, Nat.reduceEqDiff, g]
  have H : hp_fr (S_ro r) h g := hf_si (hf_si (hf_si (hf_si (hf_si (hf_si (hf_si (hf_si (hp_fr_rf h) (by unfold S_ro; omega)) (by unfold S_ro; omega)) (by unfold S_ro; omega)) (by unfold S_ro; omega)) (by unfold S_ro; omega)) (by unfold S_ro; omega)) (by unfold S_ro; omega)) (by unfold S_ro; omega)
  refine pw_eq e ⟨H, ⟨?_, ?_, ?_, ?_, fun s hs' => ?_, fun j hj => ?_, fun j hj => ?_⟩, ?_⟩
  · simp [g, hp_i_si]; rfl
  · simp [g, hp_i_si]; rfl
  · simp [g, hp_i_si]; rfl
  · simp [g, hp_i_si]; exact x10
  · obtain ⟨y1, y2, y3⟩ := xa s hs'
    show hp_i g (r + 1) s = nI (upN (t_or T) v (t_en T + 1) s) ∧ hp_i g (r + 3) s = nI (t_kn T s) ∧ (upN (t_or T) v (t_en T + 1) s ≠ 0 → hp_i g (r + 2) s = nI (upN (t_lo T) v (t_en T + 1) s) ∧ hp_i g (r + 4) s = nI (upN (t_lk T) v 0 s))
    by_cases z : s = v
    · subst z
      refine ⟨?_, ?_, fun _ => ⟨?_, ?_⟩⟩
      · simp [g, hp_i_si, upN]
      · simp [g, hp_i_si]; exact y2
      · simp [g, hp_i_si, upN]
      · simp [g, hp_i_si, upN]
    · rw [upN_n z, upN_n z, upN_n z]
      refine ⟨?_, ?_, fun ho => ⟨?_, ?_⟩⟩
      · simp [g, hp_i_si, z]; exact y1
      · simp [g, hp_i_si]; exact y2
      · simp [g, hp_i_si, z]; exact (y3 ho).1
      · simp [g, hp_i_si, z]; exact (y3 ho).2
  · have hj : j < t_no T + 1 := hj
    show hp_i g (r + 5) j = nI (upN (t_op T) (t_no T) v j)
    by_cases z : j = t_no T
    · subst z; rw [upN_s]; simp [g, hp_i_si]
    · rw [upN_n z]; simp [g, hp_i_si, z]; exact xo j (by omega)
  · have hj : j < t_dp T + 1 := hj
    show hp_i g (r + 6) j = nI (upN (t_pa T) (t_dp T) v j)
    by_cases z : j = t_dp T
    · subst z; rw [upN_s]; simp [g, hp_i_si]
    · rw [upN_n z]; simp [g, hp_i_si, z]; exact xp j (by omega)
  · simp [g, hp_i_si]
/-! the class's table -/
def xcv (r x : Nat) : Int32 := if r = 1 then -1 else if r = 2 then -2 else nI x
def XTB (sv q n nm : Nat) (rr nx : Nat → Nat → Nat) (h : HP) : Prop := n ≤ 5000 ∧ nm ≤ 6 ∧ hp_r h sv 1 = some (sv + 3) ∧ hp_r h sv 4 = some q ∧ hp_r h sv 12 = some (sv + 8) ∧ hp_n h (sv + 8) = 30000 ∧ hp_i h (sv + 3) 0 = nI n ∧ hp_i h q 5 = nI nm ∧ (∀ s i, s < n → i < nm → rr s i < 3) ∧ (∀ s i, s < n → i < nm → rr s i = 0 → nx s i < n) ∧ ∀ s i, s < n → i < nm → hp_i h (sv + 8) (6 * s + i) = xcv (rr s i) (nx s i)
theorem XTB_fr {S : Nat → Nat → Prop} {sv q n nm : Nat} {rr nx : Nat → Nat → Nat} {h h' : HP} (H : hp_fr S h h') (hS : ∀ a k, S a k → a ≠ sv + 8 ∧ a ≠ sv + 3 ∧ a ≠ q) (ht : XTB sv q n nm rr nx h) : XTB sv q n nm rr nx h' := by
  obtain ⟨a1, a2, a3, a4, a5, a6, a7, a8, a9, a10, a11⟩ := ht
  refine ⟨a1, a2, ?_, ?_, ?_, ?_, ?_, ?_, a9, a10, fun s i h1 h2 => ?_⟩
  · rw [hp_fr_r H]; exact a3
  · rw [hp_fr_r H]; exact a4
  · rw [hp_fr_r H]; exact a5
  · rw [hp_fr_n H]; exact a6
  · rw [hf_i H (fun z => (hS _ _ z).2.1 rfl)]; exact a7
  · rw [hf_i H (fun z => (hS _ _ z).2.2 rfl)]; exact a8
  · rw [hf_i H (fun z => (hS _ _ z).1 rfl)]; exact a11 s i h1 h2
theorem X_next {sv q n nm s i : Nat} {rr nx : Nat → Nat → Nat} {h : HP} (ht : XTB sv q n nm rr nx h) (hs : s < n) (hi : i < nm) : f_Sv_nextOf sv (nI s) (nI i) h = some (xcv (rr s i) (nx s i), h) := by
  obtain ⟨a1, a2, a3, a4, a5, a6, a7, a8, a9, a10, a11⟩ := ht
  unfold f_Sv_nextOf
  rw [bn_o a5, show (6 : Int32) = nI 6 from rfl, pk_mul, nI_add, a6, if_pos (hp_in_nI (by omega) (by omega)), nI_clamp (by omega), show s * 6 + i = 6 * s + i by omega, a11 s i hs hi]
theorem xcv_0 (x : Nat) : xcv 0 x = nI x := by unfold xcv; rw [if_neg (by decide), if_neg (by decide)]
theorem xcv_neg {r x : Nat} (hr : r < 3) (h0 : r ≠ 0) : xcv r x < 0 ∧ ¬ 0 ≤ xcv r x := by
  unfold xcv
  have : r = 1 ∨ r = 2 := by omega
  rcases this with h | h <;> rw [h]
  · rw [if_pos rfl]; exact ⟨by decide, by decide⟩
  · rw [if_neg (by decide), if_pos rfl]; exact ⟨by decide, by decide⟩
/-- one look -/
theorem R_look {r sv n nm a v : Nat} {T : TS} {h : HP} (hs : ROX r sv h) (hn : n ≤ 5000) (ha : a < n) (hoa : t_or T a ≠ 0) (hv : v < n) (hC : TC n T) (hlo : t_lo T a ≤ t_or T a) (hor : ∀ s, s < n → t_or T s ≤ t_en T) (hx : TRX r n T h) (hov : t_or T v ≠ 0) (hkv : t_kn T v = 0) : f_Ro_look r (nI a) (nI v) h = some (hp_si h (r + 2) a (nI (if t_or T v < t_lo T a then t_or T v else t_lo T a))) := by
  obtain ⟨s0, s1, s2, s3, s4, s5, s6, m1, m2, m3, m4, m5, m6⟩ := id hs
  obtain ⟨x7, x8, x9, x10, xa, xo, xp⟩ := hx
  have b3 := (TC_n hC).1
  have o1 := hor a ha
  have o2 := hor v hv
  obtain ⟨y1, y2, y3⟩ := xa v hv
  obtain ⟨z1, z2, z3⟩ := xa a ha
  rw [hkv] at y2
  unfold f_Ro_look
  rw [if_pos (nI_pos' (by omega)), bn_o s1, m1, if_pos (hp_in_nI (by omega) (by omega)), nI_clamp (by omega), y1, if_neg (nI_ne0 (by omega) (by omega)), bn_o s3, m3, if_pos (hp_in_nI (by omega) (by omega)), y2, if_pos (show nI 0 = (0 : Int32) from rfl), bn_o s2, bn_o s2, m2, if_pos (hp_in_nI (by omega) (by omega)), bn_o s1, m1, if_pos (hp_in_nI (by omega) (by omega)), if_pos (hp_in_nI (by omega) (by omega)), nI_clamp (by omega), y1, (z3 hoa).1, xx_lE]
  congr 2
  by_cases hl : t_or T v < t_lo T a
  · rw [if_pos hl, if_pos (nI_lt hl (by omega))]
  · rw [if_neg hl, if_neg (nI_nlt (by omega) (by omega))]
theorem R_lookK {r sv n a v : Nat} {T : TS} {h : HP} (hs : ROX r sv h) (hn : n ≤ 5000) (hv : v < n) (hb : t_or T v < 2 ^ 31 ∧ t_kn T v < 2 ^ 31) (hx : TRX r n T h) (hov : t_or T v ≠ 0) (hkv : t_kn T v ≠ 0) : f_Ro_look r (nI a) (nI v) h = some h := by
  obtain ⟨s0, s1, s2, s3, s4, s5, s6, m1, m2, m3, m4, m5, m6⟩ := id hs
  obtain ⟨x7, x8, x9, x10, xa, xo, xp⟩ := hx
  obtain ⟨y1, y2, y3⟩ := xa v hv
  unfold f_Ro_look
  rw [if_pos (nI_pos' (by omega)), bn_o s1, m1, if_pos (hp_in_nI (by omega) (by omega)), nI_clamp (by omega), y1, if_neg (nI_ne0 (by omega) hb.1), bn_o s3, m3, if_pos (hp_in_nI (by omega) (by omega)), y2, if_neg (nI_ne0 (by omega) hb.2)]
