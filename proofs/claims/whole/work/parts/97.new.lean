/-! the two objects made: steps as a list -/
def vv (n : Nat) : Int32 := if n = 1000 then -1 else nI n
def e1 (x : Nat) (o : Nat × Nat × Nat × Nat) (h : HP) : HP := if o.1 = 0 then hp_nw h o.2.1 o.2.2.1 o.2.2.2 else if o.1 = 1 then hp_sr h (x + o.2.1) o.2.2.1 (some (x + o.2.2.2)) else hp_si h (x + o.2.1) o.2.2.1 (vv o.2.2.2)
def ev (x : Nat) : List (Nat × Nat × Nat × Nat) → HP → HP
  | [], h => h
  | o :: L, h => ev x L (e1 x o h)
abbrev AS : Type := (Nat → Nat → Option Nat) × (Nat → Nat → Int32) × (Nat → Nat) × Nat × Nat
def s_R (s : AS) : Nat → Nat → Option Nat := s.1
def s_I (s : AS) : Nat → Nat → Int32 := s.2.1
def s_N (s : AS) : Nat → Nat := s.2.2.1
def s_z (s : AS) : Nat := s.2.2.2.1
def s_S (s : AS) : Nat := s.2.2.2.2
def as0 : AS := (fun _ _ => none, fun _ _ => 0, fun _ => 0, 0, 0)
def a1 (o : Nat × Nat × Nat × Nat) (s : AS) : AS := if o.1 = 0 then (fun a k => if a = s_z s then none else s_R s a k, fun a k => if a = s_z s then 0 else s_I s a k, fun a => if a = s_z s then o.2.2.1 else s_N s a, s_z s + 1, s_S s + o.2.2.2) else if o.1 = 1 then (fun a k => if a = o.2.1 ∧ k = o.2.2.1 then some o.2.2.2 else s_R s a k, s.2) else (s.1, fun a k => if a = o.2.1 ∧ k = o.2.2.1 then vv o.2.2.2 else s_I s a k, s.2.2)
def av : List (Nat × Nat × Nat × Nat) → AS → AS
  | [], s => s
  | o :: L, s => av L (a1 o s)
def SIM (x S0 : Nat) (s : AS) (h : HP) : Prop := hp_z h = x + s_z s ∧ hp_s h = S0 + s_S s ∧ ∀ a, a < s_z s → (∀ k, hp_r h (x + a) k = (s_R s a k).map (x + ·) ∧ hp_i h (x + a) k = s_I s a k ∧ hp_l h (x + a) k = 0) ∧ hp_n h (x + a) = s_N s a
theorem SIM_0 (h : HP) : SIM (hp_z h) (hp_s h) as0 h := ⟨rfl, rfl, fun a ha => absurd ha (Nat.not_lt_zero _)⟩
theorem SIM_1 {x S0 : Nat} {s : AS} {h : HP} {o : Nat × Nat × Nat × Nat} (hs : SIM x S0 s h) : SIM x S0 (a1 o s) (e1 x o h) := by
  obtain ⟨h1, h2, h3⟩ := hs
  unfold e1 a1
  by_cases z0 : o.1 = 0
  · rw [if_pos z0, if_pos z0]
    refine ⟨by rw [hp_z_nw, h1]; rfl, by rw [hp_s_nw, h2]; exact Nat.add_assoc _ _ _, fun a ha => ?_⟩
    have ha : a < s_z s + 1 := ha
    by_cases y : a = s_z s
    · refine ⟨fun k => ⟨?_, ?_, ?_⟩, ?_⟩
      · show _ = (if a = s_z s then none else s_R s a k).map _
        rw [hp_r_nw, if_pos (by rw [h1, y]), if_pos y]; rfl
      · show _ = (if a = s_z s then 0 else s_I s a k)
        rw [hp_i_nw, if_pos (by rw [h1, y]), if_pos y]
      · rw [hp_l_nw, if_pos (by rw [h1, y])]
      · show _ = (if a = s_z s then o.2.2.1 else s_N s a)
        rw [hp_n_nw, if_pos (by rw [h1, y]), if_pos y]
    · have h4 := h3 a (by omega)
      refine ⟨fun k => ⟨?_, ?_, ?_⟩, ?_⟩
      · show _ = (if a = s_z s then none else s_R s a k).map _
        rw [hp_r_nw, if_neg (by omega), if_neg y]; exact (h4.1 k).1
      · show _ = (if a = s_z s then 0 else s_I s a k)
        rw [hp_i_nw, if_neg (by omega), if_neg y]; exact (h4.1 k).2.1
      · rw [hp_l_nw, if_neg (by omega)]; exact (h4.1 k).2.2
      · show _ = (if a = s_z s then o.2.2.1 else s_N s a)
        rw [hp_n_nw, if_neg (by omega), if_neg y]; exact h4.2
  · rw [if_neg z0, if_neg z0]
    by_cases z1 : o.1 = 1
    · rw [if_pos z1, if_pos z1]
      refine ⟨h1, h2, fun a ha => ⟨fun k => ⟨?_, ((h3 a ha).1 k).2⟩, (h3 a ha).2⟩⟩
      show _ = (if a = o.2.1 ∧ k = o.2.2.1 then some o.2.2.2 else s_R s a k).map _
      rw [hp_r_sr]
      by_cases y : a = o.2.1 ∧ k = o.2.2.1
      · rw [if_pos y, if_pos ⟨by rw [y.1], y.2⟩]; rfl
      · rw [if_neg y, if_neg (by omega)]; exact ((h3 a ha).1 k).1
    · rw [if_neg z1, if_neg z1]
      refine ⟨h1, h2, fun a ha => ⟨fun k => ⟨((h3 a ha).1 k).1, ?_, ((h3 a ha).1 k).2.2⟩, (h3 a ha).2⟩⟩
      show _ = (if a = o.2.1 ∧ k = o.2.2.1 then vv o.2.2.2 else s_I s a k)
      rw [hp_i_si]
      by_cases y : a = o.2.1 ∧ k = o.2.2.1
      · rw [if_pos y, if_pos ⟨by rw [y.1], y.2⟩]
      · rw [if_neg y, if_neg (by omega)]; exact ((h3 a ha).1 k).2.1
theorem SIM_v {x S0 : Nat} : ∀ (L : List (Nat × Nat × Nat × Nat)) (s : AS) (h : HP), SIM x S0 s h → SIM x S0 (av L s) (ev x L h) := by
  intro L
  induction L with
  | nil => intro s h hs; exact hs
  | cons o L ih => intro s h hs; exact ih _ _ (SIM_1 hs)
theorem ev_lo {x : Nat} : ∀ (L : List (Nat × Nat × Nat × Nat)) (h : HP), x ≤ hp_z h → x ≤ hp_z (ev x L h) ∧ ∀ a, a < x → (∀ k, hp_i (ev x L h) a k = hp_i h a k ∧ hp_l (ev x L h) a k = hp_l h a k ∧ hp_r (ev x L h) a k = hp_r h a k) ∧ hp_n (ev x L h) a = hp_n h a := by
  intro L
  induction L with
  | nil => intro h hz; exact ⟨hz, fun a _ => ⟨fun k => ⟨rfl, rfl, rfl⟩, rfl⟩⟩
  | cons o L ih =>
    intro h hz
    have hz1 : x ≤ hp_z (e1 x o h) ∧ ∀ a, a < x → (∀ k, hp_i (e1 x o h) a k = hp_i h a k ∧ hp_l (e1 x o h) a k = hp_l h a k ∧ hp_r (e1 x o h) a k = hp_r h a k) ∧ hp_n (e1 x o h) a = hp_n h a := by
      unfold e1
      split
      · refine ⟨by rw [hp_z_nw]; omega, fun a ha => ⟨fun k => ⟨?_, ?_, ?_⟩, ?_⟩⟩
        · rw [hp_i_nw, if_neg (by omega)]
        · rw [hp_l_nw, if_neg (by omega)]
        · rw [hp_r_nw, if_neg (by omega)]
        · rw [hp_n_nw, if_neg (by omega)]
      · split
        · exact ⟨hz, fun a ha => ⟨fun k => ⟨rfl, rfl, by rw [hp_r_sr, if_neg (by omega)]⟩, rfl⟩⟩
        · exact ⟨hz, fun a ha => ⟨fun k => ⟨by rw [hp_i_si, if_neg (by omega)], rfl, rfl⟩, rfl⟩⟩
    obtain ⟨i1, i2⟩ := ih (e1 x o h) hz1.1
    refine ⟨i1, fun a ha => ?_⟩
    obtain ⟨j1, j2⟩ := i2 a ha
    obtain ⟨l1, l2⟩ := hz1.2 a ha
    exact ⟨fun k => ⟨(j1 k).1.trans (l1 k).1, (j1 k).2.1.trans (l1 k).2.1, (j1 k).2.2.trans (l1 k).2.2⟩, j2.trans l2⟩
def opsX1 : List (Nat × Nat × Nat × Nat) := [(0, 12, 1400, 1400), (1, 0, 0, 1), (0, 5, 0, ly_nf 5), (0, 14, 4, 4), (1, 2, 5, 3), (0, 13, 1401, 1401), (1, 2, 7, 4), (0, 13, 1401, 1401), (1, 2, 8, 5), (0, 14, 1401, 1401), (1, 2, 9, 6), (2, 2, 1, 1000), (1, 0, 2, 2), (0, 4, 0, ly_nf 4), (0, 13, 4, 4), (1, 7, 8, 8), (0, 13, 6, 6), (1, 7, 9, 9), (0, 13, 16, 16), (1, 7, 10, 10), (0, 15, 16, 16), (1, 7, 11, 11), (0, 13, 48, 48), (1, 7, 12, 12), (0, 13, 540, 540), (1, 7, 13, 13), (0, 13, 5, 5), (1, 7, 15, 14), (0, 13, 60, 60), (1, 7, 16, 15), (2, 7, 0, 1), (2, 7, 1, 1), (2, 7, 2, 1000), (2, 7, 3, 0), (2, 7, 4, 0), (2, 7, 5, 0), (2, 7, 6, 0), (2, 7, 7, 0), (2, 7, 14, 0), (1, 0, 3, 7), (0, 4, 0, ly_nf 4), (0, 13, 4, 4), (1, 16, 8, 17), (0, 13, 6, 6), (1, 16, 9, 18), (0, 13, 16, 16), (1, 16, 10, 19), (0, 15, 16, 16), (1, 16, 11, 20), (0, 13, 48, 48), (1, 16, 12, 21), (0, 13, 540, 540), (1, 16, 13, 22), (0, 13, 5, 5), (1, 16, 15, 23), (0, 13, 60, 60), (1, 16, 16, 24), (2, 16, 0, 1), (2, 16, 1, 1), (2, 16, 2, 1000), (2, 16, 3, 0), (2, 16, 4, 0), (2, 16, 5, 0), (2, 16, 6, 0), (2, 16, 7, 0), (2, 16, 14, 0), (1, 0, 4, 16), (0, 1, 0, ly_nf 1), (0, 13, 6, 6), (1, 25, 4, 26), (1, 0, 5, 25), (0, 16, 3, 3), (1, 0, 6, 27)]
def opsB0 : List (Nat × Nat × Nat × Nat) := [(0, 1, 0, ly_nf 1), (0, 13, 6, 6), (1, 28, 4, 29), (1, 27, 0, 28)]
def opsB1 : List (Nat × Nat × Nat × Nat) := [(0, 1, 0, ly_nf 1), (0, 13, 6, 6), (1, 30, 4, 31), (1, 27, 1, 30)]
def opsB2 : List (Nat × Nat × Nat × Nat) := [(0, 1, 0, ly_nf 1), (0, 13, 6, 6), (1, 32, 4, 33), (1, 27, 2, 32)]
def opsX3 : List (Nat × Nat × Nat × Nat) := [(0, 3, 0, ly_nf 3), (0, 13, 60, 60), (1, 34, 2, 35), (0, 13, 60, 60), (1, 34, 3, 36), (0, 13, 60, 60), (1, 34, 4, 37), (0, 13, 60, 60), (1, 34, 5, 38), (0, 13, 100, 100), (1, 34, 6, 39), (0, 13, 100, 100), (1, 34, 7, 40), (1, 0, 7, 34)]
def opsM : List (Nat × Nat × Nat × Nat) := [(0, 13, 1400, 1400), (1, 0, 0, 1), (2, 0, 3, 1000), (0, 14, 4, 4), (1, 0, 10, 2), (0, 13, 4, 4), (1, 0, 11, 3), (0, 13, 4, 4), (1, 0, 12, 4), (0, 13, 16, 16), (1, 0, 13, 5), (0, 13, 6, 6), (1, 0, 14, 6), (0, 13, 6, 6), (1, 0, 15, 7), (0, 13, 16, 16), (1, 0, 16, 8), (0, 15, 16, 16), (1, 0, 17, 9), (0, 15, 16, 16), (1, 0, 18, 10), (0, 15, 4, 4), (1, 0, 19, 11), (0, 13, 640, 640), (1, 0, 36, 12), (0, 13, 640, 640), (1, 0, 37, 13), (0, 13, 49, 49), (1, 0, 38, 14), (0, 13, 640, 640), (1, 0, 39, 15), (0, 13, 640, 640), (1, 0, 40, 16), (0, 13, 49, 49), (1, 0, 41, 17), (0, 13, 300, 300), (1, 0, 42, 18), (0, 13, 70, 70), (1, 0, 43, 19), (0, 13, 6, 6), (1, 0, 47, 20), (0, 13, 6, 6), (1, 0, 48, 21), (0, 13, 6, 6), (1, 0, 49, 22), (0, 15, 6, 6), (1, 0, 50, 23), (0, 13, 6, 6), (1, 0, 57, 24), (0, 13, 6, 6), (1, 0, 58, 25), (0, 15, 6, 6), (1, 0, 59, 26), (0, 14, 5001, 5001), (1, 0, 62, 27), (0, 13, 16384, 16384), (1, 0, 63, 28), (0, 13, 30006, 30006), (1, 0, 64, 29), (0, 13, 5001, 5001), (1, 0, 68, 30), (0, 13, 5002, 5002), (1, 0, 69, 31), (0, 13, 30006, 30006), (1, 0, 70, 32), (0, 13, 5001, 5001), (1, 0, 71, 33), (0, 13, 5001, 5001), (1, 0, 72, 34), (0, 13, 5001, 5001), (1, 0, 73, 35), (0, 13, 5001, 5001), (1, 0, 74, 36), (0, 13, 5001, 5001), (1, 0, 75, 37), (0, 14, 5001, 5001), (1, 0, 76, 38), (0, 14, 5001, 5001), (1, 0, 77, 39), (0, 14, 8, 8), (1, 0, 78, 40), (0, 13, 60, 60), (1, 0, 79, 41), (0, 13, 60, 60), (1, 0, 80, 42), (0, 13, 60, 60), (1, 0, 81, 43), (0, 13, 60, 60), (1, 0, 82, 44), (0, 13, 100, 100), (1, 0, 83, 45), (0, 15, 100, 100), (1, 0, 84, 46), (0, 15, 3, 3), (1, 0, 87, 47), (0, 15, 3, 3), (1, 0, 88, 48), (0, 15, 18, 18), (1, 0, 89, 49), (0, 13, 18, 18), (1, 0, 90, 50), (0, 13, 18, 18), (1, 0, 91, 51), (0, 13, 18, 18), (1, 0, 92, 52), (0, 13, 3, 3), (1, 0, 93, 53), (0, 13, 3, 3), (1, 0, 94, 54), (0, 13, 3, 3), (1, 0, 95, 55)]
theorem ev_nw {x c n s : Nat} {L : List (Nat × Nat × Nat × Nat)} {h : HP} : ev x ((0, c, n, s) :: L) h = ev x L (hp_nw h c n s) := rfl
theorem ev_sr {x a k b : Nat} {L : List (Nat × Nat × Nat × Nat)} {h : HP} : ev x ((1, a, k, b) :: L) h = ev x L (hp_sr h (x + a) k (some (x + b))) := rfl
theorem ev_si {x a k b : Nat} {L : List (Nat × Nat × Nat × Nat)} {h : HP} : ev x ((2, a, k, b) :: L) h = ev x L (hp_si h (x + a) k (vv b)) := rfl
theorem ev_nil {x : Nat} {h : HP} : ev x [] h = h := rfl
theorem vv_m : vv 1000 = -1 := rfl
theorem vv_0 : vv 0 = 0 := rfl
theorem vv_1 : vv 1 = 1 := rfl
set_option maxRecDepth 100000 in
theorem X_new_eq {x : Nat} {h : HP} (hz : hp_z h = x + 1) : f_X_new x h = f_X_new_67 x 0 (ev x opsX1 h) := by
  unfold f_X_new f_Rd_new f_Pl_new f_Pl_empty f_Co_new
  simp only [xx_lE, bn_s, hp_z_sr, hp_z_nw, hp_z_si, hz, Nat.add_assoc, Nat.reduceAdd, opsX1, ev_nw, ev_sr, ev_si, ev_nil, vv_m, vv_0, vv_1, Nat.add_zero]
set_option maxRecDepth 100000 in
theorem M_new_eq {m : Nat} {h : HP} (hz : hp_z h = m + 1) : f_M_new m h = (f_M_plain m (ev m opsM h)).bind fun x => (f_M_beginWith m (0 : Int32) x).bind fun y => some y := by
  unfold f_M_new
  simp only [xx_lE, hp_z_sr, hp_z_nw, hp_z_si, hz, Nat.add_assoc, Nat.reduceAdd, opsM, ev_nw, ev_sr, ev_si, ev_nil, vv_m, vv_0, vv_1, Nat.add_zero]
