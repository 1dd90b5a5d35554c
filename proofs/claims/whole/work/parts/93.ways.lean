/-! ways: how many rows of leads come where -/
abbrev sdn (k r : Nat) : Prop := r ≠ 0 ∧ (k = 0 ∨ r = 2)
def rwN (rr nx : Nat → Nat → Nat) (w : Nat → Nat) (s t i : Nat) : Nat := fb_sm (fun j => if rr s j = 0 ∧ nx s j = t then w s else 0) i
def alN (rr nx : Nat → Nat → Nat) (nm : Nat) (w : Nat → Nat) (t s : Nat) : Nat := fb_sm (fun s' => rwN rr nx w s' t nm) s
def rwU (rr : Nat → Nat → Nat) (k : Nat) (w : Nat → Nat) (s i : Nat) : Nat := fb_sm (fun j => if sdn k (rr s j) then w s else 0) i
def alU (rr : Nat → Nat → Nat) (nm k : Nat) (w : Nat → Nat) (s : Nat) : Nat := fb_sm (fun s' => rwU rr k w s' nm) s
def wdy (rr nx : Nat → Nat → Nat) (nm n s0 : Nat) : Nat → Nat → Nat
  | 0 => fun t => if t = s0 then 1 else 0
  | d + 1 => fun t => alN rr nx nm (wdy rr nx nm n s0 d) t n
def usd (rr nx : Nat → Nat → Nat) (nm n s0 k : Nat) : Nat → Nat
  | 0 => 0
  | d + 1 => usd rr nx nm n s0 k d * nm + alU rr nm k (wdy rr nx nm n s0 d) n
theorem sm_pt (x c : Nat) : ∀ n, fb_sm (fun t => if x = t then c else 0) n = if x < n then c else 0 := by
  intro n
  induction n with
  | zero => rw [if_neg (by omega)]; rfl
  | succ n ih =>
    rw [fb_sm_succ, ih]
    by_cases h : x < n
    · rw [if_pos h, if_neg (by omega), if_pos (by omega)]; omega
    · rw [if_neg h]
      by_cases h2 : x = n
      · rw [if_pos h2, if_pos (by omega)]; omega
      · rw [if_neg h2, if_neg (by omega)]
theorem sm_zero (n : Nat) : fb_sm (fun _ => 0) n = 0 := by rw [fb_sm_const]; omega
theorem row_tot {rr nx : Nat → Nat → Nat} {nm n s : Nat} {w : Nat → Nat} (hnx : ∀ i, i < nm → rr s i = 0 → nx s i < n) : ∀ i, i ≤ nm → fb_sm (fun t => rwN rr nx w s t i) n + rwU rr 0 w s i = i * w s := by
  intro i
  induction i with
  | zero => intro _; show fb_sm (fun t => 0) n + 0 = 0 * w s; rw [sm_zero]; omega
  | succ i ih =>
    intro hi
    have e1 : fb_sm (fun t => rwN rr nx w s t (i + 1)) n = fb_sm (fun t => rwN rr nx w s t i) n + fb_sm (fun t => if rr s i = 0 ∧ nx s i = t then w s else 0) n := by
      rw [← fb_sm_add]; rfl
    have e2 : rwU rr 0 w s (i + 1) = rwU rr 0 w s i + (if sdn 0 (rr s i) then w s else 0) := rfl
    have e3 : fb_sm (fun t => if rr s i = 0 ∧ nx s i = t then w s else 0) n + (if sdn 0 (rr s i) then w s else 0) = w s := by
      by_cases h : rr s i = 0
      · rw [if_neg (fun z => z.1 h), fb_sm_cong (g := fun t => if nx s i = t then w s else 0) (fun t _ => ?_), sm_pt, if_pos (hnx i (by omega) h)]
        · omega
        · by_cases z : nx s i = t
          · rw [if_pos ⟨h, z⟩, if_pos z]
          · rw [if_neg (fun y => z y.2), if_neg z]
      · rw [if_pos (show sdn 0 (rr s i) from ⟨h, .inl rfl⟩), fb_sm_cong (g := fun _ => 0) (fun t _ => if_neg (fun y => h y.1)), sm_zero]; omega
    have := ih (by omega)
    rw [e1, e2, Nat.add_mul, Nat.one_mul]
    omega
theorem all_tot {rr nx : Nat → Nat → Nat} {nm n : Nat} {w : Nat → Nat} (hnx : ∀ s i, s < n → i < nm → rr s i = 0 → nx s i < n) : ∀ s, s ≤ n → fb_sm (fun t => alN rr nx nm w t s) n + alU rr nm 0 w s = nm * fb_sm w s := by
  intro s
  induction s with
  | zero => intro _; show fb_sm (fun t => 0) n + 0 = nm * 0; rw [sm_zero]; omega
  | succ s ih =>
    intro hs
    have e1 : fb_sm (fun t => alN rr nx nm w t (s + 1)) n = fb_sm (fun t => alN rr nx nm w t s) n + fb_sm (fun t => rwN rr nx w s t nm) n := by
      rw [← fb_sm_add]; rfl
    have e2 : alU rr nm 0 w (s + 1) = alU rr nm 0 w s + rwU rr 0 w s nm := rfl
    have e3 := row_tot (rr := rr) (nx := nx) (w := w) (fun i => hnx s i (by omega)) nm (Nat.le_refl _)
    have := ih (by omega)
    rw [e1, e2, fb_sm_succ, Nat.mul_add]
    omega
theorem day_tot {rr nx : Nat → Nat → Nat} {nm n s0 : Nat} (hnx : ∀ s i, s < n → i < nm → rr s i = 0 → nx s i < n) (h0 : s0 < n) : ∀ d, fb_sm (wdy rr nx nm n s0 d) n + usd rr nx nm n s0 0 d = nm ^ d := by
  intro d
  induction d with
  | zero =>
    show fb_sm (fun t => if t = s0 then 1 else 0) n + 0 = 1
    rw [fb_sm_cong (g := fun t => if s0 = t then 1 else 0) (fun t _ => by by_cases z : t = s0; (· rw [if_pos z, if_pos z.symm]); (· rw [if_neg z, if_neg (fun y => z y.symm)])), sm_pt, if_pos h0]
  | succ d ih =>
    have := all_tot (w := wdy rr nx nm n s0 d) hnx n (Nat.le_refl _)
    have e : fb_sm (wdy rr nx nm n s0 (d + 1)) n = fb_sm (fun t => alN rr nx nm (wdy rr nx nm n s0 d) t n) n := rfl
    have e2 : usd rr nx nm n s0 0 (d + 1) = usd rr nx nm n s0 0 d * nm + alU rr nm 0 (wdy rr nx nm n s0 d) n := rfl
    rw [e, e2, Nat.pow_succ, ← ih, Nat.add_mul]
    rw [Nat.mul_comm (fb_sm (wdy rr nx nm n s0 d) n) nm]
    omega
theorem usd_le {rr nx : Nat → Nat → Nat} {nm n s0 k : Nat} : ∀ d, usd rr nx nm n s0 k d ≤ usd rr nx nm n s0 0 d := by
  intro d
  induction d with
  | zero => exact Nat.le_refl _
  | succ d ih =>
    show usd rr nx nm n s0 k d * nm + alU rr nm k (wdy rr nx nm n s0 d) n ≤ usd rr nx nm n s0 0 d * nm + alU rr nm 0 (wdy rr nx nm n s0 d) n
    have h1 : usd rr nx nm n s0 k d * nm ≤ usd rr nx nm n s0 0 d * nm := Nat.mul_le_mul_right _ ih
    have h2 : alU rr nm k (wdy rr nx nm n s0 d) n ≤ alU rr nm 0 (wdy rr nx nm n s0 d) n := by
      refine fb_sm_le (fun s _ => fb_sm_le (fun i _ => ?_))
      by_cases z : sdn k (rr s i)
      · rw [if_pos z, if_pos (show sdn 0 (rr s i) from ⟨z.1, .inl rfl⟩)]; exact Nat.le_refl _
      · rw [if_neg z]; omega
    omega
theorem pow6 {nm d : Nat} (hm : nm ≤ 6) (hd : d ≤ 12) : nm ^ d ≤ 2176782336 := by
  have h1 : nm ^ d ≤ 6 ^ d := Nat.pow_le_pow_left hm d
  have h2 : 6 ^ d ≤ 6 ^ 12 := Nat.pow_le_pow_right (by decide) hd
  have h3 : 6 ^ 12 = 2176782336 := by decide
  omega
theorem day_b {rr nx : Nat → Nat → Nat} {nm n s0 d s : Nat} (hnx : ∀ s i, s < n → i < nm → rr s i = 0 → nx s i < n) (h0 : s0 < n) (hm : nm ≤ 6) (hd : d ≤ 12) (hs : s < n) : wdy rr nx nm n s0 d s < 2 ^ 32 := by
  have h1 := day_tot hnx h0 d
  have h2 := fb_sm_part (wdy rr nx nm n s0 d) hs
  have h3 := pow6 hm hd
  have : (2 : Nat) ^ 32 = 4294967296 := by decide
  omega
theorem usd_b {rr nx : Nat → Nat → Nat} {nm n s0 k d : Nat} (hnx : ∀ s i, s < n → i < nm → rr s i = 0 → nx s i < n) (h0 : s0 < n) (hm : nm ≤ 6) (hd : d ≤ 12) : usd rr nx nm n s0 k d < 2 ^ 32 := by
  have h1 := day_tot hnx h0 d
  have h2 := usd_le (rr := rr) (nx := nx) (nm := nm) (n := n) (s0 := s0) (k := k) d
  have h3 := pow6 hm hd
  have : (2 : Nat) ^ 32 = 4294967296 := by decide
  omega
