/-! what class and reference hold alike, part by part -/
def sby (b : Nat) : Int32 := if b < 128 then nI b else -nI (256 - b)
def TPE (T : Nat → Nat) (t x m : Nat) (h : HP) : Prop := t ≤ 1400 ∧ hp_i h x 1 = nI t ∧ hp_i h m 1 = nI t ∧ ∀ k, k < t → T k < 256 ∧ hp_i h (x + 1) k = sby (T k) ∧ hp_i h (m + 1) k = nI (T k)
def F_TP (x m : Nat) : Nat → Nat → Prop := fun a k => a = x ∧ k = 1 ∨ a = x + 1 ∨ a = m ∧ k = 1 ∨ a = m + 1
theorem TP_ag {T : Nat → Nat} {t x m : Nat} {h h' : HP} (H : ∀ a k, F_TP x m a k → hp_i h' a k = hp_i h a k) (hp : TPE T t x m h) : TPE T t x m h' := by
  unfold F_TP at H
  obtain ⟨h1, h2, h3, h4⟩ := hp
  refine ⟨h1, ?_, ?_, fun k hk => ⟨(h4 k hk).1, ?_, ?_⟩⟩
  all_goals rw [H _ _ (by omega)]
  · exact h2
  · exact h3
  · exact (h4 k hk).2.1
  · exact (h4 k hk).2.2
def FLE (x m : Nat) (h : HP) : Prop := hp_i h (x + 2) 0 = hp_i h m 2 ∧ hp_i h (x + 2) 1 = hp_i h m 3
def F_FL (x m : Nat) : Nat → Nat → Prop := fun a k => a = x + 2 ∧ k < 2 ∨ a = m ∧ (k = 2 ∨ k = 3)
theorem FL_ag {x m : Nat} {h h' : HP} (H : ∀ a k, F_FL x m a k → hp_i h' a k = hp_i h a k) (hp : FLE x m h) : FLE x m h' := by
  unfold F_FL at H
  refine ⟨?_, ?_⟩
  all_goals rw [H _ _ (by omega), H _ _ (by omega)]
  · exact hp.1
  · exact hp.2
/-- a course: its state, day, whether over, burdens -/
def CRS (P : PT) (N td ov : Nat) (bu : Nat → Nat) : Prop := N < 2 ^ 54 ∧ lm N < 2 ^ p_lc P ∧ dy N < p_cy P ∧ td ≤ 10000 ∧ ov < 2 ∧ ∀ i, i < 6 → bu i ≤ td
def CCX (c N td ov : Nat) (bu : Nat → Nat) (h : HP) : Prop := hp_l h c 0 = lN N ∧ hp_i h c 1 = nI td ∧ hp_i h c 2 = nI ov ∧ ∀ i, i < 6 → hp_i h (c + 1) i = nI (bu i)
def F_CCX (c : Nat) : Nat → Nat → Prop := fun a k => a = c ∧ k < 3 ∨ a = c + 1
theorem CCX_ag {c N td ov : Nat} {bu : Nat → Nat} {h h' : HP} (H : ∀ a k, F_CCX c a k → hp_i h' a k = hp_i h a k ∧ hp_l h' a k = hp_l h a k) (hp : CCX c N td ov bu h) : CCX c N td ov bu h' := by
  unfold F_CCX at H
  obtain ⟨h1, h2, h3, h4⟩ := hp
  refine ⟨?_, ?_, ?_, fun i hi => ?_⟩
  · rw [(H _ _ (by omega)).2]; exact h1
  · rw [(H _ _ (by omega)).1]; exact h2
  · rw [(H _ _ (by omega)).1]; exact h3
  · rw [(H _ _ (by omega)).1]; exact h4 i hi
def CMM (m N td ov : Nat) (bu : Nat → Nat) (h : HP) : Prop := CM m N h ∧ hp_i h m 55 = nI td ∧ hp_i h m 56 = nI ov ∧ ∀ i, i < 6 → hp_i h (m + 22) i = nI (bu i)
def F_CMM (m : Nat) : Nat → Nat → Prop := fun a k => a = m ∧ (k = 51 ∨ k = 52 ∨ k = 55 ∨ k = 56) ∨ a = m + 20 ∨ a = m + 21 ∨ a = m + 22 ∨ a = m + 23
theorem CMM_ag {m N td ov : Nat} {bu : Nat → Nat} {h h' : HP} (H : ∀ a k, F_CMM m a k → hp_i h' a k = hp_i h a k) (hp : CMM m N td ov bu h) : CMM m N td ov bu h' := by
  unfold F_CMM at H
  obtain ⟨h1, h2, h3, h4⟩ := hp
  refine ⟨CM_ag (fun a k hk => H a k (by unfold F_CM at hk; omega)) h1, ?_, ?_, fun i hi => ?_⟩
  all_goals rw [H _ _ (by omega)]
  · exact h2
  · exact h3
  · exact h4 i hi
def BMM (m b N td ov : Nat) (bu : Nat → Nat) (h : HP) : Prop := hp_i h (m + 48) b = nI ov ∧ hp_i h (m + 53) b = nI (lm N) ∧ hp_i h (m + 54) b = nI (dy N) ∧ hp_i h (m + 55) b = nI td ∧ ∀ i, i < 6 → hp_i h (m + 50) (6 * b + i) = nI (hd N i) ∧ hp_i h (m + 51) (6 * b + i) = nI (vs N i) ∧ hp_i h (m + 49) (6 * b + i) = nI (be N i) ∧ hp_i h (m + 52) (6 * b + i) = nI (bu i)
def F_BMM (m : Nat) : Nat → Nat → Prop := fun a _ => m + 47 ≤ a ∧ a ≤ m + 55
theorem BMM_ag {m b N td ov : Nat} {bu : Nat → Nat} {h h' : HP} (H : ∀ a k, F_BMM m a k → hp_i h' a k = hp_i h a k) (hp : BMM m b N td ov bu h) : BMM m b N td ov bu h' := by
  unfold F_BMM at H
  obtain ⟨h1, h2, h3, h4, h5⟩ := hp
  refine ⟨?_, ?_, ?_, ?_, fun i hi => ⟨?_, ?_, ?_, ?_⟩⟩
  all_goals rw [H _ _ (by omega)]
  · exact h1
  · exact h2
  · exact h3
  · exact h4
  · exact (h5 i hi).1
  · exact (h5 i hi).2.1
  · exact (h5 i hi).2.2.1
  · exact (h5 i hi).2.2.2
/-- a box -/
def BXE (P : PT) (x m b : Nat) (h : HP) : Prop := (hp_i h (x + (28 + 2 * b)) 3 = nI 0 ∧ hp_i h (m + 47) b = nI 0) ∨ (hp_i h (x + (28 + 2 * b)) 3 = nI 1 ∧ hp_i h (m + 47) b = nI 1 ∧ ∃ N td ov bu, CRS P N td ov bu ∧ CCX (x + (28 + 2 * b)) N td ov bu h ∧ BMM m b N td ov bu h)
def F_BX (x m : Nat) : Nat → Nat → Prop := fun a _ => x + 28 ≤ a ∧ a ≤ x + 33 ∨ m + 47 ≤ a ∧ a ≤ m + 55
theorem BX_ag {P : PT} {x m b : Nat} {h h' : HP} (hb : b < 3) (H : ∀ a k, F_BX x m a k → hp_i h' a k = hp_i h a k ∧ hp_l h' a k = hp_l h a k) (hp : BXE P x m b h) : BXE P x m b h' := by
  unfold F_BX at H
  rcases hp with ⟨h1, h2⟩ | ⟨h1, h2, N, td, ov, bu, h3, h4, h5⟩
  · exact .inl ⟨by rw [(H _ _ (by omega)).1]; exact h1, by rw [(H _ _ (by omega)).1]; exact h2⟩
  · refine .inr ⟨by rw [(H _ _ (by omega)).1]; exact h1, by rw [(H _ _ (by omega)).1]; exact h2, N, td, ov, bu, h3, ?_, ?_⟩
    · exact CCX_ag (fun a k hk => H a k (by unfold F_CCX at hk; omega)) h4
    · exact BMM_ag (fun a k hk => (H a k (by unfold F_BMM at hk; omega)).1) h5
/-- logs -/
def utv (u : Nat) : Int32 := if u = 0 then -1 else nI (u - 1)
def LGE (P : PT) (n tm : Nat) (dd mm tt uu : Nat → Nat) (x m : Nat) (h : HP) : Prop := n ≤ 60 ∧ tm ≤ 100000 ∧ hp_i h (x + 34) 0 = nI n ∧ hp_i h (x + 34) 1 = nI tm ∧ hp_i h m 85 = nI n ∧ hp_i h m 86 = nI tm ∧ ∀ k, k < n → dd k < 100 ∧ mm k < p_nm P ∧ tt k ≤ tm ∧ uu k ≤ tm + 1 ∧ hp_i h (x + 35) k = nI (dd k) ∧ hp_i h (x + 36) k = nI (mm k) ∧ hp_i h (x + 37) k = nI (tt k) ∧ hp_i h (x + 38) k = utv (uu k) ∧ hp_i h (m + 41) k = nI (dd k) ∧ hp_i h (m + 42) k = nI (mm k) ∧ hp_i h (m + 43) k = nI (tt k) ∧ hp_i h (m + 44) k = utv (uu k)
def F_LG (x m : Nat) : Nat → Nat → Prop := fun a k => a = x + 34 ∧ k < 2 ∨ x + 35 ≤ a ∧ a ≤ x + 38 ∨ a = m ∧ (k = 85 ∨ k = 86) ∨ m + 41 ≤ a ∧ a ≤ m + 44
theorem LG_ag {P : PT} {n tm x m : Nat} {dd mm tt uu : Nat → Nat} {h h' : HP} (H : ∀ a k, F_LG x m a k → hp_i h' a k = hp_i h a k) (hp : LGE P n tm dd mm tt uu x m h) : LGE P n tm dd mm tt uu x m h' := by
  unfold F_LG at H
  obtain ⟨h1, h2, h3, h4, h5, h6, h7⟩ := hp
  refine ⟨h1, h2, ?_, ?_, ?_, ?_, fun k hk => ?_⟩
  · rw [H _ _ (by omega)]; exact h3
  · rw [H _ _ (by omega)]; exact h4
  · rw [H _ _ (by omega)]; exact h5
  · rw [H _ _ (by omega)]; exact h6
  · obtain ⟨a1, a2, a3, a4, a5, a6, a7, a8, a9, a10, a11, a12⟩ := h7 k hk
    refine ⟨a1, a2, a3, a4, ?_, ?_, ?_, ?_, ?_, ?_, ?_, ?_⟩
    all_goals rw [H _ _ (by omega)]
    · exact a5
    · exact a6
    · exact a7
    · exact a8
    · exact a9
    · exact a10
    · exact a11
    · exact a12
