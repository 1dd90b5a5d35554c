/-! how soon one says: levels -/
def nrb (rr nx : Nat → Nat → Nat) (c : Nat) (so : Nat → Nat) (d s i : Nat) : Bool := if d = 1 then decide (rr s i = c) else decide (rr s i = 0) && decide (so (nx s i) = d - 1)
def nea (rr nx : Nat → Nat → Nat) (nm c : Nat) (so : Nat → Nat) (d s : Nat) : Bool := decide (fa_first (nrb rr nx c so d s) nm < nm)
theorem nea_iff {rr nx : Nat → Nat → Nat} {nm c d s : Nat} {so : Nat → Nat} : nea rr nx nm c so d s = true ↔ ∃ i, i < nm ∧ nrb rr nx c so d s i = true := by
  unfold nea
  rw [decide_eq_true_iff]
  constructor
  · intro h; exact ⟨_, h, fa_first_yes _ _ h⟩
  · rintro ⟨i, hi, h⟩
    refine Nat.lt_of_not_le (fun z => ?_)
    have := fa_first_no (nrb rr nx c so d s) nm i (by omega)
    rw [this] at h; exact absurd h (by decide)
/-- after d rounds -/
def sol (rr nx : Nat → Nat → Nat) (nm c : Nat) : Nat → Nat → Nat
  | 0, _ => 0
  | d + 1, s => if sol rr nx nm c d s = 0 ∧ nea rr nx nm c (sol rr nx nm c d) (d + 1) s = true then d + 1 else sol rr nx nm c d s
theorem sol_le (rr nx : Nat → Nat → Nat) (nm c : Nat) : ∀ d s, sol rr nx nm c d s ≤ d := by
  intro d
  induction d with
  | zero => intro s; exact Nat.le_refl _
  | succ d ih => intro s; unfold sol; split; exact Nat.le_refl _; have := ih s; omega
theorem sol_keep {rr nx : Nat → Nat → Nat} {nm c s e : Nat} (he : 0 < e) : ∀ d, e ≤ d → (sol rr nx nm c d s = e ↔ sol rr nx nm c e s = e) := by
  intro d
  induction d with
  | zero => intro h; omega
  | succ d ih =>
    intro h
    by_cases hd : e = d + 1
    · rw [hd]
    · have hi := ih (by omega)
      rw [sol]
      split
      · rename_i hc
        have : ¬ sol rr nx nm c e s = e := fun z => by have := hi.mpr z; omega
        constructor
        · intro z; omega
        · intro z; exact absurd z this
      · exact hi
/-- what the last table says -/
def SOL (rr nx : Nat → Nat → Nat) (nm c n : Nat) (so : Nat → Nat) : Prop := (∀ s i, s < n → i < nm → rr s i = c → so s = 1) ∧ (∀ s, s < n → so s = 1 → ∃ i, i < nm ∧ rr s i = c) ∧ (∀ s e, s < n → 0 < e → so s = e + 1 → ∃ i, i < nm ∧ rr s i = 0 ∧ so (nx s i) = e) ∧ ∀ s i, s < n → i < nm → rr s i = 0 → 0 < so (nx s i) → 0 < so s ∧ so s ≤ so (nx s i) + 1
theorem SOL_of {rr nx : Nat → Nat → Nat} {nm c n D : Nat} (hc : c ≠ 0) (hnx : ∀ s i, s < n → i < nm → rr s i = 0 → nx s i < n) (hD : ∀ s, s < n → sol rr nx nm c D s ≠ D + 1 ∧ ¬ (sol rr nx nm c D s = 0 ∧ nea rr nx nm c (sol rr nx nm c D) (D + 1) s = true)) (hno : ∀ s, s < n → sol rr nx nm c D s ≠ D ∨ D = 0) : SOL rr nx nm c n (sol rr nx nm c D) := by
  -- a level e + 1 up to D is near level e
  have lev : ∀ s e, e < D → (sol rr nx nm c D s = e + 1 ↔ sol rr nx nm c e s = 0 ∧ nea rr nx nm c (sol rr nx nm c e) (e + 1) s = true) := by
    intro s e he
    rw [sol_keep (by omega) D (by omega), sol]
    split
    · rename_i h; exact ⟨fun _ => h, fun _ => rfl⟩
    · rename_i h
      have := sol_le rr nx nm c e s
      exact ⟨fun z => by omega, fun z => absurd z h⟩
  have zer : ∀ s e, e ≤ D → (sol rr nx nm c e s = 0 ↔ sol rr nx nm c D s = 0 ∨ e < sol rr nx nm c D s) := by
    intro s e he
    by_cases h0 : sol rr nx nm c D s = 0
    · refine ⟨fun _ => .inl h0, fun _ => ?_⟩
      refine Decidable.of_not_not (fun z => ?_)
      have hp : 0 < sol rr nx nm c e s := by omega
      have := sol_le rr nx nm c e s
      have k1 := (sol_keep (rr := rr) (nx := nx) (nm := nm) (c := c) (s := s) hp e this).mp rfl
      have k2 := (sol_keep hp D (by omega)).mpr k1
      omega
    · have hle := sol_le rr nx nm c D s
      have k := (sol_keep (rr := rr) (nx := nx) (nm := nm) (c := c) (s := s) (e := sol rr nx nm c D s) (by omega) D hle).mp rfl
      constructor
      · intro z
        refine .inr (Nat.lt_of_not_le (fun w => ?_))
        have := (sol_keep (rr := rr) (nx := nx) (nm := nm) (c := c) (s := s) (by omega) e w).mpr k
        omega
      · rintro (z | z)
        · exact absurd z h0
        · refine Decidable.of_not_not (fun w => ?_)
          have hp : 0 < sol rr nx nm c e s := by omega
          have h1 := sol_le rr nx nm c e s
          have k1 := (sol_keep (rr := rr) (nx := nx) (nm := nm) (c := c) (s := s) hp e h1).mp rfl
          have k2 := (sol_keep hp D (by omega)).mpr k1
          omega
  have at1 : ∀ s i, s < n → i < nm → rr s i = c → sol rr nx nm c D s = 1 := by
    intro s i hs hi hr
    by_cases hD0 : D = 0
    · exfalso
      have := (hD s hs).2
      rw [hD0] at this
      exact this ⟨rfl, nea_iff.mpr ⟨i, hi, by unfold nrb; rw [if_pos rfl]; exact decide_eq_true hr⟩⟩
    · exact (lev s 0 (by omega)).mpr ⟨rfl, nea_iff.mpr ⟨i, hi, by unfold nrb; rw [if_pos rfl]; exact decide_eq_true hr⟩⟩
  have wit : ∀ s e, s < n → 0 < e → sol rr nx nm c D s = e + 1 → ∃ i, i < nm ∧ rr s i = 0 ∧ sol rr nx nm c D (nx s i) = e := by
    intro s e hs he h
    have hle := sol_le rr nx nm c D s
    obtain ⟨_, h2⟩ := (lev s e (by omega)).mp h
    obtain ⟨i, hi, h3⟩ := nea_iff.mp h2
    unfold nrb at h3
    rw [if_neg (by omega)] at h3
    simp only [Bool.and_eq_true, decide_eq_true_eq] at h3
    refine ⟨i, hi, h3.1, ?_⟩
    exact (sol_keep he D (by omega)).mpr (by have := h3.2; rw [show e + 1 - 1 = e by omega] at this; exact this)
  refine ⟨at1, fun s hs h1 => ?_, wit, fun s i hs hi hr hp => ?_⟩
  · have hD1 : 0 < D := by have := sol_le rr nx nm c D s; omega
    obtain ⟨_, h2⟩ := (lev s 0 hD1).mp h1
    obtain ⟨i, hi, h3⟩ := nea_iff.mp h2
    unfold nrb at h3
    rw [if_pos rfl] at h3
    exact ⟨i, hi, of_decide_eq_true h3⟩
  · have ht := hnx s i hs hi hr
    have hle := sol_le rr nx nm c D (nx s i)
    have hlt : sol rr nx nm c D (nx s i) < D := by
      rcases hno (nx s i) ht with z | z
      · omega
      · omega
    by_cases hz : sol rr nx nm c (sol rr nx nm c D (nx s i)) s = 0
    · have k := (sol_keep (rr := rr) (nx := nx) (nm := nm) (c := c) (s := nx s i) hp D hle).mp rfl
      have : sol rr nx nm c D s = sol rr nx nm c D (nx s i) + 1 := (lev s _ hlt).mpr ⟨hz, nea_iff.mpr ⟨i, hi, by
        unfold nrb
        rw [if_neg (by omega), decide_eq_true hr, show sol rr nx nm c D (nx s i) + 1 - 1 = sol rr nx nm c D (nx s i) by omega]
        exact decide_eq_true k⟩⟩
      omega
    · have := fun w => hz ((zer s (sol rr nx nm c D (nx s i)) hle).mpr w)
      refine ⟨Nat.pos_of_ne_zero (fun w => this (.inl w)), ?_⟩
      refine Nat.le_of_not_lt (fun w => this (.inr (by omega)))
