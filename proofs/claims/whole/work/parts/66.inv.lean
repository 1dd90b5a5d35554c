/-! loops that count -/
theorem pw_cnt {S T : Type} {body : S → Option (S ⊕ T)} {P : T → Prop} (n : Nat) (J : Nat → S → Prop) (hb : ∀ i s, i < n → J i s → pw (body s) (xx_L2 (J (i + 1)) P)) (he : ∀ s, J n s → pw (body s) (xx_L2 (fun _ => False) P)) : ∀ i s, i ≤ n → J i s → pw (xx_lp body s) P := by
  have key : ∀ d i s, i + d = n → J i s → pw (xx_lp body s) P := by
    intro d
    induction d with
    | zero =>
      intro i s hi hJ
      have e : i = n := by omega
      subst e
      obtain ⟨x, hx, hL⟩ := he s hJ
      cases x with
      | inl s' => exact absurd hL (fun z => z)
      | inr t => exact pw_inr hx hL
    | succ d ih =>
      intro i s hi hJ
      obtain ⟨x, hx, hL⟩ := hb i s (by omega) hJ
      cases x with
      | inl s' => exact pw_inl hx (ih (i + 1) s' (by omega) hL)
      | inr t => exact pw_inr hx hL
  intro i s hi hJ
  exact key (n - i) i s (by omega) hJ
theorem L2_l {S T : Type} {I : S → Prop} {P : T → Prop} {s : S} (h : I s) : xx_L2 I P (.inl s) := h
theorem L2_r {S T : Type} {I : S → Prop} {P : T → Prop} {t : T} (h : P t) : xx_L2 I P (.inr t) := h
theorem pw_eq {T : Type} {o : Option T} {x : T} {P : T → Prop} (e : o = some x) (h : P x) : pw o P := ⟨x, e, h⟩
theorem pw_rw {T : Type} {o o' : Option T} {P : T → Prop} (e : o = o') (h : pw o' P) : pw o P := e ▸ h
/-! frames: ints and longs change at S only, references at R only; new cells come behind -/
def fr (S R : Nat → Nat → Prop) (h h' : HP) : Prop := (∀ a k, ¬ S a k → hp_i h' a k = hp_i h a k ∧ hp_l h' a k = hp_l h a k) ∧ (∀ a k, ¬ R a k → hp_r h' a k = hp_r h a k) ∧ (∀ a, a < hp_z h → hp_n h' a = hp_n h a) ∧ hp_z h ≤ hp_z h'
theorem fr_of {S R : Nat → Nat → Prop} {h h' : HP} (H : hp_fr S h h') : fr S R h h' := ⟨fun a k hk => ⟨H.1 a k hk, H.2.1 a k hk⟩, fun a k _ => hp_fr_r H a k, fun a _ => hp_fr_n H a, by rw [hp_fr_z H]; exact Nat.le_refl _⟩
theorem fr_rf {S R : Nat → Nat → Prop} (h : HP) : fr S R h h := fr_of (hp_fr_rf h)
theorem fr_tr {S R : Nat → Nat → Prop} {a b c : HP} (h1 : fr S R a b) (h2 : fr S R b c) : fr S R a c := ⟨fun q k hk => ⟨(h2.1 q k hk).1.trans (h1.1 q k hk).1, (h2.1 q k hk).2.trans (h1.1 q k hk).2⟩, fun q k hk => (h2.2.1 q k hk).trans (h1.2.1 q k hk), fun q hq => (h2.2.2.1 q (Nat.lt_of_lt_of_le hq h1.2.2.2)).trans (h1.2.2.1 q hq), Nat.le_trans h1.2.2.2 h2.2.2.2⟩
theorem fr_mo {S R S' R' : Nat → Nat → Prop} {a b : HP} (h1 : fr S R a b) (hS : ∀ q k, S q k → S' q k) (hR : ∀ q k, R q k → R' q k) : fr S' R' a b := ⟨fun q k hk => h1.1 q k (fun z => hk (hS q k z)), fun q k hk => h1.2.1 q k (fun z => hk (hR q k z)), h1.2.2⟩
theorem fr_i {S R : Nat → Nat → Prop} {h h' : HP} (H : fr S R h h') {a k : Nat} (hk : ¬ S a k) : hp_i h' a k = hp_i h a k := (H.1 a k hk).1
theorem fr_l {S R : Nat → Nat → Prop} {h h' : HP} (H : fr S R h h') {a k : Nat} (hk : ¬ S a k) : hp_l h' a k = hp_l h a k := (H.1 a k hk).2
theorem fr_r {S R : Nat → Nat → Prop} {h h' : HP} (H : fr S R h h') {a k : Nat} (hk : ¬ R a k) : hp_r h' a k = hp_r h a k := H.2.1 a k hk
theorem hf_i {S : Nat → Nat → Prop} {h h' : HP} (H : hp_fr S h h') {a k : Nat} (hk : ¬ S a k) : hp_i h' a k = hp_i h a k := H.1 a k hk
theorem hf_l {S : Nat → Nat → Prop} {h h' : HP} (H : hp_fr S h h') {a k : Nat} (hk : ¬ S a k) : hp_l h' a k = hp_l h a k := H.2.1 a k hk
theorem hf_si {S : Nat → Nat → Prop} {h0 h : HP} (H : hp_fr S h0 h) {a k : Nat} {v : Int32} (hS : S a k) : hp_fr S h0 (hp_si h a k v) := hp_fr_tr H (hp_fr_si hS)
theorem hf_sl {S : Nat → Nat → Prop} {h0 h : HP} (H : hp_fr S h0 h) {a k : Nat} {v : Int64} (hS : S a k) : hp_fr S h0 (hp_sl h a k v) := hp_fr_tr H (hp_fr_sl hS)
/-! a plan -/
abbrev PT : Type := Nat × Nat × Nat × Nat × Nat × Nat × Nat × Nat × (Nat → Nat) × (Nat → Nat) × (Nat → Nat) × (Nat → Nat) × (Nat → Nat) × (Nat → Nat) × (Nat → Nat)
def p_lc (P : PT) : Nat := P.1
def p_cy (P : PT) : Nat := P.2.1
def p_fl (P : PT) : Nat := P.2.2.1
def p_st (P : PT) : Nat := P.2.2.2.1
def p_nr (P : PT) : Nat := P.2.2.2.2.1
def p_nm (P : PT) : Nat := P.2.2.2.2.2.1
def p_nu (P : PT) : Nat := P.2.2.2.2.2.2.1
def p_un (P : PT) : Nat := P.2.2.2.2.2.2.2.1
def p_hf (P : PT) : Nat → Nat := P.2.2.2.2.2.2.2.2.1
def p_ro (P : PT) : Nat → Nat := P.2.2.2.2.2.2.2.2.2.1
def p_rr (P : PT) : Nat → Nat := P.2.2.2.2.2.2.2.2.2.2.1
def p_rs (P : PT) : Nat → Nat := P.2.2.2.2.2.2.2.2.2.2.2.1
def p_bd (P : PT) : Nat → Nat := P.2.2.2.2.2.2.2.2.2.2.2.2.1
def p_fw (P : PT) : Nat → Nat := P.2.2.2.2.2.2.2.2.2.2.2.2.2.1
def p_fn (P : PT) : Nat → Nat := P.2.2.2.2.2.2.2.2.2.2.2.2.2.2
/-- depth of the pile as the code from a on runs for n steps -/
def dpt (fw : Nat → Nat) (a : Nat) : Nat → Nat
  | 0 => 0
  | n + 1 => if fw (a + n) < 20 then dpt fw a n + 1 else if fw (a + n) = 22 then dpt fw a n else dpt fw a n - 1
/-- the code from a to b runs well: what it wants is there, no more than 60, one is left -/
def wf (fw : Nat → Nat) (a b : Nat) : Prop := a ≤ b ∧ dpt fw a (b - a) = 1 ∧ ∀ n, n < b - a → fw (a + n) < 6 ∧ dpt fw a n < 60 ∨ fw (a + n) = 22 ∧ 0 < dpt fw a n ∨ 20 ≤ fw (a + n) ∧ fw (a + n) ≠ 22 ∧ fw (a + n) ≤ 28 ∧ 1 < dpt fw a n
def POK (P : PT) : Prop := (p_lc P = 1 ∨ p_lc P = 2) ∧ (1 ≤ p_cy P ∧ p_cy P ≤ 12) ∧ (p_fl P ≤ 11 ∨ p_fl P = 99) ∧ p_st P ≤ 2 ∧ p_nr P ≤ 4 ∧ p_nm P ≤ 6 ∧ p_nu P ≤ 16 ∧ p_un P ≤ 60 ∧ (∀ i, i < p_nr P → p_hf P i ≤ 31) ∧ (∀ i, i < p_nm P → p_ro P i < p_nr P) ∧ (∀ r, r < p_nu P → p_rr P r < p_nr P ∧ p_rs P r < 2) ∧ p_bd P 0 = 0 ∧ (∀ k, k < 3 * p_nu P → wf (p_fw P) (p_bd P k) (p_bd P (k + 1))) ∧ (∀ k, k ≤ 3 * p_nu P → p_bd P k < 540) ∧ ∀ k, p_fn P k ≤ 9999
def xo (w n : Nat) : Int32 := if w = 0 then nI n else if w < 20 then -nI w else if w = 20 then -6 else if w = 21 then -7 else if w = 22 then -8 else if w = 23 then -11 else if w = 24 then -9 else if w = 25 then -10 else if w = 26 then -12 else if w = 27 then -13 else -14
def PSH (q : Nat) (h : HP) : Prop := hp_r h q 8 = some (q + 1) ∧ hp_r h q 9 = some (q + 2) ∧ hp_r h q 10 = some (q + 3) ∧ hp_r h q 11 = some (q + 4) ∧ hp_r h q 12 = some (q + 5) ∧ hp_r h q 13 = some (q + 6) ∧ hp_r h q 15 = some (q + 7) ∧ hp_r h q 16 = some (q + 8) ∧ hp_n h (q + 1) = 4 ∧ hp_n h (q + 2) = 6 ∧ hp_n h (q + 3) = 16 ∧ hp_n h (q + 4) = 16 ∧ hp_n h (q + 5) = 48 ∧ hp_n h (q + 6) = 540 ∧ hp_n h (q + 7) = 5 ∧ hp_n h (q + 8) = 60
def PX (P : PT) (q : Nat) (h : HP) : Prop := hp_i h q 0 = nI (p_lc P) ∧ hp_i h q 1 = nI (p_cy P) ∧ hp_i h q 2 = (if p_fl P = 99 then -1 else nI (p_fl P)) ∧ hp_i h q 3 = nI (p_st P) ∧ hp_i h q 4 = nI (p_nr P) ∧ hp_i h q 5 = nI (p_nm P) ∧ hp_i h q 6 = nI (p_nu P) ∧ hp_i h q 7 = nI (p_un P) ∧ (∀ i, i < p_nr P → hp_i h (q + 1) i = nI (p_hf P i)) ∧ (∀ i, i < p_nm P → hp_i h (q + 2) i = nI (p_ro P i)) ∧ (∀ r, r < p_nu P → hp_i h (q + 3) r = nI (p_rr P r)) ∧ (∀ r, r < p_nu P → hp_i h (q + 4) r = nI (p_rs P r)) ∧ (∀ k, k < 3 * p_nu P → hp_i h (q + 5) k = nI (p_bd P (k + 1))) ∧ ∀ k, k < p_bd P (3 * p_nu P) → hp_i h (q + 6) k = xo (p_fw P k) (p_fn P k)
def PM (P : PT) (m : Nat) (h : HP) : Prop := hp_i h m 28 = nI (p_lc P) ∧ hp_i h m 29 = nI (p_cy P) ∧ hp_i h m 30 = nI (p_fl P) ∧ hp_i h m 31 = nI (p_st P) ∧ hp_i h m 32 = nI (p_nr P) ∧ hp_i h m 33 = nI (p_nm P) ∧ hp_i h m 34 = nI (p_nu P) ∧ hp_i h m 35 = nI (p_un P) ∧ (∀ i, i < p_nm P → hp_i h (m + 6) i = nI (p_ro P i)) ∧ (∀ i, i < p_nm P → hp_i h (m + 7) i = nI (p_hf P (p_ro P i))) ∧ (∀ r, r < p_nu P → hp_i h (m + 8) r = nI (p_rr P r)) ∧ (∀ r, r < p_nu P → hp_i h (m + 10) r = nI (p_rs P r)) ∧ (∀ k, k ≤ 3 * p_nu P → 0 < p_nu P → hp_i h (m + 17) k = nI (p_bd P k)) ∧ ∀ k, k < p_bd P (3 * p_nu P) → hp_i h (m + 15) k = nI (p_fw P k) ∧ hp_i h (m + 16) k = nI (p_fn P k)
def F_PX (q : Nat) : Nat → Nat → Prop := fun a _ => q ≤ a ∧ a < q + 7
def F_PM (m : Nat) : Nat → Nat → Prop := fun a k => a = m ∧ 28 ≤ k ∧ k ≤ 35 ∨ a = m + 6 ∨ a = m + 7 ∨ a = m + 8 ∨ a = m + 10 ∨ a = m + 15 ∨ a = m + 16 ∨ a = m + 17
theorem PX_ag {P : PT} {q : Nat} {h h' : HP} (H : ∀ a k, F_PX q a k → hp_i h' a k = hp_i h a k) (hp : PX P q h) : PX P q h' := by
  obtain ⟨a1, a2, a3, a4, a5, a6, a7, a8, a9, a10, a11, a12, a13, a14⟩ := hp
  have e : ∀ a k, q ≤ a → a < q + 7 → hp_i h' a k = hp_i h a k := fun a k h1 h2 => H a k ⟨h1, h2⟩
  refine ⟨?_, ?_, ?_, ?_, ?_, ?_, ?_, ?_, fun i hi => ?_, fun i hi => ?_, fun i hi => ?_, fun i hi => ?_, fun i hi => ?_, fun i hi => ?_⟩
  all_goals rw [e _ _ (by omega) (by omega)]
  · exact a1
  · exact a2
  · exact a3
  · exact a4
  · exact a5
  · exact a6
  · exact a7
  · exact a8
  · exact a9 i hi
  · exact a10 i hi
  · exact a11 i hi
  · exact a12 i hi
  · exact a13 i hi
  · exact a14 i hi
theorem PM_ag {P : PT} {m : Nat} {h h' : HP} (H : ∀ a k, F_PM m a k → hp_i h' a k = hp_i h a k) (hp : PM P m h) : PM P m h' := by
  obtain ⟨a1, a2, a3, a4, a5, a6, a7, a8, a9, a10, a11, a12, a13, a14⟩ := hp
  unfold F_PM at H
  refine ⟨?_, ?_, ?_, ?_, ?_, ?_, ?_, ?_, fun i hi => ?_, fun i hi => ?_, fun i hi => ?_, fun i hi => ?_, fun i hi hj => ?_, fun i hi => ⟨?_, ?_⟩⟩
  all_goals rw [H _ _ (by omega)]
  · exact a1
  · exact a2
  · exact a3
  · exact a4
  · exact a5
  · exact a6
  · exact a7
  · exact a8
  · exact a9 i hi
  · exact a10 i hi
  · exact a11 i hi
  · exact a12 i hi
  · exact a13 i hi hj
  · exact (a14 i hi).1
  · exact (a14 i hi).2
/-! the course of the reference: what a state's number says -/
def CM (m N : Nat) (h : HP) : Prop := hp_i h m 51 = nI (lm N) ∧ hp_i h m 52 = nI (dy N) ∧ ∀ i, i < 6 → hp_i h (m + 20) i = nI (hd N i) ∧ hp_i h (m + 21) i = nI (vs N i) ∧ hp_i h (m + 23) i = nI (be N i)
def F_CM (m : Nat) : Nat → Nat → Prop := fun a k => a = m ∧ (k = 51 ∨ k = 52) ∨ a = m + 20 ∨ a = m + 21 ∨ a = m + 23
theorem CM_ag {m N : Nat} {h h' : HP} (H : ∀ a k, F_CM m a k → hp_i h' a k = hp_i h a k) (hp : CM m N h) : CM m N h' := by
  unfold F_CM at H
  refine ⟨?_, ?_, fun i hi => ⟨?_, ?_, ?_⟩⟩
  all_goals rw [H _ _ (by omega)]
  · exact hp.1
  · exact hp.2.1
  · exact (hp.2.2 i hi).1
  · exact (hp.2.2 i hi).2.1
  · exact (hp.2.2 i hi).2.2
/-- the first state with these lamps -/
def fs (P : PT) (l : Nat) : Nat := ex l 0 (fun i => if i < p_nm P then p_hf P (p_ro P i) else 0)
theorem fs_lt {P : PT} (ok : POK P) {l : Nat} (hl : l < 4) : fs P l < 2 ^ 54 := by
  obtain ⟨_, _, _, _, _, _, _, _, o1, o2, _⟩ := ok
  refine ex_lt hl (by decide) (fun i _ => ?_)
  by_cases hi : i < p_nm P
  · simp only [hi, if_true]; have := o1 _ (o2 i hi); omega
  · simp [hi]
