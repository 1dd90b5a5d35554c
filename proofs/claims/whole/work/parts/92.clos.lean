/-! what can come about, with a fault or without -/
def EG (P : PT) (F : Nat) (E E' : Nat) : Prop := (∃ i, i < p_nm P ∧ oS P (E % 2 ^ 54) i = 0 ∧ E' = cd (gn P (E % 2 ^ 54) i) (E / 2 ^ 54)) ∨ (F < 3 ∧ E < 2 ^ 54 ∧ ∃ j, j < wys P F ∧ E' = cd (ftc P F (E % 2 ^ 54) j) 1)
def RB (P : PT) (F E : Nat) : Prop := ∃ l, l < 4 ∧ ist P l = true ∧ Rch (EG P F) (cd (fs P l) 0) E
theorem RB_st {P : PT} {F l : Nat} (hl : l < 4) (hi : ist P l = true) : RB P F (cd (fs P l) 0) := ⟨l, hl, hi, Rch_rf _⟩
theorem RB_e {P : PT} {F E E' : Nat} (h : RB P F E) (he : EG P F E E') : RB P F E' := by
  obtain ⟨l, a, b, c⟩ := h
  exact ⟨l, a, b, Rch_tr c (Rch_e he)⟩
/-- whatever holds of the starts and passes on holds of all -/
theorem RB_in {P : PT} {F : Nat} {S : Nat → Prop} (h0 : ∀ l, l < 4 → ist P l = true → S (cd (fs P l) 0)) (hs : ∀ E E', RB P F E → S E → EG P F E E' → S E') {E : Nat} (h : RB P F E) : S E := by
  obtain ⟨l, a, b, c⟩ := h
  exact (Rch_in (S := fun E => RB P F E ∧ S E) (fun s t hst hg => ⟨RB_e hst.1 hg, hs s t hst.1 hst.2 hg⟩) ⟨RB_st a b, h0 l a b⟩ c).2
def SND (P : PT) (F : Nat) (B : BT) : Prop := (∀ j, j < B.1 → RB P F (B.2.1 j)) ∧ (B.2.2 = true → B.1 = 5000 ∧ ∃ v, RB P F v ∧ idx B.2.1 B.1 v = B.1)
theorem insB_S {P : PT} {F v : Nat} {B : BT} (h : SND P F B) (hv : RB P F v) : SND P F (insB B v) := by
  have hle := idx_le B.2.1 B.1 v
  unfold insB
  by_cases h1 : B.2.2 = true
  · rw [if_pos h1]; exact h
  · rw [if_neg h1]
    by_cases h2 : idx B.2.1 B.1 v < B.1
    · rw [if_pos h2]; exact h
    · rw [if_neg h2]
      by_cases h3 : B.1 = 5000
      · rw [if_pos h3]; exact ⟨h.1, fun _ => ⟨h3, v, hv, show idx B.2.1 B.1 v = B.1 by omega⟩⟩
      · rw [if_neg h3]
        refine ⟨fun j hj => ?_, fun z => absurd (show false = true from z) (by decide)⟩
        show RB P F (upN B.2.1 B.1 v j)
        unfold upN; split
        · exact hv
        · exact h.1 j (by have : j < B.1 + 1 := hj; omega)
theorem rowB_S {P : PT} {F E : Nat} {B : BT} (hE : RB P F E) (h : SND P F B) : ∀ i, i ≤ p_nm P → SND P F (rowB P E i B) := by
  intro i
  induction i with
  | zero => intro _; exact h
  | succ i ih =>
    intro hi
    show SND P F (stp P E i (rowB P E i B))
    unfold stp; split
    · rename_i ho
      exact insB_S (ih (by omega)) (RB_e hE (.inl ⟨i, by omega, ho, rfl⟩))
    · exact ih (by omega)
theorem folB_S {P : PT} {F E : Nat} {B : BT} (hE : RB P F E) (h : SND P F B) : SND P F (folB P F E B) := by
  unfold folB; split
  · rename_i hc
    have : ∀ j, j ≤ wys P F → SND P F (fltB P F E j (rowB P E (p_nm P) B)) := by
      intro j
      induction j with
      | zero => intro _; exact rowB_S hE h _ (Nat.le_refl _)
      | succ j ih => intro hj; exact insB_S (ih (by omega)) (RB_e hE (.inr ⟨hc.1, hc.2, j, by omega, rfl⟩))
    exact this _ (Nat.le_refl _)
  · exact rowB_S hE h _ (Nat.le_refl _)
theorem stB_S (P : PT) (F : Nat) : ∀ l, l ≤ 4 → SND P F (stB P l) := by
  intro l
  induction l with
  | zero => intro _; exact ⟨fun j hj => by have : j < 0 := hj; omega, fun z => absurd (show false = true from z) (by decide)⟩
  | succ l ih =>
    intro hl
    unfold stB; split
    · rename_i hi; exact insB_S (ih (by omega)) (RB_st (by omega) hi)
    · exact ih (by omega)
theorem bfs_S (P : PT) (F : Nat) : ∀ k, SND P F (bfs P F k) := by
  intro k
  induction k with
  | zero => exact stB_S P F 4 (by omega)
  | succ k ih =>
    unfold bfs; split
    · exact ih
    · exact folB_S (ih.1 k (by omega)) ih
def INB (B : BT) (v : Nat) : Prop := idx B.2.1 B.1 v < B.1
theorem INB_x {B C : BT} {v : Nat} (hx : xtd B C) (h : INB B v) : INB C v := by
  unfold INB
  rw [idx_x hx h]
  have := hx.1
  have : idx B.2.1 B.1 v < B.1 := h
  omega
theorem rowB_C {P : PT} (ok : POK P) {E : Nat} {B : BT} (hE : E < 2 ^ 55) (hG : GB P B) : ∀ i, (rowB P E i B).2.2 = false → ∀ j, j < i → oS P (E % 2 ^ 54) j = 0 → INB (rowB P E i B) (cd (gn P (E % 2 ^ 54) j) (E / 2 ^ 54)) := by
  intro i
  induction i with
  | zero => intro _ j hj; omega
  | succ i ih =>
    intro hf j hj ho
    have hx := stp_x P E i (rowB P E i B)
    have e : rowB P E (i + 1) B = stp P E i (rowB P E i B) := rfl
    rw [e] at hf ⊢
    by_cases z : j = i
    · subst z
      unfold stp at hf ⊢
      rw [if_pos ho] at hf ⊢
      exact insB_in (rowB_G ok hE hG j).2.1 hf
    · exact INB_x hx (ih (xtd_sp hx hf) j (by omega) ho)
theorem fltB_C {P : PT} (ok : POK P) {F E : Nat} {B : BT} (hE : okc P E) (hG : GB P B) : ∀ i, i ≤ wys P F → (fltB P F E i B).2.2 = false → ∀ j, j < i → INB (fltB P F E i B) (cd (ftc P F (E % 2 ^ 54) j) 1) := by
  intro i
  induction i with
  | zero => intro _ _ j hj; omega
  | succ i ih =>
    intro hi hf j hj
    have hx := insB_x (fltB P F E i B) (cd (ftc P F (E % 2 ^ 54) i) 1)
    have e : fltB P F E (i + 1) B = insB (fltB P F E i B) (cd (ftc P F (E % 2 ^ 54) i) 1) := rfl
    rw [e] at hf ⊢
    by_cases z : j = i
    · subst z
      exact insB_in (fltB_G ok hE hG j (by omega)).2.1 hf
    · exact INB_x hx (ih (by omega) (xtd_sp hx hf) j (by omega))
theorem folB_C {P : PT} (ok : POK P) {F E E' : Nat} {B : BT} (hE : okc P E) (hG : GB P B) (hf : (folB P F E B).2.2 = false) (he : EG P F E E') : INB (folB P F E B) E' := by
  have hrG := rowB_G ok hE.1 hG (p_nm P)
  unfold folB at hf ⊢
  by_cases hc : F < 3 ∧ E < 2 ^ 54
  · rw [if_pos hc] at hf ⊢
    have hx := fltB_x P F E (rowB P E (p_nm P) B) 0 (wys P F) (by omega)
    rcases he with ⟨i, i1, i2, i3⟩ | ⟨_, _, j, j1, j2⟩
    · rw [i3]; exact INB_x hx (rowB_C ok hE.1 hG _ (xtd_sp hx hf) i i1 i2)
    · rw [j2]; exact fltB_C ok hE hrG _ (Nat.le_refl _) hf j j1
  · rw [if_neg hc] at hf ⊢
    rcases he with ⟨i, i1, i2, i3⟩ | ⟨z1, z2, _⟩
    · rw [i3]; exact rowB_C ok hE.1 hG _ hf i i1 i2
    · exact absurd ⟨z1, z2⟩ hc
theorem stB_C {P : PT} (ok : POK P) : ∀ l, l ≤ 4 → ∀ k, k < l → ist P k = true → INB (stB P l) (cd (fs P k) 0) := by
  intro l
  induction l with
  | zero => intro _ k hk; omega
  | succ l ih =>
    intro hl k hk hi
    have hsm := stB_small P (l + 1) hl
    by_cases z : k = l
    · subst z
      have e : stB P (k + 1) = insB (stB P k) (cd (fs P k) 0) := by rw [stB, if_pos hi]
      rw [e] at hsm ⊢
      exact insB_in (stB_G ok k (by omega)).2.1 hsm.1
    · have := ih (by omega) k (by omega) hi
      rw [stB]; split
      · exact INB_x (insB_x _ _) this
      · exact this
theorem bfs_C {P : PT} (ok : POK P) (F : Nat) : ∀ k, (bfs P F k).2.2 = false → ∀ s, s < k → s < (bfs P F k).1 → ∀ E', EG P F ((bfs P F k).2.1 s) E' → INB (bfs P F k) E' := by
  intro k
  induction k with
  | zero => intro _ s hs; omega
  | succ k ih =>
    intro hf s hs hn E' he
    have hx := bfs_x P F k (k + 1) (by omega)
    have hf' := xtd_sp hx hf
    by_cases hend : (bfs P F k).1 ≤ k
    · have e : bfs P F (k + 1) = bfs P F k := by rw [bfs, if_pos (.inr hend)]
      rw [e] at hn he ⊢
      exact ih hf' s (by omega) hn E' he
    · have e : bfs P F (k + 1) = folB P F ((bfs P F k).2.1 k) (bfs P F k) := by rw [bfs, if_neg (fun z => z.elim (fun z => by rw [hf'] at z; exact absurd z (by decide)) hend)]
      by_cases z : s = k
      · subst z
        rw [hx.2.1 s (by omega)] at he
        rw [e] at hf ⊢
        have hG := bfs_G ok F s
        exact folB_C ok (hG.2.2 s (by omega)) hG hf he
      · have hsn : s < (bfs P F k).1 := by omega
        rw [hx.2.1 s hsn] at he
        exact INB_x hx (ih hf' s (by omega) hsn E' he)
/-- not spent: all that can come about is there -/
theorem BF_all {P : PT} (ok : POK P) {F : Nat} (hf : (BF P F).2.2 = false) {E : Nat} (h : RB P F E) : INB (BF P F) E := by
  obtain ⟨k, hk, e⟩ : ∃ k, (BF P F).1 ≤ k ∧ BF P F = bfs P F k := ⟨5000, BF_n ok F, rfl⟩
  rw [e] at hf hk ⊢
  refine RB_in (S := fun E => INB (bfs P F k) E) (fun l hl hi => ?_) (fun E E' _ hi he => ?_) h
  · exact INB_x (bfs_x P F 0 k (by omega)) (stB_C ok 4 (by omega) l hl hi)
  · have hi : idx (bfs P F k).2.1 (bfs P F k).1 E < (bfs P F k).1 := hi
    have := idx_yes hi
    exact bfs_C ok F k hf _ (by omega) hi E' (by rw [this]; exact he)
theorem BF_S (P : PT) (F : Nat) : SND P F (BF P F) := by obtain ⟨k, e⟩ := BF_k P F; rw [e]; exact bfs_S P F k
theorem BF_G {P : PT} (ok : POK P) (F : Nat) : GB P (BF P F) := by obtain ⟨k, e⟩ := BF_k P F; rw [e]; exact bfs_G ok F k
/-- spent: more than 5000 can come about -/
theorem BF_many {P : PT} (ok : POK P) {F : Nat} (hf : (BF P F).2.2 = true) : ∃ g : Nat → Nat, (∀ j, j < 5001 → RB P F (g j)) ∧ dst g 5001 := by
  obtain ⟨s1, s2⟩ := BF_S P F
  obtain ⟨n5, v, v1, v2⟩ := s2 hf
  have hd := dst_up (BF_G ok F).2.1 v2
  rw [n5] at hd s1
  refine ⟨_, fun j hj => ?_, hd⟩
  unfold upN; split
  · exact v1
  · exact s1 j (by omega)
/-- codes -/
theorem RB_ok {P : PT} (ok : POK P) {F E : Nat} (h : RB P F E) : okc P E := by
  refine RB_in (S := okc P) (fun l hl _ => okc_fs ok hl) (fun E E' _ hE he => ?_) h
  rcases he with ⟨i, i1, i2, i3⟩ | ⟨_, _, j, j1, j2⟩
  · rw [i3]; exact okc_gn ok hE.1 i
  · rw [j2]; exact (okc_ft ok hE j1).1
/-- before a fault all goes as without one -/
theorem RB_0 {P : PT} (ok : POK P) {F E : Nat} (h : RB P F E) (hE : E < 2 ^ 54) : RB P 3 E := by
  revert hE
  refine RB_in (S := fun E => E < 2 ^ 54 → RB P 3 E) (fun l hl hi _ => RB_st hl hi) (fun E E' hR hS he hE' => ?_) h
  rcases he with ⟨i, i1, i2, i3⟩ | ⟨_, _, j, j1, j2⟩
  · have hg := gn_lt ok (E % 2 ^ 54) i
    have : E / 2 ^ 54 = 0 := by
      have := cd_t (t := E / 2 ^ 54) hg
      rw [← i3] at this
      rw [← this]; exact Nat.div_eq_of_lt hE'
    exact RB_e (hS (by simp only [Nat.reducePow] at *; omega)) (.inl ⟨i, i1, i2, i3⟩)
  · have := cd_t (t := 1) (okc_ft ok (RB_ok ok hR) j1).2
    rw [← j2, Nat.div_eq_of_lt hE'] at this
    omega
theorem RB_3 {P : PT} {F E : Nat} (h : RB P 3 E) : RB P F E := by
  refine RB_in (S := RB P F) (fun l hl hi => RB_st hl hi) (fun E E' _ hS he => ?_) h
  rcases he with z | ⟨z, _⟩
  · exact RB_e hS (.inl z)
  · omega
theorem RB_3lt {P : PT} (ok : POK P) {E : Nat} (h : RB P 3 E) : E < 2 ^ 54 := by
  refine RB_in (S := fun E => E < 2 ^ 54) (fun l hl _ => fs_lt ok hl) (fun E E' _ hS he => ?_) h
  rcases he with ⟨i, i1, i2, i3⟩ | ⟨z, _⟩
  · rw [i3, Nat.div_eq_of_lt hS]; exact gn_lt ok _ i
  · omega
