/-! all states, laid out one behind the other: the plain process -/
abbrev BT : Type := Nat × (Nat → Nat) × Bool
def insB (B : BT) (v : Nat) : BT := if B.2.2 = true then B else if idx B.2.1 B.1 v < B.1 then B else if B.1 = 5000 then (B.1, B.2.1, true) else (B.1 + 1, upN B.2.1 B.1 v, false)
def stp (P : PT) (E i : Nat) (B : BT) : BT := if oS P (E % 2 ^ 54) i = 0 then insB B (cd (gn P (E % 2 ^ 54) i) (E / 2 ^ 54)) else B
def rowB (P : PT) (E : Nat) : Nat → BT → BT
  | 0, B => B
  | i + 1, B => stp P E i (rowB P E i B)
def ftc (P : PT) (F N j : Nat) : Nat := if F = 0 then fg P N j else if F = 1 then ex 0 (dy N) (ow N) else ex (lm N ^^^ 1) (dy N) (ow N)
def wys (P : PT) (F : Nat) : Nat := if F = 0 then p_nm P else 1
def fltB (P : PT) (F E : Nat) : Nat → BT → BT
  | 0, B => B
  | j + 1, B => insB (fltB P F E j B) (cd (ftc P F (E % 2 ^ 54) j) 1)
def folB (P : PT) (F E : Nat) (B : BT) : BT := if F < 3 ∧ E < 2 ^ 54 then fltB P F E (wys P F) (rowB P E (p_nm P) B) else rowB P E (p_nm P) B
def ist (P : PT) (l : Nat) : Bool := if p_st P = 2 then decide (l ≤ al P) else if p_st P = 1 then decide (l = al P) else decide (l = 0)
def stB (P : PT) : Nat → BT
  | 0 => (0, fun _ => 0, false)
  | l + 1 => if ist P l = true then insB (stB P l) (cd (fs P l) 0) else stB P l
def bfs (P : PT) (F : Nat) : Nat → BT
  | 0 => stB P 4
  | k + 1 => if (bfs P F k).2.2 = true ∨ (bfs P F k).1 ≤ k then bfs P F k else folB P F ((bfs P F k).2.1 k) (bfs P F k)
def okc (P : PT) (E : Nat) : Prop := E < 2 ^ 55 ∧ dy (E % 2 ^ 54) < p_cy P
def GB (P : PT) (B : BT) : Prop := B.1 ≤ 5000 ∧ dst B.2.1 B.1 ∧ ∀ j, j < B.1 → okc P (B.2.1 j)
def xtd (B C : BT) : Prop := B.1 ≤ C.1 ∧ (∀ j, j < B.1 → C.2.1 j = B.2.1 j) ∧ (B.2.2 = true → C = B)
theorem xtd_rf (B : BT) : xtd B B := ⟨Nat.le_refl _, fun _ _ => rfl, fun _ => rfl⟩
theorem xtd_tr {A B C : BT} (h1 : xtd A B) (h2 : xtd B C) : xtd A C := ⟨Nat.le_trans h1.1 h2.1, fun j hj => (h2.2.1 j (by have := h1.1; omega)).trans (h1.2.1 j hj), fun z => by
  have e := h1.2.2 z
  have e2 := h2.2.2 (by rw [e]; exact z)
  rw [e2, e]⟩
theorem xtd_sp {B C : BT} (h : xtd B C) (hc : C.2.2 = false) : B.2.2 = false := by
  cases hb : B.2.2
  · rfl
  · have := h.2.2 hb; rw [this, hb] at hc; exact hc
theorem insB_x (B : BT) (v : Nat) : xtd B (insB B v) := by
  unfold insB
  by_cases h1 : B.2.2 = true
  · rw [if_pos h1]; exact xtd_rf B
  · rw [if_neg h1]
    by_cases h2 : idx B.2.1 B.1 v < B.1
    · rw [if_pos h2]; exact xtd_rf B
    · rw [if_neg h2]
      by_cases h3 : B.1 = 5000
      · rw [if_pos h3]; exact ⟨Nat.le_refl _, fun _ _ => rfl, fun z => absurd z h1⟩
      · rw [if_neg h3]; exact ⟨Nat.le_succ _, fun j hj => upN_n (by omega), fun z => absurd z h1⟩
theorem insB_G {P : PT} {B : BT} {v : Nat} (h : GB P B) (hv : okc P v) : GB P (insB B v) := by
  have hle := idx_le B.2.1 B.1 v
  unfold insB
  by_cases h1 : B.2.2 = true
  · rw [if_pos h1]; exact h
  · rw [if_neg h1]
    by_cases h2 : idx B.2.1 B.1 v < B.1
    · rw [if_pos h2]; exact h
    · rw [if_neg h2]
      by_cases h3 : B.1 = 5000
      · rw [if_pos h3]; exact h
      · rw [if_neg h3]
        obtain ⟨g1, g2, g3⟩ := h
        refine ⟨by show B.1 + 1 ≤ 5000; omega, dst_up g2 (by omega), fun j hj => ?_⟩
        show okc P (upN B.2.1 B.1 v j)
        unfold upN
        split
        · exact hv
        · exact g3 j (by have : j < B.1 + 1 := hj; omega)
/-- what was put in is there -/
theorem insB_in {B : BT} {v : Nat} (hd : dst B.2.1 B.1) (h : (insB B v).2.2 = false) : idx (insB B v).2.1 (insB B v).1 v < (insB B v).1 := by
  have hle := idx_le B.2.1 B.1 v
  have h1 : ¬ B.2.2 = true := fun z => by rw [(insB_x B v).2.2 z] at h; rw [z] at h; exact absurd h (by decide)
  unfold insB at h ⊢
  rw [if_neg h1] at h ⊢
  by_cases h2 : idx B.2.1 B.1 v < B.1
  · rw [if_pos h2]; exact h2
  · rw [if_neg h2] at h ⊢
    by_cases h3 : B.1 = 5000
    · rw [if_pos h3] at h; exact absurd h (by show ¬ true = false; decide)
    · rw [if_neg h3]
      show idx (upN B.2.1 B.1 v) (B.1 + 1) v < B.1 + 1
      rw [idx_eq (j := B.1) (dst_up hd (by omega)) (by omega) (upN_s _ _ _)]
      omega
theorem idx_x {B C : BT} {v : Nat} (h : xtd B C) (hi : idx B.2.1 B.1 v < B.1) : idx C.2.1 C.1 v = idx B.2.1 B.1 v := by
  refine first_eq (by have := h.1; omega) (decide_eq_true ?_) (fun k hk => decide_eq_false (fun z => ?_))
  · rw [h.2.1 _ hi]; exact idx_yes hi
  · rw [h.2.1 k (by omega)] at z
    have := fa_first_no (fun j => decide (B.2.1 j = v)) B.1 k hk
    exact of_decide_eq_false this z
theorem okc_gn {P : PT} (ok : POK P) {E : Nat} (hE : E < 2 ^ 55) (i : Nat) : okc P (cd (gn P (E % 2 ^ 54) i) (E / 2 ^ 54)) := by
  have hg := gn_lt ok (E % 2 ^ 54) i
  refine ⟨cd_lt hg (by simp only [Nat.reducePow] at *; omega), ?_⟩
  rw [cd_N hg, gn_dy ok]
  have := ok.2.1
  split <;> omega
theorem okc_fs {P : PT} (ok : POK P) {l : Nat} (hl : l < 4) : okc P (cd (fs P l) 0) := by
  have hg := fs_lt ok hl
  have := ok.2.1
  refine ⟨cd_lt hg (by decide), ?_⟩
  rw [cd_N hg]; unfold fs; rw [ex_dy hl (by decide)]; omega
theorem lx1 (N : Nat) : lm N ^^^ 1 < 4 := Nat.xor_lt_two_pow (n := 2) (lm_lt N) (by decide)
theorem okc_ft {P : PT} (ok : POK P) {E F j : Nat} (hE : okc P E) (hj : j < wys P F) : okc P (cd (ftc P F (E % 2 ^ 54) j) 1) ∧ ftc P F (E % 2 ^ 54) j < 2 ^ 54 := by
  unfold ftc
  unfold wys at hj
  have hol : ∀ i, i < 6 → ow (E % 2 ^ 54) i < 256 := fun i _ => ow_lt _ i
  by_cases h0 : F = 0
  · rw [if_pos h0] at hj ⊢
    have hg := fg_lt ok (E % 2 ^ 54) hj
    refine ⟨⟨cd_lt hg (by decide), ?_⟩, hg⟩
    rw [cd_N hg]; unfold fg; rw [ex_dy (lm_lt _) (dy_lt _)]; exact hE.2
  · rw [if_neg h0]
    by_cases h1 : F = 1
    · rw [if_pos h1]
      have hg := ex_lt (l := 0) (by decide) (dy_lt (E % 2 ^ 54)) hol
      refine ⟨⟨cd_lt hg (by decide), ?_⟩, hg⟩
      rw [cd_N hg, ex_dy (by decide) (dy_lt _)]; exact hE.2
    · rw [if_neg h1]
      have hg := ex_lt (lx1 (E % 2 ^ 54)) (dy_lt (E % 2 ^ 54)) hol
      refine ⟨⟨cd_lt hg (by decide), ?_⟩, hg⟩
      rw [cd_N hg, ex_dy (lx1 _) (dy_lt _)]; exact hE.2
theorem stp_x (P : PT) (E i : Nat) (B : BT) : xtd B (stp P E i B) := by
  unfold stp; split
  · exact insB_x _ _
  · exact xtd_rf B
theorem rowB_x (P : PT) (E : Nat) (B : BT) : ∀ i j, i ≤ j → xtd (rowB P E i B) (rowB P E j B) := by
  intro i j hij
  induction j with
  | zero => have : i = 0 := by omega
            subst this; exact xtd_rf _
  | succ j ih =>
    by_cases h : i = j + 1
    · subst h; exact xtd_rf _
    · exact xtd_tr (ih (by omega)) (stp_x P E j _)
theorem stp_G {P : PT} (ok : POK P) {E i : Nat} {B : BT} (hE : E < 2 ^ 55) (h : GB P B) : GB P (stp P E i B) := by
  unfold stp; split
  · exact insB_G h (okc_gn ok hE i)
  · exact h
theorem rowB_G {P : PT} (ok : POK P) {E : Nat} {B : BT} (hE : E < 2 ^ 55) (h : GB P B) : ∀ i, GB P (rowB P E i B) := by
  intro i
  induction i with
  | zero => exact h
  | succ i ih => exact stp_G ok hE ih
theorem fltB_x (P : PT) (F E : Nat) (B : BT) : ∀ i j, i ≤ j → xtd (fltB P F E i B) (fltB P F E j B) := by
  intro i j hij
  induction j with
  | zero => have : i = 0 := by omega
            subst this; exact xtd_rf _
  | succ j ih =>
    by_cases h : i = j + 1
    · subst h; exact xtd_rf _
    · exact xtd_tr (ih (by omega)) (insB_x _ _)
theorem fltB_G {P : PT} (ok : POK P) {F E : Nat} {B : BT} (hE : okc P E) (h : GB P B) : ∀ i, i ≤ wys P F → GB P (fltB P F E i B) := by
  intro i
  induction i with
  | zero => intro _; exact h
  | succ i ih => intro hi; exact insB_G (ih (by omega)) (okc_ft ok hE (by omega)).1
theorem folB_x (P : PT) (F E : Nat) (B : BT) : xtd B (folB P F E B) := by
  unfold folB; split
  · exact xtd_tr (rowB_x P E B 0 _ (by omega)) (fltB_x P F E _ 0 _ (by omega))
  · exact rowB_x P E B 0 _ (by omega)
theorem folB_G {P : PT} (ok : POK P) {F E : Nat} {B : BT} (hE : okc P E) (h : GB P B) : GB P (folB P F E B) := by
  unfold folB; split
  · exact fltB_G ok hE (rowB_G ok hE.1 h _) _ (Nat.le_refl _)
  · exact rowB_G ok hE.1 h _
theorem stB_G {P : PT} (ok : POK P) : ∀ l, l ≤ 4 → GB P (stB P l) := by
  intro l
  induction l with
  | zero => intro _; exact ⟨by show 0 ≤ 5000; omega, fun i j _ hj => by have : j < 0 := hj; omega, fun j hj => by have : j < 0 := hj; omega⟩
  | succ l ih =>
    intro hl
    unfold stB
    split
    · exact insB_G (ih (by omega)) (okc_fs ok (by omega))
    · exact ih (by omega)
theorem bfs_G {P : PT} (ok : POK P) (F : Nat) : ∀ k, GB P (bfs P F k) := by
  intro k
  induction k with
  | zero => exact stB_G ok 4 (by omega)
  | succ k ih =>
    unfold bfs
    split
    · exact ih
    · rename_i h
      exact folB_G ok (ih.2.2 k (by omega)) ih
theorem bfs_x (P : PT) (F : Nat) : ∀ i j, i ≤ j → xtd (bfs P F i) (bfs P F j) := by
  intro i j hij
  induction j with
  | zero => have : i = 0 := by omega
            subst this; exact xtd_rf _
  | succ j ih =>
    by_cases h : i = j + 1
    · subst h; exact xtd_rf _
    · refine xtd_tr (ih (by omega)) ?_
      rw [bfs]
      split
      · exact xtd_rf _
      · exact folB_x _ _ _ _
/-- all is laid out -/
def BF (P : PT) (F : Nat) : BT := bfs P F 5000
/-- where it ends: spent, or all states are looked at -/
theorem bfs_end {P : PT} {F k : Nat} (h : (bfs P F k).2.2 = true ∨ (bfs P F k).1 ≤ k) : ∀ j, k ≤ j → bfs P F j = bfs P F k := by
  intro j hj
  induction j with
  | zero => have : k = 0 := by omega
            rw [this]
  | succ j ih =>
    by_cases hk : k = j + 1
    · rw [hk]
    · have e := ih (by omega)
      have h' : (bfs P F j).2.2 = true ∨ (bfs P F j).1 ≤ j := by
        rw [e]
        rcases h with z | z
        · exact .inl z
        · exact .inr (by omega)
      rw [bfs, if_pos h', e]
theorem BF_n {P : PT} (ok : POK P) (F : Nat) : (BF P F).1 ≤ 5000 := (bfs_G ok F 5000).1
theorem bfs_BF {P : PT} (ok : POK P) {F k : Nat} (h : (bfs P F k).2.2 = true ∨ (bfs P F k).1 ≤ k) (hk : k ≤ 5000) : bfs P F k = BF P F := (bfs_end h 5000 hk).symm
/-- a lead's code -/
def tg (P : PT) (f : Nat → Nat) (s i : Nat) : Nat := cd (gn P (f s % 2 ^ 54) i) (f s / 2 ^ 54)
/-- all leads ahead of p are there -/
def CLP (P : PT) (B : BT) (p : Nat) : Prop := ∀ s i, i < p_nm P → 8 * s + i < p → s < B.1 → oS P (B.2.1 s % 2 ^ 54) i = 0 → idx B.2.1 B.1 (tg P B.2.1 s i) < B.1
theorem CLP_x {P : PT} {B C : BT} {p : Nat} (hx : xtd B C) (h : CLP P B p) (hp : p ≤ 8 * B.1) : CLP P C p := by
  intro s i hi hs _ ho
  have hsB : s < B.1 := by omega
  rw [hx.2.1 s hsB] at ho
  have := h s i hi hs hsB ho
  have e : tg P C.2.1 s i = tg P B.2.1 s i := by unfold tg; rw [hx.2.1 s hsB]
  rw [e, idx_x hx this]
  have := hx.1
  omega
