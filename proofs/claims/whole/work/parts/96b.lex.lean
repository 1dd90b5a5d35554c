/-! the text's words -/
def btx (T : Nat → Nat) (L i : Nat) : Nat := if i < L then T i else 256
def isB (c : Nat) : Bool := decide (c = 32) || decide (c = 10)
def isL (c : Nat) : Bool := decide (97 ≤ c) && decide (c ≤ 122)
def isD (c : Nat) : Bool := decide (48 ≤ c) && decide (c ≤ 57)
def isS (c : Nat) : Bool := decide (c = 59) || decide (c = 40) || decide (c = 41) || decide (c = 60) || decide (c = 62) || decide (c = 61) || decide (c = 43) || decide (c = 45) || decide (c = 42)
def bv (c : Nat) : Int32 := if c < 256 then nI c else -1
def sbv (c : Nat) : Int32 := if c < 256 then sby c else -1
def LT (x : Int32) : Int32 := if x < 97 then 0 else if 122 < x then 0 else 1
def DG (x : Int32) : Int32 := if x < 48 then 0 else if 57 < x then 0 else 1
def SG (x : Int32) : Int32 := if x = 59 then 1 else if x = 40 then 1 else if x = 41 then 1 else if x = 60 then 1 else if x = 62 then 1 else if x = 61 then 1 else if x = 43 then 1 else if x = 45 then 1 else if x = 42 then 1 else 0
theorem LT_M (x : Int32) (h : HP) : f_M_isLetter x h = some (LT x, h) ∧ f_Rd_isLetter x h = some (LT x, h) := by
  unfold f_M_isLetter f_Rd_isLetter LT
  by_cases a : x < 97
  · rw [if_pos a, if_pos a]; exact ⟨rfl, rfl⟩
  · rw [if_neg a, if_neg a]
    by_cases b : 122 < x
    · rw [if_pos b, if_pos b]; exact ⟨rfl, rfl⟩
    · rw [if_neg b, if_neg b]; exact ⟨rfl, rfl⟩
theorem DG_M (x : Int32) (h : HP) : f_M_isDigit x h = some (DG x, h) ∧ f_Rd_isDigit x h = some (DG x, h) := by
  unfold f_M_isDigit f_Rd_isDigit DG
  by_cases a : x < 48
  · rw [if_pos a, if_pos a]; exact ⟨rfl, rfl⟩
  · rw [if_neg a, if_neg a]
    by_cases b : 57 < x
    · rw [if_pos b, if_pos b]; exact ⟨rfl, rfl⟩
    · rw [if_neg b, if_neg b]; exact ⟨rfl, rfl⟩
theorem SG_M (x : Int32) (h : HP) : f_M_isSign x h = some (SG x, h) ∧ f_Rd_isSign x h = some (SG x, h) := by
  unfold f_M_isSign f_Rd_isSign SG
  constructor
  all_goals (repeat' split)
  all_goals rfl
theorem byt : ∀ c : Fin 257, LT (bv c.1) = nI (if isL c.1 = true then 1 else 0) ∧ LT (sbv c.1) = nI (if isL c.1 = true then 1 else 0) ∧ DG (bv c.1) = nI (if isD c.1 = true then 1 else 0) ∧ DG (sbv c.1) = nI (if isD c.1 = true then 1 else 0) ∧ SG (bv c.1) = nI (if isS c.1 = true then 1 else 0) ∧ SG (sbv c.1) = nI (if isS c.1 = true then 1 else 0) ∧ (bv c.1 = 32 ↔ c.1 = 32) ∧ (bv c.1 = 10 ↔ c.1 = 10) ∧ (sbv c.1 = 32 ↔ c.1 = 32) ∧ (sbv c.1 = 10 ↔ c.1 = 10) ∧ (0 ≤ bv c.1 ↔ c.1 < 256) ∧ (c.1 < 128 → bv c.1 = nI c.1 ∧ sbv c.1 = nI c.1) := by decide +kernel
theorem bt_lt {T : Nat → Nat} {L : Nat} (hT : ∀ k, k < L → T k < 256) (i : Nat) : btx T L i < 257 := by
  unfold btx
  by_cases h : i < L
  · rw [if_pos h]; have := hT i h; omega
  · rw [if_neg h]; decide
theorem bt_in {T : Nat → Nat} {L i : Nat} (h : i < L) : btx T L i = T i := if_pos h
theorem bt_out {T : Nat → Nat} {L i : Nat} (h : L ≤ i) : btx T L i = 256 := if_neg (by omega)
def sk (T : Nat → Nat) (L a : Nat) : Nat := a + fa_first (fun d => !isB (btx T L (a + d))) (L - a)
def wl (T : Nat → Nat) (L s : Nat) : Nat := fa_first (fun d => !isL (btx T L (s + d))) (L - s)
def dl (T : Nat → Nat) (L s : Nat) : Nat := fa_first (fun d => !isD (btx T L (s + d))) (L - s)
def wW (f : Nat → Nat) : Nat → Nat
  | 0 => 0
  | n + 1 => wW f n * 256 + f n
def wV (f : Nat → Nat) : Nat → Nat
  | 0 => 0
  | n + 1 => wV f n * 32 + (f n - 96)
def wN (f : Nat → Nat) : Nat → Nat
  | 0 => 0
  | n + 1 => wN f n * 10 + (f n - 48)
def wkd (W : Nat) : Nat := fa_first (fun j => decide (W = cst j)) 20
def lk (T : Nat → Nat) (L a : Nat) : Nat := if isL (btx T L (sk T L a)) = true then (if wl T L (sk T L a) ≤ 8 then wkd (wW (fun i => T (sk T L a + i)) (wl T L (sk T L a))) else 23) else if isD (btx T L (sk T L a)) = true then (if dl T L (sk T L a) ≤ 4 ∧ isL (btx T L (sk T L a + dl T L (sk T L a))) = false then 21 else 23) else if isS (btx T L (sk T L a)) = true then btx T L (sk T L a) else if btx T L (sk T L a) = 256 then 22 else 23
def lnx (T : Nat → Nat) (L a : Nat) : Nat := if isL (btx T L (sk T L a)) = true then sk T L a + wl T L (sk T L a) else if isD (btx T L (sk T L a)) = true then sk T L a + dl T L (sk T L a) else if sk T L a < L then sk T L a + 1 else sk T L a
def lp (T : Nat → Nat) (L : Nat) : Nat → Nat
  | 0 => 0
  | k + 1 => lnx T L (lp T L k)
def lN_ (T : Nat → Nat) (L : Nat) : Nat := fa_first (fun k => decide (lk T L (lp T L k) = 22) || decide (lk T L (lp T L k) = 23)) 1401
def TKn (T : Nat → Nat) (L N : Nat) : TKS := (fun k => lk T L (lp T L k), fun k => sk T L (lp T L k), fun k => if lk T L (lp T L k) = 21 then wN (fun i => T (sk T L (lp T L k) + i)) (dl T L (sk T L (lp T L k))) else 0, fun k => wW (fun i => T (sk T L (lp T L k) + i)) (wl T L (sk T L (lp T L k))), fun k => if lk T L (lp T L k) ≤ 20 then wV (fun i => T (sk T L (lp T L k) + i)) (wl T L (sk T L (lp T L k))) else 0, N)
def TKL (T : Nat → Nat) (L : Nat) : TKS := TKn T L (lN_ T L)
theorem sk_le {T : Nat → Nat} {L a : Nat} (h : a ≤ L) : a ≤ sk T L a ∧ sk T L a ≤ L := by
  have := fa_first_le (fun d => !isB (btx T L (a + d))) (L - a)
  unfold sk; omega
theorem wl_le (T : Nat → Nat) (L s : Nat) : wl T L s ≤ L - s := fa_first_le _ _
theorem dl_le (T : Nat → Nat) (L s : Nat) : dl T L s ≤ L - s := fa_first_le _ _
theorem wl_pos {T : Nat → Nat} {L s : Nat} (h : isL (btx T L s) = true) : 0 < wl T L s ∧ s < L := by
  have hs : s < L := by
    refine Nat.lt_of_not_le (fun z => ?_)
    rw [bt_out z] at h; exact absurd h (by decide)
  refine ⟨Nat.pos_of_ne_zero (fun z => ?_), hs⟩
  have := fa_first_yes (fun d => !isL (btx T L (s + d))) (L - s) (by show wl T L s < L - s; omega)
  have e : fa_first (fun d => !isL (btx T L (s + d))) (L - s) = 0 := z
  rw [e] at this
  simp only [Nat.add_zero, h] at this
  exact absurd this (by decide)
theorem dl_pos {T : Nat → Nat} {L s : Nat} (h : isD (btx T L s) = true) : 0 < dl T L s ∧ s < L := by
  have hs : s < L := by
    refine Nat.lt_of_not_le (fun z => ?_)
    rw [bt_out z] at h; exact absurd h (by decide)
  refine ⟨Nat.pos_of_ne_zero (fun z => ?_), hs⟩
  have := fa_first_yes (fun d => !isD (btx T L (s + d))) (L - s) (by show dl T L s < L - s; omega)
  have e : fa_first (fun d => !isD (btx T L (s + d))) (L - s) = 0 := z
  rw [e] at this
  simp only [Nat.add_zero, h] at this
  exact absurd this (by decide)
theorem wl_in {T : Nat → Nat} {L s i : Nat} (h : i < wl T L s) : isL (btx T L (s + i)) = true ∧ s + i < L := by
  have h1 := fa_first_no (fun d => !isL (btx T L (s + d))) (L - s) i h
  have h2 := wl_le T L s
  refine ⟨?_, by omega⟩
  try dsimp only at h1
  cases z : isL (btx T L (s + i))
  · rw [z] at h1; exact absurd h1 (by decide)
  · rfl
theorem dl_in {T : Nat → Nat} {L s i : Nat} (h : i < dl T L s) : isD (btx T L (s + i)) = true ∧ s + i < L := by
  have h1 := fa_first_no (fun d => !isD (btx T L (s + d))) (L - s) i h
  have h2 := dl_le T L s
  refine ⟨?_, by omega⟩
  try dsimp only at h1
  cases z : isD (btx T L (s + i))
  · rw [z] at h1; exact absurd h1 (by decide)
  · rfl
theorem wl_end {T : Nat → Nat} {L s : Nat} (hs : s ≤ L) : isL (btx T L (s + wl T L s)) = false := by
  by_cases z : wl T L s < L - s
  · have := fa_first_yes (fun d => !isL (btx T L (s + d))) (L - s) z
    try dsimp only at this
    have e : fa_first (fun d => !isL (btx T L (s + d))) (L - s) = wl T L s := rfl
    rw [e] at this
    cases y : isL (btx T L (s + wl T L s))
    · rfl
    · rw [y] at this; exact absurd this (by decide)
  · rw [bt_out (by omega)]; rfl
theorem dl_end {T : Nat → Nat} {L s : Nat} (hs : s ≤ L) : isD (btx T L (s + dl T L s)) = false := by
  by_cases z : dl T L s < L - s
  · have := fa_first_yes (fun d => !isD (btx T L (s + d))) (L - s) z
    try dsimp only at this
    have e : fa_first (fun d => !isD (btx T L (s + d))) (L - s) = dl T L s := rfl
    rw [e] at this
    cases y : isD (btx T L (s + dl T L s))
    · rfl
    · rw [y] at this; exact absurd this (by decide)
  · rw [bt_out (by omega)]; rfl
theorem isL_r {c : Nat} : isL c = true ↔ 97 ≤ c ∧ c ≤ 122 := by unfold isL; simp
theorem isD_r {c : Nat} : isD c = true ↔ 48 ≤ c ∧ c ≤ 57 := by unfold isD; simp
theorem isS_r {c : Nat} : isS c = true ↔ c = 59 ∨ c = 40 ∨ c = 41 ∨ c = 60 ∨ c = 62 ∨ c = 61 ∨ c = 43 ∨ c = 45 ∨ c = 42 := by unfold isS; simp [or_assoc]
theorem wk_le (W : Nat) : wkd W ≤ 20 := fa_first_le _ _
theorem cst_inj : ∀ i j : Fin 20, cst i.1 = cst j.1 → i = j := by decide
theorem wk_iff {W j : Nat} (hj : j < 20) : W = cst j ↔ wkd W = j := by
  constructor
  · intro h
    refine first_eq hj (decide_eq_true h) (fun i hi => decide_eq_false (fun z => ?_))
    have := cst_inj ⟨i, by omega⟩ ⟨j, hj⟩ (z.symm.trans h)
    have : i = j := congrArg Fin.val this
    omega
  · intro h
    have := fa_first_yes (fun j => decide (W = cst j)) 20 (by show wkd W < 20; omega)
    have e : fa_first (fun j => decide (W = cst j)) 20 = j := h
    rw [e] at this
    exact of_decide_eq_true this
/-- what a word's kind says -/
theorem lk_cases {T : Nat → Nat} {L a : Nat} : (isL (btx T L (sk T L a)) = true ∧ wl T L (sk T L a) ≤ 8 ∧ lk T L a = wkd (wW (fun i => T (sk T L a + i)) (wl T L (sk T L a))) ∧ lk T L a ≤ 20) ∨ (isD (btx T L (sk T L a)) = true ∧ isL (btx T L (sk T L a)) = false ∧ dl T L (sk T L a) ≤ 4 ∧ lk T L a = 21) ∨ (isS (btx T L (sk T L a)) = true ∧ isL (btx T L (sk T L a)) = false ∧ isD (btx T L (sk T L a)) = false ∧ lk T L a = btx T L (sk T L a)) ∨ (btx T L (sk T L a) = 256 ∧ lk T L a = 22) ∨ lk T L a = 23 := by
  unfold lk
  cases z1 : isL (btx T L (sk T L a))
  · rw [if_neg (by decide)]
    cases z2 : isD (btx T L (sk T L a))
    · rw [if_neg (by decide)]
      cases z3 : isS (btx T L (sk T L a))
      · rw [if_neg (by decide)]
        by_cases z4 : btx T L (sk T L a) = 256
        · rw [if_pos z4]; exact .inr (.inr (.inr (.inl ⟨z4, rfl⟩)))
        · rw [if_neg z4]; exact .inr (.inr (.inr (.inr rfl)))
      · rw [if_pos rfl]; exact .inr (.inr (.inl ⟨rfl, rfl, rfl, rfl⟩))
    · rw [if_pos rfl]
      by_cases z4 : dl T L (sk T L a) ≤ 4 ∧ isL (btx T L (sk T L a + dl T L (sk T L a))) = false
      · rw [if_pos z4]; exact .inr (.inl ⟨rfl, rfl, z4.1, rfl⟩)
      · rw [if_neg z4]; exact .inr (.inr (.inr (.inr rfl)))
  · rw [if_pos rfl]
    by_cases z4 : wl T L (sk T L a) ≤ 8
    · rw [if_pos z4]; exact .inl ⟨rfl, z4, rfl, wk_le _⟩
    · rw [if_neg z4]; exact .inr (.inr (.inr (.inr rfl)))
theorem lnx_b {T : Nat → Nat} {L a : Nat} (h : a ≤ L) : a ≤ lnx T L a ∧ lnx T L a ≤ L ∧ (lk T L a ≠ 22 → lk T L a ≠ 23 → a < lnx T L a) := by
  have hs := sk_le (T := T) h
  have h1 := wl_le T L (sk T L a)
  have h2 := dl_le T L (sk T L a)
  unfold lnx
  cases z1 : isL (btx T L (sk T L a))
  · rw [if_neg (by decide)]
    cases z2 : isD (btx T L (sk T L a))
    · rw [if_neg (by decide)]
      by_cases z3 : sk T L a < L
      · rw [if_pos z3]; exact ⟨by omega, by omega, fun _ _ => by omega⟩
      · rw [if_neg z3]
        refine ⟨by omega, by omega, fun y1 y2 => ?_⟩
        have hb : btx T L (sk T L a) = 256 := bt_out (by omega)
        exfalso
        apply y1
        unfold lk
        rw [hb]; rfl
    · rw [if_pos rfl]
      have := dl_pos z2
      exact ⟨by omega, by omega, fun _ _ => by omega⟩
  · rw [if_pos rfl]
    have := wl_pos z1
    exact ⟨by omega, by omega, fun _ _ => by omega⟩
theorem lp_le (T : Nat → Nat) (L : Nat) : ∀ k, lp T L k ≤ L := by
  intro k
  induction k with
  | zero => exact Nat.zero_le _
  | succ k ih => exact (lnx_b ih).2.1
theorem lp_ge {T : Nat → Nat} {L : Nat} : ∀ k, k ≤ lN_ T L → k ≤ lp T L k := by
  intro k
  induction k with
  | zero => intro _; exact Nat.zero_le _
  | succ k ih =>
    intro h
    have h1 := ih (by omega)
    have h2 := fa_first_no (fun k => decide (lk T L (lp T L k) = 22) || decide (lk T L (lp T L k) = 23)) 1401 k h
    simp only [Bool.or_eq_false_iff, decide_eq_false_iff_not] at h2
    have := (lnx_b (lp_le T L k)).2.2 h2.1 h2.2
    show k + 1 ≤ lnx T L (lp T L k)
    omega
theorem wW_b {f : Nat → Nat} : ∀ n, (∀ i, i < n → 97 ≤ f i ∧ f i ≤ 122) → n ≤ 8 → wW f n < 2 ^ (8 * n) ∧ (0 < n → 2 * wW f n < 2 ^ (8 * n)) := by
  intro n
  induction n with
  | zero => intro _ _; exact ⟨show 0 < 2 ^ (8 * 0) by decide, fun h => absurd h (by decide)⟩
  | succ n ih =>
    intro h hn
    obtain ⟨i1, i2⟩ := ih (fun i hi => h i (by omega)) (by omega)
    have hf := h n (by omega)
    have e : 2 ^ (8 * (n + 1)) = 2 ^ (8 * n) * 256 := by rw [show 8 * (n + 1) = 8 * n + 8 by omega, Nat.pow_add]
    rw [e]
    show wW f n * 256 + f n < _ ∧ (_ → 2 * (wW f n * 256 + f n) < _)
    refine ⟨by omega, fun _ => ?_⟩
    by_cases z : n = 0
    · subst z
      have : wW f 0 = 0 := rfl
      rw [this]
      show 2 * (0 * 256 + f 0) < 2 ^ (8 * 0) * 256
      simp only [Nat.reducePow, Nat.reduceMul]
      omega
    · have := i2 (by omega)
      omega
theorem wV_b {f : Nat → Nat} : ∀ n, (∀ i, i < n → 97 ≤ f i ∧ f i ≤ 122) → wV f n < 32 ^ n := by
  intro n
  induction n with
  | zero => intro _; exact (show 0 < 32 ^ 0 by decide)
  | succ n ih =>
    intro h
    have i1 := ih (fun i hi => h i (by omega))
    have hf := h n (by omega)
    rw [Nat.pow_succ]
    show wV f n * 32 + (f n - 96) < _
    omega
theorem wN_b {f : Nat → Nat} : ∀ n, (∀ i, i < n → 48 ≤ f i ∧ f i ≤ 57) → wN f n < 10 ^ n := by
  intro n
  induction n with
  | zero => intro _; exact (show 0 < 10 ^ 0 by decide)
  | succ n ih =>
    intro h
    have i1 := ih (fun i hi => h i (by omega))
    have hf := h n (by omega)
    rw [Nat.pow_succ]
    show wN f n * 10 + (f n - 48) < _
    omega
theorem WV_iff {f g : Nat → Nat} : ∀ n k, (∀ i, i < n → 97 ≤ f i ∧ f i ≤ 122) → (∀ i, i < k → 97 ≤ g i ∧ g i ≤ 122) → (wW f n = wW g k ↔ wV f n = wV g k) := by
  intro n
  induction n with
  | zero =>
    intro k _ hg
    cases k with
    | zero => exact ⟨fun _ => rfl, fun _ => rfl⟩
    | succ k =>
      have := hg k (by omega)
      constructor
      · intro h
        have h : 0 = wW g k * 256 + g k := h
        omega
      · intro h
        have h : 0 = wV g k * 32 + (g k - 96) := h
        omega
  | succ n ih =>
    intro k hf hg
    have hn := hf n (by omega)
    cases k with
    | zero =>
      constructor
      · intro h
        have h : wW f n * 256 + f n = 0 := h
        omega
      · intro h
        have h : wV f n * 32 + (f n - 96) = 0 := h
        omega
    | succ k =>
      have hk := hg k (by omega)
      have i := ih k (fun i hi => hf i (by omega)) (fun i hi => hg i (by omega))
      constructor
      · intro h
        have h : wW f n * 256 + f n = wW g k * 256 + g k := h
        have e1 : wW f n = wW g k := by omega
        have e2 : f n = g k := by omega
        show wV f n * 32 + (f n - 96) = wV g k * 32 + (g k - 96)
        rw [i.mp e1, e2]
      · intro h
        have h : wV f n * 32 + (f n - 96) = wV g k * 32 + (g k - 96) := h
        have e1 : wV f n = wV g k := by omega
        have e2 : f n = g k := by omega
        show wW f n * 256 + f n = wW g k * 256 + g k
        rw [i.mpr e1, e2]
theorem wd_let {T : Nat → Nat} {L s : Nat} : ∀ i, i < wl T L s → 97 ≤ T (s + i) ∧ T (s + i) ≤ 122 := fun i hi => by
  obtain ⟨h1, h2⟩ := wl_in hi
  rw [bt_in h2] at h1
  exact isL_r.mp h1
theorem nd_dig {T : Nat → Nat} {L s : Nat} : ∀ i, i < dl T L s → 48 ≤ T (s + i) ∧ T (s + i) ≤ 57 := fun i hi => by
  obtain ⟨h1, h2⟩ := dl_in hi
  rw [bt_in h2] at h1
  exact isD_r.mp h1
theorem lNx_le {T : Nat → Nat} {L : Nat} (hL : L ≤ 1400) : lN_ T L ≤ 1400 := by
  have h1 := lp_ge (T := T) (L := L) (lN_ T L) (Nat.le_refl _)
  have h2 := lp_le T L (lN_ T L)
  omega
theorem TKn_ok {T : Nat → Nat} {L N : Nat} (hL : L ≤ 1400) (hN : N ≤ 1400) (hn1 : ∀ k, k < N → lk T L (lp T L k) ≠ 22 ∧ lk T L (lp T L k) ≠ 23) (hn2 : lk T L (lp T L N) = 22 ∨ lk T L (lp T L N) = 23) : TKO (TKn T L N) := by
  have wd : ∀ k, lk T L (lp T L k) ≤ 20 → wl T L (sk T L (lp T L k)) ≤ 8 ∧ lk T L (lp T L k) = wkd (wW (fun i => T (sk T L (lp T L k) + i)) (wl T L (sk T L (lp T L k)))) := by
    intro k hk
    rcases lk_cases (T := T) (L := L) (a := lp T L k) with ⟨_, h2, h3, _⟩ | ⟨_, _, _, h⟩ | ⟨h1, _, _, h⟩ | ⟨_, h⟩ | h
    · exact ⟨h2, h3⟩
    · omega
    · have := isS_r.mp h1; omega
    · omega
    · omega
  refine ⟨hN, hn1, hn2, fun k hk => ⟨?_, ?_, ?_, ?_, ?_⟩, fun k hk h20 => ⟨?_, fun j hj => ?_⟩, fun k j hk hj h1 h2 => ?_⟩
  · show lk T L (lp T L k) < 64
    rcases lk_cases (T := T) (L := L) (a := lp T L k) with ⟨_, _, _, h⟩ | ⟨_, _, _, h⟩ | ⟨h1, _, _, h⟩ | ⟨_, h⟩ | h
    · omega
    · omega
    · have := isS_r.mp h1; omega
    · omega
    · omega
  · show sk T L (lp T L k) ≤ 1400
    have := (sk_le (T := T) (lp_le T L k)).2; omega
  · show (if lk T L (lp T L k) = 21 then _ else 0) ≤ 9999
    by_cases z : lk T L (lp T L k) = 21
    · rw [if_pos z]
      rcases lk_cases (T := T) (L := L) (a := lp T L k) with ⟨_, _, _, h⟩ | ⟨_, _, h4, h⟩ | ⟨h1, _, _, h⟩ | ⟨_, h⟩ | h
      · omega
      · have h5 := wN_b _ (nd_dig (T := T) (L := L) (s := sk T L (lp T L k)))
        have h6 : 10 ^ dl T L (sk T L (lp T L k)) ≤ 10 ^ 4 := Nat.pow_le_pow_right (by decide) h4
        simp only [Nat.reducePow] at h6
        have h7 : wN (fun i => T (sk T L (lp T L k) + i)) (dl T L (sk T L (lp T L k))) < 10 ^ dl T L (sk T L (lp T L k)) := h5
        omega
      · have := isS_r.mp h1; omega
      · omega
      · omega
    · rw [if_neg z]; decide
  · intro z
    show (if lk T L (lp T L k) = 21 then _ else 0) = 0
    rw [if_neg (show ¬ lk T L (lp T L k) = 21 from z)]
  · show (if lk T L (lp T L k) ≤ 20 then _ else 0) < 2 ^ 41
    by_cases z : lk T L (lp T L k) ≤ 20
    · rw [if_pos z]
      have h5 := wV_b _ (wd_let (T := T) (L := L) (s := sk T L (lp T L k)))
      have h6 : 32 ^ wl T L (sk T L (lp T L k)) ≤ 32 ^ 8 := Nat.pow_le_pow_right (by decide) (wd k z).1
      simp only [Nat.reducePow] at h6 ⊢
      have h7 : wV (fun i => T (sk T L (lp T L k) + i)) (wl T L (sk T L (lp T L k))) < 32 ^ wl T L (sk T L (lp T L k)) := h5
      omega
    · rw [if_neg z]; decide
  · obtain ⟨a1, a2⟩ := wd k h20
    have h5 := wW_b _ (wd_let (T := T) (L := L) (s := sk T L (lp T L k))) a1
    show wW (fun i => T (sk T L (lp T L k) + i)) (wl T L (sk T L (lp T L k))) < 2 ^ 63
    have h6 : 2 ^ (8 * wl T L (sk T L (lp T L k))) ≤ 2 ^ 64 := Nat.pow_le_pow_right (by decide) (by omega)
    by_cases z : 0 < wl T L (sk T L (lp T L k))
    · have := h5.2 z
      have h8 : 2 * wW (fun i => T (sk T L (lp T L k) + i)) (wl T L (sk T L (lp T L k))) < 2 ^ (8 * wl T L (sk T L (lp T L k))) := this
      simp only [Nat.reducePow] at h6 ⊢
      omega
    · rw [show wl T L (sk T L (lp T L k)) = 0 by omega]; exact (show 0 < 2 ^ 63 by decide)
  · obtain ⟨a1, a2⟩ := wd k h20
    show wW (fun i => T (sk T L (lp T L k) + i)) (wl T L (sk T L (lp T L k))) = cst j ↔ lk T L (lp T L k) = j
    rw [a2]; exact wk_iff hj
  · have h1 : lk T L (lp T L k) ≤ 20 := h1
    have h2 : lk T L (lp T L j) ≤ 20 := h2
    show wW _ _ = wW _ _ ↔ (if lk T L (lp T L k) ≤ 20 then wV _ _ else 0) = (if lk T L (lp T L j) ≤ 20 then wV _ _ else 0)
    rw [if_pos h1, if_pos h2]
    exact WV_iff _ _ wd_let wd_let
theorem TKL_ok {T : Nat → Nat} {L : Nat} (hL : L ≤ 1400) : TKO (TKL T L) := by
  have hN := lNx_le (T := T) hL
  unfold TKL
  refine TKn_ok hL hN (fun k hk => ?_) ?_
  · have h2 := fa_first_no (fun k => decide (lk T L (lp T L k) = 22) || decide (lk T L (lp T L k) = 23)) 1401 k hk
    simp only [Bool.or_eq_false_iff, decide_eq_false_iff_not] at h2
    exact h2
  · have h2 := fa_first_yes (fun k => decide (lk T L (lp T L k) = 22) || decide (lk T L (lp T L k) = 23)) 1401 (by show lN_ T L < 1401; omega)
    simp only [Bool.or_eq_true, decide_eq_true_eq] at h2
    exact h2
