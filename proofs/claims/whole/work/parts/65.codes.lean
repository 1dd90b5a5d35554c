/-! a state as one number: lamps, day, and eight bits a man -/
def upN (f : Nat → Nat) (k v : Nat) : Nat → Nat := fun j => if j = k then v else f j
theorem upN_s (f : Nat → Nat) (k v : Nat) : upN f k v k = v := if_pos rfl
theorem upN_n {f : Nat → Nat} {k v j : Nat} (h : j ≠ k) : upN f k v j = f j := if_neg h
def ex (l d : Nat) (o : Nat → Nat) : Nat := l + 4 * d + 64 * (o 0 + 256 * (o 1 + 256 * (o 2 + 256 * (o 3 + 256 * (o 4 + 256 * o 5)))))
def lm (N : Nat) : Nat := N % 4
def dy (N : Nat) : Nat := N / 4 % 16
def ow (N i : Nat) : Nat := N / 2 ^ (6 + 8 * i) % 256
def hd (N i : Nat) : Nat := ow N i % 32
def vs (N i : Nat) : Nat := ow N i / 32 % 4
def be (N i : Nat) : Nat := ow N i / 128
theorem six {i : Nat} (h : i < 6) : i = 0 ∨ i = 1 ∨ i = 2 ∨ i = 3 ∨ i = 4 ∨ i = 5 := by omega
theorem lm_lt (N : Nat) : lm N < 4 := Nat.mod_lt _ (by decide)
theorem dy_lt (N : Nat) : dy N < 16 := Nat.mod_lt _ (by decide)
theorem ow_lt (N i : Nat) : ow N i < 256 := Nat.mod_lt _ (by decide)
theorem hd_lt (N i : Nat) : hd N i < 32 := Nat.mod_lt _ (by decide)
theorem vs_lt (N i : Nat) : vs N i < 4 := Nat.mod_lt _ (by decide)
theorem be_lt (N i : Nat) : be N i < 2 := by have := ow_lt N i; unfold be; omega
theorem ow_eq (N i : Nat) : ow N i = hd N i + 32 * vs N i + 128 * be N i := by have := ow_lt N i; unfold hd vs be; omega
theorem ex_lt {l d : Nat} {o : Nat → Nat} (hl : l < 4) (hd : d < 16) (ho : ∀ i, i < 6 → o i < 256) : ex l d o < 2 ^ 54 := by
  have h0 := ho 0 (by decide); have h1 := ho 1 (by decide); have h2 := ho 2 (by decide)
  have h3 := ho 3 (by decide); have h4 := ho 4 (by decide); have h5 := ho 5 (by decide)
  unfold ex; omega
theorem ex_lm {l d : Nat} {o : Nat → Nat} (hl : l < 4) : lm (ex l d o) = l := by
  unfold lm ex; omega
theorem ex_dy {l d : Nat} {o : Nat → Nat} (hl : l < 4) (hd : d < 16) : dy (ex l d o) = d := by
  unfold dy ex; omega
theorem ex_ow {l d : Nat} {o : Nat → Nat} (hl : l < 4) (hd : d < 16) (ho : ∀ i, i < 6 → o i < 256) {i : Nat} (hi : i < 6) : ow (ex l d o) i = o i := by
  have h0 := ho 0 (by decide); have h1 := ho 1 (by decide); have h2 := ho 2 (by decide)
  have h3 := ho 3 (by decide); have h4 := ho 4 (by decide); have h5 := ho 5 (by decide)
  rcases six hi with rfl | rfl | rfl | rfl | rfl | rfl <;> (unfold ow ex; simp only [Nat.reduceMul, Nat.reduceAdd, Nat.reducePow]; omega)
theorem ex_eta {N : Nat} (h : N < 2 ^ 54) : ex (lm N) (dy N) (ow N) = N := by
  unfold ex lm dy ow; simp only [Nat.reduceMul, Nat.reduceAdd, Nat.reducePow] at *; omega
theorem ex_cong {l d : Nat} {o o' : Nat → Nat} (h : ∀ i, i < 6 → o i = o' i) : ex l d o = ex l d o' := by
  unfold ex
  rw [h 0 (by decide), h 1 (by decide), h 2 (by decide), h 3 (by decide), h 4 (by decide), h 5 (by decide)]
theorem ex_ext {N M : Nat} (hN : N < 2 ^ 54) (hM : M < 2 ^ 54) (h1 : lm N = lm M) (h2 : dy N = dy M) (h3 : ∀ i, i < 6 → ow N i = ow M i) : N = M := by
  rw [← ex_eta hN, ← ex_eta hM, h1, h2, ex_cong h3]
/-! bits put in -/
theorem bs_nat {N k w v : Nat} (hv : v < 2 ^ w) (hk : k + w ≤ 64) (hN : N < 2 ^ 64) : (N &&& (2 ^ 64 - ((2 ^ w - 1) * 2 ^ k + 1))) ||| v * 2 ^ k = N % 2 ^ k + v * 2 ^ k + N / 2 ^ (k + w) * 2 ^ (k + w) := by
  have e1 : N % 2 ^ k + v * 2 ^ k + N / 2 ^ (k + w) * 2 ^ (k + w) = 2 ^ (k + w) * (N / 2 ^ (k + w)) + (2 ^ k * v + N % 2 ^ k) := by
    rw [Nat.mul_comm v, Nat.mul_comm (N / _)]; omega
  have hb : N % 2 ^ k < 2 ^ k := Nat.mod_lt _ (Nat.two_pow_pos k)
  have hm : 2 ^ k * v + N % 2 ^ k < 2 ^ (k + w) := by
    have : 2 ^ k * v + 2 ^ k ≤ 2 ^ k * 2 ^ w := by
      have := Nat.mul_le_mul_left (2 ^ k) (show v + 1 ≤ 2 ^ w from hv)
      rw [Nat.mul_add, Nat.mul_one] at this
      exact this
    rw [Nat.pow_add]; omega
  have hx : (2 ^ w - 1) * 2 ^ k < 2 ^ 64 := by
    have h1 : (2 ^ w - 1) * 2 ^ k < 2 ^ w * 2 ^ k := Nat.mul_lt_mul_of_pos_right (by have := Nat.two_pow_pos w; omega) (Nat.two_pow_pos k)
    have h2 : 2 ^ w * 2 ^ k ≤ 2 ^ 64 := by rw [← Nat.pow_add]; exact Nat.pow_le_pow_right (by decide) (by omega)
    omega
  apply Nat.eq_of_testBit_eq
  intro i
  rw [e1, Nat.testBit_two_pow_mul_add _ hm, Nat.testBit_two_pow_mul_add _ hb, Nat.testBit_or, Nat.testBit_and, Nat.testBit_two_pow_sub_succ hx, Nat.testBit_mul_two_pow, Nat.testBit_mul_two_pow, Nat.testBit_two_pow_sub_one, Nat.testBit_mod_two_pow, Nat.testBit_div_two_pow]
  by_cases hi : i < k
  · have a1 : i < k + w := by omega
    have a2 : i < 64 := by omega
    have a3 : ¬ k ≤ i := by omega
    simp [hi, a1, a2, a3]
  · by_cases hj : i < k + w
    · have a2 : i < 64 := by omega
      have a3 : k ≤ i := by omega
      have a4 : i - k < w := by omega
      simp [hi, hj, a2, a3, a4]
    · have a3 : k ≤ i := by omega
      have a4 : ¬ i - k < w := by omega
      have a5 : v.testBit (i - k) = false := Nat.testBit_lt_two_pow (Nat.lt_of_lt_of_le hv (Nat.pow_le_pow_right (by decide) (by omega)))
      have a6 : i - (k + w) + (k + w) = i := by omega
      simp only [hi, hj, a3, a4, a5, a6, if_false, decide_false, decide_true, Bool.and_false, Bool.not_false, Bool.and_true, Bool.or_false]
      by_cases a2 : i < 64
      · simp [a2]
      · have : N.testBit i = false := Nat.testBit_lt_two_pow (Nat.lt_of_lt_of_le hN (Nat.pow_le_pow_right (by decide) (by omega)))
        simp [this]
theorem bs_l {N k w v : Nat} {M V : Int64} (hM : M = lN (2 ^ 64 - ((2 ^ w - 1) * 2 ^ k + 1))) (hV : V = lN (v * 2 ^ k)) (hv : v < 2 ^ w) (hk : k + w ≤ 64) (hN : N < 2 ^ 64) : (lN N &&& M) ||| V = lN (N % 2 ^ k + v * 2 ^ k + N / 2 ^ (k + w) * 2 ^ (k + w)) := by
  rw [hM, hV, fb_andL, fb_orL, bs_nat hv hk hN]
theorem sh8 (i c : Nat) : (6 : Int32) + (8 : Int32) * nI i + nI c = nI (6 + 8 * i + c) := by
  rw [show (8 : Int32) = nI 8 from rfl, show (6 : Int32) = nI 6 from rfl, pk_mul, nI_add, nI_add]
theorem sh8' (i : Nat) : (6 : Int32) + (8 : Int32) * nI i = nI (6 + 8 * i) := by
  rw [show (8 : Int32) = nI 8 from rfl, show (6 : Int32) = nI 6 from rfl, pk_mul, nI_add]
theorem X_lamps (N : Nat) (h : HP) : f_St_lampsOf (lN N) h = some (nI (lm N), h) := by
  unfold f_St_lampsOf; rw [lN_i, show (3 : Int32) = nI (2 ^ 2 - 1) from rfl, fa_mask]; rfl
theorem X_day {N : Nat} (hN : N < 2 ^ 54) (h : HP) : f_St_dayOf (lN N) h = some (nI (dy N), h) := by
  unfold f_St_dayOf
  rw [show (2 : Int32) = nI 2 from rfl, wb_shr (by omega) (by decide), lN_i, show (15 : Int32) = nI (2 ^ 4 - 1) from rfl, fa_mask]; rfl
theorem X_held {N i : Nat} (hN : N < 2 ^ 54) (hi : i < 6) (h : HP) : f_St_heldBy (lN N) (nI i) h = some (nI (hd N i), h) := by
  unfold f_St_heldBy
  rw [sh8', wb_shr (by omega) (by omega), lN_i, show (31 : Int32) = nI (2 ^ 5 - 1) from rfl, fa_mask]
  unfold hd ow
  rw [Nat.mod_mod_of_dvd _ (by decide)]
theorem X_vis {N i : Nat} (hN : N < 2 ^ 54) (hi : i < 6) (h : HP) : f_St_visitsOf (lN N) (nI i) h = some (nI (vs N i), h) := by
  unfold f_St_visitsOf
  rw [show (5 : Int32) = nI 5 from rfl, sh8, wb_shr (by omega) (by omega), lN_i, show (3 : Int32) = nI (2 ^ 2 - 1) from rfl, fa_mask]
  unfold vs ow
  congr 3
  rcases six hi with rfl | rfl | rfl | rfl | rfl | rfl <;> (simp only [Nat.reduceMul, Nat.reduceAdd, Nat.reducePow]; omega)
theorem X_been {N i : Nat} (hN : N < 2 ^ 54) (hi : i < 6) (h : HP) : f_St_hasBeen (lN N) (nI i) h = some (nI (be N i), h) := by
  unfold f_St_hasBeen
  rw [show (7 : Int32) = nI 7 from rfl, sh8, wb_bit (by omega) (by omega)]
  have e : N / 2 ^ (6 + 8 * i + 7) % 2 = be N i := by
    unfold be ow
    rcases six hi with rfl | rfl | rfl | rfl | rfl | rfl <;> (simp only [Nat.reduceMul, Nat.reduceAdd, Nat.reducePow]; omega)
  rw [e]
  have h2 : be N i = 0 ∨ be N i = 1 := by have := be_lt N i; omega
  rcases h2 with h2 | h2 <;> rw [h2]
  · rw [if_pos (by decide)]; rfl
  · rw [if_neg (by decide)]; rfl
theorem X_wlamps {N l : Nat} (hN : N < 2 ^ 54) (hl : l < 4) (h : HP) : f_St_withLamps (lN N) (nI l) h = some (lN (ex l (dy N) (ow N)), h) := by
  unfold f_St_withLamps
  have e1 : (nI l &&& (3 : Int32)).toInt64 = lN (l * 2 ^ 0) := by
    rw [show (3 : Int32) = nI (2 ^ 2 - 1) from rfl, fa_mask, nI_l (by omega)]
    rw [Nat.mod_eq_of_lt (by omega)]; simp
  rw [bs_l (k := 0) (w := 2) (v := l) (by decide) e1 (by omega) (by decide) (by omega)]
  congr 3
  unfold ex dy ow; simp only [Nat.reduceMul, Nat.reduceAdd, Nat.reducePow] at *; omega
theorem X_wday {N d : Nat} (hN : N < 2 ^ 54) (hd : d < 16) (h : HP) : f_St_withDay (lN N) (nI d) h = some (lN (ex (lm N) d (ow N)), h) := by
  unfold f_St_withDay
  have e1 : ((nI d).toInt64 &&& (15 : Int64)) <<< (((2 : Int32)).toInt64 &&& 63) = lN (d * 2 ^ 2) := by
    rw [nI_l (by omega), show (15 : Int64) = lN (2 ^ 4 - 1) from rfl, fb_maskL, show (2 : Int32) = nI 2 from rfl, wb_shl _ (by decide)]
    rw [Nat.mod_eq_of_lt (by omega)]
  rw [bs_l (k := 2) (w := 4) (v := d) (by decide) e1 (by omega) (by decide) (by omega)]
  congr 3
  unfold ex lm ow; simp only [Nat.reduceMul, Nat.reduceAdd, Nat.reducePow] at *; omega
theorem X_wmind {N i a v : Nat} (hN : N < 2 ^ 54) (hi : i < 6) (ha : a < 32) (hv : v < 4) (h : HP) : f_St_withMind (lN N) (nI i) (nI a) (nI v) h = some (lN (ex (lm N) (dy N) (upN (ow N) i (a + 32 * v + 128 * be N i))), h) := by
  unfold f_St_withMind
  simp only [xx_l]
  have e0 : (((nI v &&& (3 : Int32)) <<< ((5 : Int32) &&& 31)) ||| (nI a &&& (31 : Int32))).toInt64 = lN (a + 32 * v) := by
    have : ∀ a, a < 32 → ∀ v, v < 4 → (((nI v &&& (3 : Int32)) <<< ((5 : Int32) &&& 31)) ||| (nI a &&& (31 : Int32))).toInt64 = lN (a + 32 * v) := by decide +kernel
    exact this a ha v hv
  have e2 : ∀ i, i < 6 → ((127 : Int64) <<< ((nI (6 + 8 * i)).toInt64 &&& 63)) ^^^ (-1 : Int64) = lN (2 ^ 64 - ((2 ^ 7 - 1) * 2 ^ (6 + 8 * i) + 1)) := by decide +kernel
  rw [e0, sh8', wb_shl _ (by omega), bs_l (k := 6 + 8 * i) (w := 7) (v := a + 32 * v) (e2 i hi) rfl (by omega) (by omega) (by omega)]
  congr 3
  rcases six hi with rfl | rfl | rfl | rfl | rfl | rfl <;> (unfold ex lm dy be upN ow; simp only [Nat.reduceMul, Nat.reduceAdd, Nat.reducePow, Nat.reduceEqDiff, if_true, if_false] at *; omega)
theorem X_wbeen {N i : Nat} (hN : N < 2 ^ 54) (hi : i < 6) (h : HP) : f_St_withBeen (lN N) (nI i) h = some (lN (ex (lm N) (dy N) (upN (ow N) i (hd N i + 32 * vs N i + 128))), h) := by
  unfold f_St_withBeen
  have e1 : (1 : Int64) <<< ((6 + 8 * nI i + 7 : Int32).toInt64 &&& 63) = lN (1 * 2 ^ (13 + 8 * i)) := by
    rw [show (7 : Int32) = nI 7 from rfl, sh8, show (1 : Int64) = lN 1 from rfl, wb_shl _ (by omega), show 6 + 8 * i + 7 = 13 + 8 * i by omega]
  rw [e1]
  have e2 : lN N ||| lN (1 * 2 ^ (13 + 8 * i)) = lN (N % 2 ^ (13 + 8 * i) + 1 * 2 ^ (13 + 8 * i) + N / 2 ^ (13 + 8 * i + 1) * 2 ^ (13 + 8 * i + 1)) := by
    rw [fb_orL, ← bs_nat (w := 1) (v := 1) (by decide) (by omega) (show N < 2 ^ 64 by omega)]
    congr 1
    apply Nat.eq_of_testBit_eq
    intro j
    have hx : (2 ^ 1 - 1) * 2 ^ (13 + 8 * i) < 2 ^ 64 := by
      rcases six hi with rfl | rfl | rfl | rfl | rfl | rfl <;> decide
    rw [Nat.testBit_or, Nat.testBit_or, Nat.testBit_and, Nat.testBit_two_pow_sub_succ hx, Nat.one_mul, Nat.testBit_two_pow]
    by_cases hj : 13 + 8 * i = j
    · simp [hj]
    · by_cases a2 : j < 64
      · simp [hj, a2]
      · have : N.testBit j = false := Nat.testBit_lt_two_pow (Nat.lt_of_lt_of_le (show N < 2 ^ 64 by omega) (Nat.pow_le_pow_right (by decide) (by omega)))
        simp [this]
  rw [e2]
  congr 3
  rcases six hi with rfl | rfl | rfl | rfl | rfl | rfl <;> (unfold ex lm dy vs hd upN ow; simp only [Nat.reduceMul, Nat.reduceAdd, Nat.reducePow, Nat.reduceEqDiff, if_true, if_false] at *; omega)
