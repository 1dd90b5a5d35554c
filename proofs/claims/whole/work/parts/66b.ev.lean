/-! what decides a condition -/
theorem c_le {a b : Nat} (h : a ≤ b) (hb : b < 2 ^ 31) : (nI a ≤ nI b) = True := eq_true (nI_le h hb)
theorem c_nle {a b : Nat} (h : b < a) (ha : a < 2 ^ 31) : (nI a ≤ nI b) = False := eq_false (nI_ge h ha)
theorem c_lt {a b : Nat} (h : a < b) (hb : b < 2 ^ 31) : (nI a < nI b) = True := eq_true (nI_lt h hb)
theorem c_nlt {a b : Nat} (h : b ≤ a) (ha : a < 2 ^ 31) : (nI a < nI b) = False := eq_false (nI_nlt h ha)
theorem c_ne {a b : Nat} (h : a ≠ b) (ha : a < 2 ^ 31) (hb : b < 2 ^ 31) : (nI a = nI b) = False := eq_false (fun z => h ((nI_eq ha hb).mp z))
theorem neg_toInt {n : Nat} (h : n < 2 ^ 31) : (-nI n).toInt = -(n : Int) := by
  rw [fb_negI (by rw [nI_toInt h]; omega), nI_toInt h]
theorem c_m1 {a n : Nat} (hn : 0 < n) (ha : a < 2 ^ 31) (hb : n < 2 ^ 31) : (nI a = -nI n) = False := eq_false (fun z => by
  have := congrArg Int32.toInt z
  rw [nI_toInt ha, neg_toInt hb] at this
  omega)
theorem c_m1' {a n : Nat} (hn : 0 < n) (ha : a < 2 ^ 31) (hb : n < 2 ^ 31) : (-nI n = nI a) = False := eq_false (fun z => (c_m1 hn ha hb).mp z.symm)
theorem ad_ne {m a : Nat} (h : a ≠ 0) : (m = m + a) = False := eq_false (by omega)
theorem ad_ne' {m a : Nat} (h : a ≠ 0) : (m + a = m) = False := eq_false (by omega)
theorem ad_ne2 {m a b : Nat} (h : a ≠ b) : (m + a = m + b) = False := eq_false (by omega)
theorem nar0 : vp_nar .boolean (nI 0) = nI 0 := by decide
theorem nar1 : vp_nar .boolean (nI 1) = nI 1 := by decide
theorem pw_L {S T : Type} {o : Option (S ⊕ T)} {s : S} {I : S → Prop} {P : T → Prop} (e : o = some (.inl s)) (h : I s) : pw o (xx_L2 I P) := ⟨_, e, h⟩
theorem pw_R {S T : Type} {o : Option (S ⊕ T)} {t : T} {I : S → Prop} {P : T → Prop} (e : o = some (.inr t)) (h : P t) : pw o (xx_L2 I P) := ⟨_, e, h⟩
