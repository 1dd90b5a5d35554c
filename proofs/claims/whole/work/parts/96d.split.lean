/-! the class splits the text -/
def wtab : List (List Nat) := [[108, 97, 109, 112, 115], [99, 121, 99, 108, 101], [102, 97, 105, 108, 115], [115, 116, 97, 114, 116], [111, 102, 102], [111, 110], [97, 110, 121], [114, 111, 108, 101], [109, 101, 110], [104, 111, 108, 100, 115], [114, 117, 108, 101], [119, 104, 101, 110], [115, 101, 116], [104, 111, 108, 100], [115, 97, 121], [111, 114], [97, 110, 100], [110, 111, 116], [100, 97, 121], [118, 105, 115, 105, 116, 115]]
def wln (j : Nat) : Nat := (wtab.getD j []).length
def tcN (j i : Nat) : Nat := (wtab.getD j []).getD i 32
theorem tc_ch : ∀ j : Fin 20, ∀ i : Fin 8, ly_ch (nI (8 * j.1 + i.1)) = nI (tcN j.1 i.1) ∧ (i.1 < wln j.1 → 97 ≤ tcN j.1 i.1 ∧ tcN j.1 i.1 ≤ 122) ∧ (wln j.1 ≤ i.1 → tcN j.1 i.1 = 32) := by decide +kernel
theorem tc_ln : ∀ j : Fin 20, wln j.1 ≤ 6 ∧ wW (tcN j.1) (wln j.1) = cst j.1 := by decide +kernel
theorem WW_inj {f g : Nat → Nat} : ∀ n k, (∀ i, i < n → 97 ≤ f i ∧ f i ≤ 122) → (∀ i, i < k → 97 ≤ g i ∧ g i ≤ 122) → wW f n = wW g k → n = k ∧ ∀ i, i < n → f i = g i := by
  intro n
  induction n with
  | zero =>
    intro k _ hg h
    cases k with
    | zero => exact ⟨rfl, fun i hi => absurd hi (Nat.not_lt_zero _)⟩
    | succ k =>
      have := hg k (by omega)
      have h : 0 = wW g k * 256 + g k := h
      omega
  | succ n ih =>
    intro k hf hg h
    have hn := hf n (by omega)
    cases k with
    | zero =>
      have h : wW f n * 256 + f n = 0 := h
      omega
    | succ k =>
      have hk := hg k (by omega)
      have h : wW f n * 256 + f n = wW g k * 256 + g k := h
      obtain ⟨i1, i2⟩ := ih k (fun i hi => hf i (by omega)) (fun i hi => hg i (by omega)) (by omega)
      refine ⟨by omega, fun i hi => ?_⟩
      by_cases z : i = n
      · have e1 : n = k := i1
        subst e1
        subst z
        omega
      · exact i2 i (by omega)
theorem wW_cong {f g : Nat → Nat} : ∀ n, (∀ i, i < n → f i = g i) → wW f n = wW g n := by
  intro n
  induction n with
  | zero => intro _; rfl
  | succ n ih => intro h; show wW f n * 256 + f n = wW g n * 256 + g n; rw [ih (fun i hi => h i (by omega)), h n (by omega)]
def RTP (r tp L : Nat) (T : Nat → Nat) (h : HP) : Prop := hp_r h r 2 = some tp ∧ hp_n h tp = 1400 ∧ hp_i h r 3 = nI L ∧ L ≤ 1400 ∧ ∀ k, k < L → T k < 256 ∧ hp_i h tp k = sby (T k)
theorem RTP_fr {S : Nat → Nat → Prop} {r tp L : Nat} {T : Nat → Nat} {h g : HP} (H : hp_fr S h g) (hS : ∀ a k, S a k → ¬ (a = r ∧ k = 3) ∧ a ≠ tp) (hs : RTP r tp L T h) : RTP r tp L T g := by
  obtain ⟨a1, a2, a3, a4, a5⟩ := hs
  exact ⟨by rw [hp_fr_r H]; exact a1, by rw [hp_fr_n H]; exact a2, by rw [hf_i H (fun z => (hS _ _ z).1 ⟨rfl, rfl⟩)]; exact a3, a4, fun k hk => ⟨(a5 k hk).1, by rw [hf_i H (fun z => (hS _ _ z).2 rfl)]; exact (a5 k hk).2⟩⟩
theorem C_byte {r tp L i : Nat} {T : Nat → Nat} {h : HP} (hs : RTP r tp L T h) (hi : i < 2 ^ 30) : f_Rd_byteAt r (nI i) h = some (sbv (btx T L i), h) := by
  obtain ⟨a1, a2, a3, a4, a5⟩ := hs
  unfold f_Rd_byteAt
  rw [if_neg (nI_pos (by omega)), a3]
  by_cases z : L ≤ i
  · rw [if_pos (nI_le z (by omega)), bt_out z]; rfl
  · rw [if_neg (nI_ge (by omega) (by omega)), bn_o a1, a2, if_pos (hp_in_nI (by omega) (by omega)), nI_clamp (by omega), (a5 i (by omega)).2, bt_in (by omega)]
    unfold sbv
    rw [if_pos (a5 i (by omega)).1]
theorem C_blanks {r tp L a : Nat} {T : Nat → Nat} {h : HP} (hs : RTP r tp L T h) (ha : a ≤ L) : f_Rd_afterBlanks r (nI a) h = some (nI (sk T L a), h) := by
  have hL := hs.2.2.2.1
  have hT : ∀ k, k < L → T k < 256 := fun k hk => (hs.2.2.2.2 k hk).1
  have hsk := sk_le (T := T) ha
  have key : pw (f_Rd_afterBlanks r (nI a) h) (fun q => q = (nI (sk T L a), h)) := by
    unfold f_Rd_afterBlanks f_Rd_afterBlanks_4
    refine pw_cnt (sk T L a - a) (fun i t => t = (nI (a + i), nI i, h)) ?_ ?_ 0 (nI a, 0, h) (by omega) rfl
    · rintro i t hi rfl
      have hno := fa_first_no (fun d => !isB (btx T L (a + d))) (L - a) i (by unfold sk at hi; omega)
      have hB : isB (btx T L (a + i)) = true := by
        cases z : isB (btx T L (a + i))
        · simp only [z] at hno; exact absurd hno (by decide)
        · rfl
      have bb := bvb hT (a + i)
      unfold isB at hB
      simp only [Bool.or_eq_true, decide_eq_true_eq] at hB
      unfold f_Rd_afterBlanks_4b f_Rd_afterBlanks_31
      dsimp only
      rw [if_neg (show ¬ (1400 : Int32) ≤ nI i from nI_ge (b := 1400) (by omega) (by decide)), bn_o (C_byte hs (by omega))]
      dsimp only
      by_cases z : btx T L (a + i) = 32
      · rw [if_pos (bb.2.2.2.2.2.2.2.2.1.mpr z), xx_lE, xx_lE, nI_1, nI_1]
        exact pw_L rfl rfl
      · rw [if_neg (fun y => z (bb.2.2.2.2.2.2.2.2.1.mp y)), bn_o (C_byte hs (by omega))]
        dsimp only
        rw [if_pos (bb.2.2.2.2.2.2.2.2.2.1.mpr (by omega)), xx_lE, xx_lE, nI_1, nI_1]
        exact pw_L rfl rfl
    · rintro t rfl
      have ea : a + (sk T L a - a) = sk T L a := by omega
      have bb := bvb hT (sk T L a)
      have hnb : isB (btx T L (sk T L a)) = false := by
        by_cases z : sk T L a < L
        · have hy := fa_first_yes (fun d => !isB (btx T L (a + d))) (L - a) (by unfold sk at z; omega)
          have e : a + fa_first (fun d => !isB (btx T L (a + d))) (L - a) = sk T L a := rfl
          simp only [e] at hy
          cases y : isB (btx T L (sk T L a))
          · rfl
          · rw [y] at hy; exact absurd hy (by decide)
        · rw [bt_out (by omega)]; rfl
      unfold isB at hnb
      simp only [Bool.or_eq_false_iff, decide_eq_false_iff_not] at hnb
      unfold f_Rd_afterBlanks_4b
      dsimp only
      rw [ea]
      by_cases z : (1400 : Int32) ≤ nI (sk T L a - a)
      · rw [if_pos z]; exact pw_R rfl rfl
      · rw [if_neg z, bn_o (C_byte hs (by omega))]
        dsimp only
        rw [if_neg (fun y => hnb.1 (bb.2.2.2.2.2.2.2.2.1.mp y)), bn_o (C_byte hs (by omega))]
        dsimp only
        rw [if_neg (fun y => hnb.2 (bb.2.2.2.2.2.2.2.2.2.1.mp y))]
        exact pw_R rfl rfl
  obtain ⟨q, hq, rfl⟩ := key
  exact hq
theorem C_isWord {r tp L s n j : Nat} {T : Nat → Nat} {h : HP} (hs : RTP r tp L T h) (hj : j < 20) (hn : n ≤ 8) (hsn : s + n ≤ L) (hl : ∀ i, i < n → 97 ≤ T (s + i) ∧ T (s + i) ≤ 122) : f_Rd_isWord r (nI (8 * j)) (nI s) (nI n) h = some (nI (if wW (fun i => T (s + i)) n = cst j then 1 else 0), h) := by
  have hL := hs.2.2.2.1
  have hT : ∀ k, k < L → T k < 256 := fun k hk => (hs.2.2.2.2 k hk).1
  obtain ⟨l6, lc⟩ := tc_ln ⟨j, hj⟩
  dsimp only at l6 lc
  have tc : ∀ i, i < 8 → ly_ch (nI (8 * j + i)) = nI (tcN j i) ∧ (i < wln j → 97 ≤ tcN j i ∧ tcN j i ≤ 122) ∧ (wln j ≤ i → tcN j i = 32) := fun i hi => tc_ch ⟨j, hj⟩ ⟨i, hi⟩
  have tb : ∀ i, i < 8 → tcN j i ≤ 122 := fun i hi => by
    by_cases z : i < wln j
    · exact ((tc i hi).2.1 z).2
    · rw [(tc i hi).2.2 (by omega)]; decide
  -- the loop over the letters
  have lp : ∀ b : Nat, b < 2 → pw (f_Rd_isWord_24 r (nI (8 * j)) (nI s) (nI n) (nI b) h) (fun q => ∃ c, c < 2 ∧ q = (nI c, h) ∧ (c = 1 ↔ b = 1 ∧ ∀ i, i < n → tcN j i = T (s + i))) := by
    intro b hb
    unfold f_Rd_isWord_24 f_Rd_isWord_29
    -- up to the first that differs
    obtain ⟨d, hd⟩ : ∃ d, (if b = 1 then fa_first (fun i => !decide (tcN j i = T (s + i))) n else 0) = d := ⟨_, rfl⟩
    have hdn : d ≤ n := by
      rw [← hd]; split
      · exact fa_first_le _ _
      · omega
    by_cases hb1 : b = 1
    · rw [if_pos hb1] at hd
      have eq : ∀ i, i < d → tcN j i = T (s + i) := fun i hi => by
        have := fa_first_no (fun i => !decide (tcN j i = T (s + i))) n i (by omega)
        simpa using this
      have body : ∀ i, i < n → ∀ v : Int32, v = 1 → f_Rd_isWord_29b r (nI (8 * j)) (nI s) (nI n) v (nI i) h = some (.inl (if tcN j i = T (s + i) then 1 else 0, nI (i + 1), h)) := by
        intro i hi v hv
        have hb := (bvb hT (s + i)).2.2.2.2.2.2.2.2.2.2.2
        have hli := hl i hi
        unfold f_Rd_isWord_29b f_Rd_isWord_65
        rw [if_neg (nI_ge hi (by omega)), hv, if_neg (show ¬ (1 : Int32) = 0 by decide), nI_add, if_pos (hp_in_nI (by omega) (by omega)), nI_add, bn_o (C_byte hs (by omega))]
        dsimp only
        rw [(tc i (by omega)).1, (hb (by rw [bt_in (by omega)]; omega)).2, bt_in (by omega)]
        have := tb i (by omega)
        by_cases z : tcN j i = T (s + i)
        · rw [if_pos (by rw [z]), if_pos z, xx_lE, nI_1]
        · rw [if_neg (fun y => z ((nI_eq (by omega) (by omega)).mp y)), if_neg z, xx_lE, nI_1]
      refine pw_lp (fun t => ∃ i, i ≤ n ∧ t.2.1 = nI i ∧ t.2.2 = h ∧ ((t.1 = 1 ∧ ∀ i', i' < i → tcN j i' = T (s + i')) ∨ (t.1 = 0 ∧ ¬ ∀ i', i' < n → tcN j i' = T (s + i')))) (fun t => if t.1 = 0 then 0 else n + 1 - t.2.1.toNatClampNeg) ?_ _ ⟨0, by omega, rfl, rfl, .inl ⟨by rw [hb1]; rfl, fun i' hi' => absurd hi' (Nat.not_lt_zero _)⟩⟩
      rintro ⟨v, w, g⟩ ⟨i, hi, e1, e2, e3⟩
      dsimp only at e1 e2 e3 ⊢
      subst e1
      have e2' := e2.symm
      subst e2'
      rcases e3 with ⟨rfl, e3⟩ | ⟨rfl, e3⟩
      · by_cases z : i = n
        · subst z
          unfold f_Rd_isWord_29b
          rw [if_pos (nI_le (Nat.le_refl _) (by omega)), if_pos (show hp_z01 (1 : Int32) = true from z01 (n := 1) (by decide))]
          exact pw_R rfl ⟨1, by decide, rfl, ⟨fun _ => ⟨hb1, e3⟩, fun _ => rfl⟩⟩
        · have hin : i < n := by omega
          rw [body i hin 1 rfl]
          by_cases y : tcN j i = T (s + i)
          · rw [if_pos y]
            refine pw_L rfl ⟨⟨i + 1, by omega, rfl, rfl, .inl ⟨rfl, fun i' hi' => ?_⟩⟩, ?_⟩
            · by_cases w : i' = i
              · rw [w]; exact y
              · exact e3 i' (by omega)
            · dsimp only
              rw [if_neg (show ¬ (1 : Int32) = 0 by decide), if_neg (show ¬ (1 : Int32) = 0 by decide), nI_clamp (by omega), nI_clamp (by omega)]; omega
          · rw [if_neg y]
            refine pw_L rfl ⟨⟨i + 1, by omega, rfl, rfl, .inr ⟨rfl, fun q => y (q i hin)⟩⟩, ?_⟩
            dsimp only
            rw [if_pos rfl, if_neg (show ¬ (1 : Int32) = 0 by decide), nI_clamp (by omega)]; omega
      · unfold f_Rd_isWord_29b
        have fin : pw (if hp_z01 (0 : Int32) = true then (some (.inr ((0 : Int32), h)) : Option ((Int32 × Int32 × HP) ⊕ (Int32 × HP))) else none) (xx_L2 (fun s' => (∃ i, i ≤ n ∧ s'.2.1 = nI i ∧ s'.2.2 = h ∧ ((s'.1 = 1 ∧ ∀ i', i' < i → tcN j i' = T (s + i')) ∨ (s'.1 = 0 ∧ ¬ ∀ i', i' < n → tcN j i' = T (s + i')))) ∧ (if s'.1 = 0 then 0 else n + 1 - s'.2.1.toNatClampNeg) < (if (0 : Int32) = 0 then 0 else n + 1 - (nI i).toNatClampNeg)) (fun q => ∃ c, c < 2 ∧ q = (nI c, h) ∧ (c = 1 ↔ b = 1 ∧ ∀ i, i < n → tcN j i = T (s + i)))) := by
          rw [if_pos (show hp_z01 (0 : Int32) = true from z01 (n := 0) (by decide))]
          exact pw_R rfl ⟨0, by decide, rfl, ⟨fun y => absurd y (by decide), fun y => absurd y.2 e3⟩⟩
        by_cases z : nI n ≤ nI i
        · rw [if_pos z]; exact fin
        · rw [if_neg z, if_pos rfl]; exact fin
    · have hb0 : b = 0 := by omega
      subst hb0
      refine pw_go ?_
      unfold f_Rd_isWord_29b
      dsimp only
      have fin : pw (if hp_z01 (nI 0) = true then (some (.inr (nI 0, h)) : Option ((Int32 × Int32 × HP) ⊕ (Int32 × HP))) else none) (xx_L2 (fun s' => pw (xx_lp (fun s_1 : (Int32 × Int32 × HP) => f_Rd_isWord_29b r (nI (8 * j)) (nI s) (nI n) s_1.1 s_1.2.1 s_1.2.2) s') (fun q => ∃ c, c < 2 ∧ q = (nI c, h) ∧ (c = 1 ↔ 0 = 1 ∧ ∀ i, i < n → tcN j i = T (s + i)))) (fun q => ∃ c, c < 2 ∧ q = (nI c, h) ∧ (c = 1 ↔ 0 = 1 ∧ ∀ i, i < n → tcN j i = T (s + i)))) := by
        rw [if_pos (z01 (n := 0) (by decide))]
        exact pw_R rfl ⟨0, by decide, rfl, ⟨fun y => absurd y (by decide), fun y => absurd y.1 (by decide)⟩⟩
      by_cases z : nI n ≤ (0 : Int32)
      · rw [if_pos z]; exact fin
      · rw [if_neg z, if_pos (show nI 0 = (0 : Int32) from rfl)]; exact fin
  -- it is the word when its end is there, and each letter
  have main : pw (f_Rd_isWord r (nI (8 * j)) (nI s) (nI n) h) (fun q => ∃ c, c < 2 ∧ q = (nI c, h) ∧ (c = 1 ↔ (n = 8 ∨ n < 8 ∧ tcN j n = 32) ∧ ∀ i, i < n → tcN j i = T (s + i))) := by
    unfold f_Rd_isWord f_Rd_isWord_19
    by_cases z8 : n = 8
    · rw [if_pos (show nI n = (8 : Int32) by rw [z8]; rfl), show (1 : Int32) = nI 1 from rfl]
      refine pw_mono (lp 1 (by decide)) ?_
      rintro q ⟨c, c1, c2, c3⟩
      exact ⟨c, c1, c2, c3.trans ⟨fun y => ⟨.inl z8, y.2⟩, fun y => ⟨rfl, y.2⟩⟩⟩
    · rw [if_neg (show ¬ nI n = (8 : Int32) from fun y => z8 ((nI_eq (b := 8) (by omega) (by decide)).mp y)), nI_add, if_pos (hp_in_nI (by omega) (by omega)), (tc n (by omega)).1]
      have := tb n (by omega)
      by_cases z : tcN j n = 32
      · rw [if_pos (show nI (tcN j n) = (32 : Int32) by rw [z]; rfl), show (1 : Int32) = nI 1 from rfl]
        refine pw_mono (lp 1 (by decide)) ?_
        rintro q ⟨c, c1, c2, c3⟩
        exact ⟨c, c1, c2, c3.trans ⟨fun y => ⟨.inr ⟨by omega, z⟩, y.2⟩, fun y => ⟨rfl, y.2⟩⟩⟩
      · rw [if_neg (show ¬ nI (tcN j n) = (32 : Int32) from fun y => z ((nI_eq (b := 32) (by omega) (by decide)).mp y)), show (0 : Int32) = nI 0 from rfl]
        refine pw_mono (lp 0 (by decide)) ?_
        rintro q ⟨c, c1, c2, c3⟩
        refine ⟨c, c1, c2, c3.trans ⟨fun y => absurd y.1 (by decide), fun y => ?_⟩⟩
        rcases y.1 with w | w
        · exact absurd w z8
        · exact absurd w.2 z
  obtain ⟨q, hq, c, c1, rfl, c3⟩ := main
  rw [hq]
  have iff : ((n = 8 ∨ n < 8 ∧ tcN j n = 32) ∧ ∀ i, i < n → tcN j i = T (s + i)) ↔ wW (fun i => T (s + i)) n = cst j := by
    constructor
    · rintro ⟨y1, y2⟩
      have hln : n = wln j := by
        have h1 : wln j ≤ n := by
          refine Nat.le_of_not_lt (fun w => ?_)
          rcases y1 with y | y
          · omega
          · have := (tc n y.1).2.1 w; omega
        refine Nat.le_antisymm (Nat.le_of_not_lt (fun w => ?_)) h1
        have e1 := y2 (wln j) w
        rw [(tc (wln j) (by omega)).2.2 (Nat.le_refl _)] at e1
        have := hl (wln j) w
        omega
      rw [← lc, ← hln]
      exact wW_cong n (fun i hi => (y2 i hi).symm)
    · intro y
      rw [← lc] at y
      obtain ⟨e1, e2⟩ := WW_inj n (wln j) hl (fun i hi => (tc i (by omega)).2.1 hi) y
      refine ⟨?_, fun i hi => (e2 i hi).symm⟩
      by_cases z8 : n = 8
      · exact .inl z8
      · exact .inr ⟨by omega, (tc n (by omega)).2.2 (by omega)⟩
  by_cases z : wW (fun i => T (s + i)) n = cst j
  · rw [if_pos z, c3.mpr (iff.mpr z)]
  · rw [if_neg z, show c = 0 by have : ¬ c = 1 := fun y => z (iff.mp (c3.mp y)); omega]
theorem C_kind {r tp L s n : Nat} {T : Nat → Nat} {h : HP} (hs : RTP r tp L T h) (hn : n ≤ 8) (hsn : s + n ≤ L) (hl : ∀ i, i < n → 97 ≤ T (s + i) ∧ T (s + i) ≤ 122) : f_Rd_kindOfWord r (nI s) (nI n) h = some (nI (wkd (wW (fun i => T (s + i)) n)), h) := by
  have hle := wk_le (wW (fun i => T (s + i)) n)
  have key : pw (f_Rd_kindOfWord r (nI s) (nI n) h) (fun q => q = (nI (wkd (wW (fun i => T (s + i)) n)), h)) := by
    unfold f_Rd_kindOfWord f_Rd_kindOfWord_2
    refine pw_cnt (wkd (wW (fun i => T (s + i)) n)) (fun j t => t = (nI j, h)) ?_ ?_ 0 (0, h) (by omega) rfl
    · rintro j t hj rfl
      have hno : ¬ wW (fun i => T (s + i)) n = cst j := of_decide_eq_false (fa_first_no (fun j => decide (wW (fun i => T (s + i)) n = cst j)) 20 j hj)
      unfold f_Rd_kindOfWord_2b
      dsimp only
      rw [if_neg (show ¬ (20 : Int32) ≤ nI j from nI_ge (b := 20) (by omega) (by decide)), show (8 : Int32) = nI 8 from rfl, pk_mul, Nat.mul_comm j 8, bn_o (C_isWord hs (by omega) hn hsn hl), if_neg hno]
      dsimp only
      rw [if_pos (show nI 0 = (0 : Int32) from rfl), xx_lE, nI_1]
      exact pw_L rfl rfl
    · rintro t rfl
      unfold f_Rd_kindOfWord_2b
      dsimp only
      by_cases z : wkd (wW (fun i => T (s + i)) n) < 20
      · have hy : wW (fun i => T (s + i)) n = cst (wkd (wW (fun i => T (s + i)) n)) := (wk_iff z).mpr rfl
        rw [if_neg (show ¬ (20 : Int32) ≤ nI _ from nI_ge (b := 20) z (by decide)), show (8 : Int32) = nI 8 from rfl, pk_mul, Nat.mul_comm _ 8, bn_o (C_isWord hs z hn hsn hl), if_pos hy]
        dsimp only
        rw [if_neg (show ¬ nI 1 = (0 : Int32) by decide)]
        exact pw_R rfl rfl
      · rw [show wkd (wW (fun i => T (s + i)) n) = 20 by omega, if_pos (show (20 : Int32) ≤ nI 20 by decide)]
        exact pw_R rfl rfl
  obtain ⟨q, hq, rfl⟩ := key
  exact hq
