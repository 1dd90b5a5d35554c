/-! tieKnot -/
def ml (rr nx : Nat → Nat → Nat) (kf : Nat → Nat) (u : Nat) : Nat → Nat
  | 0 => 0
  | i + 1 => if rr u i = 0 ∧ kf (nx u i) = kf u then ml rr nx kf u i ||| 2 ^ i else ml rr nx kf u i
theorem ml_lt (rr nx : Nat → Nat → Nat) (kf : Nat → Nat) (u : Nat) : ∀ i, ml rr nx kf u i < 2 ^ i := by
  intro i
  induction i with
  | zero => show 0 < 1; decide
  | succ i ih =>
    unfold ml
    have h2 : 2 ^ i < 2 ^ (i + 1) := Nat.pow_lt_pow_right (by decide) (by omega)
    split
    · exact Nat.or_lt_two_pow (by omega) h2
    · omega
theorem ml_bit (rr nx : Nat → Nat → Nat) (kf : Nat → Nat) (u : Nat) : ∀ i j, (ml rr nx kf u i).testBit j = decide (j < i ∧ rr u j = 0 ∧ kf (nx u j) = kf u) := by
  intro i
  induction i with
  | zero => intro j; show Nat.testBit 0 j = _; rw [Nat.zero_testBit, decide_eq_false (by omega)]
  | succ i ih =>
    intro j
    unfold ml
    by_cases hc : rr u i = 0 ∧ kf (nx u i) = kf u
    · rw [if_pos hc, fb_bit_set, ih]
      by_cases hj : j = i
      · subst hj; rw [decide_eq_true (show j = j from rfl), Bool.or_true, decide_eq_true ⟨by omega, hc⟩]
      · rw [decide_eq_false hj, Bool.or_false]
        by_cases h2 : j < i ∧ rr u j = 0 ∧ kf (nx u j) = kf u
        · rw [decide_eq_true h2, decide_eq_true ⟨by omega, h2.2⟩]
        · rw [decide_eq_false h2, decide_eq_false (fun z => h2 ⟨by omega, z.2⟩)]
    · rw [if_neg hc, ih]
      by_cases h2 : j < i ∧ rr u j = 0 ∧ kf (nx u j) = kf u
      · rw [decide_eq_true h2, decide_eq_true ⟨by omega, h2.2⟩]
      · rw [decide_eq_false h2, decide_eq_false (fun z => h2 ⟨by
          by_cases hj : j = i
          · subst hj; exact absurd z.2 hc
          · omega, z.2⟩)]
theorem R_led {r sv q n nm u : Nat} {rr nx : Nat → Nat → Nat} {kf : Nat → Nat} {h : HP} (hs : ROX r sv h) (ht : XTB sv q n nm rr nx h) (hu : u < n) (hk : ∀ s, s < n → hp_i h (r + 3) s = nI (kf s) ∧ kf s < 2 ^ 31) : f_Ro_menLedWithin r (nI u) h = some (nI (ml rr nx kf u nm), h) := by
  obtain ⟨s0, s1, s2, s3, s4, s5, s6, m1, m2, m3, m4, m5, m6⟩ := id hs
  obtain ⟨a1, a2, a3, a4, a5, a6, a7, a8, a9, a10, a11⟩ := id ht
  have key : pw (f_Ro_menLedWithin r (nI u) h) (fun x => x = (nI (ml rr nx kf u nm), h)) := by
    unfold f_Ro_menLedWithin f_Ro_menLedWithin_4
    refine pw_cnt nm (fun i t => t = (nI (ml rr nx kf u i), nI i, h)) ?_ ?_ 0 _ (by omega) rfl
    · rintro i t hi rfl
      refine pw_L (s := (nI (ml rr nx kf u (i + 1)), nI (i + 1), h)) ?_ rfl
      unfold f_Ro_menLedWithin_4b f_Ro_menLedWithin_56
      dsimp only
      rw [bn_o s0, bn_o a4, a8, if_neg (nI_ge hi (by omega)), bn_o s0, bn_o (X_next ht hu hi)]
      dsimp only
      rw [ml]
      have hr3 := a9 u i hu hi
      by_cases h0 : rr u i = 0
      · have hx := a10 u i hu hi h0
        rw [h0, xcv_0, if_neg (nI_pos (by omega)), bn_o s3, m3, if_pos (hp_in_nI (by omega) (by omega)), bn_o s3, m3, if_pos (hp_in_nI (by omega) (by omega)), nI_clamp (by omega), nI_clamp (by omega), (hk _ hx).1, (hk u hu).1]
        by_cases hc : kf (nx u i) = kf u
        · rw [hc, if_pos rfl, if_pos ⟨rfl, rfl⟩, xx_lE, xx_lE, show (1 : Int32) = nI 1 from rfl, show (31 : Int32) = nI 31 from rfl, sh1 (by omega), fa_or, nI_add]
        · rw [if_neg (fun z => hc ((nI_eq (hk _ hx).2 (hk u hu).2).mp z)), if_neg (fun z => hc z.2), xx_lE, nI_1]
      · rw [if_pos (xcv_neg hr3 h0).1, if_neg (fun z => h0 z.1), xx_lE, nI_1]
    · rintro t rfl
      refine pw_R (t := (nI (ml rr nx kf u nm), h)) ?_ rfl
      unfold f_Ro_menLedWithin_4b
      dsimp only
      rw [bn_o s0, bn_o a4, a8, if_pos (nI_le (Nat.le_refl _) (by omega))]
  obtain ⟨y, hy, rfl⟩ := key
  exact hy
/-- the last e of the open ones -/
def popd (T : TS) : Nat → Nat → Bool
  | 0, _ => false
  | e + 1, s => if s = t_op T (t_no T - e - 1) then true else popd T e s
theorem popd_iff (T : TS) : ∀ e s, e ≤ t_no T → (popd T e s = true ↔ ∃ j, t_no T - e ≤ j ∧ j < t_no T ∧ t_op T j = s) := by
  intro e
  induction e with
  | zero => intro s _; exact ⟨fun z => absurd (show false = true from z) (by decide), fun ⟨j, a, b, _⟩ => by omega⟩
  | succ e ih =>
    intro s he
    unfold popd
    by_cases hs : s = t_op T (t_no T - e - 1)
    · rw [if_pos hs]; exact ⟨fun _ => ⟨t_no T - e - 1, by omega, by omega, hs.symm⟩, fun _ => rfl⟩
    · rw [if_neg hs, ih s (by omega)]
      constructor
      · rintro ⟨j, a, b, c⟩; exact ⟨j, by omega, b, c⟩
      · rintro ⟨j, a, b, c⟩
        refine ⟨j, ?_, b, c⟩
        by_cases hj : j = t_no T - e - 1
        · rw [hj] at c; exact absurd c.symm hs
        · omega
theorem popd_ct {n : Nat} {T : TS} (hop : ∀ j, j < t_no T → t_op T j < n) (hd : ∀ j k, j < k → k < t_no T → t_op T j ≠ t_op T k) : ∀ e, e ≤ t_no T → fb_ct (popd T e) n = e := by
  intro e
  induction e with
  | zero => intro _; exact fb_ct_zero.mpr (fun _ _ => rfl)
  | succ e ih =>
    intro he
    have hlt := hop (t_no T - e - 1) (by omega)
    have hno : popd T e (t_op T (t_no T - e - 1)) = false := by
      refine bool_f (fun z => ?_)
      obtain ⟨j, a, b, c⟩ := (popd_iff T e _ (by omega)).mp z
      exact hd (t_no T - e - 1) j (by omega) b c.symm
    have := fb_ct_upd (popd T e) true hlt
    rw [hno, ih (by omega)] at this
    have e2 : fb_ct (fun k => if k = t_op T (t_no T - e - 1) then true else popd T e k) n = fb_ct (popd T (e + 1)) n := rfl
    rw [e2] at this
    simpa using this
def ldm (rr nx : Nat → Nat → Nat) (nm : Nat) (kf : Nat → Nat) (op : Nat → Nat) (j0 : Nat) : Nat → Nat
  | 0 => 0
  | k + 1 => ldm rr nx nm kf op j0 k ||| ml rr nx kf (op (j0 + k)) nm
theorem ldm_lt (rr nx : Nat → Nat → Nat) (nm : Nat) (kf op : Nat → Nat) (j0 : Nat) : ∀ k, ldm rr nx nm kf op j0 k < 2 ^ nm := by
  intro k
  induction k with
  | zero => exact Nat.two_pow_pos _
  | succ k ih => exact Nat.or_lt_two_pow ih (ml_lt _ _ _ _ _)
theorem ldm_bit (rr nx : Nat → Nat → Nat) (nm : Nat) (kf op : Nat → Nat) (j0 : Nat) : ∀ k j, ((ldm rr nx nm kf op j0 k).testBit j = true ↔ ∃ e, e < k ∧ j < nm ∧ rr (op (j0 + e)) j = 0 ∧ kf (nx (op (j0 + e)) j) = kf (op (j0 + e))) := by
  intro k
  induction k with
  | zero => intro j; rw [show ldm rr nx nm kf op j0 0 = 0 from rfl, Nat.zero_testBit]; exact ⟨fun z => absurd z (by decide), fun ⟨e, a, _⟩ => by omega⟩
  | succ k ih =>
    intro j
    rw [show ldm rr nx nm kf op j0 (k + 1) = ldm rr nx nm kf op j0 k ||| ml rr nx kf (op (j0 + k)) nm from rfl, Nat.testBit_or, Bool.or_eq_true, ih, ml_bit, decide_eq_true_iff]
    constructor
    · rintro (⟨e, a, b⟩ | z)
      · exact ⟨e, by omega, b⟩
      · exact ⟨k, by omega, z⟩
    · rintro ⟨e, a, b⟩
      by_cases he : e = k
      · subst he; exact .inr b
      · exact .inl ⟨e, by omega, b⟩
theorem full_bit {x nm : Nat} (h : x < 2 ^ nm) : x = 2 ^ nm - 1 ↔ ∀ j, j < nm → x.testBit j = true := by
  constructor
  · intro e j hj; rw [e, Nat.testBit_two_pow_sub_one]; exact decide_eq_true hj
  · intro hb
    apply Nat.eq_of_testBit_eq
    intro j
    rw [Nat.testBit_two_pow_sub_one]
    by_cases hj : j < nm
    · rw [hb j hj, decide_eq_true hj]
    · rw [decide_eq_false hj]
      exact Nat.testBit_lt_two_pow (Nat.lt_of_lt_of_le h (Nat.pow_le_pow_right (by decide) (by omega)))
def t_kt (T : TS) (j0 : Nat) : TS := (t_or T, t_lo T, fun s => if popd T (t_no T - j0) s = true then t_kc T + 1 else t_kn T s, t_lk T, t_op T, t_pa T, j0, t_dp T, t_en T, t_kc T + 1)
theorem R_tie {r sv q n nm a j0 fd : Nat} {rr nx : Nat → Nat → Nat} {T : TS} {h : HP} (hr : sv + 9 < r) (hqr : q < sv) (hs : ROX r sv h) (ht : XTB sv q n nm rr nx h) (ha : a < n) (hj0 : j0 < t_no T) (hop : t_op T j0 = a) (hno : t_no T ≤ n) (hopn : ∀ j, j < t_no T → t_op T j < n ∧ t_kn T (t_op T j) = 0) (hdis : ∀ j k, j < k → k < t_no T → t_op T j ≠ t_op T k) (hkc : t_kc T < n) (hkn : ∀ s, s < n → t_kn T s ≤ t_kc T) (hfd : fd ≤ 5000) (h11 : hp_i h r 11 = nI fd) (hx : TRX r n T h) : pw (f_Ro_tieKnot r (nI a) h) (fun g => hp_fr (S_ro r) h g ∧ TRX r n (t_kt T j0) g ∧ hp_i g r 11 = nI (if ldm rr nx nm (t_kn (t_kt T j0)) (t_op T) j0 (t_no T - j0) ≠ 0 ∧ ldm rr nx nm (t_kn (t_kt T j0)) (t_op T) j0 (t_no T - j0) = 2 ^ nm - 1 then fd + (t_no T - j0) else fd)) := by
  have hn5 := ht.1
  have hnm := ht.2.1
  obtain ⟨x7, x8, x9, x10, xa, xo, xp⟩ := id hx
  unfold f_Ro_tieKnot
  rw [x7, xx_lE, x10, nI_1, xx_lE]
  let h2 := hp_si h r 10 (nI (t_kc T + 1))
  have H2 : hp_fr (S_ro r) h h2 := hf_si (hp_fr_rf h) (by unfold S_ro; omega)
  -- what is left behind the pops
  have fin : ∀ g, hp_fr (S_ro r) h g → hp_i g r 7 = nI j0 → hp_i g r 11 = nI fd → TRX r n (t_kt T j0) g → (∀ j, j < t_no T → hp_i g (r + 5) j = nI (t_op T j)) → pw (f_Ro_tieKnot_74 r (nI (t_no T)) g) (fun g => hp_fr (S_ro r) h g ∧ TRX r n (t_kt T j0) g ∧ hp_i g r 11 = nI (if ldm rr nx nm (t_kn (t_kt T j0)) (t_op T) j0 (t_no T - j0) ≠ 0 ∧ ldm rr nx nm (t_kn (t_kt T j0)) (t_op T) j0 (t_no T - j0) = 2 ^ nm - 1 then fd + (t_no T - j0) else fd)) := by
    intro g H g7 g11 gx go
    have hsg := ROX_fr H hs
    have htg := XTB_fr H (by unfold S_ro; omega) ht
    unfold f_Ro_tieKnot_74
    rw [g7, xx_lE]
    unfold f_Ro_tieKnot_82
    have hkb : ∀ s, s < n → hp_i g (r + 3) s = nI (t_kn (t_kt T j0) s) ∧ t_kn (t_kt T j0) s < 2 ^ 31 := fun s hs' => ⟨(gx.2.2.2.2.1 s hs').2.1, by
      show (if popd T (t_no T - j0) s = true then t_kc T + 1 else t_kn T s) < 2 ^ 31
      have := hkn s hs'
      split <;> omega⟩
    refine pw_cnt (t_no T - j0) (fun k t => t = (nI (ldm rr nx nm (t_kn (t_kt T j0)) (t_op T) j0 k), nI (j0 + k), g)) ?_ ?_ 0 _ (by omega) rfl
    · rintro k t hk rfl
      have hl := ldm_lt rr nx nm (t_kn (t_kt T j0)) (t_op T) j0 k
      refine pw_L (s := (nI (ldm rr nx nm (t_kn (t_kt T j0)) (t_op T) j0 (k + 1)), nI (j0 + k + 1), g)) ?_ rfl
      unfold f_Ro_tieKnot_82b
      dsimp only
      rw [if_neg (nI_ge (by omega) (by omega)), bn_o hsg.2.2.2.2.2.1, hsg.2.2.2.2.2.2.2.2.2.2.2.1, if_pos (hp_in_nI (by omega) (by omega)), nI_clamp (by omega), go _ (by omega), bn_o (R_led hsg htg (hopn _ (by omega)).1 hkb)]
      dsimp only
      rw [xx_lE, xx_lE, fa_or, nI_1]; rfl
    · rintro t rfl
      obtain ⟨L, hL⟩ : ∃ L, ldm rr nx nm (t_kn (t_kt T j0)) (t_op T) j0 (t_no T - j0) = L := ⟨_, rfl⟩
      have hl := ldm_lt rr nx nm (t_kn (t_kt T j0)) (t_op T) j0 (t_no T - j0)
      have h64 : 2 ^ nm ≤ 64 := Nat.pow_le_pow_right (n := 2) (by decide) hnm
      have h1p : 1 ≤ 2 ^ nm := Nat.one_le_two_pow
      rw [hL] at hl ⊢
      unfold f_Ro_tieKnot_82b f_Ro_tieKnot_108
      dsimp only
      rw [if_pos (nI_le (by omega) (by omega))]
      refine pw_mapR ?_
      by_cases hz : L = 0
      · rw [hz, if_pos (show nI 0 = (0 : Int32) from rfl), if_neg (fun z => z.1 rfl)]
        exact pw_some ⟨H, gx, g11⟩
      · rw [if_neg (nI_ne0 (by omega) (by omega)), bn_o hsg.1, bn_o htg.2.2.2.1, htg.2.2.2.2.2.2.2.1, show (1 : Int32) = nI 1 from rfl, show (31 : Int32) = nI 31 from rfl, sh1 (by omega), two_sub (by omega)]
        by_cases hf : L = 2 ^ nm - 1
        · rw [if_pos (by rw [hf]), if_pos ⟨hz, hf⟩, g11, g7, pk_sub (by omega), nI_add, xx_lE]
          refine pw_some ⟨hf_si H (by unfold S_ro; omega), ?_, by rw [hp_i_si, if_pos ⟨rfl, rfl⟩]⟩
          obtain ⟨y7, y8, y9, y10, ya, yo, yp⟩ := gx
          refine ⟨?_, ?_, ?_, ?_, fun s hs' => ?_, fun j hj => ?_, fun j hj => ?_⟩
          · rw [hp_i_si, if_neg (by omega)]; exact y7
          · rw [hp_i_si, if_neg (by omega)]; exact y8
          · rw [hp_i_si, if_neg (by omega)]; exact y9
          · rw [hp_i_si, if_neg (by omega)]; exact y10
          · rw [hp_i_si, if_neg (by omega), hp_i_si, if_neg (by omega), hp_i_si, if_neg (by omega), hp_i_si, if_neg (by omega)]; exact ya s hs'
          · rw [hp_i_si, if_neg (by omega)]; exact yo j hj
          · rw [hp_i_si, if_neg (by omega)]; exact yp j hj
        · rw [if_neg (fun z => hf ((nI_eq (by omega) (by omega)).mp z)), if_neg (fun z => hf z.2)]
          exact pw_some ⟨H, gx, g11⟩
  unfold f_Ro_tieKnot_17
  refine pw_cnt (t_no T - j0) (fun e t => t.1 = nI e ∧ hp_fr (fun a k => a = r ∧ (k = 7 ∨ k = 10) ∨ a = r + 3) h t.2 ∧ hp_i t.2 r 7 = nI (t_no T - e) ∧ hp_i t.2 r 10 = nI (t_kc T + 1) ∧ ∀ s, s < n → hp_i t.2 (r + 3) s = nI (if popd T e s = true then t_kc T + 1 else t_kn T s)) ?_ ?_ 0 (nI 0, h2) (by omega) ?_
  · rintro e ⟨w, g⟩ he ⟨rfl, H, g7, g10, gk⟩
    dsimp only at H g7 g10 gk ⊢
    have hsg := ROX_fr H hs
    obtain ⟨s0, s1, s2, s3, s4, s5, s6, m1, m2, m3, m4, m5, m6⟩ := id hsg
    have gka : hp_i g (r + 3) a = nI 0 := by
      rw [gk a ha]
      have : popd T e a = false := by
        refine bool_f (fun z => ?_)
        obtain ⟨j, p1, p2, p3⟩ := (popd_iff T e a (by omega)).mp z
        exact hdis j0 j (by omega) p2 (by rw [hop, p3])
      rw [this, if_neg (by decide), ← hop, (hopn j0 hj0).2]
    let g' := hp_si (hp_si g r 7 (nI (t_no T - e - 1))) (r + 3) (t_op T (t_no T - e - 1)) (nI (t_kc T + 1))
    have go5 : hp_i g (r + 5) (t_no T - e - 1) = nI (t_op T (t_no T - e - 1)) := by rw [hf_i H (by omega)]; exact xo _ (by omega)
    have hopl := (hopn (t_no T - e - 1) (by omega)).1
    refine pw_L (s := (nI (e + 1), g')) ?_ ⟨rfl, hf_si (hf_si H (by omega)) (by omega), ?_, ?_, fun s hs' => ?_⟩
    · unfold f_Ro_tieKnot_17b
      rw [if_neg (show ¬ (5000 : Int32) ≤ nI e from nI_ge (b := 5000) (by omega) (by decide)), g7, if_neg (nI_nle (by omega) (by omega)), bn_o s3, m3, if_pos (hp_in_nI (by omega) (by omega)), nI_clamp (by omega), gka, if_pos (show nI 0 = (0 : Int32) from rfl), sub1 (by omega), xx_lE]
      rw [show ∀ z : Int32, hp_r (hp_si g r 7 z) r 3 = some (r + 3) from fun z => s3, bn_s, show ∀ z : Int32, hp_r (hp_si g r 7 z) r 5 = some (r + 5) from fun z => s5, bn_s]
      rw [show ∀ z : Int32, hp_i (hp_si g r 7 z) r 7 = z from fun z => by rw [hp_i_si, if_pos ⟨rfl, rfl⟩]]
      rw [show ∀ z : Int32, hp_n (hp_si g r 7 z) (r + 5) = 5000 from fun z => m5, if_pos (hp_in_nI (by omega) (by omega)), nI_clamp (by omega)]
      rw [show ∀ z : Int32, hp_i (hp_si g r 7 z) (r + 5) (t_no T - e - 1) = nI (t_op T (t_no T - e - 1)) from fun z => by rw [hp_i_si, if_neg (by omega)]; exact go5]
      rw [show ∀ z : Int32, hp_n (hp_si g r 7 z) (r + 3) = 5000 from fun z => m3, if_pos (hp_in_nI (by omega) (by omega)), nI_clamp (by omega)]
      rw [show ∀ z : Int32, hp_i (hp_si g r 7 z) r 10 = nI (t_kc T + 1) from fun z => by rw [hp_i_si, if_neg (by omega)]; exact g10]
      rw [xx_lE, xx_lE, nI_1]
    · simp only [g']; rw [hp_i_si, if_neg (by omega), hp_i_si, if_pos ⟨rfl, rfl⟩, show t_no T - e - 1 = t_no T - (e + 1) by omega]
    · simp only [g']; rw [hp_i_si, if_neg (by omega), hp_i_si, if_neg (by omega)]; exact g10
    · simp only [g']; rw [hp_i_si]
      show _ = nI (if (if s = t_op T (t_no T - e - 1) then true else popd T e s) = true then t_kc T + 1 else t_kn T s)
      by_cases hse : s = t_op T (t_no T - e - 1)
      · rw [if_pos ⟨rfl, hse⟩, if_pos hse, if_pos rfl]
      · rw [if_neg (fun z => hse z.2), if_neg hse, hp_i_si, if_neg (by omega)]; exact gk s hs'
  · rintro ⟨w, g⟩ ⟨rfl, H, g7, g10, gk⟩
    dsimp only at H g7 g10 gk ⊢
    have hsg := ROX_fr H hs
    obtain ⟨s0, s1, s2, s3, s4, s5, s6, m1, m2, m3, m4, m5, m6⟩ := id hsg
    rw [show t_no T - (t_no T - j0) = j0 by omega] at g7
    have hpa : popd T (t_no T - j0) a = true := (popd_iff T _ a (by omega)).mpr ⟨j0, by omega, hj0, hop⟩
    have gka : hp_i g (r + 3) a = nI (t_kc T + 1) := by rw [gk a ha, if_pos hpa]
    have HS : hp_fr (S_ro r) h g := hp_fr_mo H (by unfold S_ro; omega)
    have fg : pw (f_Ro_tieKnot_74 r (nI (t_no T)) g) (fun g => hp_fr (S_ro r) h g ∧ TRX r n (t_kt T j0) g ∧ hp_i g r 11 = nI (if ldm rr nx nm (t_kn (t_kt T j0)) (t_op T) j0 (t_no T - j0) ≠ 0 ∧ ldm rr nx nm (t_kn (t_kt T j0)) (t_op T) j0 (t_no T - j0) = 2 ^ nm - 1 then fd + (t_no T - j0) else fd)) := by
      refine fin g HS g7 (by rw [hf_i H (by omega)]; exact h11) ⟨g7, ?_, ?_, g10, fun s hs' => ⟨?_, gk s hs', fun ho => ⟨?_, ?_⟩⟩, fun j hj => ?_, fun j hj => ?_⟩ (fun j hj => by rw [hf_i H (by omega)]; exact xo j hj)
      · rw [hf_i H (by omega)]; exact x8
      · rw [hf_i H (by omega)]; exact x9
      · rw [hf_i H (by omega)]; exact (xa s hs').1
      · rw [hf_i H (by omega)]; exact ((xa s hs').2.2 ho).1
      · rw [hf_i H (by omega)]; exact ((xa s hs').2.2 ho).2
      · rw [hf_i H (by omega)]; exact xo j (by have : j < j0 := hj; omega)
      · rw [hf_i H (by omega)]; exact xp j hj
    unfold f_Ro_tieKnot_17b
    refine pw_if (fun _ => pw_mapR fg) (fun _ => ?_)
    rw [g7]
    refine pw_if (fun _ => pw_mapR fg) (fun _ => ?_)
    rw [bn_o s3, m3, if_pos (hp_in_nI (by omega) (by omega)), nI_clamp (by omega), gka, if_neg (nI_ne0 (by omega) (by omega))]
    exact pw_mapR fg
  · refine ⟨rfl, hf_si (hp_fr_rf h) (by omega), ?_, ?_, fun s hs' => ?_⟩
    · simp only [h2]; rw [hp_i_si, if_neg (by omega)]; exact x7
    · simp only [h2]; rw [hp_i_si, if_pos ⟨rfl, rfl⟩]
    · simp only [h2]; rw [hp_i_si, if_neg (by omega)]; exact (xa s hs').2.1
