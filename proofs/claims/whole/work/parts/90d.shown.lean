/-! starts: their numbers -/
theorem fs_inj {P : PT} (ok : POK P) {l k : Nat} (hl : l < 4) (hk : k < 4) (h : fs P l = fs P k) : l = k := by
  have e := congrArg lm h
  unfold fs at e
  rw [ex_lm hl, ex_lm hk] at e; exact e
theorem stB_ct {P : PT} (ok : POK P) : ∀ l, l ≤ 4 → (stB P l).1 = fb_ct (ist P) l ∧ (∀ j, j < (stB P l).1 → ∃ k, k < l ∧ ist P k = true ∧ fb_ct (ist P) k = j) ∧ ∀ k, k < l → ist P k = true → (stB P l).2.1 (fb_ct (ist P) k) = fs P k := by
  intro l
  induction l with
  | zero => intro _; exact ⟨rfl, fun j hj => by have : j < 0 := hj; omega, fun k hk => by omega⟩
  | succ l ih =>
    intro hl
    obtain ⟨i1, i2, i3⟩ := ih (by omega)
    have hsm := stB_small P l (by omega)
    by_cases hi : ist P l = true
    · have hid : idx (stB P l).2.1 (stB P l).1 (cd (fs P l) 0) = (stB P l).1 := by
        refine idx_none (fun j hj hjv => ?_)
        obtain ⟨k, k1, k2, k3⟩ := i2 j hj
        have := i3 k k1 k2
        rw [k3, hjv] at this
        have := fs_inj ok (by omega) (by omega) (show fs P l = fs P k from this)
        omega
      have e : stB P (l + 1) = ((stB P l).1 + 1, upN (stB P l).2.1 (stB P l).1 (cd (fs P l) 0), false) := by rw [stB, if_pos hi, insB_new hsm.1 hid (by omega)]
      rw [e]
      refine ⟨?_, fun j hj => ?_, fun k hk hk2 => ?_⟩
      · show (stB P l).1 + 1 = _; rw [fb_ct_succ, hi, i1]; rfl
      · have hj : j < (stB P l).1 + 1 := hj
        by_cases hjn : j = (stB P l).1
        · exact ⟨l, by omega, hi, by rw [hjn, i1]⟩
        · obtain ⟨k, k1, k2, k3⟩ := i2 j (by omega)
          exact ⟨k, by omega, k2, k3⟩
      · show upN (stB P l).2.1 (stB P l).1 (cd (fs P l) 0) (fb_ct (ist P) k) = fs P k
        by_cases hkl : k = l
        · subst hkl; rw [← i1, upN_s]; rfl
        · have h1 := fb_ct_mono (ist P) (show k + 1 ≤ l by omega)
          rw [fb_ct_succ, hk2] at h1
          have h1 : fb_ct (ist P) k + 1 ≤ fb_ct (ist P) l := h1
          rw [upN_n (by omega)]; exact i3 k (by omega) hk2
    · have e : stB P (l + 1) = stB P l := by rw [stB, if_neg hi]
      rw [e]
      refine ⟨by rw [fb_ct_succ, bool_f hi, i1]; rfl, fun j hj => ?_, fun k hk hk2 => ?_⟩
      · obtain ⟨k, k1, k2, k3⟩ := i2 j hj
        exact ⟨k, by omega, k2, k3⟩
      · by_cases hkl : k = l
        · subst hkl; exact absurd hk2 hi
        · exact i3 k (by omega) hk2
def sx (P : PT) (l : Nat) : Nat := fb_ct (ist P) l
theorem sx_lt {P : PT} (ok : POK P) {l : Nat} (hl : l < 4) (hi : ist P l = true) : sx P l < stN P := by
  unfold stN sx
  rw [(stB_ct ok 4 (by omega)).1]
  have h1 := fb_ct_mono (ist P) (show l + 1 ≤ 4 by omega)
  rw [fb_ct_succ, hi] at h1
  have h1 : fb_ct (ist P) l + 1 ≤ fb_ct (ist P) 4 := h1
  omega
theorem sx_at {P : PT} (ok : POK P) {j : Nat} (hj : j < stN P) : ∃ l, l ≤ al P ∧ ist P l = true ∧ sx P l = j := by
  obtain ⟨k, k1, k2, k3⟩ := (stB_ct ok 4 (by omega)).2.1 j hj
  refine ⟨k, ?_, k2, k3⟩
  refine Nat.le_of_not_lt (fun z => ?_)
  rw [ist_al z] at k2; exact absurd k2 (by decide)
theorem sx_fk {P : PT} (ok : POK P) (F : Nat) {l : Nat} (hl : l < 4) (hi : ist P l = true) (k : Nat) : (bfs P F k).2.1 (sx P l) = fs P l := by
  have hx := bfs_x P F 0 k (by omega)
  have := hx.2.1 (sx P l) (sx_lt ok hl hi)
  rw [this]; exact (stB_ct ok 4 (by omega)).2.2 l hl hi
theorem BF_k (P : PT) (F : Nat) : ∃ k, BF P F = bfs P F k := ⟨5000, rfl⟩
theorem sx_f {P : PT} (ok : POK P) (F : Nat) {l : Nat} (hl : l < 4) (hi : ist P l = true) : (BF P F).2.1 (sx P l) = fs P l := by
  obtain ⟨k, e⟩ := BF_k P F
  rw [e]; exact sx_fk ok F hl hi k
theorem sx_mono {P : PT} {l k : Nat} (hl : ist P l = true) (h : l < k) : sx P l < sx P k := by
  have h1 := fb_ct_mono (ist P) (show l + 1 ≤ k by omega)
  rw [fb_ct_succ, hl] at h1
  exact h1
theorem M_startNumber {P : PT} {m l : Nat} {g : HP} (ok : POK P) (hp : PM P m g) (hl : l ≤ al P + 1) : f_M_startNumber m (nI l) g = some (nI (sx P l), g) := by
  have ha := al_le P
  have key : pw (f_M_startNumber m (nI l) g) (fun r => r = (nI (sx P l), g)) := by
    unfold f_M_startNumber f_M_startNumber_4
    refine pw_cnt l (fun k t => t = (nI (sx P k), nI k, g)) ?_ ?_ 0 _ (by omega) rfl
    · rintro k t hk rfl
      have hle := fb_ct_le (ist P) k
      refine pw_L (s := (nI (sx P (k + 1)), nI (k + 1), g)) ?_ rfl
      unfold f_M_startNumber_4b f_M_startNumber_23
      dsimp only
      rw [if_neg (nI_ge hk (by omega)), bn_o (M_ist ok hp (by omega))]
      dsimp only [xx_l]
      have es : sx P (k + 1) = sx P k + (if ist P k = true then 1 else 0) := fb_ct_succ _ _
      rw [es]
      by_cases hi : ist P k = true
      · rw [if_pos hi, if_neg (show ¬ nI 1 = (0 : Int32) by decide), nI_1, nI_1]
      · rw [if_neg hi, if_pos (show nI 0 = (0 : Int32) from rfl), show (0 : Int32) = nI 0 from rfl, nI_add, nI_1]
    · rintro t rfl
      refine pw_R (t := (nI (sx P l), g)) ?_ rfl
      unfold f_M_startNumber_4b
      dsimp only
      rw [if_pos (nI_le (Nat.le_refl _) (by omega))]
  obtain ⟨r, hr, rfl⟩ := key
  exact hr
/-- the first of the soonest starts, one more -/
def bst (P : PT) (so : Nat → Nat) : Nat → Nat
  | 0 => 0
  | l + 1 => if ist P l = true ∧ 0 < so (sx P l) ∧ (bst P so l = 0 ∨ so (sx P l) < so (sx P (bst P so l - 1))) then l + 1 else bst P so l
theorem bst_ok (P : PT) (so : Nat → Nat) : ∀ l, (bst P so l = 0 → ∀ k, k < l → ist P k = true → so (sx P k) = 0) ∧ (bst P so l ≠ 0 → bst P so l - 1 < l ∧ ist P (bst P so l - 1) = true ∧ 0 < so (sx P (bst P so l - 1)) ∧ ∀ k, k < l → ist P k = true → 0 < so (sx P k) → so (sx P (bst P so l - 1)) ≤ so (sx P k) ∧ (k < bst P so l - 1 → so (sx P (bst P so l - 1)) < so (sx P k))) := by
  intro l
  induction l with
  | zero => exact ⟨fun _ k hk => by omega, fun z => absurd rfl z⟩
  | succ l ih =>
    obtain ⟨i1, i2⟩ := ih
    rw [bst]
    by_cases hc : ist P l = true ∧ 0 < so (sx P l) ∧ (bst P so l = 0 ∨ so (sx P l) < so (sx P (bst P so l - 1)))
    · rw [if_pos hc]
      obtain ⟨c1, c2, c3⟩ := hc
      refine ⟨fun z => by omega, fun _ => ?_⟩
      rw [show l + 1 - 1 = l by omega]
      refine ⟨by omega, c1, c2, fun k hk hk2 hk3 => ?_⟩
      by_cases hkl : k = l
      · subst hkl; exact ⟨Nat.le_refl _, fun z => by omega⟩
      · rcases c3 with z | z
        · have := i1 z k (by omega) hk2; omega
        · have hb : bst P so l ≠ 0 := fun w => by have := i1 w k (by omega) hk2; omega
          have := (i2 hb).2.2.2 k (by omega) hk2 hk3
          exact ⟨by omega, fun _ => by omega⟩
    · rw [if_neg hc]
      refine ⟨fun z k hk hk2 => ?_, fun z => ?_⟩
      · by_cases hkl : k = l
        · subst hkl
          refine Decidable.of_not_not (fun w => hc ⟨hk2, by omega, .inl z⟩)
        · exact i1 z k (by omega) hk2
      · obtain ⟨j1, j2, j3, j4⟩ := i2 z
        refine ⟨by omega, j2, j3, fun k hk hk2 hk3 => ?_⟩
        by_cases hkl : k = l
        · subst hkl
          refine ⟨Nat.le_of_not_lt (fun w => hc ⟨hk2, hk3, .inr w⟩), fun w => by omega⟩
        · exact j4 k (by omega) hk2 hk3
theorem M_soonStart {P : PT} {m c n : Nat} {rr nx : Nat → Nat → Nat} {h : HP} (ok : POK P) (hp : PM P m h) (ht : TAB m n (p_nm P) rr nx h) (hst : stN P ≤ n) (hc : c = 1 ∨ c = 2) : pw (f_M_soonStart m (cvv c) h) (fun r => hp_fr (fun a _ => a = m + 30) h r.2 ∧ ∃ so : Nat → Nat, SOL rr nx (p_nm P) c n so ∧ (∀ s, s < n → so s ≤ 5002 ∧ hp_i r.2 (m + 30) s = nI (so s)) ∧ r.1 = utv (bst P so (al P + 1))) := by
  have ha := al_le P
  unfold f_M_soonStart
  refine pw_bind (pw_mono (M_laySoon ht hc) ?_)
  rintro g ⟨H, so, hS, hcell⟩
  have hpg : PM P m g := PM_ag (fun a k hk => hf_i H (by unfold F_PM at hk; omega)) hp
  have hm := (TAB_fr H (by omega) ht).1
  have hn5 := ht.2.1
  have cell : ∀ l, l ≤ al P → ist P l = true → sx P l < n ∧ hp_i g (m + 30) (sx P l) = nI (so (sx P l)) ∧ so (sx P l) ≤ 5002 := fun l hl hi => by
    have := sx_lt ok (show l < 4 by omega) hi
    exact ⟨by omega, (hcell _ (by omega)).2, (hcell _ (by omega)).1⟩
  unfold f_M_soonStart_9
  refine pw_cnt (al P + 1) (fun l t => t = (utv (bst P so l), nI l, g)) ?_ ?_ 0 _ (by omega) rfl
  · rintro l t hl rfl
    have hb := bst_ok P so l
    refine pw_L (s := (utv (bst P so (l + 1)), nI (l + 1), g)) ?_ rfl
    unfold f_M_soonStart_9b f_M_soonStart_64 f_M_soonStart_66
    dsimp only
    rw [bn_o (M_full ok hpg.1)]
    dsimp only
    rw [if_neg (nI_nlt (by omega) (by omega)), bn_o (M_ist ok hpg (by omega))]
    dsimp only
    rw [bst]
    by_cases hi : ist P l = true
    · obtain ⟨x1, x2, x3⟩ := cell l (by omega) hi
      rw [if_pos hi, if_neg (show ¬ nI 1 = (0 : Int32) by decide), mb_68 hm, bn_o (M_startNumber ok hpg (by omega))]
      dsimp only
      rw [mn_30 hm, if_pos (hp_in_nI (by omega) (by omega)), nI_clamp (by omega), x2, xx_lE]
      by_cases h0 : so (sx P l) = 0
      · rw [h0, if_pos (by decide), xx_lE, nI_1, if_neg (fun z => by omega)]
      · rw [if_neg (nI_nle (by omega) (by omega))]
        by_cases hz : bst P so l = 0
        · rw [hz, utv0, if_pos (by decide), xx_lE, nI_1, if_pos ⟨hi, by omega, .inl rfl⟩, utv_s (by omega)]; rfl
        · obtain ⟨j1, j2, j3, j4⟩ := hb.2 hz
          obtain ⟨y1, y2, y3⟩ := cell (bst P so l - 1) (by omega) j2
          rw [utv_s (by omega), if_neg (nI_pos (by omega)), mb_68 hm, bn_o (M_startNumber ok hpg (by omega))]
          dsimp only
          rw [mn_30 hm, if_pos (hp_in_nI (by omega) (by omega)), nI_clamp (by omega), y2]
          by_cases hle : so (sx P (bst P so l - 1)) ≤ so (sx P l)
          · rw [if_pos (nI_le hle (by omega)), xx_lE, nI_1, if_neg (fun z => by rcases z.2.2 with w | w <;> omega), utv_s (by omega)]
          · rw [if_neg (nI_ge (by omega) (by omega)), xx_lE, nI_1, if_pos ⟨hi, by omega, .inr (by omega)⟩, utv_s (by omega)]; rfl
    · rw [if_neg hi, if_pos (show nI 0 = (0 : Int32) from rfl), xx_lE, nI_1, if_neg (fun z => hi z.1)]
  · rintro t rfl
    refine pw_R (t := (utv (bst P so (al P + 1)), g)) ?_ ⟨H, so, hS, hcell, rfl⟩
    unfold f_M_soonStart_9b
    dsimp only
    rw [bn_o (M_full ok hpg.1)]
    dsimp only
    rw [if_pos (nI_lt (by omega) (by omega))]
/-- the start of the least row -/
theorem bst_root {P : PT} {c n w i l : Nat} {rr nx : Nat → Nat → Nat} {ff so : Nat → Nat} (ok : POK P) (h : ORD n (stN P) (p_nm P) rr nx ff) (hS : SOL rr nx (p_nm P) c n so) (hF : FST n (p_nm P) c rr w i) (hl : l ≤ al P) (hi : ist P l = true) (hx : sx P l = anc ff w (dp ff (stN P) w)) : bst P so (al P + 1) = l + 1 := by
  have ha := al_le P
  have hst := h.1
  obtain ⟨b1, b2⟩ := bst_ok P so (al P + 1)
  have r1 := so_row h hS hF (dp ff (stN P) w) (Nat.le_refl _)
  rw [← hx] at r1
  have hz : bst P so (al P + 1) ≠ 0 := fun z => by have := b1 z l (by omega) hi; omega
  obtain ⟨j1, j2, j3, j4⟩ := b2 hz
  have k := j4 l (by omega) hi (by omega)
  have hlt := sx_lt ok (show bst P so (al P + 1) - 1 < 4 by omega) j2
  have low := so_low h hS hF _ (sx P (bst P so (al P + 1) - 1)) (by omega) rfl j3
  rw [dp_0 hlt] at low
  have hge : ¬ bst P so (al P + 1) - 1 < l := fun z => by
    have := sx_mono j2 z
    exact so_no h hS hF (dp ff (stN P) w) (sx P (bst P so (al P + 1) - 1)) (Nat.le_refl _) (by omega) (by rw [← hx]; exact this) (by omega)
  have hle : ¬ l < bst P so (al P + 1) - 1 := fun z => by have := k.2 z; omega
  omega
theorem bst_none {P : PT} {n : Nat} {so : Nat → Nat} (ok : POK P) (hst : stN P ≤ n) (h : ∀ s, s < n → so s = 0) : bst P so (al P + 1) = 0 := by
  have ha := al_le P
  refine Decidable.of_not_not (fun z => ?_)
  obtain ⟨j1, j2, j3, j4⟩ := (bst_ok P so (al P + 1)).2 z
  have := sx_lt ok (show bst P so (al P + 1) - 1 < 4 by omega) j2
  have := h (sx P (bst P so (al P + 1) - 1)) (by omega)
  omega
/-! shows: the row man by man -/
theorem M_shows71 {m n nm s left mm : Nat} {i5 i1 : Int32} {rr nx : Nat → Nat → Nat} {so : Nat → Nat} {g : HP} {Q : (Int32 × Int32 × Int32 × HP) ⊕ (Int32 × HP) → Prop} (ht : TAB m n nm rr nx g) (hs : s < n) (hl : 0 < left) (hl2 : left ≤ 5002) (hso : ∀ t, t < n → so t ≤ 5002 ∧ hp_i g (m + 30) t = nI (so t)) (hmm : mm < nm) (hyes : if left = 1 then rr s mm = 2 else rr s mm = 0 ∧ so (nx s mm) = left - 1) (hno : ∀ j, j < mm → ¬ (if left = 1 then rr s j = 2 else rr s j = 0 ∧ so (nx s j) = left - 1)) (hQ : pw (f_M_shows_142 m i1 (nI s) (nI mm) i5 (nI left) g) Q) : pw (f_M_shows_71 m i1 (nI s) i5 (nI left) (nI 0) g) Q := by
  obtain ⟨hm, a2, a3, a4, a5, a6, a7, a8⟩ := id ht
  have dec : ∀ j, j < nm → (left = 1 → ((ncv (rr s j) (nx s j) = (-3 : Int32)) ↔ rr s j = 2)) := fun j hj _ => by
    have hr3 := a6 s j hs hj
    have e3 : (-3 : Int32) = cvv 2 := rfl
    rw [e3]
    rcases nxb ht hs hj with z | z
    · rw [ncv_c0 z hr3]; exact ncv_c hr3 (by decide) (.inr rfl)
    · exact ncv_c hr3 (by omega) (.inr rfl)
  have neg : ∀ j, j < nm → ((ncv (rr s j) (nx s j) < 0) ↔ rr s j ≠ 0) := fun j hj => by
    have hr3 := a6 s j hs hj
    rcases nxb ht hs hj with z | z
    · rw [ncv_c0 z hr3]; exact ncv_neg hr3 (by decide)
    · exact ncv_neg hr3 (by omega)
  unfold f_M_shows_71
  refine pw_cnt mm (fun j t => t = (nI j, g)) ?_ ?_ 0 _ (by omega) rfl
  · rintro j t hj rfl
    have hjn : j < nm := by omega
    have hnj := hno j hj
    refine pw_L (s := (nI (j + 1), g)) ?_ rfl
    unfold f_M_shows_71b f_M_shows_136
    dsimp only
    rw [show (6 : Int32) = nI 6 from rfl, pk_mul, nI_add]
    by_cases h1 : left = 1
    · subst h1
      rw [if_pos rfl] at hnj
      rw [if_pos (show nI 1 = (1 : Int32) from rfl), mb_64 hm, mn_29 hm, if_pos (hp_in_nI (by omega) (by omega)), nI_clamp (by omega), a8 s j hs hjn, if_neg (fun z => hnj ((dec j hjn rfl).mp z)), xx_lE, nI_1]
    · rw [if_neg h1] at hnj
      rw [if_neg (show ¬ nI left = (1 : Int32) from fun z => h1 ((nI_eq (b := 1) (by omega) (by decide)).mp z)), mb_64 hm, mn_29 hm, if_pos (hp_in_nI (by omega) (by omega)), nI_clamp (by omega), a8 s j hs hjn]
      by_cases h0 : rr s j = 0
      · have hx := a7 s j hs hjn h0
        rw [if_neg (fun z => (neg j hjn).mp z h0), mb_68 hm, mb_64 hm, mn_29 hm, if_pos (hp_in_nI (by omega) (by omega)), a8 s j hs hjn, h0, ncv_0, mn_30 hm, if_pos (hp_in_nI (by omega) (by omega)), nI_clamp (by omega), (hso _ hx).2, sub1 hl]
        have hb := (hso _ hx).1
        rw [if_neg (fun z => hnj ⟨h0, (nI_eq (by omega) (by omega)).mp z⟩), xx_lE, nI_1]
      · rw [if_pos ((neg j hjn).mpr h0), xx_lE, nI_1]
  · rintro t rfl
    unfold f_M_shows_71b
    dsimp only
    rw [show (6 : Int32) = nI 6 from rfl, pk_mul, nI_add]
    by_cases h1 : left = 1
    · subst h1
      rw [if_pos rfl] at hyes
      rw [if_pos (show nI 1 = (1 : Int32) from rfl), mb_64 hm, mn_29 hm, if_pos (hp_in_nI (by omega) (by omega)), nI_clamp (by omega), a8 s mm hs hmm, if_pos ((dec mm hmm rfl).mpr hyes)]
      exact pw_mapR hQ
    · rw [if_neg h1] at hyes
      obtain ⟨y1, y2⟩ := hyes
      have hx := a7 s mm hs hmm y1
      rw [if_neg (show ¬ nI left = (1 : Int32) from fun z => h1 ((nI_eq (b := 1) (by omega) (by decide)).mp z)), mb_64 hm, mn_29 hm, if_pos (hp_in_nI (by omega) (by omega)), nI_clamp (by omega), a8 s mm hs hmm, if_neg (fun z => (neg mm hmm).mp z y1), mb_68 hm, mb_64 hm, mn_29 hm, if_pos (hp_in_nI (by omega) (by omega)), a8 s mm hs hmm, y1, ncv_0, mn_30 hm, if_pos (hp_in_nI (by omega) (by omega)), nI_clamp (by omega), (hso _ hx).2, sub1 hl, y2, if_pos rfl]
      exact pw_mapR hQ
/-- the k-th man of the least row -/
def rwv (ff : Nat → Nat) (st w i k : Nat) : Nat := if k < dp ff st w then ff (anc ff w (dp ff st w - 1 - k)) % 8 else i
theorem M_shows54 {m n st nm w i K : Nat} {rr nx : Nat → Nat → Nat} {ff so : Nat → Nat} {g : HP} (h : ORD n st nm rr nx ff) (ht : TAB m n nm rr nx g) (hS : SOL rr nx nm 2 n so) (hF : FST n nm 2 rr w i) (hso : ∀ t, t < n → so t ≤ 5002 ∧ hp_i g (m + 30) t = nI (so t)) (hK : K ≤ dp ff st w) : f_M_shows_54 m (nI K) (nI (anc ff w (dp ff st w))) (nI 0) (nI 0) g = some (nI (rwv ff st w i K), g) := by
  obtain ⟨hm, a2, a3, a4, a5, a6, a7, a8⟩ := id ht
  have hw := hF.1
  have hdw := dp_lt (ORD_p h) w hw
  have key : pw (f_M_shows_54 m (nI K) (nI (anc ff w (dp ff st w))) (nI 0) (nI 0) g) (fun r => r = (nI (rwv ff st w i K), g)) := by
    unfold f_M_shows_54
    refine pw_cnt (K + 1) (fun k t => t = (nI (anc ff w (dp ff st w - k)), nI (if k = 0 then 0 else rwv ff st w i (k - 1)), nI k, g)) ?_ ?_ 0 _ (by omega) rfl
    · rintro k t hk rfl
      obtain ⟨b1, b2⟩ := anc_dp (ORD_p h) hw (dp ff st w - k) (by omega)
      have hleft := so_row h hS hF (dp ff st w - k) (by omega)
      unfold f_M_shows_54b
      dsimp only
      rw [if_neg (nI_nlt (by omega) (by omega)), mb_68 hm, mn_30 hm, if_pos (hp_in_nI (by omega) (by omega)), nI_clamp (by omega), (hso _ b1).2, xx_lE, hleft]
      by_cases hkd : k < dp ff st w
      · obtain ⟨m1, m2, m3, m4⟩ := so_man h hS hF (show dp ff st w - k - 1 < dp ff st w by omega)
        rw [show dp ff st w - k - 1 + 1 = dp ff st w - k by omega] at m2 m3 m4
        have hn1 : ¬ dp ff st w - k + 1 = 1 := by omega
        refine M_shows71 (mm := ff (anc ff w (dp ff st w - k - 1)) % 8) ht b1 (by omega) (by omega) hso m1 ?_ (fun j hj => ?_) ?_
        · rw [if_neg hn1]
          refine ⟨m2, ?_⟩
          rw [m3, so_row h hS hF (dp ff st w - k - 1) (by omega)]; omega
        · rw [if_neg hn1]
          intro z
          exact m4 j hj ⟨z.1, by rw [z.2]; omega⟩
        · unfold f_M_shows_142 f_M_shows_164
          rw [if_neg (show ¬ nI _ = (1 : Int32) from fun z => hn1 ((nI_eq (b := 1) (by omega) (by decide)).mp z)), mb_64 hm, show (6 : Int32) = nI 6 from rfl, pk_mul, nI_add, mn_29 hm, if_pos (hp_in_nI (by omega) (by omega)), nI_clamp (by omega), a8 _ _ b1 m1, m2, ncv_0, m3, xx_lE]
          refine pw_some ?_
          show _ = _
          rw [if_neg (by omega), show k + 1 - 1 = k by omega, nI_1, show dp ff st w - (k + 1) = dp ff st w - k - 1 by omega]
          unfold rwv
          rw [if_pos hkd, show dp ff st w - 1 - k = dp ff st w - k - 1 by omega]
      · have hkd2 : k = dp ff st w := by omega
        subst hkd2
        have ez : anc ff w (dp ff st w - dp ff st w) = w := by rw [Nat.sub_self]; rfl
        rw [ez] at b1 hleft ⊢
        rw [Nat.sub_self]
        refine M_shows71 (mm := i) ht hw (by omega) (by omega) hso hF.2.1 (by rw [if_pos rfl]; exact hF.2.2.1) (fun j hj => ?_) ?_
        · rw [if_pos rfl]
          intro z
          have := hF.2.2.2 w j hw (by have := hF.2.1; omega) z
          omega
        · unfold f_M_shows_142 f_M_shows_164
          rw [if_pos (show nI (0 + 1) = (1 : Int32) from rfl), xx_lE]
          refine pw_some ?_
          show _ = _
          rw [if_neg (by omega), show dp ff st w + 1 - 1 = dp ff st w by omega, nI_1, show dp ff st w - (dp ff st w + 1) = 0 by omega]
          unfold rwv
          rw [if_neg (by omega)]; rfl
    · rintro t rfl
      refine pw_R (t := (nI (rwv ff st w i K), g)) ?_ rfl
      unfold f_M_shows_54b
      dsimp only
      rw [if_pos (nI_lt (by omega) (by omega)), if_neg (by omega)]; rfl
  obtain ⟨r, hr, rfl⟩ := key
  exact hr
