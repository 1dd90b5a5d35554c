/-! the reference lays out all states -/
def MB (m : Nat) (B : BT) (h : HP) : Prop := MSS m B.1 B.2.1 h ∧ hp_i h m 66 = nI (if B.2.2 = true then 1 else 0)
theorem MB_fr {S : Nat → Nat → Prop} {m : Nat} {B : BT} {h h' : HP} (H : hp_fr S h h') (hS : ∀ a k, S a k → ¬ F_MS m a k ∧ ¬ (a = m ∧ k = 66)) (hB : MB m B h) : MB m B h' := ⟨MSS_fr H (fun a k z => (hS a k z).1) hB.1, by rw [hf_i H (fun z => (hS _ _ z).2 ⟨rfl, rfl⟩)]; exact hB.2⟩
theorem insB_old {B : BT} {v : Nat} (h0 : B.2.2 = false) (h : idx B.2.1 B.1 v < B.1) : insB B v = B := by
  unfold insB; rw [if_neg (by rw [h0]; decide), if_pos h]
theorem insB_new {B : BT} {v : Nat} (h0 : B.2.2 = false) (h : idx B.2.1 B.1 v = B.1) (hn : B.1 < 5000) : insB B v = (B.1 + 1, upN B.2.1 B.1 v, false) := by
  unfold insB; rw [if_neg (by rw [h0]; decide), if_neg (by omega), if_neg (by omega)]
theorem insB_full {B : BT} {v : Nat} (h0 : B.2.2 = false) (h : idx B.2.1 B.1 v = B.1) (hn : B.1 = 5000) : insB B v = (B.1, B.2.1, true) := by
  unfold insB; rw [if_neg (by rw [h0]; decide), if_neg (by omega), if_pos hn]
theorem M_number {m N t : Nat} {B : BT} {g : HP} (hs : MS m g) (hN : N < 2 ^ 54) (ht : t < 2) (hc : CM m N g) (h67 : hp_i g m 67 = nI t) (hB : MB m B g) (h0 : B.2.2 = false) : pw (f_M_number m g) (fun r => MB m (insB B (cd N t)) r.2 ∧ hp_fr (S_ms m) g r.2 ∧ ((insB B (cd N t)).2.2 = false → r.1 = nI (idx (insB B (cd N t)).2.1 (insB B (cd N t)).1 (cd N t)))) := by
  unfold f_M_number
  rw [bn_o (M_packed hs hN ht hc h67), bn_o (M_home g)]
  refine pw_mono (M_num10 hs hB.1 (cd_lt hN ht)) ?_
  have h66 := hB.2
  rw [h0] at h66
  rintro ⟨r1, r2⟩ (⟨q1, q2, q3⟩ | ⟨q1, q2, q3, q4, q5, q6⟩ | ⟨q1, q2, q3, q4⟩)
  · dsimp only at q2 q3 ⊢
    subst q3
    rw [insB_old h0 q1]
    exact ⟨hB, hp_fr_rf _, fun _ => q2⟩
  · dsimp only at q3 q4 q5 q6 ⊢
    rw [insB_new h0 q1 q2]
    refine ⟨⟨q4, ?_⟩, q6, fun _ => ?_⟩
    · rw [q5]; exact h66
    · obtain ⟨_, _, _, sl, a10, _⟩ := q4
      rw [q3]
      show nI B.1 = nI (idx (upN B.2.1 B.1 (cd N t)) (B.1 + 1) (cd N t))
      rw [idx_eq (j := B.1) a10.2.1 (by omega) (upN_s _ _ _)]
  · dsimp only at q3 q4 ⊢
    subst q4
    rw [insB_full h0 q1 q2]
    have H : hp_fr (S_ms m) g (hp_si g m 66 1) := hf_si (hp_fr_rf g) (by unfold S_ms; omega)
    refine ⟨⟨MSS_fr (hf_si (S := fun a k => a = m ∧ k = 66) (hp_fr_rf g) ⟨rfl, rfl⟩) (by unfold F_MS; omega) hB.1, ?_⟩, H, fun z => absurd z (by show ¬ true = false; decide)⟩
    rw [hp_i_si, if_pos ⟨rfl, rfl⟩]; rfl
def nxm (P : PT) (f : Nat → Nat) (n s i : Nat) : Int32 := if rs3 P (f s % 2 ^ 54) i = 1 then -2 else if rs3 P (f s % 2 ^ 54) i = 2 then -3 else nI (idx f n (tg P f s i))
def NXM (m : Nat) (P : PT) (B : BT) (p : Nat) (h : HP) : Prop := ∀ s i, i < p_nm P → 8 * s + i < p → s < B.1 → hp_i h (m + 29) (6 * s + i) = nxm P B.2.1 B.1 s i
theorem rs3_0 {P : PT} {N i : Nat} (h : oS P N i = 0) : rs3 P N i = 0 := by unfold rs3; rw [if_pos h]
theorem rs3_12 {P : PT} {N i : Nat} (h : oS P N i ≠ 0) : rs3 P N i = 1 ∨ rs3 P N i = 2 := by
  unfold rs3; rw [if_neg h]; split
  · exact .inl rfl
  · exact .inr rfl
theorem nxm_x {P : PT} {B C : BT} {s i : Nat} (hx : xtd B C) (hs : s < B.1) (hc : oS P (B.2.1 s % 2 ^ 54) i = 0 → idx B.2.1 B.1 (tg P B.2.1 s i) < B.1) : nxm P C.2.1 C.1 s i = nxm P B.2.1 B.1 s i := by
  have e : tg P C.2.1 s i = tg P B.2.1 s i := by unfold tg; rw [hx.2.1 s hs]
  unfold nxm
  rw [hx.2.1 s hs, e]
  by_cases ho : oS P (B.2.1 s % 2 ^ 54) i = 0
  · rw [idx_x hx (hc ho)]
  · rcases rs3_12 ho with z | z
    · rw [z, if_pos rfl, if_pos rfl]
    · rw [z, if_neg (by decide), if_pos rfl, if_neg (by decide), if_pos rfl]
/-- good so far: all leads ahead of p stand in the table -/
def NXG (m : Nat) (P : PT) (B : BT) (p : Nat) (h : HP) : Prop := B.2.2 = false → CLP P B p ∧ NXM m P B p h
theorem NXG_x {m p : Nat} {P : PT} {B C : BT} {h h' : HP} (hx : xtd B C) (hp : p ≤ 8 * B.1) (he : ∀ k, hp_i h' (m + 29) k = hp_i h (m + 29) k) (hg : NXG m P B p h) : NXG m P C p h' := by
  intro hc
  obtain ⟨c1, c2⟩ := hg (xtd_sp hx hc)
  refine ⟨CLP_x hx c1 hp, fun s i hi hs _ => ?_⟩
  have hsB : s < B.1 := by omega
  rw [he, nxm_x hx hsB (fun ho => c1 s i hi hs hsB ho)]
  exact c2 s i hi hs hsB
theorem NXG_8 {m s : Nat} {P : PT} {B : BT} {h : HP} (hn : p_nm P ≤ 8) (hg : NXG m P B (8 * s + p_nm P) h) : NXG m P B (8 * (s + 1)) h := by
  intro hc
  obtain ⟨c1, c2⟩ := hg hc
  exact ⟨fun s' i hi hs hs' ho => c1 s' i hi (by omega) hs' ho, fun s' i hi hs hs' => c2 s' i hi (by omega) hs'⟩
def S_lay (m : Nat) : Nat → Nat → Prop := fun a k => a = m ∧ (51 ≤ k ∧ k ≤ 54 ∨ 65 ≤ k ∧ k ≤ 67) ∨ a = m + 19 ∨ a = m + 20 ∨ a = m + 21 ∨ a = m + 23 ∨ a = m + 27 ∨ a = m + 28 ∨ a = m + 29
theorem PM_lay {P : PT} {m : Nat} {h h' : HP} (H : hp_fr (S_lay m) h h') (hp : PM P m h) : PM P m h' := PM_ag (fun a k hk => hf_i H (by unfold F_PM at hk; unfold S_lay; omega)) hp
def fvv (F : Nat) : Int32 := if F = 3 then -1 else nI F
theorem M_doFault {P : PT} {m N F j t : Nat} {g : HP} (hs : MS m g) (ok : POK P) (hp : PM P m g) (hF : F < 3) (hj : j < wys P F) (hc : CM m N g) (h67 : hp_i g m 67 = nI t) : pw (f_M_doFault m (nI F) (nI j) g) (fun g' => hp_fr (F_CU m) g g' ∧ CM m (ftc P F N j) g' ∧ hp_i g' m 67 = nI 1) := by
  have hnm := ok.2.2.2.2.2.1
  have hol : ∀ i, i < 6 → ow N i < 256 := fun i _ => ow_lt N i
  obtain ⟨y1, y2, y3⟩ := hc
  unfold f_M_doFault
  rw [xx_lE]
  unfold wys at hj
  unfold ftc
  have hlm := lm_lt N
  by_cases h0 : F = 0
  · subst h0
    rw [if_pos rfl] at hj ⊢
    rw [if_pos (show nI 0 = (0 : Int32) from rfl)]
    have hfi := hf_lt ok hj
    have hbe := be_lt N j
    have hol2 : ∀ i, i < 6 → upN (ow N) j (p_hf P (p_ro P j) + 128 * be N j) i < 256 := upN_lt hol (by omega)
    have hw : ∀ i, i < 6 → ow (fg P N j) i = upN (ow N) j (p_hf P (p_ro P j) + 128 * be N j) i := fun i hi => ex_ow (lm_lt N) (dy_lt N) hol2 hi
    let g1 := hp_si g m 67 1
    have hs1 : MS m g1 := hs
    have e2 : hp_i g1 (m + 7) j = nI (p_hf P (p_ro P j)) := by simp only [g1]; rw [hp_i_si, if_neg (by omega)]; exact hp.2.2.2.2.2.2.2.2.2.1 j hj
    have e : f_M_forgetAt m (nI j) g1 = some (hp_si (hp_si g1 (m + 20) j (nI (p_hf P (p_ro P j)))) (m + 21) j (nI 0)) := by
      simp (disch := omega) only [f_M_forgetAt, ↓xx_lE, ↓reduceIte, ↓bn_si, ↓bn_sl, ↓bn_s, ↓bn_ms, hp_i_si, hp_l_si, hp_r_si, hp_n_si, hp_i_sl, hp_l_sl, hp_r_sl, hp_n_sl, hp_i_sr, hp_l_sr, hp_r_sr, hp_n_sr, iL, nI_clamp, hp_in_nI, nI_add, pk_mul, pk_sub, c_le, c_nle, c_lt, c_nlt, c_ne, c_m1, c_m1', ad_ne, ad_ne', ad_ne2, nar0, nar1, true_and, false_and, and_true, and_false, Nat.add_zero, Nat.zero_add, e2, ↓mb_47 hs1, ↓mb_15 hs1, ↓mb_48 hs1, mn_7 hs1, mn_20 hs1, mn_21 hs1]
    show pw ((f_M_forgetAt m (nI j) g1).bind _) _
    rw [bn_o e]
    have H : hp_fr (F_CU m) g (hp_si (hp_si g1 (m + 20) j (nI (p_hf P (p_ro P j)))) (m + 21) j (nI 0)) := hf_si (hf_si (hf_si (hp_fr_rf g) (by unfold F_CU; omega)) (by unfold F_CU; omega)) (by unfold F_CU; omega)
    refine pw_some ⟨H, ⟨?_, ?_, fun i hi => ?_⟩, ?_⟩
    · simp only [g1]
      rw [hp_i_si, if_neg (by omega), hp_i_si, if_neg (by omega), hp_i_si, if_neg (by omega), y1]
      unfold fg; rw [ex_lm (lm_lt N)]
    · simp only [g1]
      rw [hp_i_si, if_neg (by omega), hp_i_si, if_neg (by omega), hp_i_si, if_neg (by omega), y2]
      unfold fg; rw [ex_dy (lm_lt N) (dy_lt N)]
    · have hy := y3 i hi
      unfold hd vs be
      rw [hw i hi]
      by_cases hji : i = j
      · subst hji
        rw [upN_s]
        refine ⟨?_, ?_, ?_⟩
        · rw [show (p_hf P (p_ro P i) + 128 * be N i) % 32 = p_hf P (p_ro P i) by omega]; simp [g1, hp_i_si]
        · rw [show (p_hf P (p_ro P i) + 128 * be N i) / 32 % 4 = 0 by omega]; simp [g1, hp_i_si]
        · rw [show (p_hf P (p_ro P i) + 128 * be N i) / 128 = be N i by omega]
          have : hp_i (hp_si (hp_si g1 (m + 20) i (nI (p_hf P (p_ro P i)))) (m + 21) i (nI 0)) (m + 23) i = hp_i g (m + 23) i := by simp only [g1]; rw [hp_i_si, if_neg (by omega), hp_i_si, if_neg (by omega), hp_i_si, if_neg (by omega)]
          rw [this]; exact hy.2.2
      · rw [upN_n hji]
        simp only [g1]
        simp only [hp_i_si]
        refine ⟨?_, ?_, ?_⟩
        · rw [if_neg (by omega), if_neg (by omega), if_neg (by omega)]; exact hy.1
        · rw [if_neg (by omega), if_neg (by omega), if_neg (by omega)]; exact hy.2.1
        · rw [if_neg (by omega), if_neg (by omega), if_neg (by omega)]; exact hy.2.2
    · simp only [g1]; rw [hp_i_si, if_neg (by omega), hp_i_si, if_neg (by omega), hp_i_si, if_pos ⟨rfl, rfl⟩]; rfl
  · rw [if_neg h0]
    have two : ∀ L, L < 4 → pw (some (hp_si (hp_si g m 67 1) m 51 (nI L))) (fun g' => hp_fr (F_CU m) g g' ∧ CM m (ex L (dy N) (ow N)) g' ∧ hp_i g' m 67 = nI 1) := by
      intro L hL
      refine pw_some ⟨hf_si (hf_si (hp_fr_rf g) (by unfold F_CU; omega)) (by unfold F_CU; omega), ⟨?_, ?_, fun i hi => ?_⟩, ?_⟩
      · rw [hp_i_si, if_pos ⟨rfl, rfl⟩, ex_lm hL]
      · rw [hp_i_si, if_neg (by omega), hp_i_si, if_neg (by omega), y2, ex_dy hL (dy_lt N)]
      · have hy := y3 i hi
        unfold hd vs be
        rw [ex_ow hL (dy_lt N) hol hi]
        simp only [hp_i_si]
        refine ⟨?_, ?_, ?_⟩
        · rw [if_neg (by omega), if_neg (by omega)]; exact hy.1
        · rw [if_neg (by omega), if_neg (by omega)]; exact hy.2.1
        · rw [if_neg (by omega), if_neg (by omega)]; exact hy.2.2
      · rw [hp_i_si, if_neg (by omega), hp_i_si, if_pos ⟨rfl, rfl⟩]; rfl
    by_cases h1 : F = 1
    · subst h1
      rw [if_pos rfl, if_neg (show ¬ nI 1 = (0 : Int32) by decide), if_pos (show nI 1 = (1 : Int32) from rfl), xx_lE]
      exact two 0 (by decide)
    · have h2 : F = 2 := by omega
      subst h2
      rw [if_neg (show ¬ nI 2 = (0 : Int32) by decide), if_neg (show ¬ nI 2 = (1 : Int32) by decide), if_neg (show ¬ (2 = 1) by decide), xx_lE]
      have e51 : hp_i (hp_si g m 67 1) m 51 = nI (lm N) := by rw [hp_i_si, if_neg (by omega)]; exact y1
      rw [e51, show (1 : Int32) = nI 1 from rfl, fb_xorI]
      exact two (lm N ^^^ 1) (lx1 N)
theorem bool_f {b : Bool} (h : ¬ b = true) : b = false := by cases b; rfl; exact absurd rfl h
theorem M_fol83 {P : PT} {m F E : Nat} {B : BT} {g : HP} (hs : MS m g) (ok : POK P) (hp : PM P m g) (hF : F ≤ 3) (hE : okc P E) (hB : MB m (rowB P E (p_nm P) B) g) : pw (f_M_follow_83 m (fvv F) (lN (pk E)) g) (fun g' => hp_fr (S_lay m) g g' ∧ MB m (folB P F E B) g' ∧ ∀ k, hp_i g' (m + 29) k = hp_i g (m + 29) k) := by
  have hE1 := hE.1
  have hnm := ok.2.2.2.2.2.1
  have eE := cd_of E
  have ht : E / 2 ^ 54 < 2 := by simp only [Nat.reducePow] at *; omega
  have hN : E % 2 ^ 54 < 2 ^ 54 := Nat.mod_lt _ (by decide)
  have hpk : lN (pk E) = lN (pk (cd (E % 2 ^ 54) (E / 2 ^ 54))) := by rw [eE]
  unfold f_M_follow_83
  rw [hpk]
  refine pw_bind (pw_mono (M_unpack hs hN ht) ?_)
  rintro g1 ⟨H1, c1, e67⟩
  have hB1 : MB m (rowB P E (p_nm P) B) g1 := MB_fr H1 (by unfold F_CU F_MS; omega) hB
  have L1 : hp_fr (S_lay m) g g1 := hp_fr_mo H1 (by unfold F_CU S_lay; omega)
  have n29 : ∀ k, hp_i g1 (m + 29) k = hp_i g (m + 29) k := fun k => hf_i H1 (by unfold F_CU; omega)
  rw [← hpk]
  unfold fvv
  by_cases h3 : F = 3
  · have efol : folB P F E B = rowB P E (p_nm P) B := by unfold folB; rw [if_neg (by omega)]
    rw [if_pos h3, if_pos rfl, efol]
    exact pw_some ⟨L1, hB1, n29⟩
  · rw [if_neg h3, if_neg (i_m1lt (by omega)), e67]
    by_cases hEt : E < 2 ^ 54
    · have h0 : E / 2 ^ 54 = 0 := Nat.div_eq_of_lt hEt
      have efol : folB P F E B = fltB P F E (wys P F) (rowB P E (p_nm P) B) := by unfold folB; rw [if_pos ⟨by omega, hEt⟩]
      rw [h0, if_pos (show nI 0 = (0 : Int32) from rfl), efol]
      have h116 : pw (f_M_follow_116 m (nI F) (lN (pk E)) (nI (wys P F)) g1) (fun g' => hp_fr (S_lay m) g g' ∧ MB m (fltB P F E (wys P F) (rowB P E (p_nm P) B)) g' ∧ ∀ k, hp_i g' (m + 29) k = hp_i g (m + 29) k) := by
        have hw : wys P F ≤ 6 := by unfold wys; split <;> omega
        unfold f_M_follow_116 f_M_follow_121
        refine pw_cnt (wys P F) (fun j st => st.1 = nI j ∧ hp_fr (S_lay m) g st.2 ∧ MB m (fltB P F E j (rowB P E (p_nm P) B)) st.2 ∧ ∀ k, hp_i st.2 (m + 29) k = hp_i g (m + 29) k) ?_ ?_ 0 (nI 0, g1) (by omega) ?_
        · rintro j ⟨w, k⟩ hj ⟨rfl, H, hb, e29⟩
          dsimp only at H hb e29 ⊢
          unfold f_M_follow_121b
          rw [if_neg (nI_ge hj (by omega)), hb.2]
          by_cases hsp : (fltB P F E j (rowB P E (p_nm P) B)).2.2 = true
          · rw [if_pos hsp, if_neg (show ¬ nI 1 = (0 : Int32) by decide)]
            have e := (fltB_x P F E (rowB P E (p_nm P) B) j (wys P F) (by omega)).2.2 hsp
            exact pw_some ⟨H, by rw [e]; exact hb, e29⟩
          · rw [if_neg hsp, if_pos (show nI 0 = (0 : Int32) from rfl), hpk]
            refine pw_bind (pw_mono (M_unpack (MS_fr H hs) hN ht) ?_)
            rintro k1 ⟨K1, d1, f67⟩
            have G1 : hp_fr (S_lay m) g k1 := hp_fr_tr H (hp_fr_mo K1 (by unfold F_CU S_lay; omega))
            refine pw_bind (pw_mono (M_doFault (MS_fr G1 hs) ok (PM_lay G1 hp) (by omega) hj d1 f67) ?_)
            rintro k2 ⟨K2, d2, f67'⟩
            have G2 : hp_fr (S_lay m) g k2 := hp_fr_tr G1 (hp_fr_mo K2 (by unfold F_CU S_lay; omega))
            have hb2 : MB m (fltB P F E j (rowB P E (p_nm P) B)) k2 := MB_fr K2 (by unfold F_CU F_MS; omega) (MB_fr K1 (by unfold F_CU F_MS; omega) hb)
            refine pw_bind (pw_mono (M_number (MS_fr G2 hs) (okc_ft ok hE hj).2 (by decide) d2 f67' hb2 (bool_f hsp)) ?_)
            rintro ⟨r, k3⟩ ⟨b3, K3, _⟩
            dsimp only at b3 K3 ⊢
            rw [xx_lE]
            refine pw_some ⟨nI_1 j, hp_fr_tr G2 (hp_fr_mo K3 (by unfold S_ms S_lay; omega)), b3, fun k => ?_⟩
            rw [hf_i K3 (by unfold S_ms; omega), hf_i K2 (by unfold F_CU; omega), hf_i K1 (by unfold F_CU; omega)]; exact e29 k
        · rintro ⟨w, k⟩ ⟨rfl, H, hb, e29⟩
          unfold f_M_follow_121b
          dsimp only
          rw [if_pos (nI_le (Nat.le_refl _) (by omega))]
          exact pw_some ⟨H, hb, e29⟩
        · exact ⟨rfl, L1, hB1, n29⟩
      by_cases hF0 : F = 0
      · subst hF0
        rw [if_pos (show nI 0 = (0 : Int32) from rfl), (PM_lay L1 hp).2.2.2.2.2.1]
        exact h116
      · rw [if_neg (show ¬ nI F = (0 : Int32) from nI_ne0 (by omega) (by omega))]
        have : wys P F = 1 := by unfold wys; rw [if_neg hF0]
        rw [this] at h116 ⊢
        exact h116
    · have h1 : E / 2 ^ 54 = 1 := by simp only [Nat.reducePow] at *; omega
      have efol : folB P F E B = rowB P E (p_nm P) B := by unfold folB; rw [if_neg (fun z => hEt z.2)]
      rw [h1, if_neg (show ¬ nI 1 = (0 : Int32) by decide), efol]
      exact pw_some ⟨L1, hB1, n29⟩
theorem M_follow {P : PT} {m F s : Nat} {B : BT} {h : HP} (hs : MS m h) (ok : POK P) (hp : PM P m h) (hF : F ≤ 3) (hG : GB P B) (hsB : s < B.1) (hB : MB m B h) (h0 : B.2.2 = false) (hN : NXG m P B (8 * s) h) : pw (f_M_follow m (nI s) (fvv F) h) (fun g => hp_fr (S_lay m) h g ∧ MB m (folB P F (B.2.1 s) B) g ∧ NXG m P (folB P F (B.2.1 s) B) (8 * (s + 1)) g) := by
  have hE : okc P (B.2.1 s) := hG.2.2 s hsB
  have hn5 := hG.1
  have hnm := ok.2.2.2.2.2.1
  obtain ⟨E, hEe⟩ : ∃ E, B.2.1 s = E := ⟨_, rfl⟩
  rw [hEe] at hE ⊢
  have hE1 := hE.1
  have eE := cd_of E
  have ht : E / 2 ^ 54 < 2 := by simp only [Nat.reducePow] at *; omega
  have hN54 : E % 2 ^ 54 < 2 ^ 54 := Nat.mod_lt _ (by decide)
  have hpk : lN (pk E) = lN (pk (cd (E % 2 ^ 54) (E / 2 ^ 54))) := by rw [eE]
  have GR := rowB_G ok hE1 hG
  have XR : ∀ i j, i ≤ j → xtd (rowB P E i B) (rowB P E j B) := rowB_x P E B
  have X0 : ∀ i, xtd B (rowB P E i B) := fun i => XR 0 i (by omega)
  unfold f_M_follow
  rw [mb_62 hs, mn_27 hs, if_pos (hp_in_nI (by omega) (by omega)), nI_clamp (by omega), (hB.1.2.2.1 s hsB).2, hEe, xx_lE]
  have fin : ∀ g i, hp_fr (S_lay m) h g → i ≤ p_nm P → MB m (rowB P E i B) g → NXG m P (rowB P E i B) (8 * s + i) g → ((rowB P E i B).2.2 = true ∨ i = p_nm P) → pw (f_M_follow_83 m (fvv F) (lN (pk E)) g) (fun g' => hp_fr (S_lay m) h g' ∧ MB m (folB P F E B) g' ∧ NXG m P (folB P F E B) (8 * (s + 1)) g') := by
    intro g i H hi hb hx hend
    have er : rowB P E (p_nm P) B = rowB P E i B := by
      rcases hend with z | z
      · exact (XR i (p_nm P) hi).2.2 z
      · rw [z]
    refine pw_mono (M_fol83 (MS_fr H hs) ok (PM_lay H hp) hF hE (by rw [er]; exact hb)) ?_
    rintro g' ⟨H', hb', e29⟩
    refine ⟨hp_fr_tr H H', hb', ?_⟩
    have hxf : xtd (rowB P E i B) (folB P F E B) := by
      rw [← er]
      unfold folB; split
      · exact fltB_x P F E _ 0 _ (by omega)
      · exact xtd_rf _
    intro hc
    have hnsp := xtd_sp hxf hc
    have hi2 : i = p_nm P := by
      rcases hend with z | z
      · rw [hnsp] at z; exact absurd z (by decide)
      · exact z
    subst hi2
    have := (X0 (p_nm P)).1
    exact NXG_8 (by omega) (NXG_x hxf (by omega) e29 hx) hc
  unfold f_M_follow_10
  refine pw_cnt (p_nm P) (fun i st => st.1 = nI i ∧ hp_fr (S_lay m) h st.2 ∧ MB m (rowB P E i B) st.2 ∧ NXG m P (rowB P E i B) (8 * s + i) st.2) ?_ ?_ 0 (nI 0, h) (by omega) ?_
  · rintro i ⟨w, g⟩ hi ⟨rfl, H, hb, hx⟩
    dsimp only at H hb hx ⊢
    have hsg := MS_fr H hs
    have hpg := PM_lay H hp
    unfold f_M_follow_10b
    rw [hpg.2.2.2.2.2.1, if_neg (nI_ge hi (by omega)), hb.2]
    by_cases hsp : (rowB P E i B).2.2 = true
    · rw [if_pos hsp, if_neg (show ¬ nI 1 = (0 : Int32) by decide)]
      exact pw_mapR (fin g i H (by omega) hb hx (.inl hsp))
    · have hsp' := bool_f hsp
      rw [if_neg hsp, if_pos (show nI 0 = (0 : Int32) from rfl), hpk]
      refine pw_bind (pw_mono (M_unpack hsg hN54 ht) ?_)
      rintro g1 ⟨H1, c1, e67⟩
      rw [← hpk]
      have G1 : hp_fr (S_lay m) h g1 := hp_fr_tr H (hp_fr_mo H1 (by unfold F_CU S_lay; omega))
      refine pw_bind (pw_mono (M_go (MS_fr G1 hs) ok (PM_lay G1 hp) hi c1 hE.2) ?_)
      rintro ⟨r, g2⟩ ⟨rfl, H2, c2, _, _⟩
      dsimp only at H2 c2 ⊢
      have G2 : hp_fr (S_lay m) h g2 := hp_fr_tr G1 (hp_fr_mo H2 (by unfold S_go S_lay; omega))
      have hs2 := MS_fr G2 hs
      have hb2 : MB m (rowB P E i B) g2 := MB_fr H2 (by unfold S_go F_MS; omega) (MB_fr H1 (by unfold F_CU F_MS; omega) hb)
      have e29 : ∀ k, hp_i g2 (m + 29) k = hp_i g (m + 29) k := fun k => by rw [hf_i H2 (by unfold S_go; omega), hf_i H1 (by unfold F_CU; omega)]
      have e67b : hp_i g2 m 67 = nI (E / 2 ^ 54) := by rw [hf_i H2 (by unfold S_go; omega)]; exact e67
      rw [mb_64 hs2]
      have hsi : s < (rowB P E i B).1 := by have := (X0 i).1; omega
      have hfs : (rowB P E i B).2.1 s = E := by rw [(X0 i).2.1 s hsB]; exact hEe
      have estp : rowB P E (i + 1) B = stp P E i (rowB P E i B) := rfl
      -- the end of a turn: v stands in the table
      have fin76 : ∀ (v : Int32) (k : HP), hp_fr (S_lay m) h k → MB m (rowB P E (i + 1) B) k → (∀ j, hp_i k (m + 29) j = hp_i g (m + 29) j) → ((rowB P E (i + 1) B).2.2 = false → (oS P (E % 2 ^ 54) i = 0 → idx (rowB P E (i + 1) B).2.1 (rowB P E (i + 1) B).1 (tg P (rowB P E (i + 1) B).2.1 s i) < (rowB P E (i + 1) B).1) ∧ v = nxm P (rowB P E (i + 1) B).2.1 (rowB P E (i + 1) B).1 s i) → pw (f_M_follow_76 m (nI s) (fvv F) (lN (pk E)) (nI i) v (((6 : Int32) * nI s) + nI i) (m + 29) k) (xx_L2 (fun st => st.1 = nI (i + 1) ∧ hp_fr (S_lay m) h st.2 ∧ MB m (rowB P E (i + 1) B) st.2 ∧ NXG m P (rowB P E (i + 1) B) (8 * s + (i + 1)) st.2) (fun g' => hp_fr (S_lay m) h g' ∧ MB m (folB P F E B) g' ∧ NXG m P (folB P F E B) (8 * (s + 1)) g')) := by
        intro v k K kb k29 kv
        unfold f_M_follow_76
        rw [show (6 : Int32) = nI 6 from rfl, pk_mul, nI_add, mn_29 (MS_fr K hs), if_pos (hp_in_nI (by omega) (by omega)), nI_clamp (by omega), xx_lE, xx_lE]
        have K2 : hp_fr (fun a _ => a = m + 29) k (hp_si k (m + 29) (6 * s + i) v) := hf_si (hp_fr_rf k) rfl
        refine pw_some ⟨nI_1 i, hf_si K (by unfold S_lay; omega), MB_fr K2 (by unfold F_MS; omega) kb, fun hc => ?_⟩
        obtain ⟨v1, v2⟩ := kv hc
        have hxx := XR i (i + 1) (by omega)
        have := (X0 i).1
        obtain ⟨o1, o2⟩ := NXG_x (p := 8 * s + i) (h' := k) hxx (by omega) k29 hx hc
        have hfs2 : (rowB P E (i + 1) B).2.1 s = E := by rw [(X0 (i + 1)).2.1 s hsB]; exact hEe
        refine ⟨fun s' i' hi' hlt hs' ho => ?_, fun s' i' hi' hlt hs' => ?_⟩
        · by_cases hb8 : 8 * s' + i' < 8 * s + i
          · exact o1 s' i' hi' hb8 hs' ho
          · have e1 : s' = s := by omega
            have e2 : i' = i := by omega
            subst e1 e2
            rw [hfs2] at ho
            exact v1 ho
        · dsimp only
          rw [hp_i_si]
          by_cases hb8 : 8 * s' + i' < 8 * s + i
          · rw [if_neg (by omega)]
            exact o2 s' i' hi' hb8 hs'
          · have e1 : s' = s := by omega
            have e2 : i' = i := by omega
            subst e1 e2
            rw [if_pos ⟨rfl, rfl⟩]
            exact v2
      have hfs1 : (rowB P E (i + 1) B).2.1 s = E := by rw [(X0 (i + 1)).2.1 s hsB]; exact hEe
      by_cases hz : oS P (E % 2 ^ 54) i = 0
      · have hr := rs3_0 hz
        rw [hr, if_neg (show ¬ nI 0 = (1 : Int32) by decide), if_neg (show ¬ nI 0 = (2 : Int32) by decide)]
        refine pw_bind (pw_mono (M_number hs2 (gn_lt ok _ i) ht c2 e67b hb2 hsp') ?_)
        rintro ⟨r, g3⟩ ⟨b3, H3, r3⟩
        dsimp only at b3 H3 r3 ⊢
        have eins : rowB P E (i + 1) B = insB (rowB P E i B) (cd (gn P (E % 2 ^ 54) i) (E / 2 ^ 54)) := by rw [estp]; unfold stp; rw [if_pos hz]
        rw [← eins] at b3 r3
        refine fin76 r g3 (hp_fr_tr G2 (hp_fr_mo H3 (by unfold S_ms S_lay; omega))) b3 (fun j => by rw [hf_i H3 (by unfold S_ms; omega)]; exact e29 j) (fun hc => ⟨fun _ => ?_, ?_⟩)
        · have := insB_in (v := cd (gn P (E % 2 ^ 54) i) (E / 2 ^ 54)) (GR i).2.1 (by rw [← eins]; exact hc)
          rw [← eins] at this
          unfold tg; rw [hfs1]; exact this
        · rw [r3 hc]
          unfold nxm tg
          rw [hfs1, hr, if_neg (by decide), if_neg (by decide)]
      · have eB : rowB P E (i + 1) B = rowB P E i B := by rw [estp]; unfold stp; rw [if_neg hz]
        have hb3 : MB m (rowB P E (i + 1) B) g2 := by rw [eB]; exact hb2
        rcases rs3_12 hz with hr | hr
        · rw [hr, if_pos (show nI 1 = (1 : Int32) from rfl)]
          refine fin76 _ g2 G2 hb3 e29 (fun hc => ⟨fun z => absurd z hz, ?_⟩)
          unfold nxm; rw [hfs1, hr, if_pos rfl]
        · rw [hr, if_neg (show ¬ nI 2 = (1 : Int32) by decide), if_pos (show nI 2 = (2 : Int32) from rfl)]
          refine fin76 _ g2 G2 hb3 e29 (fun hc => ⟨fun z => absurd z hz, ?_⟩)
          unfold nxm; rw [hfs1, hr, if_neg (by decide), if_pos rfl]
  · rintro ⟨w, g⟩ ⟨rfl, H, hb, hx⟩
    dsimp only at H hb hx ⊢
    unfold f_M_follow_10b
    rw [(PM_lay H hp).2.2.2.2.2.1, if_pos (nI_le (Nat.le_refl _) (by omega))]
    exact pw_mapR (fin g (p_nm P) H (Nat.le_refl _) hb hx (.inr rfl))
  · exact ⟨rfl, hp_fr_rf h, hB, hN⟩
