/-! the class's count of ways: one day -/
def frs (S R : Nat → Nat → Prop) (h h' : HP) : Prop := (∀ a k, ¬ S a k → hp_i h' a k = hp_i h a k ∧ hp_l h' a k = hp_l h a k) ∧ (∀ a k, ¬ R a k → hp_r h' a k = hp_r h a k) ∧ (∀ a, hp_n h' a = hp_n h a) ∧ hp_z h' = hp_z h ∧ hp_s h' = hp_s h
theorem frs_of {S R : Nat → Nat → Prop} {h h' : HP} (H : hp_fr S h h') : frs S R h h' := ⟨fun a k hk => ⟨H.1 a k hk, H.2.1 a k hk⟩, fun a k _ => hp_fr_r H a k, fun a => hp_fr_n H a, hp_fr_z H, hp_fr_s H⟩
theorem frs_tr {S R : Nat → Nat → Prop} {a b c : HP} (h1 : frs S R a b) (h2 : frs S R b c) : frs S R a c := ⟨fun q k hk => ⟨(h2.1 q k hk).1.trans (h1.1 q k hk).1, (h2.1 q k hk).2.trans (h1.1 q k hk).2⟩, fun q k hk => (h2.2.1 q k hk).trans (h1.2.1 q k hk), fun q => (h2.2.2.1 q).trans (h1.2.2.1 q), h2.2.2.2.1.trans h1.2.2.2.1, h2.2.2.2.2.trans h1.2.2.2.2⟩
theorem frs_mo {S R S' R' : Nat → Nat → Prop} {a b : HP} (h1 : frs S R a b) (hS : ∀ q k, S q k → S' q k) (hR : ∀ q k, R q k → R' q k) : frs S' R' a b := ⟨fun q k hk => h1.1 q k (fun z => hk (hS q k z)), fun q k hk => h1.2.1 q k (fun z => hk (hR q k z)), h1.2.2⟩
theorem frs_sr {S R : Nat → Nat → Prop} {h0 h : HP} (H : frs S R h0 h) {a k : Nat} {v : Option Nat} (hR : R a k) : frs S R h0 (hp_sr h a k v) := frs_tr H ⟨fun _ _ _ => ⟨rfl, rfl⟩, fun q j hq => by rw [hp_r_sr]; exact if_neg (fun z => hq (by rw [z.1, z.2]; exact hR)), fun _ => rfl, rfl, rfl⟩
theorem frs_i {S R : Nat → Nat → Prop} {h h' : HP} (H : frs S R h h') {a k : Nat} (hk : ¬ S a k) : hp_i h' a k = hp_i h a k := (H.1 a k hk).1
theorem frs_l {S R : Nat → Nat → Prop} {h h' : HP} (H : frs S R h h') {a k : Nat} (hk : ¬ S a k) : hp_l h' a k = hp_l h a k := (H.1 a k hk).2
theorem frs_r {S R : Nat → Nat → Prop} {h h' : HP} (H : frs S R h h') {a k : Nat} (hk : ¬ R a k) : hp_r h' a k = hp_r h a k := H.2.1 a k hk
def CHX (ch c : Nat) (h : HP) : Prop := c ≤ 1 ∧ hp_r h ch 0 = some (ch + 1) ∧ hp_r h ch 1 = some (ch + 2) ∧ hp_r h ch 2 = some (ch + 3) ∧ hp_r h ch 3 = some (ch + 4 + c) ∧ hp_r h ch 4 = some (ch + 5 - c) ∧ hp_n h (ch + 1) = 4 ∧ hp_n h (ch + 2) = 52 ∧ hp_n h (ch + 3) = 52 ∧ hp_n h (ch + 4 + c) = 5000 ∧ hp_n h (ch + 5 - c) = 5000
theorem CHX_fr {S : Nat → Nat → Prop} {ch c : Nat} {h h' : HP} (H : hp_fr S h h') (hs : CHX ch c h) : CHX ch c h' := by unfold CHX; simp only [hp_fr_r H, hp_fr_n H]; exact hs
def S_dy (ch e : Nat) : Nat → Nat → Prop := fun a k => (a = ch + 2 ∨ a = ch + 3) ∧ k = e ∨ a = ch + 4 ∨ a = ch + 5
theorem lc_0 {x : Nat} (hx : x < 2 ^ 62) : (lg_cmp (lN x) (0 : Int64) = 0) ↔ x = 0 := by
  rw [lg_cmp_eq]; exact l_z (by omega)
theorem xcv_12 {r x : Nat} (h : r < 3) (h0 : r ≠ 0) : xcv r x < 0 ∧ (xcv r x = (-2 : Int32) ↔ r = 2) := by
  have : r = 1 ∨ r = 2 := by omega
  unfold xcv
  rcases this with z | z <;> rw [z]
  · rw [if_pos rfl]; exact ⟨by decide, by decide⟩
  · rw [if_neg (by decide), if_pos rfl]; exact ⟨by decide, by decide⟩
theorem X_goDay {ch c sv q n nm e U0 U1 : Nat} {rr nx : Nat → Nat → Nat} {w : Nat → Nat} {h : HP} (hsc : sv + 9 < ch) (hq : q < sv) (hs : CHX ch c h) (ht : XTB sv q n nm rr nx h) (he : e < 52) (hw : ∀ s, s < n → w s < 2 ^ 32 ∧ hp_l h (ch + 4 + c) s = lN (w s)) (hb : ∀ s, s < n → hp_l h (ch + 5 - c) s = 0) (h0 : hp_l h (ch + 2) e = lN U0) (h1 : hp_l h (ch + 3) e = lN U1) : pw (f_Ch_goOneDay ch sv (nI e) h) (fun g => hp_fr (S_dy ch e) h g ∧ (∀ s, s < n → hp_l g (ch + 4 + c) s = 0) ∧ (∀ s, s < n → hp_l g (ch + 5 - c) s = lN (alN rr nx nm w s n)) ∧ hp_l g (ch + 2) e = lN (U0 + alU rr nm 0 w n) ∧ hp_l g (ch + 3) e = lN (U1 + alU rr nm 1 w n)) := by
  obtain ⟨a1, a2, a3, a4, a5, a6, a7, a8, a9, a10, a11⟩ := id ht
  have hc1 := hs.1
  unfold f_Ch_goOneDay f_Ch_goOneDay_2
  refine pw_cnt n (fun s t => t.1 = nI s ∧ hp_fr (S_dy ch e) h t.2 ∧ (∀ u, u < s → hp_l t.2 (ch + 4 + c) u = 0) ∧ (∀ u, s ≤ u → u < n → hp_l t.2 (ch + 4 + c) u = lN (w u)) ∧ (∀ u, u < n → hp_l t.2 (ch + 5 - c) u = lN (alN rr nx nm w u s)) ∧ hp_l t.2 (ch + 2) e = lN (U0 + alU rr nm 0 w s) ∧ hp_l t.2 (ch + 3) e = lN (U1 + alU rr nm 1 w s)) ?_ ?_ 0 (0, h) (by omega) ⟨rfl, hp_fr_rf h, fun u hu => absurd hu (Nat.not_lt_zero _), fun u _ hu => (hw u hu).2, hb, h0, h1⟩
  · rintro s ⟨_, g⟩ hsn ⟨rfl, H, g1, g2, g3, g4, g5⟩
    dsimp only at H g1 g2 g3 g4 g5 ⊢
    have ws := (hw s hsn).1
    have hsg := CHX_fr H hs
    have htg := XTB_fr H (by unfold S_dy; omega) ht
    obtain ⟨_, r0, r1, r2, r3, r4, m1, m2, m3, m4, m5⟩ := id hsg
    obtain ⟨_, _, b3, b4, b5, b6, b7, b8, _, _, _⟩ := id htg
    unfold f_Ch_goOneDay_2b
    rw [bn_o b3, b7, if_neg (nI_ge hsn (by omega)), bn_o r3, m4, if_pos (hp_in_nI (by omega) (by omega)), nI_clamp (by omega), g2 s (by omega) hsn, xx_lE, bn_o r3, m4, if_pos (hp_in_nI (by omega) (by omega)), xx_lE]
    obtain ⟨k1, hk1⟩ : ∃ k1, hp_sl g (ch + 4 + c) s 0 = k1 := ⟨_, rfl⟩
    rw [hk1]
    have K1 : hp_fr (S_dy ch e) h k1 := by rw [← hk1]; exact hf_sl H (by unfold S_dy; omega)
    have x1 : ∀ u, u < s + 1 → hp_l k1 (ch + 4 + c) u = 0 := fun u hu => by
      rw [← hk1, hp_l_sl]
      by_cases z : u = s
      · rw [if_pos ⟨rfl, z⟩]
      · rw [if_neg (fun w => z w.2)]; exact g1 u (by omega)
    have x2 : ∀ u, s + 1 ≤ u → u < n → hp_l k1 (ch + 4 + c) u = lN (w u) := fun u h1 h2 => by
      rw [← hk1, hp_l_sl, if_neg (by omega)]; exact g2 u (by omega) h2
    have x3 : ∀ u, u < n → hp_l k1 (ch + 5 - c) u = lN (alN rr nx nm w u s) := fun u hu => by
      rw [← hk1, hp_l_sl, if_neg (by omega)]; exact g3 u hu
    have x4 : hp_l k1 (ch + 2) e = lN (U0 + alU rr nm 0 w s) := by rw [← hk1, hp_l_sl, if_neg (by omega)]; exact g4
    have x5 : hp_l k1 (ch + 3) e = lN (U1 + alU rr nm 1 w s) := by rw [← hk1, hp_l_sl, if_neg (by omega)]; exact g5
    unfold f_Ch_goOneDay_31
    have eU : ∀ k, alU rr nm k w (s + 1) = alU rr nm k w s + rwU rr k w s nm := fun k => rfl
    have eN : ∀ u, alN rr nx nm w u (s + 1) = alN rr nx nm w u s + rwN rr nx w s u nm := fun u => rfl
    have out : ∀ k2 i, i ≤ nm → (i = nm ∨ w s = 0) → hp_fr (fun a k => (a = ch + 2 ∨ a = ch + 3) ∧ k = e ∨ a = ch + 5 - c) k1 k2 → (∀ u, u < n → hp_l k2 (ch + 5 - c) u = lN (alN rr nx nm w u s + rwN rr nx w s u i)) → hp_l k2 (ch + 2) e = lN (U0 + alU rr nm 0 w s + rwU rr 0 w s i) → hp_l k2 (ch + 3) e = lN (U1 + alU rr nm 1 w s + rwU rr 1 w s i) → ∀ {I : Int32 × HP → Prop} {Q : HP → Prop}, pw ((f_Ch_goOneDay_118 ch sv (nI e) (nI s) k2).map Sum.inr) (xx_L2 I (xx_L2 (fun t : Int32 × HP => t.1 = nI (s + 1) ∧ hp_fr (S_dy ch e) h t.2 ∧ (∀ u, u < s + 1 → hp_l t.2 (ch + 4 + c) u = 0) ∧ (∀ u, s + 1 ≤ u → u < n → hp_l t.2 (ch + 4 + c) u = lN (w u)) ∧ (∀ u, u < n → hp_l t.2 (ch + 5 - c) u = lN (alN rr nx nm w u (s + 1))) ∧ hp_l t.2 (ch + 2) e = lN (U0 + alU rr nm 0 w (s + 1)) ∧ hp_l t.2 (ch + 3) e = lN (U1 + alU rr nm 1 w (s + 1))) Q)) := by
      intro k2 i hi hcc K2 y3 y4 y5 I Q
      have e0 : (∀ k, rwU rr k w s i = rwU rr k w s nm) ∧ ∀ u, rwN rr nx w s u i = rwN rr nx w s u nm := by
        rcases hcc with z | z
        · rw [z]; exact ⟨fun _ => rfl, fun _ => rfl⟩
        · exact ⟨fun k => by rw [(rw_0 (nx := nx) z k 0 i).1, (rw_0 (nx := nx) z k 0 nm).1], fun u => by rw [(rw_0 (rr := rr) z 0 u i).2, (rw_0 (rr := rr) z 0 u nm).2]⟩
      unfold f_Ch_goOneDay_118
      rw [xx_lE]
      refine pw_mapR (pw_L rfl ⟨nI_1 s, hp_fr_tr K1 (hp_fr_mo K2 (by unfold S_dy; omega)), fun u hu => ?_, fun u q1 q2 => ?_, fun u hu => ?_, ?_, ?_⟩)
      · rw [hf_l K2 (by omega)]; exact x1 u hu
      · rw [hf_l K2 (by omega)]; exact x2 u q1 q2
      · rw [y3 u hu, eN, e0.2 u]
      · rw [y4, eU, e0.1, Nat.add_assoc]
      · rw [y5, eU, e0.1, Nat.add_assoc]
    refine pw_cnt nm (fun i t => t.1 = nI i ∧ hp_fr (fun a k => (a = ch + 2 ∨ a = ch + 3) ∧ k = e ∨ a = ch + 5 - c) k1 t.2 ∧ (∀ u, u < n → hp_l t.2 (ch + 5 - c) u = lN (alN rr nx nm w u s + rwN rr nx w s u i)) ∧ hp_l t.2 (ch + 2) e = lN (U0 + alU rr nm 0 w s + rwU rr 0 w s i) ∧ hp_l t.2 (ch + 3) e = lN (U1 + alU rr nm 1 w s + rwU rr 1 w s i)) ?_ ?_ 0 (0, k1) (by omega) ⟨rfl, hp_fr_rf k1, x3, x4, x5⟩
    · rintro i ⟨_, k2⟩ hi ⟨rfl, K2, y3, y4, y5⟩
      dsimp only at K2 y3 y4 y5 ⊢
      have K12 : hp_fr (S_dy ch e) h k2 := hp_fr_tr K1 (hp_fr_mo K2 (by unfold S_dy; omega))
      have hs2 := CHX_fr K12 hs
      have ht2 := XTB_fr K12 (by unfold S_dy; omega) ht
      obtain ⟨_, r0, r1, r2, r3, r4, m1, m2, m3, m4, m5⟩ := id hs2
      obtain ⟨_, _, b3, b4, b5, b6, b7, b8, _, _, _⟩ := id ht2
      unfold f_Ch_goOneDay_31b
      by_cases hz : w s = 0
      · rw [if_pos ((lc_0 (by omega)).mpr hz)]
        exact out k2 i (by omega) (.inr hz) K2 y3 y4 y5
      · rw [if_neg (fun z => hz ((lc_0 (by omega)).mp z)), bn_o b4, b8, if_neg (nI_ge hi (by omega)), bn_o (X_next ht2 hsn hi)]
        dsimp only
        have hr3 := a9 s i hsn hi
        have sU : ∀ k, rwU rr k w s (i + 1) = rwU rr k w s i + (if sdn k (rr s i) then w s else 0) := fun k => rfl
        have sN : ∀ u, rwN rr nx w s u (i + 1) = rwN rr nx w s u i + (if rr s i = 0 ∧ nx s i = u then w s else 0) := fun u => rfl
        by_cases hr0 : rr s i = 0
        · have hxn := a10 s i hsn hi hr0
          obtain ⟨x, hx⟩ : ∃ x, nx s i = x := ⟨_, rfl⟩
          rw [hx] at hxn sN
          rw [hr0, xcv_0, hx, if_neg (nI_pos (by omega)), bn_o r4, m5, if_pos (hp_in_nI (by omega) (by omega)), if_pos (hp_in_nI (by omega) (by omega)), nI_clamp (by omega), y3 x hxn, lN_add, xx_lE]
          unfold f_Ch_goOneDay_112
          rw [xx_lE]
          refine pw_L rfl ⟨nI_1 i, hf_sl K2 (.inr rfl), fun u hu => ?_, ?_, ?_⟩
          · rw [hp_l_sl, sN]
            by_cases z : u = x
            · rw [if_pos ⟨rfl, z⟩, if_pos ⟨hr0, z.symm⟩, z, Nat.add_assoc]
            · rw [if_neg (fun y => z y.2), if_neg (fun y => z y.2.symm)]; exact y3 u hu
          · rw [hp_l_sl, if_neg (by omega), sU, if_neg (fun z => z.1 hr0)]; exact y4
          · rw [hp_l_sl, if_neg (by omega), sU, if_neg (fun z => z.1 hr0)]; exact y5
        · obtain ⟨n1, n2⟩ := xcv_12 (x := nx s i) hr3 hr0
          rw [if_pos n1, bn_o r1, m2, if_pos (hp_in_nI (by omega) (by omega)), if_pos (hp_in_nI (by omega) (by omega)), nI_clamp (by omega), y4, lN_add, xx_lE]
          obtain ⟨k3, hk3⟩ : ∃ k3, hp_sl k2 (ch + 2) e (lN (U0 + alU rr nm 0 w s + rwU rr 0 w s i + w s)) = k3 := ⟨_, rfl⟩
          rw [hk3]
          have K3 : hp_fr (fun a k => (a = ch + 2 ∨ a = ch + 3) ∧ k = e ∨ a = ch + 5 - c) k1 k3 := by rw [← hk3]; exact hf_sl K2 (.inl ⟨.inl rfl, rfl⟩)
          have r23 : hp_r k3 ch 2 = some (ch + 3) := by rw [← hk3]; exact r2
          have m33 : hp_n k3 (ch + 3) = 52 := by rw [← hk3]; exact m3
          have z3 : ∀ u, u < n → hp_l k3 (ch + 5 - c) u = lN (alN rr nx nm w u s + rwN rr nx w s u i) := fun u hu => by rw [← hk3, hp_l_sl, if_neg (by omega)]; exact y3 u hu
          have z4 : hp_l k3 (ch + 2) e = lN (U0 + alU rr nm 0 w s + rwU rr 0 w s i + w s) := by rw [← hk3, hp_l_sl, if_pos ⟨rfl, rfl⟩]
          have z5 : hp_l k3 (ch + 3) e = lN (U1 + alU rr nm 1 w s + rwU rr 1 w s i) := by rw [← hk3, hp_l_sl, if_neg (by omega)]; exact y5
          rw [bn_o r23, m33, if_pos (hp_in_nI (by omega) (by omega))]
          have last : ∀ v, v = (if sdn 1 (rr s i) then w s else 0) → pw (f_Ch_goOneDay_110 ch sv (nI e) (nI s) (lN (w s)) (nI i) (lN v) (hp_l k3 (ch + 3) e) (nI e) (ch + 3) k3) (xx_L2 (fun t : Int32 × HP => t.1 = nI (i + 1) ∧ hp_fr (fun a k => (a = ch + 2 ∨ a = ch + 3) ∧ k = e ∨ a = ch + 5 - c) k1 t.2 ∧ (∀ u, u < n → hp_l t.2 (ch + 5 - c) u = lN (alN rr nx nm w u s + rwN rr nx w s u (i + 1))) ∧ hp_l t.2 (ch + 2) e = lN (U0 + alU rr nm 0 w s + rwU rr 0 w s (i + 1)) ∧ hp_l t.2 (ch + 3) e = lN (U1 + alU rr nm 1 w s + rwU rr 1 w s (i + 1))) (xx_L2 (fun t : Int32 × HP => t.1 = nI (s + 1) ∧ hp_fr (S_dy ch e) h t.2 ∧ (∀ u, u < s + 1 → hp_l t.2 (ch + 4 + c) u = 0) ∧ (∀ u, s + 1 ≤ u → u < n → hp_l t.2 (ch + 4 + c) u = lN (w u)) ∧ (∀ u, u < n → hp_l t.2 (ch + 5 - c) u = lN (alN rr nx nm w u (s + 1))) ∧ hp_l t.2 (ch + 2) e = lN (U0 + alU rr nm 0 w (s + 1)) ∧ hp_l t.2 (ch + 3) e = lN (U1 + alU rr nm 1 w (s + 1))) (fun g => hp_fr (S_dy ch e) h g ∧ (∀ s, s < n → hp_l g (ch + 4 + c) s = 0) ∧ (∀ s, s < n → hp_l g (ch + 5 - c) s = lN (alN rr nx nm w s n)) ∧ hp_l g (ch + 2) e = lN (U0 + alU rr nm 0 w n) ∧ hp_l g (ch + 3) e = lN (U1 + alU rr nm 1 w n)))) := by
            intro v hv
            unfold f_Ch_goOneDay_110 f_Ch_goOneDay_112
            rw [m33, if_pos (hp_in_nI (by omega) (by omega)), nI_clamp (by omega), z5, lN_add, xx_lE, xx_lE]
            refine pw_L rfl ⟨nI_1 i, hf_sl K3 (.inl ⟨.inr rfl, rfl⟩), fun u hu => ?_, ?_, ?_⟩
            · rw [hp_l_sl, if_neg (by omega), sN, if_neg (fun y => hr0 y.1)]; exact z3 u hu
            · rw [hp_l_sl, if_neg (by omega), sU, if_pos (show sdn 0 (rr s i) from ⟨hr0, .inl rfl⟩), z4, Nat.add_assoc _ _ (w s)]
            · rw [hp_l_sl, if_pos ⟨rfl, rfl⟩, sU, hv, Nat.add_assoc (U1 + alU rr nm 1 w s)]
          by_cases h2 : rr s i = 2
          · rw [if_pos (n2.mpr h2)]
            exact last (w s) (by rw [if_pos (show sdn 1 (rr s i) from ⟨hr0, .inr h2⟩)])
          · rw [if_neg (fun z => h2 (n2.mp z))]
            exact last 0 (by rw [if_neg (fun z => z.2.elim (by decide) h2)])
    · rintro ⟨_, k2⟩ ⟨rfl, K2, y3, y4, y5⟩
      dsimp only at K2 y3 y4 y5 ⊢
      have K12 : hp_fr (S_dy ch e) h k2 := hp_fr_tr K1 (hp_fr_mo K2 (by unfold S_dy; omega))
      have ht2 := XTB_fr K12 (by unfold S_dy; omega) ht
      unfold f_Ch_goOneDay_31b
      by_cases hz : w s = 0
      · rw [if_pos ((lc_0 (by omega)).mpr hz)]
        exact out k2 nm (Nat.le_refl _) (.inr hz) K2 y3 y4 y5
      · rw [if_neg (fun z => hz ((lc_0 (by omega)).mp z)), bn_o ht2.2.2.2.1, ht2.2.2.2.2.2.2.2.1, if_pos (nI_le (Nat.le_refl _) (by omega))]
        exact out k2 nm (Nat.le_refl _) (.inl rfl) K2 y3 y4 y5
  · rintro ⟨_, g⟩ ⟨rfl, H, g1, g2, g3, g4, g5⟩
    dsimp only at H g1 g2 g3 g4 g5 ⊢
    have htg := XTB_fr H (by unfold S_dy; omega) ht
    refine pw_R (t := g) ?_ ⟨H, g1, g3, g4, g5⟩
    unfold f_Ch_goOneDay_2b
    rw [bn_o htg.2.2.1, htg.2.2.2.2.2.2.1, if_pos (nI_le (Nat.le_refl _) (by omega))]
