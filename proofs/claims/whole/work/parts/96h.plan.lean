/-! the class's call: a plan is told -/
theorem XS_sr {x a b j : Nat} {v : Option Nat} {h : HP} (ha : a = x + b) (hn : ∀ q ∈ xs_r, ¬ (q.1 = b ∧ q.2.1 = j)) (hs : XS x h) : XS x (hp_sr h a j v) := ⟨fun q hq => by rw [hp_r_sr, if_neg (fun z => hn q hq ⟨by omega, z.2⟩)]; exact hs.1 q hq, fun q hq => by rw [hp_n_sr]; exact hs.2 q hq⟩
theorem MS_sr {m a j : Nat} {v : Option Nat} {h : HP} (ha : a < m) (hs : MS m h) : MS m (hp_sr h a j v) := fun q hq => by rw [hp_r_sr, if_neg (by omega), hp_n_sr]; exact hs q hq
theorem CCH_sr {P : PT} {q x m sv ro fa ch b j : Nat} {v : Option Nat} {h : HP} (hb : b < m) (hn : ¬ (b = x ∧ 8 ≤ j)) (hc : CCH P q x m sv ro fa ch h) : CCH P q x m sv ro fa ch (hp_sr h b j v) := by
  obtain ⟨c1, c2, c3, c4, c5, c6, c7, c8, c9⟩ := hc
  obtain ⟨l1, l2, l3, l4, l5, _⟩ := id c4
  refine ⟨by rw [hp_r_sr, if_neg (by omega)]; exact c1, by rw [hp_r_sr, if_neg (by omega)]; exact c2, by rw [hp_r_sr, if_neg (by omega)]; exact c3, c4, c5, fun z => KSV_sr (by have := l2 z; omega) (c6 z), fun z => ROY_sr ?_ (c7 z), fun z => KFA_sr ?_ (c8 z), fun z => KCH_sr ?_ (c9 z)⟩
  · have := l3 z
    by_cases s0 : sv = 0
    · have := l1 s0; omega
    · have := l2 s0; omega
  · have := l4 z
    by_cases s0 : sv = 0
    · have := l1 s0; omega
    · have := l2 s0; omega
  · have := l5 z
    by_cases s0 : sv = 0
    · have := l1 s0; omega
    · have := l2 s0; omega
def S_an (x fa ch : Nat) : Nat → Nat → Prop := fun a k => a = x + 34 ∧ k = 0 ∨ x + 28 ≤ a ∧ a ≤ x + 32 ∧ k = 3 ∨ a = x ∧ k = 11 ∨ fa ≠ 0 ∧ a = fa + 1 ∨ ch ≠ 0 ∧ a = ch + 1 ∨ a = x + 25 ∧ k < 3 ∨ a = x + 26
def AN (P : PT) (x fa ch : Nat) (h g : HP) : Prop := hp_fr (S_an x fa ch) h g ∧ hp_i g (x + 34) 0 = nI 0 ∧ (∀ b, b < 3 → hp_i g (x + (28 + 2 * b)) 3 = nI 0) ∧ hp_i g x 11 = 0 ∧ CCX (x + 25) (fs P 0) 0 0 (fun _ => 0) g ∧ (fa ≠ 0 → ∀ F, F < 3 → hp_i g (fa + 1) F = -3) ∧ (ch ≠ 0 → ∀ l, l < 4 → hp_i g (ch + 1) l = 0)
theorem X_anew {P : PT} {q x fa ch : Nat} {h : HP} (xs : XS x h) (h3 : hp_r h x 3 = some q) (hq : q = x + 7 ∨ q = x + 16) (ok : POK P) (px : PX P q h) (r9 : hp_r h x 9 = op_ fa) (r10 : hp_r h x 10 = op_ ch) (hfa : fa ≠ 0 → x + 97 ≤ fa ∧ FAX fa h) (hch : ch ≠ 0 → x + 97 ≤ ch ∧ ∃ c, CHX ch c h) (hd : fa ≠ 0 → ch ≠ 0 → fa ≠ ch) : pw (f_X_startAnew x h) (AN P x fa ch h) := by
  unfold f_X_startAnew
  rw [bn_o (xr_0_7 xs), xx_lE]
  unfold f_X_startAnew_10
  refine pw_cnt 3 (fun i t => t.1 = nI i ∧ hp_fr (S_an x fa ch) h t.2 ∧ hp_i t.2 (x + 34) 0 = nI 0 ∧ ∀ b, b < i → hp_i t.2 (x + (28 + 2 * b)) 3 = nI 0) ?_ ?_ 0 (0, _) (by omega) ⟨rfl, hf_si (hp_fr_rf h) (by unfold S_an; omega), by dsimp only; rw [hp_i_si, if_pos ⟨rfl, rfl⟩]; rfl, fun b hb => absurd hb (Nat.not_lt_zero _)⟩
  · rintro i ⟨_, g⟩ hi ⟨rfl, H, e34, eb⟩
    dsimp only at H e34 eb ⊢
    have xg := XS_fr H xs
    have rb : hp_r g (x + 27) i = some (x + (28 + 2 * i)) := by
      rcases (show i = 0 ∨ i = 1 ∨ i = 2 by omega) with z | z | z <;> subst z
      · exact xr_27_0 xg
      · exact xr_27_1 xg
      · exact xr_27_2 xg
    unfold f_X_startAnew_10b
    rw [if_neg (show ¬ (3 : Int32) ≤ nI i from nI_ge (b := 3) hi (by decide)), bn_o (xr_0_6 xg), xn_27 xg, if_pos (hp_in_nI (by omega) (by omega)), nI_clamp (by omega), bn_o rb, xx_lE, xx_lE, nI_1]
    refine pw_L rfl ⟨rfl, hf_si H (by unfold S_an; omega), ?_, fun b hb => ?_⟩
    · dsimp only; rw [hp_i_si, if_neg (by omega)]; exact e34
    · dsimp only; rw [hp_i_si]
      by_cases z : b = i
      · rw [if_pos ⟨by rw [z], rfl⟩]; rfl
      · rw [if_neg (by omega)]; exact eb b (by omega)
  · rintro ⟨_, g⟩ ⟨rfl, H, e34, eb⟩
    dsimp only at H e34 eb ⊢
    unfold f_X_startAnew_10b f_X_startAnew_31
    rw [if_pos (show (3 : Int32) ≤ nI 3 by decide), xx_lE]
    refine pw_mapR ?_
    obtain ⟨g1, hg1⟩ : ∃ g1, hp_si g x 11 (0 : Int32) = g1 := ⟨_, rfl⟩
    rw [hg1]
    have H1 : hp_fr (S_an x fa ch) h g1 := by rw [← hg1]; exact hf_si H (by unfold S_an; omega)
    have f34 : hp_i g1 (x + 34) 0 = nI 0 := by rw [← hg1, hp_i_si, if_neg (by omega)]; exact e34
    have fb : ∀ b, b < 3 → hp_i g1 (x + (28 + 2 * b)) 3 = nI 0 := fun b hb => by rw [← hg1, hp_i_si, if_neg (by omega)]; exact eb b hb
    have f11 : hp_i g1 x 11 = 0 := by rw [← hg1, hp_i_si, if_pos ⟨rfl, rfl⟩]
    have key : ∀ g2, hp_fr (fun a _ => fa ≠ 0 ∧ a = fa + 1) g1 g2 → (fa ≠ 0 → ∀ F, F < 3 → hp_i g2 (fa + 1) F = -3) → pw (f_X_startAnew_50 x g2) (AN P x fa ch h) := by
      intro g2 K2 e2
      have H2 : hp_fr (S_an x fa ch) h g2 := hp_fr_tr H1 (hp_fr_mo K2 (fun a k z => by unfold S_an; omega))
      have key2 : ∀ g3, hp_fr (fun a _ => ch ≠ 0 ∧ a = ch + 1) g2 g3 → (ch ≠ 0 → ∀ l, l < 4 → hp_i g3 (ch + 1) l = 0) → pw (f_X_startAnew_64 x g3) (AN P x fa ch h) := by
        intro g3 K3 e3
        have H3 : hp_fr (S_an x fa ch) h g3 := hp_fr_tr H2 (hp_fr_mo K3 (fun a k z => by unfold S_an; omega))
        have x3 := XS_fr H3 xs
        have p3 : PSH q g3 := by
          rcases hq with z | z
          · rw [z]; exact PSH_7 x3
          · rw [z]; exact PSH_16 x3
        have hlo : ∀ a, a ≤ x + 41 → ¬ (fa ≠ 0 ∧ a = fa + 1) ∧ ¬ (ch ≠ 0 ∧ a = ch + 1) := fun a ha => ⟨fun z => by have := (hfa z.1).1; omega, fun z => by have := (hch z.1).1; omega⟩
        have pp : PX P q g3 := PX_ag (fun a k hk => hf_i H3 (fun z => by unfold F_PX at hk; unfold S_an at z; have := hlo a (by omega); omega)) px
        unfold f_X_startAnew_64
        rw [bn_o (xr_0_5 x3), bn_o (show hp_r g3 x 3 = some q by rw [hp_fr_r H3]; exact h3), show (0 : Int32) = nI 0 from rfl]
        refine pw_bind (pw_mono (X_start p3 ok pp (by decide) (xr_25_4 x3) (xn_26 x3)) ?_)
        rintro g4 ⟨K4, ccx⟩
        have lo3 : ∀ a k, a ≤ x + 41 → hp_i g3 a k = hp_i g1 a k := fun a k ha => by rw [hf_i K3 (hlo a ha).2, hf_i K2 (hlo a ha).1]
        refine pw_some ⟨hp_fr_tr H3 (hp_fr_mo K4 (fun a k z => by unfold F_CCX at z; unfold S_an; omega)), ?_, fun b hb => ?_, ?_, ccx, fun z F hF => ?_, fun z l hl => ?_⟩
        · rw [hf_i K4 (by unfold F_CCX; omega), lo3 _ _ (by omega)]; exact f34
        · rw [hf_i K4 (by unfold F_CCX; omega), lo3 _ _ (by omega)]; exact fb b hb
        · rw [hf_i K4 (by unfold F_CCX; omega), lo3 _ _ (by omega)]; exact f11
        · have := (hfa z).1
          rw [hf_i K4 (by unfold F_CCX; omega), hf_i K3 (fun y => hd z y.1 (by omega))]; exact e2 z F hF
        · have := (hch z).1
          rw [hf_i K4 (by unfold F_CCX; omega)]; exact e3 z l hl
      unfold f_X_startAnew_50
      by_cases z : ch = 0
      · rw [if_pos (show hp_r g2 x 10 = none by rw [hp_fr_r H2, r10, z]; rfl)]
        exact key2 g2 (hp_fr_rf g2) (fun y => absurd z y)
      · have e10 : hp_r g2 x 10 = some ch := by rw [hp_fr_r H2, r10, op_p z]
        obtain ⟨c, chx⟩ := (hch z).2
        have cx2 := CHX_fr H2 chx
        rw [if_neg (by rw [e10]; exact fun y => by cases y), bn_o e10]
        unfold f_Ch_clear f_Ch_clear_2
        refine pw_bind ?_
        refine pw_cnt 4 (fun i t => t.1 = nI i ∧ hp_fr (fun a _ => ch ≠ 0 ∧ a = ch + 1) g2 t.2 ∧ ∀ l, l < i → hp_i t.2 (ch + 1) l = 0) ?_ ?_ 0 (0, g2) (by omega) ⟨rfl, hp_fr_rf g2, fun l hl => absurd hl (Nat.not_lt_zero _)⟩
        · rintro i ⟨_, k⟩ hi ⟨rfl, Hk, ek⟩
          dsimp only at Hk ek ⊢
          have cxk := CHX_fr Hk cx2
          unfold f_Ch_clear_2b
          rw [if_neg (show ¬ (4 : Int32) ≤ nI i from nI_ge (b := 4) hi (by decide)), bn_o cxk.2.1, cxk.2.2.2.2.2.2.1, if_pos (hp_in_nI (by omega) (by omega)), nI_clamp (by omega), show vp_nar .boolean (0 : Int32) = nI 0 from nar_lt (n := 0) (by decide), xx_lE, xx_lE, nI_1]
          refine pw_L rfl ⟨rfl, hf_si Hk ⟨z, rfl⟩, fun l hl => ?_⟩
          dsimp only
          rw [hp_i_si]
          by_cases w : l = i
          · rw [if_pos ⟨rfl, w⟩]; rfl
          · rw [if_neg (fun y => w y.2)]; exact ek l (by omega)
        · rintro ⟨_, k⟩ ⟨rfl, Hk, ek⟩
          dsimp only at Hk ek ⊢
          unfold f_Ch_clear_2b
          rw [if_pos (show (4 : Int32) ≤ nI 4 by decide)]
          exact pw_R rfl (key2 k Hk (fun _ => ek))
    by_cases z : fa = 0
    · rw [if_pos (show hp_r g1 x 9 = none by rw [hp_fr_r H1, r9, z]; rfl)]
      exact key g1 (hp_fr_rf g1) (fun y => absurd z y)
    · have e9 : hp_r g1 x 9 = some fa := by rw [hp_fr_r H1, r9, op_p z]
      have fx := (hfa z).2
      rw [if_neg (by rw [e9]; exact fun y => by cases y), bn_o e9]
      unfold f_Fa_clear
      rw [bn_o (show hp_r g1 fa 0 = some (fa + 1) by rw [hp_fr_r H1]; exact fx.1)]
      refine pw_bind (pw_bind (pw_mono (A_fill (n := 3) (by rw [hp_fr_n H1]; exact fx.2.2.1) (by decide)) ?_))
      rintro g2 ⟨K2, e2⟩
      exact pw_some (key g2 (hp_fr_mo K2 (fun a k y => ⟨z, y⟩)) (fun _ => e2))
theorem BAS_sr2 {P : PT} {q x m j : Nat} {v : Option Nat} {h : HP} (hj : j = 2 ∨ j = 4) (hb : BAS P q x m h) : BAS P q x m (hp_sr h (x + 2) j v) := by
  obtain ⟨a1, a2, a3, a4, a5, a6, a7, a8, a9, a10, a11, a12, a13, a14⟩ := hb
  refine ⟨a1, XS_sr rfl ?_ a2, MS_sr (by omega) a3, a4, by rw [hp_r_sr, if_neg (by omega)]; exact a5, by rw [hp_r_sr, if_neg (by omega)]; exact a6, a7, a8, a9, a10, a11, a12, a13, a14⟩
  rcases hj with z | z <;> subst z <;> decide
