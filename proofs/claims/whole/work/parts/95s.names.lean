/-! roles: names -/
theorem M_isName {K : TKS} {ps : Nat → Nat} {m k : Nat} {h : HP} (ok : TKO K) (hk : MTK K ps m k h) : f_M_isName m h = some (nI (if t_k K k = 20 then 1 else 0), h) := by
  obtain ⟨h1, h2, h3, h4, h5⟩ := hk
  have h64 := (ok.2.2.2.1 k h1).1
  have hr := rk_lt h64
  unfold f_M_isName f_M_isName_120 f_M_isName_125
  rw [h2]
  by_cases z : t_k K k ≤ 20
  · have e1 : rk (t_k K k) = 1 := by unfold rk; rw [if_pos z]
    obtain ⟨w1, w2⟩ := ok.2.2.2.2.1 k h1 z
    have cj : ∀ j, j < 20 → cst j < 2 ^ 63 := by decide
    have c : ∀ j, j < 20 → (lg_cmp (hp_l h m 9) (lN (cst j)) = 0 ↔ t_k K k = j) := fun j hj => by
      rw [lg_cmp_eq, h5 z, fb_lN_inj w1 (cj j hj)]; exact w2 j hj
    have y : ∀ j, j < 20 → t_k K k = j → lg_cmp (hp_l h m 9) (lN (cst j)) = 0 := fun j hj e => (c j hj).mpr e
    have n : ∀ j, j < 20 → t_k K k ≠ j → ¬ lg_cmp (hp_l h m 9) (lN (cst j)) = 0 := fun j hj e q => e ((c j hj).mp q)
    generalize t_k K k = t at *
    rw [e1, if_pos (show nI 1 = (1 : Int32) from rfl), show (465491030131 : Int64) = lN (cst 0) from rfl, show (427238321253 : Int64) = lN (cst 1) from rfl, show (439720963187 : Int64) = lN (cst 2) from rfl, show (495873782388 : Int64) = lN (cst 3) from rfl, show (7300710 : Int64) = lN (cst 4) from rfl, show (28526 : Int64) = lN (cst 5) from rfl, show (6385273 : Int64) = lN (cst 6) from rfl, show (1919904869 : Int64) = lN (cst 7) from rfl, show (7169390 : Int64) = lN (cst 8) from rfl, show (448545973363 : Int64) = lN (cst 9) from rfl, show (1920298085 : Int64) = lN (cst 10) from rfl, show (2003330414 : Int64) = lN (cst 11) from rfl, show (7562612 : Int64) = lN (cst 12) from rfl, show (1752132708 : Int64) = lN (cst 13) from rfl, show (7561593 : Int64) = lN (cst 14) from rfl, show (28530 : Int64) = lN (cst 15) from rfl, show (6385252 : Int64) = lN (cst 16) from rfl, show (7237492 : Int64) = lN (cst 17) from rfl, show (6578553 : Int64) = lN (cst 18) from rfl, show (130195279934579 : Int64) = lN (cst 19) from rfl]
    rcases (show t = 0 ∨ t = 1 ∨ t = 2 ∨ t = 3 ∨ t = 4 ∨ t = 5 ∨ t = 6 ∨ t = 7 ∨ t = 8 ∨ t = 9 ∨ t = 10 ∨ t = 11 ∨ t = 12 ∨ t = 13 ∨ t = 14 ∨ t = 15 ∨ t = 16 ∨ t = 17 ∨ t = 18 ∨ t = 19 ∨ t = 20 by omega) with rfl | rfl | rfl | rfl | rfl | rfl | rfl | rfl | rfl | rfl | rfl | rfl | rfl | rfl | rfl | rfl | rfl | rfl | rfl | rfl | rfl
    · rw [if_pos (y 0 (by decide) rfl), if_neg (show ¬ (1 : Int32) = 0 by decide)]; rfl
    · rw [if_neg (n 0 (by decide) (by decide)), if_pos (y 1 (by decide) rfl), if_neg (show ¬ (1 : Int32) = 0 by decide)]; rfl
    · rw [if_neg (n 0 (by decide) (by decide)), if_neg (n 1 (by decide) (by decide)), if_pos (y 2 (by decide) rfl), if_neg (show ¬ (1 : Int32) = 0 by decide)]; rfl
    · rw [if_neg (n 0 (by decide) (by decide)), if_neg (n 1 (by decide) (by decide)), if_neg (n 2 (by decide) (by decide)), if_pos (y 3 (by decide) rfl), if_neg (show ¬ (1 : Int32) = 0 by decide)]; rfl
    · rw [if_neg (n 0 (by decide) (by decide)), if_neg (n 1 (by decide) (by decide)), if_neg (n 2 (by decide) (by decide)), if_neg (n 3 (by decide) (by decide)), if_pos (y 4 (by decide) rfl), if_neg (show ¬ (1 : Int32) = 0 by decide)]; rfl
    · rw [if_neg (n 0 (by decide) (by decide)), if_neg (n 1 (by decide) (by decide)), if_neg (n 2 (by decide) (by decide)), if_neg (n 3 (by decide) (by decide)), if_neg (n 4 (by decide) (by decide)), if_pos (y 5 (by decide) rfl), if_neg (show ¬ (1 : Int32) = 0 by decide)]; rfl
    · rw [if_neg (n 0 (by decide) (by decide)), if_neg (n 1 (by decide) (by decide)), if_neg (n 2 (by decide) (by decide)), if_neg (n 3 (by decide) (by decide)), if_neg (n 4 (by decide) (by decide)), if_neg (n 5 (by decide) (by decide)), if_pos (y 6 (by decide) rfl), if_neg (show ¬ (1 : Int32) = 0 by decide)]; rfl
    · rw [if_neg (n 0 (by decide) (by decide)), if_neg (n 1 (by decide) (by decide)), if_neg (n 2 (by decide) (by decide)), if_neg (n 3 (by decide) (by decide)), if_neg (n 4 (by decide) (by decide)), if_neg (n 5 (by decide) (by decide)), if_neg (n 6 (by decide) (by decide)), if_pos (y 7 (by decide) rfl), if_neg (show ¬ (1 : Int32) = 0 by decide)]; rfl
    · rw [if_neg (n 0 (by decide) (by decide)), if_neg (n 1 (by decide) (by decide)), if_neg (n 2 (by decide) (by decide)), if_neg (n 3 (by decide) (by decide)), if_neg (n 4 (by decide) (by decide)), if_neg (n 5 (by decide) (by decide)), if_neg (n 6 (by decide) (by decide)), if_neg (n 7 (by decide) (by decide)), if_pos (y 8 (by decide) rfl), if_neg (show ¬ (1 : Int32) = 0 by decide)]; rfl
    · rw [if_neg (n 0 (by decide) (by decide)), if_neg (n 1 (by decide) (by decide)), if_neg (n 2 (by decide) (by decide)), if_neg (n 3 (by decide) (by decide)), if_neg (n 4 (by decide) (by decide)), if_neg (n 5 (by decide) (by decide)), if_neg (n 6 (by decide) (by decide)), if_neg (n 7 (by decide) (by decide)), if_neg (n 8 (by decide) (by decide)), if_pos (y 9 (by decide) rfl), if_neg (show ¬ (1 : Int32) = 0 by decide)]; rfl
    · rw [if_neg (n 0 (by decide) (by decide)), if_neg (n 1 (by decide) (by decide)), if_neg (n 2 (by decide) (by decide)), if_neg (n 3 (by decide) (by decide)), if_neg (n 4 (by decide) (by decide)), if_neg (n 5 (by decide) (by decide)), if_neg (n 6 (by decide) (by decide)), if_neg (n 7 (by decide) (by decide)), if_neg (n 8 (by decide) (by decide)), if_neg (n 9 (by decide) (by decide)), if_pos (show (0 : Int32) = 0 from rfl), if_pos (y 10 (by decide) rfl)]; rfl
    · rw [if_neg (n 0 (by decide) (by decide)), if_neg (n 1 (by decide) (by decide)), if_neg (n 2 (by decide) (by decide)), if_neg (n 3 (by decide) (by decide)), if_neg (n 4 (by decide) (by decide)), if_neg (n 5 (by decide) (by decide)), if_neg (n 6 (by decide) (by decide)), if_neg (n 7 (by decide) (by decide)), if_neg (n 8 (by decide) (by decide)), if_neg (n 9 (by decide) (by decide)), if_pos (show (0 : Int32) = 0 from rfl), if_neg (n 10 (by decide) (by decide)), if_pos (y 11 (by decide) rfl)]; rfl
    · rw [if_neg (n 0 (by decide) (by decide)), if_neg (n 1 (by decide) (by decide)), if_neg (n 2 (by decide) (by decide)), if_neg (n 3 (by decide) (by decide)), if_neg (n 4 (by decide) (by decide)), if_neg (n 5 (by decide) (by decide)), if_neg (n 6 (by decide) (by decide)), if_neg (n 7 (by decide) (by decide)), if_neg (n 8 (by decide) (by decide)), if_neg (n 9 (by decide) (by decide)), if_pos (show (0 : Int32) = 0 from rfl), if_neg (n 10 (by decide) (by decide)), if_neg (n 11 (by decide) (by decide)), if_pos (y 12 (by decide) rfl)]; rfl
    · rw [if_neg (n 0 (by decide) (by decide)), if_neg (n 1 (by decide) (by decide)), if_neg (n 2 (by decide) (by decide)), if_neg (n 3 (by decide) (by decide)), if_neg (n 4 (by decide) (by decide)), if_neg (n 5 (by decide) (by decide)), if_neg (n 6 (by decide) (by decide)), if_neg (n 7 (by decide) (by decide)), if_neg (n 8 (by decide) (by decide)), if_neg (n 9 (by decide) (by decide)), if_pos (show (0 : Int32) = 0 from rfl), if_neg (n 10 (by decide) (by decide)), if_neg (n 11 (by decide) (by decide)), if_neg (n 12 (by decide) (by decide)), if_pos (y 13 (by decide) rfl)]; rfl
    · rw [if_neg (n 0 (by decide) (by decide)), if_neg (n 1 (by decide) (by decide)), if_neg (n 2 (by decide) (by decide)), if_neg (n 3 (by decide) (by decide)), if_neg (n 4 (by decide) (by decide)), if_neg (n 5 (by decide) (by decide)), if_neg (n 6 (by decide) (by decide)), if_neg (n 7 (by decide) (by decide)), if_neg (n 8 (by decide) (by decide)), if_neg (n 9 (by decide) (by decide)), if_pos (show (0 : Int32) = 0 from rfl), if_neg (n 10 (by decide) (by decide)), if_neg (n 11 (by decide) (by decide)), if_neg (n 12 (by decide) (by decide)), if_neg (n 13 (by decide) (by decide)), if_pos (y 14 (by decide) rfl)]; rfl
    · rw [if_neg (n 0 (by decide) (by decide)), if_neg (n 1 (by decide) (by decide)), if_neg (n 2 (by decide) (by decide)), if_neg (n 3 (by decide) (by decide)), if_neg (n 4 (by decide) (by decide)), if_neg (n 5 (by decide) (by decide)), if_neg (n 6 (by decide) (by decide)), if_neg (n 7 (by decide) (by decide)), if_neg (n 8 (by decide) (by decide)), if_neg (n 9 (by decide) (by decide)), if_pos (show (0 : Int32) = 0 from rfl), if_neg (n 10 (by decide) (by decide)), if_neg (n 11 (by decide) (by decide)), if_neg (n 12 (by decide) (by decide)), if_neg (n 13 (by decide) (by decide)), if_neg (n 14 (by decide) (by decide)), if_neg (n 18 (by decide) (by decide)), if_neg (n 19 (by decide) (by decide)), if_neg (n 16 (by decide) (by decide)), if_pos (y 15 (by decide) rfl)]; rfl
    · rw [if_neg (n 0 (by decide) (by decide)), if_neg (n 1 (by decide) (by decide)), if_neg (n 2 (by decide) (by decide)), if_neg (n 3 (by decide) (by decide)), if_neg (n 4 (by decide) (by decide)), if_neg (n 5 (by decide) (by decide)), if_neg (n 6 (by decide) (by decide)), if_neg (n 7 (by decide) (by decide)), if_neg (n 8 (by decide) (by decide)), if_neg (n 9 (by decide) (by decide)), if_pos (show (0 : Int32) = 0 from rfl), if_neg (n 10 (by decide) (by decide)), if_neg (n 11 (by decide) (by decide)), if_neg (n 12 (by decide) (by decide)), if_neg (n 13 (by decide) (by decide)), if_neg (n 14 (by decide) (by decide)), if_neg (n 18 (by decide) (by decide)), if_neg (n 19 (by decide) (by decide)), if_pos (y 16 (by decide) rfl)]; rfl
    · rw [if_neg (n 0 (by decide) (by decide)), if_neg (n 1 (by decide) (by decide)), if_neg (n 2 (by decide) (by decide)), if_neg (n 3 (by decide) (by decide)), if_neg (n 4 (by decide) (by decide)), if_neg (n 5 (by decide) (by decide)), if_neg (n 6 (by decide) (by decide)), if_neg (n 7 (by decide) (by decide)), if_neg (n 8 (by decide) (by decide)), if_neg (n 9 (by decide) (by decide)), if_pos (show (0 : Int32) = 0 from rfl), if_neg (n 10 (by decide) (by decide)), if_neg (n 11 (by decide) (by decide)), if_neg (n 12 (by decide) (by decide)), if_neg (n 13 (by decide) (by decide)), if_neg (n 14 (by decide) (by decide)), if_neg (n 18 (by decide) (by decide)), if_neg (n 19 (by decide) (by decide)), if_neg (n 16 (by decide) (by decide)), if_neg (n 15 (by decide) (by decide)), if_pos (y 17 (by decide) rfl)]; rfl
    · rw [if_neg (n 0 (by decide) (by decide)), if_neg (n 1 (by decide) (by decide)), if_neg (n 2 (by decide) (by decide)), if_neg (n 3 (by decide) (by decide)), if_neg (n 4 (by decide) (by decide)), if_neg (n 5 (by decide) (by decide)), if_neg (n 6 (by decide) (by decide)), if_neg (n 7 (by decide) (by decide)), if_neg (n 8 (by decide) (by decide)), if_neg (n 9 (by decide) (by decide)), if_pos (show (0 : Int32) = 0 from rfl), if_neg (n 10 (by decide) (by decide)), if_neg (n 11 (by decide) (by decide)), if_neg (n 12 (by decide) (by decide)), if_neg (n 13 (by decide) (by decide)), if_neg (n 14 (by decide) (by decide)), if_pos (y 18 (by decide) rfl)]; rfl
    · rw [if_neg (n 0 (by decide) (by decide)), if_neg (n 1 (by decide) (by decide)), if_neg (n 2 (by decide) (by decide)), if_neg (n 3 (by decide) (by decide)), if_neg (n 4 (by decide) (by decide)), if_neg (n 5 (by decide) (by decide)), if_neg (n 6 (by decide) (by decide)), if_neg (n 7 (by decide) (by decide)), if_neg (n 8 (by decide) (by decide)), if_neg (n 9 (by decide) (by decide)), if_pos (show (0 : Int32) = 0 from rfl), if_neg (n 10 (by decide) (by decide)), if_neg (n 11 (by decide) (by decide)), if_neg (n 12 (by decide) (by decide)), if_neg (n 13 (by decide) (by decide)), if_neg (n 14 (by decide) (by decide)), if_neg (n 18 (by decide) (by decide)), if_pos (y 19 (by decide) rfl)]; rfl
    · rw [if_neg (n 0 (by decide) (by decide)), if_neg (n 1 (by decide) (by decide)), if_neg (n 2 (by decide) (by decide)), if_neg (n 3 (by decide) (by decide)), if_neg (n 4 (by decide) (by decide)), if_neg (n 5 (by decide) (by decide)), if_neg (n 6 (by decide) (by decide)), if_neg (n 7 (by decide) (by decide)), if_neg (n 8 (by decide) (by decide)), if_neg (n 9 (by decide) (by decide)), if_pos (show (0 : Int32) = 0 from rfl), if_neg (n 10 (by decide) (by decide)), if_neg (n 11 (by decide) (by decide)), if_neg (n 12 (by decide) (by decide)), if_neg (n 13 (by decide) (by decide)), if_neg (n 14 (by decide) (by decide)), if_neg (n 18 (by decide) (by decide)), if_neg (n 19 (by decide) (by decide)), if_neg (n 16 (by decide) (by decide)), if_neg (n 15 (by decide) (by decide)), if_neg (n 17 (by decide) (by decide))]; rfl
  · have h3' : rk (t_k K k) ≠ 1 := by unfold rk; (repeat' split) <;> omega
    rw [if_neg (show ¬ nI (rk (t_k K k)) = (1 : Int32) from fun q => h3' ((nI_eq (b := 1) (by omega) (by decide)).mp q)), if_neg (by omega)]; rfl
/-- the role that bears this word -/
def rid (K : TKS) (nk : Nat → Nat) (nr k : Nat) : Nat := fa_first (fun i => decide (t_w K (nk i) = t_w K k)) nr
theorem R_named {K : TKS} {r pl k F : Nat} {P : PT} {cn nk : Nat → Nat} {g : HP} (hx : CTX K r pl g) (hv : VAL K P cn nk F) (h4 : hp_i g pl 4 = nI (p_nr P)) (hn : ∀ i, i < p_nr P → hp_l g (r + 1) i = lN (t_v K (nk i))) (hk : k ≤ t_N K) (h20 : t_k K k = 20) : f_Rd_roleNamed r (lN (t_v K k)) g = some (if rid K nk (p_nr P) k < p_nr P then nI (rid K nk (p_nr P) k) else -1, g) := by
  have ok := hx.2.1
  have hnr := hv.1.2.2.2.2.1
  have hle : rid K nk (p_nr P) k ≤ p_nr P := fa_first_le _ _
  have key : pw (f_Rd_roleNamed r (lN (t_v K k)) g) (fun q => q = (if rid K nk (p_nr P) k < p_nr P then nI (rid K nk (p_nr P) k) else -1, g)) := by
    unfold f_Rd_roleNamed f_Rd_roleNamed_2
    refine pw_cnt (rid K nk (p_nr P) k) (fun i t => t = (nI i, g)) ?_ ?_ 0 (0, g) (by omega) rfl
    · rintro i t hi rfl
      have hno : decide (t_w K (nk i) = t_w K k) = false := fa_first_no _ _ _ hi
      have hw : t_w K (nk i) ≠ t_w K k := of_decide_eq_false hno
      obtain ⟨a1, a2, _⟩ := hv.2.1 i (by omega)
      have hvv : t_v K (nk i) ≠ t_v K k := fun z => hw ((ok.2.2.2.2.2 _ _ a1 hk (by omega) (by omega)).mpr z)
      have b1 := (ok.2.2.2.1 _ a1).2.2.2.2
      have b2 := (ok.2.2.2.1 k hk).2.2.2.2
      unfold f_Rd_roleNamed_2b
      dsimp only
      rw [bn_o hx.2.2.1.1, h4, if_neg (nI_ge (by omega) (by omega)), if_neg (show ¬ (4 : Int32) ≤ nI i from nI_ge (b := 4) (by omega) (by decide)), bn_o hx.2.2.1.2.1, hx.2.2.1.2.2.2.2.2.1, if_pos (hp_in_nI (by omega) (by omega)), nI_clamp (by omega), hn i (by omega), if_neg (fun q => hvv ((fb_lN_inj (by omega) (by omega)).mp ((lg_cmp_eq _ _).mp q))), xx_lE, nI_1]
      exact pw_L rfl rfl
    · rintro t rfl
      unfold f_Rd_roleNamed_2b
      dsimp only
      rw [bn_o hx.2.2.1.1, h4]
      by_cases z : rid K nk (p_nr P) k < p_nr P
      · have hyes := fa_first_yes _ _ z
        have hw : t_w K (nk (rid K nk (p_nr P) k)) = t_w K k := of_decide_eq_true hyes
        obtain ⟨a1, a2, _⟩ := hv.2.1 _ z
        have hvv := (ok.2.2.2.2.2 _ _ a1 hk (by omega) (by omega)).mp hw
        rw [if_neg (nI_ge z (by omega)), if_neg (show ¬ (4 : Int32) ≤ nI _ from nI_ge (b := 4) (by omega) (by decide)), bn_o hx.2.2.1.2.1, hx.2.2.1.2.2.2.2.2.1, if_pos (hp_in_nI (by omega) (by omega)), nI_clamp (by omega), hn _ z, if_pos ((lg_cmp_eq _ _).mpr (by rw [hvv])), if_pos z]
        exact pw_R rfl rfl
      · rw [if_pos (nI_le (by omega) (by omega)), if_neg z]
        exact pw_R rfl rfl
  obtain ⟨q, hq, rfl⟩ := key
  exact hq
theorem M_roleN {K : TKS} {m k F : Nat} {P : PT} {cn nk : Nat → Nat} {h : HP} (ok : TKO K) (hs : MS m h) (hv : VAL K P cn nk F) (hm : MSC K m P cn nk F h) (hk : k ≤ t_N K) (h20 : t_k K k = 20) : f_M_roleNumber m (lN (t_w K k)) h = some (if rid K nk (p_nr P) k < p_nr P then nI (rid K nk (p_nr P) k) else -1, h) := by
  have hnr := hv.1.2.2.2.2.1
  have e24 := hm.2.2.2.2.1
  have hn := hm.2.2.2.2.2.2.2.2.2.1
  have wk := (ok.2.2.2.2.1 k hk (by omega)).1
  have key : pw (f_M_roleNumber m (lN (t_w K k)) h) (fun q => q = (if rid K nk (p_nr P) k < p_nr P then nI (rid K nk (p_nr P) k) else -1, h)) := by
    unfold f_M_roleNumber f_M_roleNumber_5
    refine pw_cnt (p_nr P) (fun i t => t = (if rid K nk (p_nr P) k < i then nI (rid K nk (p_nr P) k) else -1, nI i, h)) ?_ ?_ 0 (-1, 0, h) (by omega) (by rw [if_neg (Nat.not_lt_zero _)]; rfl)
    · rintro i t hi rfl
      obtain ⟨a1, a2, a3⟩ := hv.2.1 i hi
      have wi := (ok.2.2.2.2.1 _ a1 (by omega)).1
      unfold f_M_roleNumber_5b f_M_roleNumber_32
      dsimp only
      rw [e24, if_neg (nI_ge hi (by omega)), mb_10 hs, mn_2 hs, if_pos (hp_in_nI (by omega) (by omega)), nI_clamp (by omega), hn i hi]
      by_cases z : t_w K (nk i) = t_w K k
      · have er : rid K nk (p_nr P) k = i := by
          refine first_eq hi (decide_eq_true z) (fun j hj => decide_eq_false (fun y => a3 j hj (y.trans z.symm)))
        rw [if_pos ((lg_cmp_eq _ _).mpr (by rw [z])), xx_lE, nI_1, er, if_pos (show i < i + 1 by omega)]
        exact pw_L rfl rfl
      · have er : rid K nk (p_nr P) k ≠ i := fun y => by
          have hyes := fa_first_yes (fun i => decide (t_w K (nk i) = t_w K k)) (p_nr P) (by show rid K nk (p_nr P) k < p_nr P; omega)
          have hw : t_w K (nk (rid K nk (p_nr P) k)) = t_w K k := of_decide_eq_true hyes
          rw [y] at hw; exact z hw
        rw [if_neg (fun q => z ((fb_lN_inj wi wk).mp ((lg_cmp_eq _ _).mp q))), xx_lE, nI_1]
        refine pw_L rfl ?_
        by_cases w : rid K nk (p_nr P) k < i
        · rw [if_pos w, if_pos (show rid K nk (p_nr P) k < i + 1 by omega)]
        · rw [if_neg w, if_neg (show ¬ rid K nk (p_nr P) k < i + 1 by omega)]
    · rintro t rfl
      unfold f_M_roleNumber_5b
      dsimp only
      rw [e24, if_pos (nI_le (Nat.le_refl _) (by omega))]
      exact pw_R rfl rfl
  obtain ⟨q, hq, rfl⟩ := key
  exact hq
