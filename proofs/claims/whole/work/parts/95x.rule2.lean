/-! a rule more -/
def fno (o : List (Nat × Nat)) : Nat → Nat := fun j => (o.getD j (0, 0)).2
def cod (P : PT) : List (Nat × Nat) := (List.range (p_bd P (3 * p_nu P))).map (fun j => (p_fw P j, p_fn P j))
theorem cod_len (P : PT) : (cod P).length = p_bd P (3 * p_nu P) := by unfold cod; rw [List.length_map, List.length_range]
theorem cod_at {P : PT} {j : Nat} (h : j < p_bd P (3 * p_nu P)) : (cod P).getD j (0, 0) = (p_fw P j, p_fn P j) := by
  unfold cod
  rw [List.getD_eq_getElem?_getD, List.getElem?_map, List.getElem?_range h]; rfl
def bdU (P : PT) (a b c : Nat) : Nat → Nat := fun i => if i = 3 * p_nu P + 1 then a else if i = 3 * p_nu P + 2 then b else if i = 3 * p_nu P + 3 then c else p_bd P i
def puU (q s u : Nat) (o1 o2 o3 : List (Nat × Nat)) (P : PT) : PT := (P.1, P.2.1, P.2.2.1, P.2.2.2.1, p_nr P, p_nm P, p_nu P + 1, u, p_hf P, p_ro P, up1 (p_rr P) (p_nu P) q, up1 (p_rs P) (p_nu P) s, bdU P o1.length o2.length o3.length, fwo o3, fno o3)
theorem wf_cong {f g : Nat → Nat} {a b : Nat} (h : ∀ j, a ≤ j → j < b → f j = g j) (hw : wf f a b) : wf g a b := by
  obtain ⟨h1, h2, h3⟩ := hw
  have e : ∀ n, n ≤ b - a → dpt g a n = dpt f a n := fun n hn => dpt_cong n (fun j hj => (h (a + j) (by omega) (by omega)).symm)
  refine ⟨h1, by rw [e _ (Nat.le_refl _)]; exact h2, fun n hn => ?_⟩
  rw [e n (by omega), ← h (a + n) (by omega) (by omega)]; exact h3 n hn
theorem JJ_wf {a : Nat} {o : List (Nat × Nat)} (h : JJ a 2 [] o) : wf (fwo o) a o.length := by
  obtain ⟨h1, h2, h3, _⟩ := h
  rw [if_pos rfl] at h2
  exact ⟨h1, h2, h3⟩
theorem bd_mn {P : PT} (ok : POK P) : ∀ d k, k + d = 3 * p_nu P → p_bd P k ≤ p_bd P (3 * p_nu P) := by
  intro d
  induction d with
  | zero => intro k hk; rw [show k = 3 * p_nu P by omega]; exact Nat.le_refl _
  | succ d ih =>
    intro k hk
    have h1 := (ok.2.2.2.2.2.2.2.2.2.2.2.2.1 k (by omega)).1
    have h2 := ih (k + 1) (by omega)
    omega
theorem fwo_pre {o e : List (Nat × Nat)} {j : Nat} (h : j < o.length) : fwo (o ++ e) j = fwo o j := by unfold fwo; rw [gd_l h]
theorem VAL_U {K : TKS} {P : PT} {cn nk : Nat → Nat} {F q s u : Nat} {o1 o2 o3 : List (Nat × Nat)} (hv : VAL K P cn nk F) (hnu : p_nu P < 16) (hq : q < p_nr P) (hs : s < 2) (hc : CN 2 [] o3 u) (j1 : JJ (cod P).length 2 [] o1) (j2 : JJ o1.length 2 [] o2) (j3 : JJ o2.length 2 [] o3) (p1 : ∃ e, o1 = cod P ++ e) (p2 : ∃ e, o2 = o1 ++ e) (p3 : ∃ e, o3 = o2 ++ e) : VAL K (puU q s u o1 o2 o3 P) cn nk F := by
  obtain ⟨okp, v2, v3, v4, v5, v6, v7⟩ := hv
  obtain ⟨n1, n2, n3, n4⟩ := CN_2.mp hc
  rw [List.length_nil] at n3
  have ol := cod_len P
  have l1 := j1.1
  have l2 := j2.1
  have l3 := j3.1
  obtain ⟨e1, p1⟩ := p1
  obtain ⟨e2, p2⟩ := p2
  obtain ⟨e3, p3⟩ := p3
  have f3 : ∀ j, j < o2.length → fwo o3 j = fwo o2 j := fun j hj => by rw [p3]; exact fwo_pre hj
  have f2 : ∀ j, j < o1.length → fwo o3 j = fwo o1 j := fun j hj => by rw [f3 j (by omega), p2]; exact fwo_pre hj
  have f1 : ∀ j, j < (cod P).length → fwo o3 j = p_fw P j := fun j hj => by
    rw [f2 j (by omega), p1, fwo_pre hj]
    unfold fwo
    rw [cod_at (by omega)]
  have hbd : ∀ k, k ≤ 3 * p_nu P → bdU P o1.length o2.length o3.length k = p_bd P k := fun k hk => by unfold bdU; rw [if_neg (by omega), if_neg (by omega), if_neg (by omega)]
  have hb1 : bdU P o1.length o2.length o3.length (3 * p_nu P + 1) = o1.length := by unfold bdU; rw [if_pos rfl]
  have hb2 : bdU P o1.length o2.length o3.length (3 * p_nu P + 2) = o2.length := by unfold bdU; rw [if_neg (by omega), if_pos rfl]
  have hb3 : bdU P o1.length o2.length o3.length (3 * p_nu P + 3) = o3.length := by unfold bdU; rw [if_neg (by omega), if_neg (by omega), if_pos rfl]
  have bm := bd_mn okp
  obtain ⟨q1, q2, q3, q4, q5, q6, q7, q8, q9, q10, q11, q12, q13, q14, q15⟩ := okp
  refine ⟨⟨q1, q2, q3, q4, q5, q6, (show p_nu P + 1 ≤ 16 by omega), n1, q9, q10, fun i hi => ?_, ?_, fun k hk => ?_, fun k hk => ?_, fun k => ?_⟩, v2, v3, v4, ?_, fun j hj => ?_, v7⟩
  · have hi : i < p_nu P + 1 := hi
    show up1 (p_rr P) (p_nu P) q i < p_nr P ∧ up1 (p_rs P) (p_nu P) s i < 2
    unfold up1
    by_cases z : i = p_nu P
    · rw [if_pos z, if_pos z]; exact ⟨hq, hs⟩
    · rw [if_neg z, if_neg z]; exact q11 i (by omega)
  · show bdU P o1.length o2.length o3.length 0 = 0
    rw [hbd 0 (by omega)]; exact q12
  · have hk : k < 3 * (p_nu P + 1) := hk
    show wf (fwo o3) (bdU P o1.length o2.length o3.length k) (bdU P o1.length o2.length o3.length (k + 1))
    by_cases z : k < 3 * p_nu P
    · rw [hbd k (by omega), hbd (k + 1) (by omega)]
      have := bm (3 * p_nu P - (k + 1)) (k + 1) (by omega)
      exact wf_cong (fun j _ h2 => (f1 j (by omega)).symm) (q13 k z)
    · rcases (show k = 3 * p_nu P ∨ k = 3 * p_nu P + 1 ∨ k = 3 * p_nu P + 2 by omega) with rfl | rfl | rfl
      · rw [hbd _ (Nat.le_refl _), hb1, ← ol]
        exact wf_cong (fun j _ h2 => (f2 j h2).symm) (JJ_wf j1)
      · rw [hb1, show 3 * p_nu P + 1 + 1 = 3 * p_nu P + 2 by omega, hb2]
        exact wf_cong (fun j _ h2 => (f3 j h2).symm) (JJ_wf j2)
      · rw [hb2, show 3 * p_nu P + 2 + 1 = 3 * p_nu P + 3 by omega, hb3]
        exact JJ_wf j3
  · have hk : k ≤ 3 * (p_nu P + 1) := hk
    show bdU P o1.length o2.length o3.length k < 540
    by_cases z : k ≤ 3 * p_nu P
    · rw [hbd k z]; exact q14 k z
    · rcases (show k = 3 * p_nu P + 1 ∨ k = 3 * p_nu P + 2 ∨ k = 3 * p_nu P + 3 by omega) with rfl | rfl | rfl
      · rw [hb1]; omega
      · rw [hb2]; omega
      · rw [hb3]; omega
  · show fno o3 k ≤ 9999
    unfold fno
    by_cases z : k < o3.length
    · rcases j3.2.2.2 k z with y | y | y <;> omega
    · rw [List.getD_eq_getElem?_getD, List.getElem?_eq_none (by omega)]; decide
  · show bdU P o1.length o2.length o3.length (3 * (p_nu P + 1)) ≤ 9 * u
    rw [show 3 * (p_nu P + 1) = 3 * p_nu P + 3 by omega, hb3]; omega
  · have hj : j < bdU P o1.length o2.length o3.length (3 * (p_nu P + 1)) := hj
    rw [show 3 * (p_nu P + 1) = 3 * p_nu P + 3 by omega, hb3] at hj
    exact j3.2.2.2 j hj
theorem PX_U {P : PT} {pl q s u : Nat} {o1 o2 o3 : List (Nat × Nat)} {g g' : HP} {r : Nat} (hrp : r + 4 < pl) (h : PX P pl g) (H : hp_fr (fun a k => S_rr r pl (p_nu P) a k ∨ a = pl ∧ k = 6 ∨ (a = pl + 3 ∨ a = pl + 4) ∧ k = p_nu P) g g') (e6 : hp_i g' pl 6 = nI (p_nu P + 1)) (hc : CDE pl o3 u g') (e3 : hp_i g' (pl + 3) (p_nu P) = nI q) (e4 : hp_i g' (pl + 4) (p_nu P) = nI s) (b1 : hp_i g' (pl + 5) (3 * p_nu P) = nI o1.length) (b2 : hp_i g' (pl + 5) (3 * p_nu P + 1) = nI o2.length) (b3 : hp_i g' (pl + 5) (3 * p_nu P + 2) = nI o3.length) : PX (puU q s u o1 o2 o3 P) pl g' := by
  obtain ⟨a1, a2, a3, a4, a5, a6, a7, a8, a9, a10, a11, a12, a13, a14⟩ := h
  refine ⟨?_, ?_, ?_, ?_, ?_, ?_, e6, hc.2.1, fun i hi => ?_, fun i hi => ?_, fun i hi => ?_, fun i hi => ?_, fun i hi => ?_, fun i hi => ?_⟩
  · rw [hf_i H (by unfold S_rr S_xp S_ra; omega)]; exact a1
  · rw [hf_i H (by unfold S_rr S_xp S_ra; omega)]; exact a2
  · rw [hf_i H (by unfold S_rr S_xp S_ra; omega)]; exact a3
  · rw [hf_i H (by unfold S_rr S_xp S_ra; omega)]; exact a4
  · rw [hf_i H (by unfold S_rr S_xp S_ra; omega)]; exact a5
  · rw [hf_i H (by unfold S_rr S_xp S_ra; omega)]; exact a6
  · rw [hf_i H (by unfold S_rr S_xp S_ra; omega)]; exact a9 i hi
  · rw [hf_i H (by unfold S_rr S_xp S_ra; omega)]; exact a10 i hi
  · have hi : i < p_nu P + 1 := hi
    show hp_i g' (pl + 3) i = nI (up1 (p_rr P) (p_nu P) q i)
    unfold up1
    by_cases z : i = p_nu P
    · rw [if_pos z, z]; exact e3
    · rw [if_neg z, hf_i H (by unfold S_rr S_xp S_ra; omega)]; exact a11 i (by omega)
  · have hi : i < p_nu P + 1 := hi
    show hp_i g' (pl + 4) i = nI (up1 (p_rs P) (p_nu P) s i)
    unfold up1
    by_cases z : i = p_nu P
    · rw [if_pos z, z]; exact e4
    · rw [if_neg z, hf_i H (by unfold S_rr S_xp S_ra; omega)]; exact a12 i (by omega)
  · have hi : i < 3 * (p_nu P + 1) := hi
    show hp_i g' (pl + 5) i = nI (bdU P o1.length o2.length o3.length (i + 1))
    by_cases z : i < 3 * p_nu P
    · unfold bdU
      rw [if_neg (by omega), if_neg (by omega), if_neg (by omega), hf_i H (by unfold S_rr S_xp S_ra; omega)]; exact a13 i z
    · rcases (show i = 3 * p_nu P ∨ i = 3 * p_nu P + 1 ∨ i = 3 * p_nu P + 2 by omega) with rfl | rfl | rfl
      · unfold bdU; rw [if_pos rfl]; exact b1
      · unfold bdU; rw [if_neg (by omega), if_pos (by omega)]; exact b2
      · unfold bdU; rw [if_neg (by omega), if_neg (by omega), if_pos (by omega)]; exact b3
  · have hi : i < bdU P o1.length o2.length o3.length (3 * (p_nu P + 1)) := hi
    rw [show 3 * (p_nu P + 1) = 3 * p_nu P + 3 by omega] at hi
    unfold bdU at hi
    rw [if_neg (by omega), if_neg (by omega), if_pos rfl] at hi
    exact hc.2.2 i hi
theorem MSC_U {K : TKS} {P : PT} {m F q s u : Nat} {cn nk : Nat → Nat} {o1 o2 o3 : List (Nat × Nat)} {g g' : HP} (h : MSC K m P cn nk F g) (H : hp_fr (fun a k => S_rpp m (p_nu P) a k ∨ a = m ∧ k = 26 ∨ a = m + 9 ∧ k = p_nu P ∨ a = m + 14 ∧ k = 3 * p_nu P + 3) g g') (e26 : hp_i g' m 26 = nI (p_nu P + 1)) (ho : OUT m o3 u g') (e5 : hp_i g (m + 5) (p_nu P) = nI q) (e9 : hp_i g' (m + 9) (p_nu P) = nI s) (b0 : hp_i g' (m + 14) (3 * p_nu P) = nI (p_bd P (3 * p_nu P))) (b1 : hp_i g' (m + 14) (3 * p_nu P + 1) = nI o1.length) (b2 : hp_i g' (m + 14) (3 * p_nu P + 2) = nI o2.length) (b3 : hp_i g' (m + 14) (3 * p_nu P + 3) = nI o3.length) : MSC K m (puU q s u o1 o2 o3 P) cn nk F g' := by
  obtain ⟨a1, a2, a3, a4, a5, a6, a7, a8, a9, a10, a11, a12, a13, a14, a15, a16, a17⟩ := h
  have e44 : bdU P o1.length o2.length o3.length (3 * (p_nu P + 1)) = o3.length := by rw [show 3 * (p_nu P + 1) = 3 * p_nu P + 3 by omega]; unfold bdU; rw [if_neg (by omega), if_neg (by omega), if_pos rfl]
  refine ⟨?_, ?_, ?_, ?_, ?_, ?_, e26, ho.2.1, ?_, fun i hi => ?_, fun i hi => ?_, fun i hi => ?_, fun i hi => ?_, fun i hi => ?_, fun i hi hj => ?_, fun i hi => ?_, fun i hi => ?_⟩
  · rw [hf_i H (by unfold S_rpp S_me S_er S_tk S_pil S_nte; omega)]; exact a1
  · rw [hf_i H (by unfold S_rpp S_me S_er S_tk S_pil S_nte; omega)]; exact a2
  · rw [hf_i H (by unfold S_rpp S_me S_er S_tk S_pil S_nte; omega)]; exact a3
  · rw [hf_i H (by unfold S_rpp S_me S_er S_tk S_pil S_nte; omega)]; exact a4
  · rw [hf_i H (by unfold S_rpp S_me S_er S_tk S_pil S_nte; omega)]; exact a5
  · rw [hf_i H (by unfold S_rpp S_me S_er S_tk S_pil S_nte; omega)]; exact a6
  · show hp_i g' m 44 = nI (bdU P o1.length o2.length o3.length (3 * (p_nu P + 1)))
    rw [e44]; exact ho.1
  · rw [hf_l H (by unfold S_rpp S_me S_er S_tk S_pil S_nte; omega)]; exact a10 i hi
  · rw [hf_i H (by unfold S_rpp S_me S_er S_tk S_pil S_nte; omega)]; exact a11 i hi
  · rw [hf_i H (by unfold S_rpp S_me S_er S_tk S_pil S_nte; omega)]; exact a12 i hi
  · have hi : i < p_nu P + 1 := hi
    show hp_i g' (m + 5) i = nI (up1 (p_rr P) (p_nu P) q i)
    rw [hf_i H (by unfold S_rpp S_me S_er S_tk S_pil S_nte; omega)]
    unfold up1
    by_cases z : i = p_nu P
    · rw [if_pos z, z]; exact e5
    · rw [if_neg z]; exact a13 i (by omega)
  · have hi : i < p_nu P + 1 := hi
    show hp_i g' (m + 9) i = nI (up1 (p_rs P) (p_nu P) s i)
    unfold up1
    by_cases z : i = p_nu P
    · rw [if_pos z, z]; exact e9
    · rw [if_neg z, hf_i H (by unfold S_rpp S_me S_er S_tk S_pil S_nte; omega)]; exact a14 i (by omega)
  · have hi : i ≤ 3 * (p_nu P + 1) := hi
    show hp_i g' (m + 14) i = nI (bdU P o1.length o2.length o3.length i)
    by_cases z : i < 3 * p_nu P
    · unfold bdU
      rw [if_neg (by omega), if_neg (by omega), if_neg (by omega), hf_i H (by unfold S_rpp S_me S_er S_tk S_pil S_nte; omega)]
      exact a15 i (by omega) (by omega)
    · rcases (show i = 3 * p_nu P ∨ i = 3 * p_nu P + 1 ∨ i = 3 * p_nu P + 2 ∨ i = 3 * p_nu P + 3 by omega) with rfl | rfl | rfl | rfl
      · unfold bdU; rw [if_neg (by omega), if_neg (by omega), if_neg (by omega)]; exact b0
      · unfold bdU; rw [if_pos rfl]; exact b1
      · unfold bdU; rw [if_neg (by omega), if_pos rfl]; exact b2
      · unfold bdU; rw [if_neg (by omega), if_neg (by omega), if_pos rfl]; exact b3
  · have hi : i < bdU P o1.length o2.length o3.length (3 * (p_nu P + 1)) := hi
    rw [e44] at hi
    exact ho.2.2 i hi
  · rw [hf_i H (by unfold S_rpp S_me S_er S_tk S_pil S_nte; omega)]; exact a17 i hi
/-! the class writes a rule -/
theorem R_addRule {r pl a s q : Nat} {h : HP} (hs : RSH r pl h) (h6 : hp_i h pl 6 = nI a) (ha : a < 16) (hs2 : s < 2) : pw (f_Pl_addRule pl (nI q) (nI s) h) (fun g => hp_fr (fun x k => x = pl ∧ k = 6 ∨ (x = pl + 3 ∨ x = pl + 4) ∧ k = a) h g ∧ hp_i g pl 6 = nI (a + 1) ∧ hp_i g (pl + 3) a = nI q ∧ hp_i g (pl + 4) a = nI s) := by
  have p10 : hp_r h pl 10 = some (pl + 3) := hs.2.2.2.2.2.2.2.2.2.2.2.1
  have p11 : hp_r h pl 11 = some (pl + 4) := hs.2.2.2.2.2.2.2.2.2.2.2.2.1
  have n3 : hp_n h (pl + 3) = 16 := hs.2.2.2.2.2.2.2.2.2.2.2.2.2.2.2.2.2.2.2.1
  have n4 : hp_n h (pl + 4) = 16 := hs.2.2.2.2.2.2.2.2.2.2.2.2.2.2.2.2.2.2.2.2.1
  unfold f_Pl_addRule
  rw [h6, if_neg (show ¬ (16 : Int32) ≤ nI a from nI_ge (b := 16) ha (by decide)), bn_o p10, n3, if_pos (hp_in_nI ha (by omega)), nI_clamp (by omega), xx_lE]
  obtain ⟨h1, hh1⟩ : ∃ h1, hp_si h (pl + 3) a (nI q) = h1 := ⟨_, rfl⟩
  rw [hh1]
  have r1 : hp_r h1 pl 11 = some (pl + 4) := by rw [← hh1]; exact p11
  have m1 : hp_n h1 (pl + 4) = 16 := by rw [← hh1]; exact n4
  have e6 : hp_i h1 pl 6 = nI a := by rw [← hh1, hp_i_si, if_neg (by omega)]; exact h6
  have e3 : hp_i h1 (pl + 3) a = nI q := by rw [← hh1, hp_i_si, if_pos ⟨rfl, rfl⟩]
  have H1 : hp_fr (fun x k => x = pl ∧ k = 6 ∨ (x = pl + 3 ∨ x = pl + 4) ∧ k = a) h h1 := by rw [← hh1]; exact hf_si (hp_fr_rf h) (by omega)
  rw [bn_o r1, e6, m1, if_pos (hp_in_nI ha (by omega)), nI_clamp (by omega), nar_lt hs2]
  simp only [xx_lE]
  have f6 : hp_i (hp_si h1 (pl + 4) a (nI s)) pl 6 = nI a := by rw [hp_i_si, if_neg (by omega)]; exact e6
  rw [f6, nI_1]
  refine pw_some ⟨hf_si (hf_si H1 (by omega)) (by omega), ?_, ?_, ?_⟩
  · rw [hp_i_si, if_pos ⟨rfl, rfl⟩]
  · rw [hp_i_si, if_neg (by omega), hp_i_si, if_neg (by omega)]; exact e3
  · rw [hp_i_si, if_neg (by omega), hp_i_si, if_pos ⟨rfl, rfl⟩]
theorem R_addRuleD {r pl s q : Nat} {h : HP} (hrp : r + 4 < pl) (hs : RSH r pl h) (hp : PLB pl h) (hs2 : s < 2) : pw (f_Pl_addRule pl (nI q) (nI s) h) (fun g => hp_fr (fun x k => x = pl ∧ k = 6 ∨ x = pl + 3 ∨ x = pl + 4) h g ∧ PLB pl g) := by
  obtain ⟨p1, p2, ⟨a, a1, a2⟩, p4⟩ := id hp
  by_cases z : a < 16
  · refine pw_mono (R_addRule hs a2 z hs2) ?_
    rintro g ⟨H, q1, _⟩
    obtain ⟨b, b1, b2⟩ := p1
    obtain ⟨c, c1, c2⟩ := p2
    obtain ⟨d, d1, d2⟩ := p4
    exact ⟨hp_fr_mo H (fun x k y => by omega), ⟨b, b1, by rw [hf_i H (by omega)]; exact b2⟩, ⟨c, c1, by rw [hf_i H (by omega)]; exact c2⟩, ⟨a + 1, by omega, q1⟩, ⟨d, d1, by rw [hf_i H (by omega)]; exact d2⟩⟩
  · unfold f_Pl_addRule
    rw [a2, if_pos (show (16 : Int32) ≤ nI a from nI_le (a := 16) (by omega) (by omega))]
    exact pw_some ⟨hp_fr_rf h, hp⟩
