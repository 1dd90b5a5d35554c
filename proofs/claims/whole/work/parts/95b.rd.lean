/-! the class's reader: refuse, advance, expect, codes -/
def RSH (r pl : Nat) (h : HP) : Prop := hp_r h r 4 = some pl ∧ hp_r h r 5 = some (r + 1) ∧ hp_r h r 7 = some (r + 2) ∧ hp_r h r 8 = some (r + 3) ∧ hp_r h r 9 = some (r + 4) ∧ hp_n h (r + 1) = 4 ∧ hp_n h (r + 2) = 1401 ∧ hp_n h (r + 3) = 1401 ∧ hp_n h (r + 4) = 1401 ∧ PSH pl h
def TKX (K : TKS) (r : Nat) (h : HP) : Prop := hp_i h r 10 = nI (t_N K + 1) ∧ ∀ k, k ≤ t_N K → hp_i h (r + 2) k = nI (t_k K k) ∧ hp_i h (r + 3) k = nI (t_s K k) ∧ hp_l h (r + 4) k = lN (if t_k K k = 21 then t_n K k else if t_k K k ≤ 20 then t_v K k else 0)
def CTX (K : TKS) (r pl : Nat) (h : HP) : Prop := r + 4 < pl ∧ TKO K ∧ RSH r pl h ∧ TKX K r h
def ALV (K : TKS) (r k : Nat) (h : HP) : Prop := k ≤ t_N K ∧ t_k K k ≠ 23 ∧ hp_i h r 0 = 0 ∧ (hp_i h r 11 = nI k ∧ hp_i h r 1 = -1) ∧ hp_i h r 12 = nI (t_k K k)
def DED (r c p : Nat) (h : HP) : Prop := 0 < c ∧ c ≤ 5 ∧ hp_i h r 0 = nI c ∧ hp_i h r 1 = nI p ∧ hp_i h r 12 = 23
def ec (K : TKS) (k : Nat) : Nat := if t_k K k = 23 then 1 else 2
def S_ra (r : Nat) : Nat → Nat → Prop := fun a k => a = r ∧ (k = 0 ∨ k = 1 ∨ k = 11 ∨ k = 12)
theorem RSH_fr {S : Nat → Nat → Prop} {r pl : Nat} {h g : HP} (H : hp_fr S h g) (hs : RSH r pl h) : RSH r pl g := by
  unfold RSH PSH at *
  simp only [hp_fr_r H, hp_fr_n H]; exact hs
theorem CTX_fr {S : Nat → Nat → Prop} {K : TKS} {r pl : Nat} {h g : HP} (H : hp_fr S h g) (hS : ∀ a k, S a k → ¬ (a = r ∧ k = 10) ∧ ¬ (r + 2 ≤ a ∧ a ≤ r + 4)) (hs : CTX K r pl h) : CTX K r pl g := by
  obtain ⟨h1, h2, h3, h4, h5⟩ := hs
  refine ⟨h1, h2, RSH_fr H h3, by rw [hf_i H (fun z => (hS _ _ z).1 ⟨rfl, rfl⟩)]; exact h4, fun k hk => ?_⟩
  rw [hf_i H (fun z => (hS _ _ z).2 (by omega)), hf_i H (fun z => (hS _ _ z).2 (by omega)), hf_l H (fun z => (hS _ _ z).2 (by omega))]
  exact h5 k hk
theorem R_refD {r c p : Nat} {v : Int32} {h : HP} (hd : DED r c p h) : pw (f_Rd_refuse r v h) (fun g => hp_fr (S_ra r) h g ∧ DED r c p g) := by
  obtain ⟨d1, d2, d3, d4, d5⟩ := hd
  unfold f_Rd_refuse
  rw [d3, if_neg (nI_ne0 (by omega) (by omega)), xx_lE]
  refine pw_some ⟨hf_si (hp_fr_rf h) (by unfold S_ra; omega), d1, d2, ?_, ?_, ?_⟩
  · rw [hp_i_si, if_neg (by omega)]; exact d3
  · rw [hp_i_si, if_neg (by omega)]; exact d4
  · rw [hp_i_si, if_pos ⟨rfl, rfl⟩]
theorem R_ref {K : TKS} {r pl k c : Nat} {h : HP} (hx : CTX K r pl h) (ha : ALV K r k h) (h0 : 0 < c) (hc : c ≤ 5) : pw (f_Rd_refuse r (nI c) h) (fun g => hp_fr (S_ra r) h g ∧ DED r c (t_s K k) g) := by
  obtain ⟨a1, a2, a3, a4, a5⟩ := ha
  obtain ⟨x1, x2, x3, x4, x5⟩ := hx
  have hN := x2.1
  unfold f_Rd_refuse
  rw [a3, if_pos rfl]
  simp only [xx_lE]
  have e8 : hp_r (hp_si h r 0 (nI c)) r 8 = some (r + 3) := x3.2.2.2.1
  have e11 : hp_i (hp_si h r 0 (nI c)) r 11 = nI k := by rw [hp_i_si, if_neg (by omega)]; exact a4.1
  have e3 : hp_i (hp_si h r 0 (nI c)) (r + 3) k = nI (t_s K k) := by rw [hp_i_si, if_neg (by omega)]; exact (x5 k a1).2.1
  have en : hp_n (hp_si h r 0 (nI c)) (r + 3) = 1401 := x3.2.2.2.2.2.2.2.1
  rw [bn_o e8, e11, en, if_pos (hp_in_nI (by omega) (by omega)), nI_clamp (by omega), e3]
  refine pw_some ⟨hf_si (hf_si (hf_si (hp_fr_rf h) (by unfold S_ra; omega)) (by unfold S_ra; omega)) (by unfold S_ra; omega), h0, hc, ?_, ?_, ?_⟩
  · rw [hp_i_si, if_neg (by omega), hp_i_si, if_neg (by omega), hp_i_si, if_pos ⟨rfl, rfl⟩]
  · rw [hp_i_si, if_neg (by omega), hp_i_si, if_pos ⟨rfl, rfl⟩]
  · rw [hp_i_si, if_pos ⟨rfl, rfl⟩]
theorem R_advD {r c p : Nat} {h : HP} (hd : DED r c p h) : f_Rd_advance r h = some h := by
  obtain ⟨d1, d2, d3, d4, d5⟩ := hd
  unfold f_Rd_advance
  rw [d3, if_neg (nI_ne0 (by omega) (by omega))]
theorem alv_lt {K : TKS} {r k : Nat} {h : HP} (ok : TKO K) (ha : ALV K r k h) (h22 : t_k K k ≠ 22) : k < t_N K := by
  obtain ⟨a1, a2, _⟩ := ha
  refine Nat.lt_of_le_of_ne a1 (fun z => ?_)
  subst z
  rcases ok.2.2.1 with w | w
  · exact h22 w
  · exact a2 w
theorem R_adv {K : TKS} {r pl k : Nat} {h : HP} (hx : CTX K r pl h) (ha : ALV K r k h) (h22 : t_k K k ≠ 22) : pw (f_Rd_advance r h) (fun g => hp_fr (S_ra r) h g ∧ (ALV K r (k + 1) g ∨ (k + 1 ≤ t_N K ∧ t_k K (k + 1) = 23 ∧ DED r (ec K (k + 1)) (t_s K (k + 1)) g))) := by
  have hlt := alv_lt hx.2.1 ha h22
  obtain ⟨a1, a2, a3, a4, a5⟩ := ha
  obtain ⟨x1, x2, x3, x4, x5⟩ := id hx
  have hN := x2.1
  have htk := (x2.2.2.2.1 (k + 1) hlt).1
  unfold f_Rd_advance
  rw [a3, if_pos rfl, a4.1, x4, sub1 (by omega), if_pos (nI_lt (by omega) (by omega)), nI_1, xx_lE]
  obtain ⟨h1, hh1⟩ : ∃ h1, hp_si h r 11 (nI (k + 1)) = h1 := ⟨_, rfl⟩
  rw [hh1]
  have H1 : hp_fr (S_ra r) h h1 := by rw [← hh1]; exact hf_si (hp_fr_rf h) (by unfold S_ra; omega)
  have e7 : hp_r h1 r 7 = some (r + 2) := by rw [hp_fr_r H1]; exact x3.2.2.1
  have en : hp_n h1 (r + 2) = 1401 := by rw [hp_fr_n H1]; exact x3.2.2.2.2.2.2.1
  have e11 : hp_i h1 r 11 = nI (k + 1) := by rw [← hh1, hp_i_si, if_pos ⟨rfl, rfl⟩]
  have e2 : hp_i h1 (r + 2) (k + 1) = nI (t_k K (k + 1)) := by rw [hf_i H1 (by unfold S_ra; omega)]; exact (x5 (k + 1) hlt).1
  have e0 : hp_i h1 r 0 = 0 := by rw [← hh1, hp_i_si, if_neg (by omega)]; exact a3
  rw [bn_o e7, e11, en, if_pos (hp_in_nI (by omega) (by omega)), nI_clamp (by omega), e2, xx_lE]
  obtain ⟨h2, hh2⟩ : ∃ h2, hp_si h1 r 12 (nI (t_k K (k + 1))) = h2 := ⟨_, rfl⟩
  rw [hh2]
  have H2 : hp_fr (S_ra r) h h2 := by rw [← hh2]; exact hf_si H1 (by unfold S_ra; omega)
  have f12 : hp_i h2 r 12 = nI (t_k K (k + 1)) := by rw [← hh2, hp_i_si, if_pos ⟨rfl, rfl⟩]
  have f11 : hp_i h2 r 11 = nI (k + 1) := by rw [← hh2, hp_i_si, if_neg (by omega)]; exact e11
  have f0 : hp_i h2 r 0 = 0 := by rw [← hh2, hp_i_si, if_neg (by omega)]; exact e0
  rw [f12]
  by_cases z : t_k K (k + 1) = 23
  · rw [if_pos (show nI (t_k K (k + 1)) = (23 : Int32) by rw [z]; rfl)]
    unfold f_Rd_refuse
    simp only [xx_lE]
    rw [f0, if_pos rfl]
    have g8 : hp_r (hp_si h2 r 0 1) r 8 = some (r + 3) := by show hp_r h2 r 8 = _; rw [hp_fr_r H2]; exact x3.2.2.2.1
    have g11 : hp_i (hp_si h2 r 0 1) r 11 = nI (k + 1) := by rw [hp_i_si, if_neg (by omega)]; exact f11
    have g3 : hp_i (hp_si h2 r 0 1) (r + 3) (k + 1) = nI (t_s K (k + 1)) := by rw [hp_i_si, if_neg (by omega), hf_i H2 (by unfold S_ra; omega)]; exact (x5 (k + 1) hlt).2.1
    have gn : hp_n (hp_si h2 r 0 1) (r + 3) = 1401 := by show hp_n h2 (r + 3) = _; rw [hp_fr_n H2]; exact x3.2.2.2.2.2.2.2.1
    rw [bn_o g8, g11, gn, if_pos (hp_in_nI (by omega) (by omega)), nI_clamp (by omega), g3, bn_s]
    refine pw_some ⟨hf_si (hf_si (hf_si H2 (by unfold S_ra; omega)) (by unfold S_ra; omega)) (by unfold S_ra; omega), .inr ⟨hlt, z, ?_⟩⟩
    unfold ec
    rw [if_pos z]
    refine ⟨by decide, by decide, ?_, ?_, ?_⟩
    · rw [hp_i_si, if_neg (by omega), hp_i_si, if_neg (by omega), hp_i_si, if_pos ⟨rfl, rfl⟩]; rfl
    · rw [hp_i_si, if_neg (by omega), hp_i_si, if_pos ⟨rfl, rfl⟩]
    · rw [hp_i_si, if_pos ⟨rfl, rfl⟩]
  · rw [if_neg (show ¬ nI (t_k K (k + 1)) = (23 : Int32) from fun y => z ((nI_eq (b := 23) (by omega) (by decide)).mp y))]
    exact pw_some ⟨H2, .inl ⟨hlt, z, f0, ⟨f11, by rw [← hh2, hp_i_si, if_neg (by omega), ← hh1, hp_i_si, if_neg (by omega)]; exact a4.2⟩, f12⟩⟩
theorem S_raC {K : TKS} {r pl : Nat} {h g : HP} (H : hp_fr (S_ra r) h g) (hs : CTX K r pl h) : CTX K r pl g := CTX_fr H (fun a k z => by unfold S_ra at z; omega) hs
theorem R_expD {r c p : Nat} {t : Nat} {h : HP} (ht : t < 2 ^ 31) (h23 : t ≠ 23) (hd : DED r c p h) : pw (f_Rd_expect r (nI t) h) (fun g => hp_fr (S_ra r) h g ∧ DED r c p g) := by
  unfold f_Rd_expect
  rw [hd.2.2.2.2, if_neg (show ¬ (23 : Int32) = nI t from fun z => h23 ((nI_eq (a := 23) (by decide) ht).mp z).symm)]
  refine pw_bind (pw_mono (R_refD hd) ?_)
  rintro g hg
  exact pw_some hg
/-- either it is the word, and on, or refused -/
theorem R_exp {K : TKS} {r pl k t : Nat} {h : HP} (hx : CTX K r pl h) (ha : ALV K r k h) (ht : t < 2 ^ 31) (h22 : t ≠ 22) : pw (f_Rd_expect r (nI t) h) (fun g => hp_fr (S_ra r) h g ∧ ((t_k K k = t ∧ ALV K r (k + 1) g) ∨ (t_k K k = t ∧ k + 1 ≤ t_N K ∧ t_k K (k + 1) = 23 ∧ DED r (ec K (k + 1)) (t_s K (k + 1)) g) ∨ (t_k K k ≠ t ∧ DED r (ec K k) (t_s K k) g))) := by
  have htk := (hx.2.1.2.2.2.1 k ha.1).1
  unfold f_Rd_expect
  rw [ha.2.2.2.2]
  by_cases z : t_k K k = t
  · rw [if_pos (by rw [z])]
    refine pw_bind (pw_mono (R_adv hx ha (by rw [z]; exact h22)) ?_)
    rintro g ⟨H, w⟩
    refine pw_some ⟨H, ?_⟩
    rcases w with w | w
    · exact .inl ⟨z, w⟩
    · exact .inr (.inl ⟨z, w⟩)
  · rw [if_neg (fun y => z ((nI_eq (by omega) ht).mp y)), show (2 : Int32) = nI 2 from rfl]
    refine pw_bind (pw_mono (R_ref hx ha (by decide) (by decide)) ?_)
    rintro g ⟨H, w⟩
    refine pw_some ⟨H, .inr (.inr ⟨z, ?_⟩)⟩
    unfold ec
    rw [if_neg ha.2.1]; exact w
/-! codes -/
def CDE (pl : Nat) (o : List (Nat × Nat)) (u : Nat) (h : HP) : Prop := hp_i h pl 14 = nI o.length ∧ hp_i h pl 7 = nI u ∧ ∀ j, j < o.length → hp_i h (pl + 6) j = xo (o.getD j (0, 0)).1 (o.getD j (0, 0)).2
def DLN (pl : Nat) (h : HP) : Prop := ∃ d, d ≤ 540 ∧ hp_i h pl 14 = nI d
def XE (K : TKS) (r pl : Nat) (o : List (Nat × Nat)) (u k : Nat) (h : HP) : Prop := ALV K r k h ∧ CDE pl o u h
def S_xp (r pl : Nat) : Nat → Nat → Prop := fun a k => S_ra r a k ∨ a = pl ∧ (k = 7 ∨ k = 14) ∨ a = pl + 6
theorem gd_l {α : Type} {o e : List α} {d : α} {j : Nat} (h : j < o.length) : (o ++ e).getD j d = o.getD j d := by simp [List.getD_eq_getElem?_getD, List.getElem?_append_left h]
theorem gd_e {α : Type} {o : List α} {x d : α} : (o ++ [x]).getD o.length d = x := by simp [List.getD_eq_getElem?_getD]
theorem CDE_fr {S : Nat → Nat → Prop} {pl u : Nat} {o : List (Nat × Nat)} {h g : HP} (H : hp_fr S h g) (hS : ∀ a k, S a k → ¬ (a = pl ∧ (k = 7 ∨ k = 14)) ∧ a ≠ pl + 6) (hc : CDE pl o u h) : CDE pl o u g := by
  refine ⟨by rw [hf_i H (fun z => (hS _ _ z).1 (by omega))]; exact hc.1, by rw [hf_i H (fun z => (hS _ _ z).1 (by omega))]; exact hc.2.1, fun j hj => ?_⟩
  rw [hf_i H (fun z => (hS _ _ z).2 rfl)]; exact hc.2.2 j hj
theorem DLN_fr {S : Nat → Nat → Prop} {pl : Nat} {h g : HP} (H : hp_fr S h g) (hS : ¬ S pl 14) (hc : DLN pl h) : DLN pl g := by
  obtain ⟨d, h1, h2⟩ := hc
  exact ⟨d, h1, by rw [hf_i H hS]; exact h2⟩
def S_cd (pl : Nat) : Nat → Nat → Prop := fun a k => a = pl ∧ k = 14 ∨ a = pl + 6
theorem R_code {r pl u c v : Nat} {o : List (Nat × Nat)} {h : HP} (hs : RSH r pl h) (hc : CDE pl o u h) (hl : o.length < 540) : pw (f_Pl_addCode pl (xo c v) h) (fun g => hp_fr (S_cd pl) h g ∧ CDE pl (o ++ [(c, v)]) u g) := by
  obtain ⟨c1, c2, c3⟩ := hc
  have p13 : hp_r h pl 13 = some (pl + 6) := hs.2.2.2.2.2.2.2.2.2.2.2.2.2.2.1
  have n6 : hp_n h (pl + 6) = 540 := hs.2.2.2.2.2.2.2.2.2.2.2.2.2.2.2.2.2.2.2.2.2.2.1
  unfold f_Pl_addCode
  rw [c1, if_neg (show ¬ (540 : Int32) ≤ nI o.length from nI_ge (b := 540) hl (by decide)), bn_o p13, n6, if_pos (hp_in_nI hl (by omega)), nI_clamp (by omega)]
  simp only [xx_lE]
  have e14 : hp_i (hp_si h (pl + 6) o.length (xo c v)) pl 14 = nI o.length := by rw [hp_i_si, if_neg (by omega)]; exact c1
  rw [e14, nI_1]
  refine pw_some ⟨hf_si (hf_si (hp_fr_rf h) (by unfold S_cd; omega)) (by unfold S_cd; omega), ?_, ?_, fun j hj => ?_⟩
  · rw [hp_i_si, if_pos ⟨rfl, rfl⟩, List.length_append]; rfl
  · rw [hp_i_si, if_neg (by omega), hp_i_si, if_neg (by omega)]; exact c2
  · rw [hp_i_si, if_neg (by omega), hp_i_si]
    rw [List.length_append, List.length_singleton] at hj
    by_cases z : j = o.length
    · rw [if_pos ⟨rfl, z⟩, z, gd_e]
    · rw [if_neg (fun y => z y.2), gd_l (by omega)]; exact c3 j (by omega)
theorem R_codeD {r pl : Nat} {v : Int32} {h : HP} (hs : RSH r pl h) (hc : DLN pl h) : pw (f_Pl_addCode pl v h) (fun g => hp_fr (S_cd pl) h g ∧ DLN pl g) := by
  obtain ⟨d, h1, h2⟩ := hc
  have p13 : hp_r h pl 13 = some (pl + 6) := hs.2.2.2.2.2.2.2.2.2.2.2.2.2.2.1
  have n6 : hp_n h (pl + 6) = 540 := hs.2.2.2.2.2.2.2.2.2.2.2.2.2.2.2.2.2.2.2.2.2.2.1
  unfold f_Pl_addCode
  rw [h2]
  by_cases z : d = 540
  · rw [if_pos (show (540 : Int32) ≤ nI d from nI_le (a := 540) (by omega) (by omega))]
    exact pw_some ⟨hp_fr_rf h, d, h1, h2⟩
  · rw [if_neg (show ¬ (540 : Int32) ≤ nI d from nI_ge (b := 540) (by omega) (by decide)), bn_o p13, n6, if_pos (hp_in_nI (by omega) (by omega)), nI_clamp (by omega)]
    simp only [xx_lE]
    have e14 : hp_i (hp_si h (pl + 6) d v) pl 14 = nI d := by rw [hp_i_si, if_neg (by omega)]; exact h2
    rw [e14, nI_1]
    exact pw_some ⟨hf_si (hf_si (hp_fr_rf h) (by unfold S_cd; omega)) (by unfold S_cd; omega), d + 1, by omega, by rw [hp_i_si, if_pos ⟨rfl, rfl⟩]⟩
