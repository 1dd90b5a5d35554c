/-! a role's line, whole -/
def puR (n1 n2 : Nat) (P : PT) : PT := (P.1, P.2.1, P.2.2.1, P.2.2.2.1, p_nr P + 1, p_nm P + n1, p_nu P, p_un P, (fun i => if i = p_nr P then n2 else p_hf P i), (fun i => if p_nm P ≤ i then p_nr P else p_ro P i), p_rr P, p_rs P, p_bd P, p_fw P, p_fn P)
def up1 (f : Nat → Nat) (a v : Nat) : Nat → Nat := fun i => if i = a then v else f i
theorem smu {f : Nat → Nat} {a v : Nat} : ∀ n, n ≤ a → fb_sm (up1 f a v) n = fb_sm f n := by
  intro n
  induction n with
  | zero => intro _; rfl
  | succ n ih => intro h; show fb_sm (up1 f a v) n + up1 f a v n = fb_sm f n + f n; rw [ih (by omega)]; unfold up1; rw [if_neg (by omega)]
theorem smu1 {f : Nat → Nat} {a v : Nat} : fb_sm (up1 f a v) (a + 1) = fb_sm f a + v := by
  show fb_sm (up1 f a v) a + up1 f a v a = _
  rw [smu a (Nat.le_refl _)]; unfold up1; rw [if_pos rfl]
theorem VAL_R {K : TKS} {P : PT} {cn nk : Nat → Nat} {F n1 n2 k : Nat} (hv : VAL K P cn nk F) (hnr : p_nr P < 4) (h1 : 1 ≤ n1) (hn1 : p_nm P + n1 ≤ 6) (hn2 : n2 ≤ 31) (hk : k ≤ t_N K) (h20 : t_k K k = 20) (hid : ¬ rid K nk (p_nr P) k < p_nr P) : VAL K (puR n1 n2 P) (up1 cn (p_nr P) n1) (up1 nk (p_nr P) k) F := by
  obtain ⟨⟨o1, o2, o3, o4, o5, o6, o7, o8, o9, o10, o11, o12, o13, o14, o15⟩, v2, v3, v4, v5, v6, v7⟩ := hv
  have hle := fa_first_le (fun i => decide (t_w K (nk i) = t_w K k)) (p_nr P)
  have hno : ∀ j, j < p_nr P → t_w K (nk j) ≠ t_w K k := fun j hj => by
    refine of_decide_eq_false (fa_first_no (fun i => decide (t_w K (nk i) = t_w K k)) (p_nr P) j ?_)
    have : rid K nk (p_nr P) k = fa_first (fun i => decide (t_w K (nk i) = t_w K k)) (p_nr P) := rfl
    omega
  refine ⟨⟨o1, o2, o3, o4, (show p_nr P + 1 ≤ 4 by omega), hn1, o7, o8, fun i hi => ?_, fun i hi => ?_, fun i hi => ?_, o12, o13, o14, o15⟩, fun i hi => ?_, ?_, fun q i hq q1 q2 => ?_, v5, v6, v7⟩
  · show (if i = p_nr P then n2 else p_hf P i) ≤ 31
    have hi : i < p_nr P + 1 := hi
    by_cases z : i = p_nr P
    · rw [if_pos z]; exact hn2
    · rw [if_neg z]; exact o9 i (by omega)
  · show (if p_nm P ≤ i then p_nr P else p_ro P i) < p_nr P + 1
    by_cases z : p_nm P ≤ i
    · rw [if_pos z]; omega
    · rw [if_neg z]; have := o10 i (by omega); omega
  · have := o11 i hi
    exact ⟨show p_rr P i < p_nr P + 1 by omega, this.2⟩
  · have hi : i < p_nr P + 1 := hi
    unfold up1
    by_cases z : i = p_nr P
    · rw [if_pos z]
      refine ⟨hk, h20, fun j hj => ?_⟩
      rw [if_neg (by omega)]; exact hno j (by omega)
    · rw [if_neg z]
      obtain ⟨a1, a2, a3⟩ := v2 i (by omega)
      refine ⟨a1, a2, fun j hj => ?_⟩
      rw [if_neg (by omega)]; exact a3 j hj
  · show p_nm P + n1 = fb_sm (up1 cn (p_nr P) n1) (p_nr P + 1)
    rw [smu1, v3]
  · have hq : q < p_nr P + 1 := hq
    show (if p_nm P ≤ i then p_nr P else p_ro P i) = q
    by_cases z : q = p_nr P
    · rw [z, smu _ (Nat.le_refl _), ← v3] at q1
      rw [if_pos q1, z]
    · rw [smu q (by omega)] at q1
      rw [smu (q + 1) (by omega)] at q2
      have hm := fb_sm_mono cn (q + 1) (p_nr P - (q + 1))
      rw [show q + 1 + (p_nr P - (q + 1)) = p_nr P by omega] at hm
      rw [if_neg (by omega)]
      exact v4 q i (by omega) q1 q2
theorem PX_R {P : PT} {pl n1 n2 : Nat} {g g' : HP} (h : PX P pl g) (hn : p_nm P + n1 ≤ 6) (H : hp_fr (S_ar pl (p_nr P) (p_nm P) n1) g g') (e4 : hp_i g' pl 4 = nI (p_nr P + 1)) (e5 : hp_i g' pl 5 = nI (p_nm P + n1)) (e1 : hp_i g' (pl + 1) (p_nr P) = nI n2) (e2 : ∀ j, p_nm P ≤ j → j < p_nm P + n1 → hp_i g' (pl + 2) j = nI (p_nr P)) : PX (puR n1 n2 P) pl g' := by
  obtain ⟨a1, a2, a3, a4, a5, a6, a7, a8, a9, a10, a11, a12, a13, a14⟩ := h
  refine ⟨?_, ?_, ?_, ?_, e4, e5, ?_, ?_, fun i hi => ?_, fun i hi => ?_, fun i hi => ?_, fun i hi => ?_, fun i hi => ?_, fun i hi => ?_⟩
  · rw [hf_i H (by unfold S_ar; omega)]; exact a1
  · rw [hf_i H (by unfold S_ar; omega)]; exact a2
  · rw [hf_i H (by unfold S_ar; omega)]; exact a3
  · rw [hf_i H (by unfold S_ar; omega)]; exact a4
  · rw [hf_i H (by unfold S_ar; omega)]; exact a7
  · rw [hf_i H (by unfold S_ar; omega)]; exact a8
  · have hi : i < p_nr P + 1 := hi
    show hp_i g' (pl + 1) i = nI (if i = p_nr P then n2 else p_hf P i)
    by_cases z : i = p_nr P
    · rw [if_pos z, z]; exact e1
    · rw [if_neg z, hf_i H (by unfold S_ar; omega)]; exact a9 i (by omega)
  · have hi : i < p_nm P + n1 := hi
    show hp_i g' (pl + 2) i = nI (if p_nm P ≤ i then p_nr P else p_ro P i)
    by_cases z : p_nm P ≤ i
    · rw [if_pos z]; exact e2 i z hi
    · rw [if_neg z, hf_i H (by unfold S_ar; omega)]; exact a10 i (by omega)
  · rw [hf_i H (by unfold S_ar; omega)]; exact a11 i hi
  · rw [hf_i H (by unfold S_ar; omega)]; exact a12 i hi
  · rw [hf_i H (by unfold S_ar; omega)]; exact a13 i hi
  · rw [hf_i H (by unfold S_ar; omega)]; exact a14 i hi
/-- what the reference writes at the end of a role's line -/
noncomputable def rlW (m : Nat) (nm : Int64) (n1 n2 : Int32) (x : HP) : Option HP :=
  (hp_r x m 10).bind fun q_8 =>
  if hp_in (hp_i x m 24) (hp_n x q_8) = true then
  xx_l (hp_sl x q_8 ((hp_i x m 24)).toNatClampNeg nm) fun h_10 =>
  (hp_r h_10 m 11).bind fun q_11 =>
  if hp_in (hp_i h_10 m 24) (hp_n h_10 q_11) = true then
  xx_l (hp_si h_10 q_11 ((hp_i h_10 m 24)).toNatClampNeg n1) fun h_13 =>
  (hp_r h_13 m 12).bind fun q_14 =>
  if hp_in (hp_i h_13 m 24) (hp_n h_13 q_14) = true then
  xx_l (hp_si h_13 q_14 ((hp_i h_13 m 24)).toNatClampNeg n2) fun h_16 =>
  xx_l (hp_si h_16 m 24 ((hp_i h_16 m 24) + (1 : Int32))) fun h_17 =>
  xx_l (hp_si h_17 m 25 ((hp_i h_17 m 25) + n1)) fun h_18 =>
  some h_18
  else none
  else none
  else none
def S_rlw (m a : Nat) : Nat → Nat → Prop := fun x k => x = m ∧ (k = 24 ∨ k = 25) ∨ (x = m + 2 ∨ x = m + 3 ∨ x = m + 4) ∧ k = a
theorem M_rlW {m a b : Nat} {nm : Int64} {n1 n2 : Int32} {x : HP} (hs : MS m x) (e24 : hp_i x m 24 = nI a) (ha : a < 4) (e25 : hp_i x m 25 = nI b) : pw (rlW m nm n1 n2 x) (fun g => hp_fr (S_rlw m a) x g ∧ hp_i g m 24 = nI (a + 1) ∧ hp_i g m 25 = nI b + n1 ∧ hp_l g (m + 2) a = nm ∧ hp_i g (m + 3) a = n1 ∧ hp_i g (m + 4) a = n2) := by
  unfold rlW
  rw [mb_10 hs, e24, mn_2 hs, if_pos (hp_in_nI ha (by omega)), nI_clamp (by omega), xx_lE]
  obtain ⟨h1, hh1⟩ : ∃ h1, hp_sl x (m + 2) a nm = h1 := ⟨_, rfl⟩
  rw [hh1]
  have H1 : hp_fr (S_rlw m a) x h1 := by rw [← hh1]; exact hf_sl (hp_fr_rf x) (by unfold S_rlw; omega)
  have s1 := MS_fr H1 hs
  have a24 : hp_i h1 m 24 = nI a := by rw [← hh1]; exact e24
  have a25 : hp_i h1 m 25 = nI b := by rw [← hh1]; exact e25
  have aL : hp_l h1 (m + 2) a = nm := by rw [← hh1, hp_l_sl, if_pos ⟨rfl, rfl⟩]
  rw [mb_11 s1, a24, mn_3 s1, if_pos (hp_in_nI ha (by omega)), nI_clamp (by omega), xx_lE]
  obtain ⟨h2, hh2⟩ : ∃ h2, hp_si h1 (m + 3) a n1 = h2 := ⟨_, rfl⟩
  rw [hh2]
  have H2 : hp_fr (S_rlw m a) x h2 := by rw [← hh2]; exact hf_si H1 (by unfold S_rlw; omega)
  have s2 := MS_fr H2 hs
  have b24 : hp_i h2 m 24 = nI a := by rw [← hh2, hp_i_si, if_neg (by omega)]; exact a24
  have b25 : hp_i h2 m 25 = nI b := by rw [← hh2, hp_i_si, if_neg (by omega)]; exact a25
  have bL : hp_l h2 (m + 2) a = nm := by rw [← hh2]; exact aL
  have b3 : hp_i h2 (m + 3) a = n1 := by rw [← hh2, hp_i_si, if_pos ⟨rfl, rfl⟩]
  rw [mb_12 s2, b24, mn_4 s2, if_pos (hp_in_nI ha (by omega)), nI_clamp (by omega)]
  simp only [xx_lE]
  have c24 : hp_i (hp_si h2 (m + 4) a n2) m 24 = nI a := by rw [hp_i_si, if_neg (by omega)]; exact b24
  rw [c24, nI_1]
  have c25 : hp_i (hp_si (hp_si h2 (m + 4) a n2) m 24 (nI (a + 1))) m 25 = nI b := by rw [hp_i_si, if_neg (by omega), hp_i_si, if_neg (by omega)]; exact b25
  rw [c25]
  refine pw_some ⟨hf_si (hf_si (hf_si H2 (by unfold S_rlw; omega)) (by unfold S_rlw; omega)) (by unfold S_rlw; omega), ?_, ?_, bL, ?_, ?_⟩
  · rw [hp_i_si, if_neg (by omega), hp_i_si, if_pos ⟨rfl, rfl⟩]
  · rw [hp_i_si, if_pos ⟨rfl, rfl⟩]
  · rw [hp_i_si, if_neg (by omega), hp_i_si, if_neg (by omega), hp_i_si, if_neg (by omega)]; exact b3
  · rw [hp_i_si, if_neg (by omega), hp_i_si, if_neg (by omega), hp_i_si, if_pos ⟨rfl, rfl⟩]
theorem MSC_R {K : TKS} {P : PT} {m F n1 n2 k : Nat} {cn nk : Nat → Nat} {g g' : HP} (h : MSC K m P cn nk F g) (H : hp_fr (S_rlw m (p_nr P)) g g') (e24 : hp_i g' m 24 = nI (p_nr P + 1)) (e25 : hp_i g' m 25 = nI (p_nm P) + nI n1) (eL : hp_l g' (m + 2) (p_nr P) = lN (t_w K k)) (e3 : hp_i g' (m + 3) (p_nr P) = nI n1) (e4 : hp_i g' (m + 4) (p_nr P) = nI n2) : MSC K m (puR n1 n2 P) (up1 cn (p_nr P) n1) (up1 nk (p_nr P) k) F g' := by
  obtain ⟨a1, a2, a3, a4, a5, a6, a7, a8, a9, a10, a11, a12, a13, a14, a15, a16, a17⟩ := h
  refine ⟨?_, ?_, ?_, ?_, e24, ?_, ?_, ?_, ?_, fun i hi => ?_, fun i hi => ?_, fun i hi => ?_, fun i hi => ?_, fun i hi => ?_, fun i hi hj => ?_, fun i hi => ?_, fun i hi => ?_⟩
  · rw [hf_i H (by unfold S_rlw; omega)]; exact a1
  · rw [hf_i H (by unfold S_rlw; omega)]; exact a2
  · rw [hf_i H (by unfold S_rlw; omega)]; exact a3
  · rw [hf_i H (by unfold S_rlw; omega)]; exact a4
  · rw [e25, nI_add]; rfl
  · rw [hf_i H (by unfold S_rlw; omega)]; exact a7
  · rw [hf_i H (by unfold S_rlw; omega)]; exact a8
  · rw [hf_i H (by unfold S_rlw; omega)]; exact a9
  · have hi : i < p_nr P + 1 := hi
    unfold up1
    by_cases z : i = p_nr P
    · rw [if_pos z, z]; exact eL
    · rw [if_neg z, hf_l H (by unfold S_rlw; omega)]; exact a10 i (by omega)
  · have hi : i < p_nr P + 1 := hi
    unfold up1
    by_cases z : i = p_nr P
    · rw [if_pos z, z]; exact e3
    · rw [if_neg z, hf_i H (by unfold S_rlw; omega)]; exact a11 i (by omega)
  · have hi : i < p_nr P + 1 := hi
    show hp_i g' (m + 4) i = nI (if i = p_nr P then n2 else p_hf P i)
    by_cases z : i = p_nr P
    · rw [if_pos z, z]; exact e4
    · rw [if_neg z, hf_i H (by unfold S_rlw; omega)]; exact a12 i (by omega)
  · rw [hf_i H (by unfold S_rlw; omega)]; exact a13 i hi
  · rw [hf_i H (by unfold S_rlw; omega)]; exact a14 i hi
  · rw [hf_i H (by unfold S_rlw; omega)]; exact a15 i hi hj
  · rw [hf_i H (by unfold S_rlw; omega), hf_i H (by unfold S_rlw; omega)]; exact a16 i hi
  · rw [hf_i H (by unfold S_rlw; omega)]; exact a17 i hi
