/-! settings: one field of the plan anew -/
def pu0 (n : Nat) (P : PT) : PT := (n, P.2)
def pu1 (n : Nat) (P : PT) : PT := (P.1, n, P.2.2)
def pu2 (n : Nat) (P : PT) : PT := (P.1, P.2.1, n, P.2.2.2)
def pu3 (n : Nat) (P : PT) : PT := (P.1, P.2.1, P.2.2.1, n, P.2.2.2.2)
theorem PX_u0 {P : PT} {pl n : Nat} {g g' : HP} (h : PX P pl g) (H : hp_fr (fun a k => a = pl ∧ k = 0) g g') (e : hp_i g' pl 0 = nI n) : PX (pu0 n P) pl g' := by
  obtain ⟨a1, a2, a3, a4, a5, a6, a7, a8, a9, a10, a11, a12, a13, a14⟩ := h
  exact ⟨e, by rw [hf_i H (by omega)]; exact a2, by rw [hf_i H (by omega)]; exact a3, by rw [hf_i H (by omega)]; exact a4, by rw [hf_i H (by omega)]; exact a5, by rw [hf_i H (by omega)]; exact a6, by rw [hf_i H (by omega)]; exact a7, by rw [hf_i H (by omega)]; exact a8, fun i hi => by rw [hf_i H (by omega)]; exact a9 i hi, fun i hi => by rw [hf_i H (by omega)]; exact a10 i hi, fun i hi => by rw [hf_i H (by omega)]; exact a11 i hi, fun i hi => by rw [hf_i H (by omega)]; exact a12 i hi, fun i hi => by rw [hf_i H (by omega)]; exact a13 i hi, fun i hi => by rw [hf_i H (by omega)]; exact a14 i hi⟩
theorem MSC_u0 {K : TKS} {P : PT} {m n F : Nat} {cn nk : Nat → Nat} {g g' : HP} (h : MSC K m P cn nk F g) (H : hp_fr (fun a k => a = m ∧ k = 20) g g') (e : hp_i g' m 20 = nI n) : MSC K m (pu0 n P) cn nk F g' := by
  obtain ⟨a1, a2, a3, a4, a5, a6, a7, a8, a9, a10, a11, a12, a13, a14, a15, a16, a17⟩ := h
  exact ⟨e, by rw [hf_i H (by omega)]; exact a2, by rw [hf_i H (by omega)]; exact a3, by rw [hf_i H (by omega)]; exact a4, by rw [hf_i H (by omega)]; exact a5, by rw [hf_i H (by omega)]; exact a6, by rw [hf_i H (by omega)]; exact a7, by rw [hf_i H (by omega)]; exact a8, by rw [hf_i H (by omega)]; exact a9, fun i hi => by rw [hf_l H (by omega)]; exact a10 i hi, fun i hi => by rw [hf_i H (by omega)]; exact a11 i hi, fun i hi => by rw [hf_i H (by omega)]; exact a12 i hi, fun i hi => by rw [hf_i H (by omega)]; exact a13 i hi, fun i hi => by rw [hf_i H (by omega)]; exact a14 i hi, fun i hi hj => by rw [hf_i H (by omega)]; exact a15 i hi hj, fun i hi => by rw [hf_i H (by omega), hf_i H (by omega)]; exact a16 i hi, fun i hi => by rw [hf_i H (by omega)]; exact a17 i hi⟩
theorem VAL_u0 {K : TKS} {P : PT} {n F F' : Nat} {cn nk : Nat → Nat} (hv : VAL K P cn nk F) (hn : n = 1 ∨ n = 2) (hF : F' < 16) : VAL K (pu0 n P) cn nk F' := by
  obtain ⟨⟨o1, o2, o3, o4, o5⟩, v2, v3, v4, v5, v6, v7⟩ := hv
  exact ⟨⟨hn, o2, o3, o4, o5⟩, v2, v3, v4, v5, v6, hF⟩
theorem PX_u1 {P : PT} {pl n : Nat} {g g' : HP} (h : PX P pl g) (H : hp_fr (fun a k => a = pl ∧ k = 1) g g') (e : hp_i g' pl 1 = nI n) : PX (pu1 n P) pl g' := by
  obtain ⟨a1, a2, a3, a4, a5, a6, a7, a8, a9, a10, a11, a12, a13, a14⟩ := h
  exact ⟨by rw [hf_i H (by omega)]; exact a1, e, by rw [hf_i H (by omega)]; exact a3, by rw [hf_i H (by omega)]; exact a4, by rw [hf_i H (by omega)]; exact a5, by rw [hf_i H (by omega)]; exact a6, by rw [hf_i H (by omega)]; exact a7, by rw [hf_i H (by omega)]; exact a8, fun i hi => by rw [hf_i H (by omega)]; exact a9 i hi, fun i hi => by rw [hf_i H (by omega)]; exact a10 i hi, fun i hi => by rw [hf_i H (by omega)]; exact a11 i hi, fun i hi => by rw [hf_i H (by omega)]; exact a12 i hi, fun i hi => by rw [hf_i H (by omega)]; exact a13 i hi, fun i hi => by rw [hf_i H (by omega)]; exact a14 i hi⟩
theorem MSC_u1 {K : TKS} {P : PT} {m n F : Nat} {cn nk : Nat → Nat} {g g' : HP} (h : MSC K m P cn nk F g) (H : hp_fr (fun a k => a = m ∧ k = 21) g g') (e : hp_i g' m 21 = nI n) : MSC K m (pu1 n P) cn nk F g' := by
  obtain ⟨a1, a2, a3, a4, a5, a6, a7, a8, a9, a10, a11, a12, a13, a14, a15, a16, a17⟩ := h
  exact ⟨by rw [hf_i H (by omega)]; exact a1, e, by rw [hf_i H (by omega)]; exact a3, by rw [hf_i H (by omega)]; exact a4, by rw [hf_i H (by omega)]; exact a5, by rw [hf_i H (by omega)]; exact a6, by rw [hf_i H (by omega)]; exact a7, by rw [hf_i H (by omega)]; exact a8, by rw [hf_i H (by omega)]; exact a9, fun i hi => by rw [hf_l H (by omega)]; exact a10 i hi, fun i hi => by rw [hf_i H (by omega)]; exact a11 i hi, fun i hi => by rw [hf_i H (by omega)]; exact a12 i hi, fun i hi => by rw [hf_i H (by omega)]; exact a13 i hi, fun i hi => by rw [hf_i H (by omega)]; exact a14 i hi, fun i hi hj => by rw [hf_i H (by omega)]; exact a15 i hi hj, fun i hi => by rw [hf_i H (by omega), hf_i H (by omega)]; exact a16 i hi, fun i hi => by rw [hf_i H (by omega)]; exact a17 i hi⟩
theorem VAL_u1 {K : TKS} {P : PT} {n F F' : Nat} {cn nk : Nat → Nat} (hv : VAL K P cn nk F) (hn : 1 ≤ n ∧ n ≤ 12) (hF : F' < 16) : VAL K (pu1 n P) cn nk F' := by
  obtain ⟨⟨o1, o2, o3, o4, o5⟩, v2, v3, v4, v5, v6, v7⟩ := hv
  exact ⟨⟨o1, hn, o3, o4, o5⟩, v2, v3, v4, v5, v6, hF⟩
theorem PX_u2 {P : PT} {pl n : Nat} {g g' : HP} (h : PX P pl g) (H : hp_fr (fun a k => a = pl ∧ k = 2) g g') (e : hp_i g' pl 2 = nI n) (hn : n ≤ 11) : PX (pu2 n P) pl g' := by
  obtain ⟨a1, a2, a3, a4, a5, a6, a7, a8, a9, a10, a11, a12, a13, a14⟩ := h
  exact ⟨by rw [hf_i H (by omega)]; exact a1, by rw [hf_i H (by omega)]; exact a2, by rw [e]; exact (if_neg (show ¬ n = 99 by omega)).symm, by rw [hf_i H (by omega)]; exact a4, by rw [hf_i H (by omega)]; exact a5, by rw [hf_i H (by omega)]; exact a6, by rw [hf_i H (by omega)]; exact a7, by rw [hf_i H (by omega)]; exact a8, fun i hi => by rw [hf_i H (by omega)]; exact a9 i hi, fun i hi => by rw [hf_i H (by omega)]; exact a10 i hi, fun i hi => by rw [hf_i H (by omega)]; exact a11 i hi, fun i hi => by rw [hf_i H (by omega)]; exact a12 i hi, fun i hi => by rw [hf_i H (by omega)]; exact a13 i hi, fun i hi => by rw [hf_i H (by omega)]; exact a14 i hi⟩
theorem MSC_u2 {K : TKS} {P : PT} {m n F : Nat} {cn nk : Nat → Nat} {g g' : HP} (h : MSC K m P cn nk F g) (H : hp_fr (fun a k => a = m ∧ k = 22) g g') (e : hp_i g' m 22 = nI n) : MSC K m (pu2 n P) cn nk F g' := by
  obtain ⟨a1, a2, a3, a4, a5, a6, a7, a8, a9, a10, a11, a12, a13, a14, a15, a16, a17⟩ := h
  exact ⟨by rw [hf_i H (by omega)]; exact a1, by rw [hf_i H (by omega)]; exact a2, e, by rw [hf_i H (by omega)]; exact a4, by rw [hf_i H (by omega)]; exact a5, by rw [hf_i H (by omega)]; exact a6, by rw [hf_i H (by omega)]; exact a7, by rw [hf_i H (by omega)]; exact a8, by rw [hf_i H (by omega)]; exact a9, fun i hi => by rw [hf_l H (by omega)]; exact a10 i hi, fun i hi => by rw [hf_i H (by omega)]; exact a11 i hi, fun i hi => by rw [hf_i H (by omega)]; exact a12 i hi, fun i hi => by rw [hf_i H (by omega)]; exact a13 i hi, fun i hi => by rw [hf_i H (by omega)]; exact a14 i hi, fun i hi hj => by rw [hf_i H (by omega)]; exact a15 i hi hj, fun i hi => by rw [hf_i H (by omega), hf_i H (by omega)]; exact a16 i hi, fun i hi => by rw [hf_i H (by omega)]; exact a17 i hi⟩
theorem VAL_u2 {K : TKS} {P : PT} {n F F' : Nat} {cn nk : Nat → Nat} (hv : VAL K P cn nk F) (hn : n ≤ 11) (hF : F' < 16) : VAL K (pu2 n P) cn nk F' := by
  obtain ⟨⟨o1, o2, o3, o4, o5⟩, v2, v3, v4, v5, v6, v7⟩ := hv
  exact ⟨⟨o1, o2, .inl hn, o4, o5⟩, v2, v3, v4, v5, v6, hF⟩
theorem PX_u3 {P : PT} {pl n : Nat} {g g' : HP} (h : PX P pl g) (H : hp_fr (fun a k => a = pl ∧ k = 3) g g') (e : hp_i g' pl 3 = nI n) : PX (pu3 n P) pl g' := by
  obtain ⟨a1, a2, a3, a4, a5, a6, a7, a8, a9, a10, a11, a12, a13, a14⟩ := h
  exact ⟨by rw [hf_i H (by omega)]; exact a1, by rw [hf_i H (by omega)]; exact a2, by rw [hf_i H (by omega)]; exact a3, e, by rw [hf_i H (by omega)]; exact a5, by rw [hf_i H (by omega)]; exact a6, by rw [hf_i H (by omega)]; exact a7, by rw [hf_i H (by omega)]; exact a8, fun i hi => by rw [hf_i H (by omega)]; exact a9 i hi, fun i hi => by rw [hf_i H (by omega)]; exact a10 i hi, fun i hi => by rw [hf_i H (by omega)]; exact a11 i hi, fun i hi => by rw [hf_i H (by omega)]; exact a12 i hi, fun i hi => by rw [hf_i H (by omega)]; exact a13 i hi, fun i hi => by rw [hf_i H (by omega)]; exact a14 i hi⟩
theorem MSC_u3 {K : TKS} {P : PT} {m n F : Nat} {cn nk : Nat → Nat} {g g' : HP} (h : MSC K m P cn nk F g) (H : hp_fr (fun a k => a = m ∧ k = 23) g g') (e : hp_i g' m 23 = nI n) : MSC K m (pu3 n P) cn nk F g' := by
  obtain ⟨a1, a2, a3, a4, a5, a6, a7, a8, a9, a10, a11, a12, a13, a14, a15, a16, a17⟩ := h
  exact ⟨by rw [hf_i H (by omega)]; exact a1, by rw [hf_i H (by omega)]; exact a2, by rw [hf_i H (by omega)]; exact a3, e, by rw [hf_i H (by omega)]; exact a5, by rw [hf_i H (by omega)]; exact a6, by rw [hf_i H (by omega)]; exact a7, by rw [hf_i H (by omega)]; exact a8, by rw [hf_i H (by omega)]; exact a9, fun i hi => by rw [hf_l H (by omega)]; exact a10 i hi, fun i hi => by rw [hf_i H (by omega)]; exact a11 i hi, fun i hi => by rw [hf_i H (by omega)]; exact a12 i hi, fun i hi => by rw [hf_i H (by omega)]; exact a13 i hi, fun i hi => by rw [hf_i H (by omega)]; exact a14 i hi, fun i hi hj => by rw [hf_i H (by omega)]; exact a15 i hi hj, fun i hi => by rw [hf_i H (by omega), hf_i H (by omega)]; exact a16 i hi, fun i hi => by rw [hf_i H (by omega)]; exact a17 i hi⟩
theorem VAL_u3 {K : TKS} {P : PT} {n F F' : Nat} {cn nk : Nat → Nat} (hv : VAL K P cn nk F) (hn : n ≤ 2) (hF : F' < 16) : VAL K (pu3 n P) cn nk F' := by
  obtain ⟨⟨o1, o2, o3, o4, o5⟩, v2, v3, v4, v5, v6, v7⟩ := hv
  exact ⟨⟨o1, o2, o3, hn, o5⟩, v2, v3, v4, v5, v6, hF⟩
theorem MSC_F {K : TKS} {P : PT} {m F t : Nat} {cn nk : Nat → Nat} {g : HP} (h : MSC K m P cn nk F g) (hF : F < 16) (ht : t < 4) (hb : F / 2 ^ t % 2 = 0) : MSC K m P cn nk (F + 2 ^ t) (hp_si g (m + 11) t (nI 1)) := by
  have H : hp_fr (fun a k => a = m + 11 ∧ k = t) g (hp_si g (m + 11) t (nI 1)) := hf_si (hp_fr_rf g) ⟨rfl, rfl⟩
  have bb := ((bits ⟨F, hF⟩ ⟨t, ht⟩).2 hb).2.2
  obtain ⟨a1, a2, a3, a4, a5, a6, a7, a8, a9, a10, a11, a12, a13, a14, a15, a16, a17⟩ := h
  refine ⟨by rw [hf_i H (by omega)]; exact a1, by rw [hf_i H (by omega)]; exact a2, by rw [hf_i H (by omega)]; exact a3, by rw [hf_i H (by omega)]; exact a4, by rw [hf_i H (by omega)]; exact a5, by rw [hf_i H (by omega)]; exact a6, by rw [hf_i H (by omega)]; exact a7, by rw [hf_i H (by omega)]; exact a8, by rw [hf_i H (by omega)]; exact a9, fun i hi => by rw [hf_l H (by omega)]; exact a10 i hi, fun i hi => by rw [hf_i H (by omega)]; exact a11 i hi, fun i hi => by rw [hf_i H (by omega)]; exact a12 i hi, fun i hi => by rw [hf_i H (by omega)]; exact a13 i hi, fun i hi => by rw [hf_i H (by omega)]; exact a14 i hi, fun i hi hj => by rw [hf_i H (by omega)]; exact a15 i hi hj, fun i hi => by rw [hf_i H (by omega), hf_i H (by omega)]; exact a16 i hi, fun i hi => ?_⟩
  · have := bb ⟨i, hi⟩
    dsimp only at this
    rw [this, hp_i_si]
    by_cases z : i = t
    · rw [if_pos ⟨rfl, z⟩, if_pos z]
    · rw [if_neg (fun y => z y.2), if_neg z]; exact a17 i hi
/-- a setting with a number -/
theorem L_num {K : TKS} {ps : Nat → Nat} {r pl m L F k t lo hi : Nat} {T : Nat → Nat} {P : PT} {cn nk : Nat → Nat} {g : HP} {up : Nat → PT} (hT : TOKS K ps m L T) (hx : CTX K r pl g) (hv : VAL K P cn nk F) (hs : CS K r pl P nk F k g) (ht : t < 3) (htk : t_k K k = t) (hb : F / 2 ^ t % 2 = 0) (hlo : lo < 100) (hhi : hi < 100)
    (uP : ∀ n g g', lo ≤ n → n ≤ hi → PX P pl g → hp_fr (fun a k => a = pl ∧ k = t) g g' → hp_i g' pl t = nI n → PX (up n) pl g') (uM : ∀ n F g g', MSC K m P cn nk F g → hp_fr (fun a k => a = m ∧ k = 20 + t) g g' → hp_i g' m (20 + t) = nI n → MSC K m (up n) cn nk F g') (uV : ∀ n F', lo ≤ n → n ≤ hi → F' < 16 → VAL K (up n) cn nk F') (uB : ∀ n, p_bd (up n) (3 * p_nu (up n)) = p_bd P (3 * p_nu P) ∧ p_nr (up n) = p_nr P) :
    pw ((f_Rd_advance r (hp_si g r 6 (nI (F + 2 ^ t)))).bind fun x3 => (hp_r x3 r 4).bind fun q => (f_Rd_numberWithin r (nI lo) (nI hi) x3).bind fun x5 => some (hp_si x5.2 q t x5.1)) (BOUT K ps r pl m L T P cn nk F k k (fun h => (f_M_token m (hp_si h (m + 11) t (nI 1))).bind fun x => (f_M_toldNumber m (nI lo) (nI hi) x).bind fun y => some (hp_si y.2 m (20 + t) y.1)) g) := by
  have hrp := hx.1
  have ok := hx.2.1
  obtain ⟨f1, f2, f3⟩ := (bits ⟨F, hv.2.2.2.2.2.2⟩ ⟨t, by omega⟩).2 hb
  dsimp only at f1 f2 f3
  obtain ⟨g1, hg1⟩ : ∃ g1, hp_si g r 6 (nI (F + 2 ^ t)) = g1 := ⟨_, rfl⟩
  rw [hg1]
  have H1 : hp_fr (fun a k => a = r ∧ k = 6) g g1 := by rw [← hg1]; exact hf_si (hp_fr_rf g) ⟨rfl, rfl⟩
  have H1c : hp_fr (S_cl r pl) g g1 := hp_fr_mo H1 (fun a k z => by unfold S_cl; omega)
  have hx1 := S_clC H1c hx
  have s1 : CS K r pl P nk (F + 2 ^ t) k g1 := by
    obtain ⟨⟨d1, d2, d3, d4, d5⟩, c2, c3, c4, c5⟩ := hs
    exact ⟨⟨d1, d2, by rw [hf_i H1 (by omega)]; exact d3, by rw [hf_i H1 (by omega), hf_i H1 (by omega)]; exact d4, by rw [hf_i H1 (by omega)]; exact d5⟩, PX_ag (fun a k hk => hf_i H1 (by unfold F_PX at hk; omega)) c2, by rw [hf_i H1 (by omega)]; exact c3, fun i hi => by rw [hf_l H1 (by omega)]; exact c4 i hi, by rw [← hg1, hp_i_si, if_pos ⟨rfl, rfl⟩]⟩
  have pb1 := CS_PLB (F := F + 2 ^ t) ⟨hv.1, hv.2.1, hv.2.2.1, hv.2.2.2.1, hv.2.2.2.2.1, hv.2.2.2.2.2.1, f2⟩ s1
  -- the reference up to the number
  have ref : ∀ h, RSS K ps m L T P cn nk F k h → pw ((f_M_token m (hp_si h (m + 11) t (nI 1))).bind fun x => (f_M_toldNumber m (nI lo) (nI hi) x).bind fun y => some (hp_si y.2 m (20 + t) y.1)) (fun h' => hp_fr (S_rf m) h h' ∧ ((t_k K (k + 1) = 21 ∧ lo ≤ t_n K (k + 1) ∧ t_n K (k + 1) ≤ hi ∧ RSS K ps m L T (up (t_n K (k + 1))) cn nk (F + 2 ^ t) (k + 2) h') ∨ (¬ (t_k K (k + 1) = 21 ∧ lo ≤ t_n K (k + 1) ∧ t_n K (k + 1) ≤ hi) ∧ RBX K ps m L T (nc K (k + 1)) (t_s K (k + 1)) h'))) := by
    intro h hr
    obtain ⟨h1, hh1⟩ : ∃ h1, hp_si h (m + 11) t (nI 1) = h1 := ⟨_, rfl⟩
    have K1 : hp_fr (fun a k => a = m + 11 ∧ k = t) h h1 := by rw [← hh1]; exact hf_si (hp_fr_rf h) ⟨rfl, rfl⟩
    have K1r : hp_fr (S_rf m) h h1 := hp_fr_mo K1 (fun a k z => by unfold S_rf; omega)
    have M1 : MSC K m P cn nk (F + 2 ^ t) h1 := by rw [← hh1]; exact MSC_F hr.2 hv.2.2.2.2.2.2 (by omega) hb
    have R1 : RT K ps m L T k h1 := ⟨MTC_fr K1 (fun a k z => by omega) hr.1.1, by rw [hf_i K1 (by omega)]; exact hr.1.2.1, MTK_fr K1 (fun a k z => by omega) hr.1.2.2⟩
    rw [hh1]
    refine pw_bind (pw_mono (M_tok ok hT R1 (by omega) (by omega)) ?_)
    rintro h2 ⟨K2, R2⟩
    refine pw_bind (pw_mono (M_num ok hT R2 hlo hhi) ?_)
    rintro y ⟨K3, z⟩
    have K4 : hp_fr (fun a k => a = m ∧ k = 20 + t) y.2 (hp_si y.2 m (20 + t) y.1) := hf_si (hp_fr_rf _) ⟨rfl, rfl⟩
    have K4r : hp_fr (S_rf m) y.2 (hp_si y.2 m (20 + t) y.1) := hp_fr_mo K4 (fun a k z => by unfold S_rf; omega)
    have KK := hp_fr_tr (hp_fr_tr (hp_fr_tr K1r (ln_rf K2)) (ln_rf K3)) K4r
    refine pw_some ⟨KK, ?_⟩
    rcases z with ⟨z1, z2, z3, z4, z5⟩ | ⟨z1, z2⟩
    · refine .inl ⟨z1, z2, z3, ⟨MTC_fr K4 (fun a k z => by omega) z5.1, by rw [hf_i K4 (by omega)]; exact z5.2.1, MTK_fr K4 (fun a k z => by omega) z5.2.2⟩, uM _ _ _ _ (MSC_ln K3 (MSC_ln K2 M1)) K4 ?_⟩
      rw [hp_i_si, if_pos ⟨rfl, rfl⟩, z4]
    · refine .inr ⟨z1, MTC_fr K4 (fun a k z => by omega) z2.1, ?_⟩
      rcases z2.2 with ⟨e1, e2, e3, e4⟩ | ⟨e1, e2, kb, e3, e4, e5⟩
      · exact .inl ⟨e1, e2, by rw [hf_i K4 (by omega)]; exact e3, by rw [hf_i K4 (by omega)]; exact e4⟩
      · exact .inr ⟨e1, by rw [hf_i K4 (by omega)]; exact e2, kb, MTK_fr K4 (fun a k z => by omega) e3, e4, e5⟩
  refine pw_bind (pw_mono (R_adv hx1 s1.1 (by omega)) ?_)
  rintro g2 ⟨H2, v⟩
  have hx2 := S_raC H2 hx1
  rw [bn_o hx2.2.2.1.1]
  have F2 := hp_fr_tr H1c (ra_cl (pl := pl) H2)
  have pb2 := PLB_ra hrp H2 pb1
  -- refused: the field is written, and that is all
  have ded : ∀ (c p : Nat) (x : Int32 × HP), hp_fr (S_ra r) g2 x.2 → DED r c p x.2 → (∀ h, RSS K ps m L T P cn nk F k h → pw ((f_M_token m (hp_si h (m + 11) t (nI 1))).bind fun x => (f_M_toldNumber m (nI lo) (nI hi) x).bind fun y => some (hp_si y.2 m (20 + t) y.1)) (fun h' => hp_fr (S_rf m) h h' ∧ RBX K ps m L T c p h')) → pw (some (hp_si x.2 pl t x.1)) (BOUT K ps r pl m L T P cn nk F k k (fun h => (f_M_token m (hp_si h (m + 11) t (nI 1))).bind fun x => (f_M_toldNumber m (nI lo) (nI hi) x).bind fun y => some (hp_si y.2 m (20 + t) y.1)) g) := by
    intro c p x H3 D3 hM
    have H4 : hp_fr (fun a k => a = pl ∧ k = t) x.2 (hp_si x.2 pl t x.1) := hf_si (hp_fr_rf _) ⟨rfl, rfl⟩
    refine pw_some ⟨hp_fr_tr (hp_fr_tr F2 (ra_cl H3)) (hp_fr_mo H4 (fun a k z => by unfold S_cl; omega)), .inl ⟨c, p, ?_, PLB_fr H4 (fun k hk => by omega) (PLB_ra hrp H3 pb2), hM⟩⟩
    obtain ⟨d1, d2, d3, d4, d5⟩ := D3
    exact ⟨d1, d2, by rw [hf_i H4 (by omega)]; exact d3, by rw [hf_i H4 (by omega)]; exact d4, by rw [hf_i H4 (by omega)]; exact d5⟩
  rcases v with v | ⟨v1, v2, v3⟩
  · have s2 := CS_ra hrp H2 s1 v
    refine pw_bind (pw_mono (R_num hx2 v hlo hhi) ?_)
    rintro x ⟨H3, z⟩
    rcases z with ⟨z1, z2, z3, z4, z5⟩ | ⟨z1, z2, z3⟩
    · rcases z5 with z5 | ⟨z5, z6, z7⟩
      · have H4 : hp_fr (fun a k => a = pl ∧ k = t) x.2 (hp_si x.2 pl t x.1) := hf_si (hp_fr_rf _) ⟨rfl, rfl⟩
        obtain ⟨_, c2, c3, c4, c5⟩ := CS_ra hrp H3 s2 z5
        refine pw_some ⟨hp_fr_tr (hp_fr_tr F2 (ra_cl H3)) (hp_fr_mo H4 (fun a k z => by unfold S_cl; omega)), .inr ⟨up (t_n K (k + 1)), cn, nk, F + 2 ^ t, k + 2, by omega, uV _ _ z2 z3 f2, ⟨?_, uP _ _ _ z2 z3 c2 H4 (by rw [hp_i_si, if_pos ⟨rfl, rfl⟩, z4]), ?_, fun i hi => ?_, ?_⟩, fun h hr => pw_mono (ref h hr) ?_⟩⟩
        · obtain ⟨d1, d2, d3, d4, d5⟩ := z5
          exact ⟨d1, d2, by rw [hf_i H4 (by omega)]; exact d3, by rw [hf_i H4 (by omega), hf_i H4 (by omega)]; exact d4, by rw [hf_i H4 (by omega)]; exact d5⟩
        · rw [hf_i H4 (by omega), (uB _).1]; exact c3
        · rw [(uB _).2] at hi
          rw [hf_l H4 (by omega)]; exact c4 i hi
        · rw [hf_i H4 (by omega)]; exact c5
        · rintro h' ⟨q1, q2⟩
          rcases q2 with q2 | q2
          · exact ⟨q1, q2.2.2.2⟩
          · exact absurd ⟨z1, z2, z3⟩ q2.1
      · refine ded _ _ x H3 z7 (fun h hr => pw_mono (ref h hr) ?_)
        rintro h' ⟨q1, q2⟩
        rcases q2 with q2 | q2
        · exact ⟨q1, RT_bad z6 q2.2.2.2.1⟩
        · exact absurd ⟨z1, z2, z3⟩ q2.1
    · refine ded _ _ x H3 z3 (fun h hr => pw_mono (ref h hr) ?_)
      rintro h' ⟨q1, q2⟩
      rcases q2 with q2 | q2
      · exact absurd ⟨q2.1, q2.2.1, q2.2.2.1⟩ z1
      · exact ⟨q1, q2.2⟩
  · refine pw_bind (pw_mono (R_numD (lo := lo) v3) ?_)
    rintro x ⟨H3, z1, z2⟩
    refine ded _ _ x H3 z2 (fun h hr => pw_mono (ref h hr) ?_)
    rintro h' ⟨q1, q2⟩
    rcases q2 with q2 | q2
    · omega
    · have : nc K (k + 1) = ec K (k + 1) := by unfold nc; rw [if_neg (by omega)]
      rw [this] at q2
      exact ⟨q1, q2.2⟩
