/-! a part of a rule: what is written runs well, and the reference writes the same -/
def fwo (o : List (Nat × Nat)) : Nat → Nat := fun j => (o.getD j (0, 0)).1
def VE (e : Nat × Nat) : Prop := (e.1 = 0 ∧ e.2 ≤ 9999) ∨ (1 ≤ e.1 ∧ e.1 ≤ 5 ∧ e.2 = 0) ∨ (20 ≤ e.1 ∧ e.1 ≤ 28 ∧ e.2 = 0)
def RS1 (fw : Nat → Nat) (a n : Nat) : Prop := fw (a + n) < 6 ∧ dpt fw a n < 60 ∨ fw (a + n) = 22 ∧ 0 < dpt fw a n ∨ 20 ≤ fw (a + n) ∧ fw (a + n) ≠ 22 ∧ fw (a + n) ≤ 28 ∧ 1 < dpt fw a n
def JJ (a w : Nat) (B : List Nat) (o : List (Nat × Nat)) : Prop := a ≤ o.length ∧ dpt (fwo o) a (o.length - a) + dep B = B.length + (if w = 2 then 1 else 0) ∧ (∀ n, n < o.length - a → RS1 (fwo o) a n) ∧ ∀ j, j < o.length → VE (o.getD j (0, 0))
theorem dpt_cong {f g : Nat → Nat} {a : Nat} : ∀ n, (∀ j, j < n → f (a + j) = g (a + j)) → dpt f a n = dpt g a n := by
  intro n
  induction n with
  | zero => intro _; rfl
  | succ n ih => intro h; rw [dpt, dpt, ih (fun j hj => h j (by omega)), h n (by omega)]
theorem fwo_l {o : List (Nat × Nat)} {x : Nat × Nat} {j : Nat} (h : j < o.length) : fwo (o ++ [x]) j = fwo o j := by unfold fwo; rw [gd_l h]
theorem fwo_e {o : List (Nat × Nat)} {x : Nat × Nat} : fwo (o ++ [x]) o.length = x.1 := by unfold fwo; rw [gd_e]
theorem JJ_add {a w w' : Nat} {B B' : List Nat} {o : List (Nat × Nat)} {x : Nat × Nat} (h : JJ a w B o) (hx : VE x) (hs : (x.1 < 6 ∧ dpt (fwo o) a (o.length - a) < 60) ∨ (x.1 = 22 ∧ 0 < dpt (fwo o) a (o.length - a)) ∨ (20 ≤ x.1 ∧ x.1 ≠ 22 ∧ x.1 ≤ 28 ∧ 1 < dpt (fwo o) a (o.length - a))) (hd : (if x.1 < 20 then dpt (fwo o) a (o.length - a) + 1 else if x.1 = 22 then dpt (fwo o) a (o.length - a) else dpt (fwo o) a (o.length - a) - 1) + dep B' = B'.length + (if w' = 2 then 1 else 0)) : JJ a w' B' (o ++ [x]) := by
  obtain ⟨h1, h2, h3, h4⟩ := h
  have el : (o ++ [x]).length - a = (o.length - a) + 1 := by rw [List.length_append, List.length_singleton]; omega
  have ec : ∀ n, n ≤ o.length - a → dpt (fwo (o ++ [x])) a n = dpt (fwo o) a n := fun n hn => dpt_cong n (fun j hj => fwo_l (by omega))
  have ee : fwo (o ++ [x]) (a + (o.length - a)) = x.1 := by rw [show a + (o.length - a) = o.length by omega, fwo_e]
  refine ⟨by rw [List.length_append, List.length_singleton]; omega, ?_, fun n hn => ?_, fun j hj => ?_⟩
  · rw [el, dpt, ee, ec _ (Nat.le_refl _)]; exact hd
  · rw [el] at hn
    unfold RS1
    by_cases z : n = o.length - a
    · rw [z, ee, ec _ (Nat.le_refl _)]; exact hs
    · rw [fwo_l (by omega), ec _ (by omega)]; exact h3 n (by omega)
  · rw [List.length_append, List.length_singleton] at hj
    by_cases z : j = o.length
    · rw [z, gd_e]; exact hx
    · rw [gd_l (by omega)]; exact h4 j (by omega)
theorem JJ_op {a w u c v : Nat} {B : List Nat} {o : List (Nat × Nat)} (h : JJ a w B o) (hw : w < 2) (hcn : CN w B o u) (hu : u < 60) (hv : VE (c, v)) (hc : c < 6) : JJ a 2 B (o ++ [(c, v)]) := by
  have h2 := h.2.1
  obtain ⟨n1, n2, n3, n4⟩ := (CN_w hw).mp hcn
  rw [if_neg (by omega)] at h2
  refine JJ_add h hv (.inl ⟨hc, by omega⟩) ?_
  show (if c < 20 then _ else _) + _ = _
  rw [if_pos (by omega), if_pos rfl]; omega
theorem JJ_push {a w w' c : Nat} {B : List Nat} {o : List (Nat × Nat)} (h : JJ a w B o) (hw : w < 2) (hw' : w' < 2) (hc : c = 22 ∨ c = 30) : JJ a w' (c :: B) o := by
  obtain ⟨h1, h2, h3⟩ := h
  rw [if_neg (by omega)] at h2
  exact ⟨h1, by rw [dep, if_pos hc, List.length_cons, if_neg (by omega)]; omega, h3⟩
theorem JJ_hold {a w' c : Nat} {B : List Nat} {o : List (Nat × Nat)} (h : JJ a 2 B o) (hw' : w' < 2) (hc : c ≠ 22) (hc' : c ≠ 30) : JJ a w' (c :: B) o := by
  obtain ⟨h1, h2, h3⟩ := h
  rw [if_pos rfl] at h2
  exact ⟨h1, by rw [dep, if_neg (by omega), List.length_cons, if_neg (by omega)]; omega, h3⟩
theorem JJ_pop {a : Nat} {B : List Nat} : ∀ (p : List Nat) (o : List (Nat × Nat)), (∀ c, c ∈ p → 20 ≤ c ∧ c ≤ 28) → JJ a 2 (p ++ B) o → JJ a 2 B (o ++ cz p) := by
  intro p
  induction p with
  | nil => intro o _ h; rw [show cz [] = [] from rfl, List.append_nil]; exact h
  | cons c p ih =>
    intro o hp h
    have hc := hp c (List.mem_cons_self ..)
    have hd := dep_le (p ++ B)
    have h2 := h.2.1
    rw [List.cons_append, dep, List.length_cons, if_pos rfl] at h2
    have e : o ++ cz (c :: p) = o ++ [(c, 0)] ++ cz p := by simp [cz]
    rw [e]
    refine ih _ (fun x hx => hp x (List.mem_cons_of_mem _ hx)) ?_
    by_cases z : c = 22
    · rw [if_pos (.inl z)] at h2
      refine JJ_add h (.inr (.inr ⟨hc.1, hc.2, rfl⟩)) (.inr (.inl ⟨z, by omega⟩)) ?_
      show (if c < 20 then _ else if c = 22 then _ else _) + _ = _
      rw [if_neg (by omega), if_pos z, if_pos rfl]; omega
    · rw [if_neg (by omega)] at h2
      refine JJ_add h (.inr (.inr ⟨hc.1, hc.2, rfl⟩)) (.inr (.inr ⟨hc.1, z, hc.2, by omega⟩)) ?_
      show (if c < 20 then _ else if c = 22 then _ else _) + _ = _
      rw [if_neg (by omega), if_neg z, if_pos rfl]; omega
theorem JJ_cl {a : Nat} {p B : List Nat} {o : List (Nat × Nat)} (hp : ∀ c, c ∈ p → 20 ≤ c ∧ c ≤ 28) (h : JJ a 2 (p ++ 30 :: B) o) : JJ a 2 B (o ++ cz p) := by
  obtain ⟨h1, h2, h3⟩ := JJ_pop p o hp h
  rw [dep, if_pos (.inr rfl), List.length_cons, if_pos rfl] at h2
  exact ⟨h1, by rw [if_pos rfl]; omega, h3⟩
theorem uc_VE {K : TKS} {k : Nat} (ok : TKO K) (hk : k ≤ t_N K) (hu : uc (t_k K k) < 6) : VE (uc (t_k K k), t_n K k) := by
  obtain ⟨b1, b2, b3, b4, b5⟩ := ok.2.2.2.1 k hk
  by_cases z : t_k K k = 21
  · exact .inl ⟨by rw [z]; rfl, b3⟩
  · refine .inr (.inl ⟨?_, by show uc _ ≤ 5; omega, b4 z⟩)
    show 1 ≤ uc (t_k K k)
    unfold uc at hu ⊢
    (repeat' split) <;> first | omega | (exfalso; simp_all)
theorem BW_J {K : TKS} {part a : Nat} {G : GT} {E : Nat → Prop} (ok : TKO K) (hb : BW K part G E) : BW K part (fun w k B o u => JJ a w B o → G w k B o u) E := by
  refine ⟨fun w k B o u hw hk hu h60 hcn hG hJ => hb.1 w k B o u hw hk hu h60 hcn (hG (JJ_op hJ hw hcn h60 (uc_VE ok hk hu) hu)), fun w k B o u hw hk h40 h60 hd hcn hG hJ => hb.2.1 w k B o u hw hk h40 h60 hd hcn (hG (JJ_push hJ hw (by decide) (.inr rfl))), fun k B o u hk h17 hd hcn hG hJ => hb.2.2.1 k B o u hk h17 hd hcn (hG (JJ_push hJ (by decide) (by decide) (.inl rfl))), fun w k B o u hw hk hcn hc hE _ => hb.2.2.2.1 w k B o u hw hk hcn hc hE, fun k p B o u c hk hop hc hp hB hB2 hcn hG hJ => ?_, fun k p B o u hk h41 hp hcn hG hJ => hb.2.2.2.2.2.1 k p B o u hk h41 hp hcn (hG (JJ_cl hp hJ)), fun k B o u hk hcn hc hE _ => hb.2.2.2.2.2.2 k B o u hk hcn hc hE⟩
  have hc' := hc
  rw [← hop] at hc'
  obtain ⟨g1, g2, g3, _⟩ := opc_rng hc'
  rw [hop] at g1 g2 g3
  have hl : 20 ≤ lo c := by unfold lo; (repeat' split) <;> omega
  exact hb.2.2.2.2.1 k p B o u c hk hop hc hp hB hB2 hcn (hG (JJ_hold (JJ_pop p o (fun x hx => by have := hp x hx; omega) hJ) (by split <;> decide) g3 (by omega)))
theorem xo_inj {e f : Nat × Nat} (he : VE e) (hf : VE f) (h : xo e.1 e.2 = xo f.1 f.2) : e = f := by
  obtain ⟨c, v⟩ := e
  obtain ⟨d, w⟩ := f
  have cls : ∀ c v, VE (c, v) → (c = 0 ∧ v ≤ 9999 ∧ xo c v = nI v) ∨ (v = 0 ∧ c ≠ 0 ∧ c ≤ 28 ∧ xo c v < 0) := by
    intro c v hv
    rcases hv with ⟨h1, h2⟩ | ⟨h1, h2, h3⟩ | ⟨h1, h2, h3⟩
    · have h1 : c = 0 := h1
      subst h1
      exact .inl ⟨rfl, h2, by unfold xo; rw [if_pos rfl]⟩
    · have h1 : 1 ≤ c := h1
      have h2 : c ≤ 5 := h2
      have h3 : v = 0 := h3
      subst h3
      refine .inr ⟨rfl, by omega, by omega, ?_⟩
      rcases (show c = 1 ∨ c = 2 ∨ c = 3 ∨ c = 4 ∨ c = 5 by omega) with rfl | rfl | rfl | rfl | rfl <;> decide
    · have h1 : 20 ≤ c := h1
      have h2 : c ≤ 28 := h2
      have h3 : v = 0 := h3
      subst h3
      refine .inr ⟨rfl, by omega, h2, ?_⟩
      rcases (show c = 20 ∨ c = 21 ∨ c = 22 ∨ c = 23 ∨ c = 24 ∨ c = 25 ∨ c = 26 ∨ c = 27 ∨ c = 28 by omega) with rfl | rfl | rfl | rfl | rfl | rfl | rfl | rfl | rfl <;> decide
  have h : xo c v = xo d w := h
  rcases cls c v he with ⟨rfl, a2, a3⟩ | ⟨rfl, a2, a3, a4⟩ <;> rcases cls d w hf with ⟨rfl, b2, b3⟩ | ⟨rfl, b2, b3, b4⟩
  · rw [a3, b3] at h; rw [(nI_eq (by omega) (by omega)).mp h]
  · rw [a3] at h; rw [← h] at b4; exact absurd b4 (nI_pos (by omega))
  · rw [b3] at h; rw [h] at a4; exact absurd a4 (nI_pos (by omega))
  · have hc : (1 ≤ c ∧ c ≤ 5) ∨ (20 ≤ c ∧ c ≤ 28) := by
      rcases he with ⟨h1, _⟩ | ⟨h1, h2, _⟩ | ⟨h1, h2, _⟩
      · exact absurd h1 a2
      · exact .inl ⟨h1, h2⟩
      · exact .inr ⟨h1, h2⟩
    have hd : (1 ≤ d ∧ d ≤ 5) ∨ (20 ≤ d ∧ d ≤ 28) := by
      rcases hf with ⟨h1, _⟩ | ⟨h1, h2, _⟩ | ⟨h1, h2, _⟩
      · exact absurd h1 b2
      · exact .inl ⟨h1, h2⟩
      · exact .inr ⟨h1, h2⟩
    have key : ∀ c d : Fin 29, ((1 ≤ c.1 ∧ c.1 ≤ 5) ∨ (20 ≤ c.1 ∧ c.1 ≤ 28)) → ((1 ≤ d.1 ∧ d.1 ≤ 5) ∨ (20 ≤ d.1 ∧ d.1 ≤ 28)) → xo c.1 0 = xo d.1 0 → c.1 = d.1 := by decide +kernel
    have hcd : c = d := key ⟨c, by omega⟩ ⟨d, by omega⟩ hc hd h
    rw [hcd]
theorem XE_uq {K : TKS} {r pl u u' k k' : Nat} {o o' : List (Nat × Nat)} {g : HP} (hN : t_N K ≤ 1400) (h1 : XE K r pl o u k g) (h2 : XE K r pl o' u' k' g) (hu : u ≤ 60) (hu' : u' ≤ 60) (hl : o.length ≤ 540) (hl' : o'.length ≤ 540) (hv : ∀ j, j < o.length → VE (o.getD j (0, 0))) (hv' : ∀ j, j < o'.length → VE (o'.getD j (0, 0))) : k = k' ∧ u = u' ∧ o = o' := by
  obtain ⟨⟨a1, a2, a3, a4, a5⟩, c1, c2, c3⟩ := h1
  obtain ⟨⟨b1, b2, b3, b4, b5⟩, d1, d2, d3⟩ := h2
  have b4 := b4.1
  rw [a4.1] at b4
  rw [c1] at d1
  rw [c2] at d2
  have e1 := (nI_eq (by omega) (by omega)).mp b4
  have e2 := (nI_eq (by omega) (by omega)).mp d2
  have e3 := (nI_eq (by omega) (by omega)).mp d1
  refine ⟨e1, e2, List.ext_getElem e3 (fun j q1 q2 => ?_)⟩
  have f1 := c3 j q1
  rw [d3 j q2] at f1
  have f2 := xo_inj (hv' j q2) (hv j q1) f1
  rw [List.getD_eq_getElem?_getD, List.getElem?_eq_getElem q2, List.getD_eq_getElem?_getD, List.getElem?_eq_getElem q1] at f2
  exact f2.symm
/-- the class through one part -/
theorem X_prt {K : TKS} {part r pl a k u : Nat} {o : List (Nat × Nat)} {h : HP} (hx : CTX K r pl h) (hxe : XE K r pl o u k h) (hcn : CN 0 [] o u) (hJ : JJ a 0 [] o) : pw (f_Rd_any r (0 : Int32) h) (fun g => hp_fr (S_xp r pl) h g ∧ ((∃ k', k' ≤ t_N K ∧ DEX r pl (ec K k') (t_s K k') g ∧ ∀ G E, BW K part G E → (∀ k2, ec K k2 = ec K k' → t_s K k2 = t_s K k' → E k2) → G 0 k [] o u) ∨ ∃ k' o' u', k < k' ∧ XE K r pl o' u' k' g ∧ CN 2 [] o' u' ∧ JJ a 2 [] o' ∧ (∃ e', o' = o ++ e') ∧ ∀ G E, BW K part G E → (∀ p e, o' = o ++ e ++ cz p → CN 2 p (o ++ e) u' → F_a (t_k K k') p → G 2 k' p (o ++ e) u') → G 0 k [] o u)) := by
  have hN := hx.2.1.1
  have ok := hx.2.1
  have triv : BW K part (fun _ _ _ _ _ => True) (fun _ => True) := ⟨fun _ _ _ _ _ _ _ _ _ _ _ => trivial, fun _ _ _ _ _ _ _ _ _ _ _ _ => trivial, fun _ _ _ _ _ _ _ _ _ => trivial, fun _ _ _ _ _ _ _ _ _ _ => trivial, fun _ _ _ _ _ _ _ _ _ _ _ _ _ _ => trivial, fun _ _ _ _ _ _ _ _ _ _ => trivial, fun _ _ _ _ _ _ _ _ => trivial⟩
  obtain ⟨g, eg, H, z⟩ := X_any0 triv hx hxe hcn
  have all : ∀ (G : GT) (E : Nat → Prop), BW K part G E → PST G E K r pl F_a k 0 k [] o u h g := by
    intro G E hb
    obtain ⟨g', eg', q⟩ := X_any0 hb hx hxe hcn
    rw [eg] at eg'
    rw [Option.some.inj eg']; exact q
  refine ⟨g, eg, H, ?_⟩
  rcases z with ⟨k', y1, y2, _⟩ | ⟨k', e, p, u', y1, y2, y3, y4, _⟩
  · refine .inl ⟨k', y1, y2, fun G E hb hE => ?_⟩
    rcases (all G E hb).2 with ⟨k2, w1, w2, w3⟩ | ⟨k2, e2, p2, u2, w1, w2, _⟩
    · have s1 := (ok.2.2.2.1 k' y1).2.1
      have s2 := (ok.2.2.2.1 k2 w1).2.1
      have c1 := y2.1.2.1
      have c2 := w2.1.2.1
      refine w3 (hE k2 ?_ ?_)
      · have := w2.1.2.2.1
        rw [y2.1.2.2.1] at this
        exact ((nI_eq (by omega) (by omega)).mp this).symm
      · have := w2.1.2.2.2.1
        rw [y2.1.2.2.2.1] at this
        exact ((nI_eq (by omega) (by omega)).mp this).symm
    · exfalso
      have := w2.1.2.2.1
      rw [y2.1.2.2.1] at this
      exact nI_ne0 y2.1.1 (by have := y2.1.2.1; omega) this
  · -- with it, what is written runs well
    have hw : ∃ k' e p u', k < k' ∧ XE K r pl (o ++ e ++ cz p) u' k' g ∧ CN 2 p (o ++ e) u' ∧ F_a (t_k K k') p ∧ JJ a 2 p (o ++ e) := by
      obtain ⟨X, hX⟩ : ∃ X : Prop, (∃ k' e p u', k < k' ∧ XE K r pl (o ++ e ++ cz p) u' k' g ∧ CN 2 p (o ++ e) u' ∧ F_a (t_k K k') p ∧ JJ a 2 p (o ++ e)) = X := ⟨_, rfl⟩
      rw [hX]
      have hb : BW K part (fun _ _ _ _ _ => X) (fun _ => X) := ⟨fun _ _ _ _ _ _ _ _ _ _ q => q, fun _ _ _ _ _ _ _ _ _ _ _ q => q, fun _ _ _ _ _ _ _ _ q => q, fun _ _ _ _ _ _ _ _ _ q => q, fun _ _ _ _ _ _ _ _ _ _ _ _ _ q => q, fun _ _ _ _ _ _ _ _ _ q => q, fun _ _ _ _ _ _ _ q => q⟩
      rcases (all _ _ (BW_J (a := a) ok hb)).2 with ⟨k2, w1, w2, w3⟩ | ⟨k2, e2, p2, u2, w1, w2, w3, w4, w5⟩
      · exfalso
        have := y2.1.2.2.1
        rw [w2.1.2.2.1] at this
        exact nI_ne0 w2.1.1 (by have := w2.1.2.1; omega) this
      · rw [List.append_nil] at w3 w5
        exact w5 (fun q => by rw [← hX]; exact ⟨k2, e2, p2, u2, w1, w2, w3, w4, q⟩) hJ
    obtain ⟨k', e, p, u', w1, w2, w3, w4, w5⟩ := hw
    obtain ⟨n1, n2, n3, n4⟩ := CN_2.mp w3
    have hdl := dep_le p
    have j2 := JJ_pop (B := []) p (o ++ e) (fun c hc => w4.1.1 c hc) (by rw [List.append_nil]; exact w5)
    simp only [List.length_append] at n3
    refine .inr ⟨k', o ++ e ++ cz p, u', w1, w2, CN_2.mpr ⟨n1, by decide, ?_, ?_⟩, j2, ⟨e ++ cz p, by rw [List.append_assoc]⟩, fun G E hb hG => ?_⟩
    · simp only [List.length_append, cz_len, List.length_nil]; omega
    · rw [List.length_nil]; omega
    · rcases (all _ _ (BW_J (a := a) ok hb)).2 with ⟨k2, v1, v2, v3⟩ | ⟨k2, e2, p2, u2, v1, v2, v3, v4, v5⟩
      · exfalso
        have := w2.1.2.2.1
        rw [v2.1.2.2.1] at this
        exact nI_ne0 v2.1.1 (by have := v2.1.2.1; omega) this
      · rw [List.append_nil] at v3 v5
        refine v5 (fun q => ?_) hJ
        obtain ⟨m1, m2, m3, m4⟩ := CN_2.mp v3
        have hdl2 := dep_le p2
        simp only [List.length_append] at m3
        have j3 := JJ_pop (B := []) p2 (o ++ e2) (fun c hc => v4.1.1 c hc) (by rw [List.append_nil]; exact q)
        obtain ⟨q1, q2, q3⟩ := XE_uq hN w2 v2 n1 m1 (by simp only [List.length_append, cz_len]; omega) (by simp only [List.length_append, cz_len]; omega) j2.2.2.2 j3.2.2.2
        subst q1
        subst q2
        exact hG p2 e2 q3 v3 v4
