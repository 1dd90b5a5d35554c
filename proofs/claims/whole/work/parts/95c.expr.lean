/-! the class's way through what is to be worked out -/
def DEX (r pl c p : Nat) (h : HP) : Prop := DED r c p h ∧ DLN pl h
def PST (G : GT) (E : Nat → Prop) (K : TKS) (r pl : Nat) (F : Nat → List Nat → Prop) (kk w k : Nat) (B : List Nat) (o : List (Nat × Nat)) (u : Nat) (h g : HP) : Prop :=
  hp_fr (S_xp r pl) h g ∧ ((∃ k', k' ≤ t_N K ∧ DEX r pl (ec K k') (t_s K k') g ∧ (E k' → G w k B o u)) ∨ ∃ k' e p u', kk < k' ∧ XE K r pl (o ++ e ++ cz p) u' k' g ∧ CN 2 (p ++ B) (o ++ e) u' ∧ F (t_k K k') p ∧ (G 2 k' (p ++ B) (o ++ e) u' → G w k B o u))
def DSP (K : TKS) (r pl : Nat) (f : HP → Option HP) : Prop := ∀ c p g, CTX K r pl g → DEX r pl c p g → pw (f g) (fun g' => hp_fr (S_xp r pl) g g' ∧ DEX r pl c p g')
theorem S_xpC {K : TKS} {r pl : Nat} {h g : HP} (H : hp_fr (S_xp r pl) h g) (hs : CTX K r pl h) : CTX K r pl g := CTX_fr H (fun a k z => by have := hs.1; unfold S_xp S_ra at z; omega) hs
theorem ra_xp {r pl : Nat} {h g : HP} (H : hp_fr (S_ra r) h g) : hp_fr (S_xp r pl) h g := hp_fr_mo H (fun a k z => .inl z)
theorem cd_xp {r pl : Nat} {h g : HP} (H : hp_fr (S_cd pl) h g) : hp_fr (S_xp r pl) h g := hp_fr_mo H (fun a k z => by unfold S_cd at z; unfold S_xp; omega)
theorem DEX_ra {r pl c p : Nat} {h g : HP} (hp : r + 4 < pl) (H : hp_fr (S_ra r) h g) (hd : DEX r pl c p h) (hg : DED r c p g) : DEX r pl c p g := ⟨hg, DLN_fr H (by unfold S_ra; omega) hd.2⟩
theorem DED_cd {r pl c p : Nat} {h g : HP} (hp : r + 4 < pl) (H : hp_fr (S_cd pl) h g) (hd : DED r c p h) : DED r c p g := by
  obtain ⟨d1, d2, d3, d4, d5⟩ := hd
  exact ⟨d1, d2, by rw [hf_i H (by unfold S_cd; omega)]; exact d3, by rw [hf_i H (by unfold S_cd; omega)]; exact d4, by rw [hf_i H (by unfold S_cd; omega)]; exact d5⟩
theorem ALV_cd {K : TKS} {r pl k : Nat} {h g : HP} (hp : r + 4 < pl) (H : hp_fr (S_cd pl) h g) (hd : ALV K r k h) : ALV K r k g := by
  obtain ⟨d1, d2, d3, d4, d5⟩ := hd
  exact ⟨d1, d2, by rw [hf_i H (by unfold S_cd; omega)]; exact d3, by rw [hf_i H (by unfold S_cd; omega), hf_i H (by unfold S_cd; omega)]; exact d4, by rw [hf_i H (by unfold S_cd; omega)]; exact d5⟩
theorem CDE_ra {r pl u : Nat} {o : List (Nat × Nat)} {h g : HP} (hp : r + 4 < pl) (H : hp_fr (S_ra r) h g) (hc : CDE pl o u h) : CDE pl o u g := CDE_fr H (fun a k z => by unfold S_ra at z; omega) hc
theorem CDE_D {pl u : Nat} {o : List (Nat × Nat)} {h : HP} (hc : CDE pl o u h) (hl : o.length ≤ 540) : DLN pl h := ⟨_, hl, hc.1⟩
theorem CN_2 {B : List Nat} {o : List (Nat × Nat)} {u : Nat} : CN 2 B o u ↔ u ≤ 60 ∧ dep B ≤ 7 ∧ o.length + B.length + 1 ≤ 9 * u ∧ B.length + 1 ≤ u + dep B := by unfold CN; rw [if_pos rfl]
theorem CN_w {w : Nat} {B : List Nat} {o : List (Nat × Nat)} {u : Nat} (hw : w < 2) : CN w B o u ↔ u ≤ 60 ∧ dep B ≤ 7 ∧ o.length + B.length ≤ 9 * u + lead B ∧ B.length ≤ u + dep B := by unfold CN; rw [if_neg (by omega)]
/-- a bad word ends it -/
theorem bad_w {K : TKS} {part w k u : Nat} {B : List Nat} {o : List (Nat × Nat)} {G : GT} {E : Nat → Prop} (hb : BW K part G E) (hw : w < 2) (hk : k ≤ t_N K) (h23 : t_k K k = 23) (hc : CN w B o u) (hE : E k) : G w k B o u := by
  refine hb.2.2.2.1 w k B o u hw hk hc (.inl ⟨?_, ?_, fun _ => ?_⟩) hE
  · rw [h23]; rfl
  · rw [h23]; decide
  · rw [h23]; decide
theorem bad_2 {K : TKS} {part k u : Nat} {B : List Nat} {o : List (Nat × Nat)} {G : GT} {E : Nat → Prop} (hb : BW K part G E) (hk : k ≤ t_N K) (h23 : t_k K k = 23) (hc : CN 2 B o u) (hE : E k) : G 2 k B o u := by
  refine hb.2.2.2.2.2.2 k B o u hk hc (.inl ⟨?_, fun z => ?_, fun z => ?_⟩) hE
  · rw [h23]; rfl
  · rw [h23] at z; exact absurd z (by decide)
  · rw [h23] at z; unfold aft at z; omega
/-- one sign between two: the class reads on, and writes it behind -/
theorem X_bin {K : TKS} {part r pl d k1 c kk w k u u1 : Nat} {B p : List Nat} {o e : List (Nat × Nat)} {G : GT} {E : Nat → Prop} {Fs : Nat → List Nat → Prop} {h g : HP} {sub : Nat → Int32 → HP → Option HP} (hb : BW K part G E) (hx : CTX K r pl g) (hf0 : hp_fr (S_xp r pl) h g)
    (hxe : XE K r pl (o ++ e ++ cz p) u1 k1 g) (hcn : CN 2 (p ++ B) (o ++ e) u1) (hG : G 2 k1 (p ++ B) (o ++ e) u1 → G w k B o u) (hop : opc (t_k K k1) = c) (hc0 : c ≠ 0) (hp : ∀ a, a ∈ p → lo c ≤ a ∧ a ≤ 28) (hB : BSE (lo c) B) (hB2 : 23 ≤ c → c ≤ 25 → BSE 23 B) (hdp : dep B = d)
    (hsub : ∀ k' o' u' g', CTX K r pl g' → XE K r pl o' u' k' g' → CN (if c ≤ 21 then 0 else 1) (c :: B) o' u' → pw (sub r (nI d) g') (PST G E K r pl Fs k' (if c ≤ 21 then 0 else 1) k' (c :: B) o' u' g'))
    (hsd : DSP K r pl (sub r (nI d))) (hkk : kk ≤ k1) : pw ((f_Rd_advance r g).bind fun x2 => (sub r (nI d) x2).bind fun x3 => (hp_r x3 r 4).bind fun q4 => f_Pl_addCode q4 (xo c 0) x3) (PST G E K r pl (fun t p' => ∃ p2, p' = p2 ++ [c] ∧ Fs t p2) kk w k B o u h) := by
  have hrp := hx.1
  obtain ⟨hal, hcd⟩ := hxe
  have hne : t_k K k1 ≠ 22 := fun z => hc0 (by rw [← hop, z]; rfl)
  have c22 : c ≠ 22 ∧ c ≠ 30 ∧ 20 ≤ c := by
    rw [← hop] at hc0 ⊢
    unfold opc at *
    repeat' split
    all_goals first | omega | (exfalso; apply hc0; simp_all)
  have hw' : (if c ≤ 21 then 0 else 1) < 2 := by split <;> decide
  obtain ⟨n1, n2, n3, n4⟩ := CN_2.mp hcn
  simp only [List.length_append] at n3 n4
  rw [dep_ap] at n2 n4
  have hdl := dep_le p
  have cn' : CN (if c ≤ 21 then 0 else 1) (c :: B) (o ++ e ++ cz p) u1 := by
    refine (CN_w hw').mpr ⟨n1, ?_, ?_, ?_⟩
    · rw [dep, if_neg (by omega)]; omega
    · rw [lead, if_neg (by omega)]; simp only [List.length_append, cz_len, List.length_cons]; omega
    · rw [dep, if_neg (by omega), List.length_cons]; omega
  have hG2 : G (if c ≤ 21 then 0 else 1) (k1 + 1) (c :: B) (o ++ e ++ cz p) u1 → G w k B o u := fun z => hG (hb.2.2.2.2.1 k1 p B (o ++ e) u1 c hal.1 hop hc0 hp hB hB2 hcn z)
  refine pw_bind (pw_mono (R_adv hx hal hne) ?_)
  rintro g1 ⟨H1, z⟩
  have hx1 := S_raC H1 hx
  have F1 := hp_fr_tr hf0 (ra_xp (pl := pl) H1)
  have c1 := CDE_ra hrp H1 hcd
  rcases z with z | ⟨z1, z2, z3⟩
  · refine pw_bind (pw_mono (hsub (k1 + 1) (o ++ e ++ cz p) u1 g1 hx1 ⟨z, c1⟩ cn') ?_)
    rintro g2 ⟨H2, y⟩
    have hx2 := S_xpC H2 hx1
    have F2 := hp_fr_tr F1 H2
    rw [bn_o hx2.2.2.1.1]
    rcases y with ⟨k', y1, y2, y3⟩ | ⟨k', e2, p2, u2, y1, ⟨y2, y6⟩, y3, y4, y5⟩
    · refine pw_mono (R_codeD hx2.2.2.1 y2.2) ?_
      rintro g3 ⟨H3, D3⟩
      exact ⟨hp_fr_tr F2 (cd_xp H3), .inl ⟨k', y1, ⟨DED_cd hrp H3 y2.1, D3⟩, fun q => hG2 (y3 q)⟩⟩
    · obtain ⟨m1, m2, m3, m4⟩ := CN_2.mp y3
      have hln : (o ++ e ++ cz p ++ e2 ++ cz p2).length < 540 := by
        simp only [List.length_append, cz_len, List.length_cons] at m3 ⊢
        omega
      refine pw_mono (R_code hx2.2.2.1 y6 hln) ?_
      rintro g3 ⟨H3, D3⟩
      refine ⟨hp_fr_tr F2 (cd_xp H3), .inr ⟨k', e ++ cz p ++ e2, p2 ++ [c], u2, by omega, ⟨ALV_cd hrp H3 y2, ?_⟩, ?_, ⟨p2, rfl, y4⟩, fun q => hG2 (y5 ?_)⟩⟩
      · have e3 : o ++ (e ++ cz p ++ e2) ++ cz (p2 ++ [c]) = o ++ e ++ cz p ++ e2 ++ cz p2 ++ [(c, 0)] := by rw [cz_ap]; simp [List.append_assoc, cz]
        rw [e3]; exact D3
      · have e3 : p2 ++ [c] ++ B = p2 ++ c :: B := by simp
        have e4 : o ++ (e ++ cz p ++ e2) = o ++ e ++ cz p ++ e2 := by simp [List.append_assoc]
        rw [e3, e4]; exact y3
      · have e3 : p2 ++ [c] ++ B = p2 ++ c :: B := by simp
        have e4 : o ++ (e ++ cz p ++ e2) = o ++ e ++ cz p ++ e2 := by simp [List.append_assoc]
        rw [e3, e4] at q; exact q
  · have d1 : DEX r pl (ec K (k1 + 1)) (t_s K (k1 + 1)) g1 := ⟨z3, CDE_D c1 (by simp only [List.length_append, cz_len]; omega)⟩
    refine pw_bind (pw_mono (hsd _ _ g1 hx1 d1) ?_)
    rintro g2 ⟨H2, D2⟩
    have hx2 := S_xpC H2 hx1
    rw [bn_o hx2.2.2.1.1]
    refine pw_mono (R_codeD hx2.2.2.1 D2.2) ?_
    rintro g3 ⟨H3, D3⟩
    exact ⟨hp_fr_tr (hp_fr_tr F1 H2) (cd_xp H3), .inl ⟨k1 + 1, z1, ⟨DED_cd hrp H3 D2.1, D3⟩, fun q => hG2 (bad_w hb hw' z1 z2 cn' q)⟩⟩
/-- a loop over such signs -/
theorem X_loop {K : TKS} {r pl kk w k u : Nat} {B : List Nat} {o : List (Nat × Nat)} {G : GT} {E : Nat → Prop} {F : Nat → List Nat → Prop} {isop : Nat → Prop} {h : HP} {body : Int32 × HP → Option ((Int32 × HP) ⊕ HP)} (hN : t_N K ≤ 1400)
    (H1 : ∀ i c p g, DEX r pl c p g → body (i, g) = some (.inr g))
    (H2 : ∀ i g k', ALV K r k' g → ¬ isop (t_k K k') → body (i, g) = some (.inr g))
    (H3 : ∀ i g k' e p u', i < 1400 → hp_fr (S_xp r pl) h g → XE K r pl (o ++ e ++ cz p) u' k' g → CN 2 (p ++ B) (o ++ e) u' → F (t_k K k') p → isop (t_k K k') → (G 2 k' (p ++ B) (o ++ e) u' → G w k B o u) → pw (body (nI i, g)) (fun x => ∃ g', x = .inl (nI (i + 1), g') ∧ PST G E K r pl F k' w k B o u h g')) :
    ∀ n i g, 1401 - i ≤ n → kk ≤ k → PST G E K r pl F (i + kk) w k B o u h g → pw (xx_lp body (nI i, g)) (PST G E K r pl (fun t p => F t p ∧ ¬ isop t) kk w k B o u h) := by
  intro n
  induction n with
  | zero =>
    rintro i g hi hkk ⟨Hf, z⟩
    rcases z with ⟨k', y1, y2, y3⟩ | ⟨k', e, p, u', y1, y2, y3⟩
    · exact pw_go (pw_R (H1 _ _ _ g y2) ⟨Hf, .inl ⟨k', y1, y2, y3⟩⟩)
    · have := y2.1.1; omega
  | succ n ih =>
    rintro i g hi hkk ⟨Hf, z⟩
    rcases z with ⟨k', y1, y2, y3⟩ | ⟨k', e, p, u', y1, y2, y3, y4, y5⟩
    · exact pw_go (pw_R (H1 _ _ _ g y2) ⟨Hf, .inl ⟨k', y1, y2, y3⟩⟩)
    · by_cases hop : isop (t_k K k')
      · have := y2.1.1
        refine pw_go (pw_mono (H3 i g k' e p u' (by omega) Hf y2 y3 y4 hop y5) ?_)
        rintro x ⟨g', rfl, q1, q2⟩
        refine ih (i + 1) g' (by omega) hkk ⟨q1, ?_⟩
        rcases q2 with q | ⟨k2, e2, p2, u2, q3, q4⟩
        · exact .inl q
        · exact .inr ⟨k2, e2, p2, u2, by omega, q4⟩
      · exact pw_go (pw_R (H2 _ g k' y2.1 hop) ⟨Hf, .inr ⟨k', e, p, u', by omega, y2, y3, ⟨y4, hop⟩, y5⟩⟩)
theorem pw_b3 {α β γ δ T : Type} {A : Option α} {Bf : α → Option β} {Cf : β → Option γ} {Df : β → γ → Option δ} {Kf : δ → Option T} {P : δ → Prop} {Q : T → Prop} (h : pw (A.bind fun x => (Bf x).bind fun y => (Cf y).bind fun z => Df y z) P) (hk : ∀ t, P t → pw (Kf t) Q) : pw (A.bind fun x => (Bf x).bind fun y => (Cf y).bind fun z => (Df y z).bind Kf) Q := by
  obtain ⟨t, e, hp⟩ := h
  cases A with
  | none => cases e
  | some x =>
    rw [bn_s] at e ⊢
    cases hB : Bf x with
    | none => rw [hB] at e; cases e
    | some y =>
      rw [hB, bn_s] at e
      rw [bn_s]
      cases hC : Cf y with
      | none => rw [hC] at e; cases e
      | some z =>
        rw [hC, bn_s] at e
        rw [bn_s, bn_o e]
        exact hk t hp
