/-! the reference: its word, its pile, what it writes -/
def rk (t : Nat) : Nat := if t ≤ 20 then 1 else if t = 21 then 2 else if t = 22 then 0 else if t = 23 then 3 else t
def MTC (m L : Nat) (T : Nat → Nat) (h : HP) : Prop := MS m h ∧ L ≤ 1400 ∧ (hp_i h m 5 = nI L ∧ (hp_i h m 2 = 0 → hp_i h m 3 = -1)) ∧ ∀ k, k < L → T k < 256 ∧ hp_i h (m + 1) k = nI (T k)
def MTK (K : TKS) (ps : Nat → Nat) (m k : Nat) (h : HP) : Prop := k ≤ t_N K ∧ hp_i h m 6 = nI (rk (t_k K k)) ∧ hp_i h m 7 = nI (t_s K k) ∧ (t_k K k ≠ 23 → hp_i h m 8 = nI (t_n K k) ∧ hp_i h m 4 = nI (ps (k + 1))) ∧ (t_k K k ≤ 20 → hp_l h m 9 = lN (t_w K k))
def S_tk (m : Nat) : Nat → Nat → Prop := fun a k => a = m ∧ (k = 4 ∨ k = 6 ∨ k = 7 ∨ k = 8 ∨ k = 9)
def TOKS (K : TKS) (ps : Nat → Nat) (m L : Nat) (T : Nat → Nat) : Prop := ∀ k h, MTC m L T h → k < t_N K → MTK K ps m k h → pw (f_M_token m h) (fun g => hp_fr (S_tk m) h g ∧ MTK K ps m (k + 1) g)
def MER (m c p : Nat) (h : HP) : Prop := 0 < c ∧ c ≤ 5 ∧ hp_i h m 2 = nI c ∧ hp_i h m 3 = nI p
theorem MTC_fr {S : Nat → Nat → Prop} {m L : Nat} {T : Nat → Nat} {h g : HP} (H : hp_fr S h g) (hS : ∀ a k, S a k → ¬ (a = m ∧ (k = 2 ∨ k = 3 ∨ k = 5)) ∧ a ≠ m + 1) (hc : MTC m L T h) : MTC m L T g := by
  obtain ⟨h1, h2, h3, h4⟩ := hc
  refine ⟨MS_fr H h1, h2, by rw [hf_i H (fun z => (hS _ _ z).1 (by omega)), hf_i H (fun z => (hS _ _ z).1 (by omega)), hf_i H (fun z => (hS _ _ z).1 (by omega))]; exact h3, fun k hk => ⟨(h4 k hk).1, ?_⟩⟩
  rw [hf_i H (fun z => (hS _ _ z).2 rfl)]; exact (h4 k hk).2
theorem MTC_me {S : Nat → Nat → Prop} {m L c p : Nat} {T : Nat → Nat} {h g : HP} (H : hp_fr S h g) (hS : ∀ a k, S a k → ¬ (a = m ∧ k = 5) ∧ a ≠ m + 1) (he : MER m c p g) (hc : MTC m L T h) : MTC m L T g := by
  obtain ⟨h1, h2, h3, h4⟩ := hc
  have h5 : hp_i g m 5 = nI L := by rw [hf_i H (fun z => (hS _ _ z).1 ⟨rfl, rfl⟩)]; exact h3.1
  have c5 := he.2.1
  refine ⟨MS_fr H h1, h2, ⟨h5, fun y => absurd (he.2.2.1.symm.trans y) (nI_ne0 he.1 (by omega))⟩, fun k hk => ⟨(h4 k hk).1, ?_⟩⟩
  rw [hf_i H (fun z => (hS _ _ z).2 rfl)]; exact (h4 k hk).2
theorem MTK_fr {S : Nat → Nat → Prop} {K : TKS} {ps : Nat → Nat} {m k : Nat} {h g : HP} (H : hp_fr S h g) (hS : ∀ a k, S a k → ¬ (a = m ∧ (k = 4 ∨ k = 6 ∨ k = 7 ∨ k = 8 ∨ k = 9))) (hc : MTK K ps m k h) : MTK K ps m k g := by
  obtain ⟨h1, h2, h3, h4, h5⟩ := hc
  have e : ∀ j, (j = 4 ∨ j = 6 ∨ j = 7 ∨ j = 8 ∨ j = 9) → hp_i g m j = hp_i h m j ∧ hp_l g m j = hp_l h m j := fun j hj => ⟨hf_i H (fun z => hS _ _ z ⟨rfl, hj⟩), hf_l H (fun z => hS _ _ z ⟨rfl, hj⟩)⟩
  refine ⟨h1, by rw [(e 6 (by omega)).1]; exact h2, by rw [(e 7 (by omega)).1]; exact h3, fun z => ?_, fun z => ?_⟩
  · rw [(e 8 (by omega)).1, (e 4 (by omega)).1]; exact h4 z
  · rw [(e 9 (by omega)).2]; exact h5 z
theorem rk_lt {t : Nat} (h : t < 64) : rk t < 64 := by unfold rk; (repeat' split) <;> omega
theorem rk_eq {t j : Nat} (hj : j = 40 ∨ j = 41 ∨ j = 42 ∨ j = 43 ∨ j = 45 ∨ j = 59 ∨ j = 60 ∨ j = 61 ∨ j = 62) : rk t = j ↔ t = j := by unfold rk; (repeat' split) <;> omega
theorem rk_2 {t : Nat} (h : t < 64) : rk t = 2 ↔ t = 21 := by unfold rk; (repeat' split) <;> omega
theorem rk_sg {K : TKS} {ps : Nat → Nat} {m k : Nat} {h : HP} (ok : TKO K) (hk : MTK K ps m k h) {j : Nat} (hj : j = 40 ∨ j = 41 ∨ j = 42 ∨ j = 43 ∨ j = 45 ∨ j = 59 ∨ j = 60 ∨ j = 61 ∨ j = 62) : (hp_i h m 6 = nI j) ↔ t_k K k = j := by
  have h64 := (ok.2.2.2.1 k hk.1).1
  have := rk_lt h64
  rw [hk.2.1, nI_eq (by omega) (by omega)]
  exact rk_eq hj
theorem M_word {K : TKS} {ps : Nat → Nat} {m k j : Nat} {h : HP} (ok : TKO K) (hk : MTK K ps m k h) (hj : j < 20) : f_M_isWord m (lN (cst j)) h = some (nI (if t_k K k = j then 1 else 0), h) := by
  obtain ⟨h1, h2, h3, h4, h5⟩ := hk
  have h64 := (ok.2.2.2.1 k h1).1
  have hr := rk_lt h64
  have cj : cst j < 2 ^ 63 := by
    have : ∀ j, j < 20 → cst j < 2 ^ 63 := by decide
    exact this j hj
  unfold f_M_isWord
  rw [h2]
  by_cases z : t_k K k ≤ 20
  · have : rk (t_k K k) = 1 := by unfold rk; rw [if_pos z]
    obtain ⟨w1, w2⟩ := ok.2.2.2.2.1 k h1 z
    rw [this, if_pos (show nI 1 = (1 : Int32) from rfl), h5 z]
    by_cases y : t_k K k = j
    · rw [if_pos ((lg_cmp_eq _ _).mpr (by rw [(w2 j hj).mpr y])), if_pos y]; rfl
    · rw [if_neg (fun q => y ((w2 j hj).mp ((fb_lN_inj w1 cj).mp ((lg_cmp_eq _ _).mp q)))), if_neg y]; rfl
  · have h3 : rk (t_k K k) ≠ 1 := by unfold rk; (repeat' split) <;> omega
    rw [if_neg (show ¬ nI (rk (t_k K k)) = (1 : Int32) from fun q => h3 ((nI_eq (b := 1) (by omega) (by decide)).mp q)), if_neg (by omega)]; rfl
def S_er (m : Nat) : Nat → Nat → Prop := fun a k => a = m ∧ (k = 2 ∨ k = 3)
theorem M_wrong {K : TKS} {ps : Nat → Nat} {m k c : Nat} {h : HP} (ok : TKO K) (hk : MTK K ps m k h) (h0 : hp_i h m 2 = 0) (hc0 : 0 < c) (hc : c ≤ 5) : pw (f_M_wrong m (nI c) h) (fun g => hp_fr (S_er m) h g ∧ MER m (if t_k K k = 23 then 1 else c) (t_s K k) g) := by
  obtain ⟨h1, h2, h3, h4, h5⟩ := hk
  have h64 := (ok.2.2.2.1 k h1).1
  have hr := rk_lt h64
  unfold f_M_wrong
  rw [h0, if_pos (by decide), h2]
  by_cases z : t_k K k = 23
  · have : rk (t_k K k) = 3 := by rw [z]; rfl
    rw [this, if_pos (show nI 3 = (3 : Int32) from rfl), xx_lE, xx_lE, if_pos z]
    refine pw_some ⟨hf_si (hf_si (hp_fr_rf h) (by unfold S_er; omega)) (by unfold S_er; omega), by decide, by decide, ?_, ?_⟩
    · rw [hp_i_si, if_neg (by omega), hp_i_si, if_pos ⟨rfl, rfl⟩]; rfl
    · rw [hp_i_si, if_pos ⟨rfl, rfl⟩, hp_i_si, if_neg (by omega)]; exact h3
  · have h3' : rk (t_k K k) ≠ 3 := by unfold rk; (repeat' split) <;> omega
    rw [if_neg (show ¬ nI (rk (t_k K k)) = (3 : Int32) from fun q => h3' ((nI_eq (b := 3) (by omega) (by decide)).mp q)), xx_lE, xx_lE, if_neg z]
    refine pw_some ⟨hf_si (hf_si (hp_fr_rf h) (by unfold S_er; omega)) (by unfold S_er; omega), hc0, hc, ?_, ?_⟩
    · rw [hp_i_si, if_neg (by omega), hp_i_si, if_pos ⟨rfl, rfl⟩]
    · rw [hp_i_si, if_pos ⟨rfl, rfl⟩, hp_i_si, if_neg (by omega)]; exact h3
/-! pile and code -/
def STK (m : Nat) (B : List Nat) (h : HP) : Prop := hp_i h m 45 = nI B.length ∧ hp_i h m 46 = nI (dep B) ∧ ∀ j, j < B.length → hp_i h (m + 18) j = nI (B.reverse.getD j 0)
def OUT (m : Nat) (o : List (Nat × Nat)) (u : Nat) (h : HP) : Prop := hp_i h m 44 = nI o.length ∧ hp_i h m 27 = nI u ∧ ∀ j, j < o.length → hp_i h (m + 12) j = nI (o.getD j (0, 0)).1 ∧ hp_i h (m + 13) j = nI (o.getD j (0, 0)).2
def S_pil (m : Nat) : Nat → Nat → Prop := fun a k => a = m ∧ (k = 45 ∨ k = 46) ∨ a = m + 18
def S_nte (m : Nat) : Nat → Nat → Prop := fun a k => a = m ∧ (k = 44 ∨ k = 27) ∨ a = m + 12 ∨ a = m + 13
theorem STK_fr {S : Nat → Nat → Prop} {m : Nat} {B : List Nat} {h g : HP} (H : hp_fr S h g) (hS : ∀ a k, S a k → ¬ S_pil m a k) (hs : STK m B h) : STK m B g := by
  unfold S_pil at hS
  exact ⟨by rw [hf_i H (fun z => hS _ _ z (by omega))]; exact hs.1, by rw [hf_i H (fun z => hS _ _ z (by omega))]; exact hs.2.1, fun j hj => by rw [hf_i H (fun z => hS _ _ z (by omega))]; exact hs.2.2 j hj⟩
theorem OUT_fr {S : Nat → Nat → Prop} {m u : Nat} {o : List (Nat × Nat)} {h g : HP} (H : hp_fr S h g) (hS : ∀ a k, S a k → ¬ S_nte m a k) (hs : OUT m o u h) : OUT m o u g := by
  unfold S_nte at hS
  exact ⟨by rw [hf_i H (fun z => hS _ _ z (by omega))]; exact hs.1, by rw [hf_i H (fun z => hS _ _ z (by omega))]; exact hs.2.1, fun j hj => by rw [hf_i H (fun z => hS _ _ z (by omega)), hf_i H (fun z => hS _ _ z (by omega))]; exact hs.2.2 j hj⟩
theorem M_note {m u c v : Nat} {o : List (Nat × Nat)} {h : HP} (hs : MS m h) (ho : OUT m o u h) (hl : o.length < 640) : pw (f_M_note m (nI c) (nI v) h) (fun g => hp_fr (S_nte m) h g ∧ OUT m (o ++ [(c, v)]) u g) := by
  obtain ⟨c1, c2, c3⟩ := ho
  unfold f_M_note
  rw [c1, mb_36 hs, mn_12 hs, if_pos (hp_in_nI hl (by omega)), nI_clamp (by omega), xx_lE]
  obtain ⟨h1, hh1⟩ : ∃ h1, hp_si h (m + 12) o.length (nI c) = h1 := ⟨_, rfl⟩
  rw [hh1]
  have H1 : hp_fr (S_nte m) h h1 := by rw [← hh1]; exact hf_si (hp_fr_rf h) (by unfold S_nte; omega)
  have hs1 := MS_fr H1 hs
  have e44 : hp_i h1 m 44 = nI o.length := by rw [← hh1, hp_i_si, if_neg (by omega)]; exact c1
  rw [mb_37 hs1, e44, mn_13 hs1, if_pos (hp_in_nI hl (by omega)), nI_clamp (by omega), xx_lE]
  have f44 : hp_i (hp_si h1 (m + 13) o.length (nI v)) m 44 = nI o.length := by rw [hp_i_si, if_neg (by omega)]; exact e44
  rw [f44, nI_1, xx_lE]
  refine pw_some ⟨hf_si (hf_si H1 (by unfold S_nte; omega)) (by unfold S_nte; omega), ?_, ?_, fun j hj => ?_⟩
  · rw [hp_i_si, if_pos ⟨rfl, rfl⟩, List.length_append]; rfl
  · rw [hp_i_si, if_neg (by omega), hp_i_si, if_neg (by omega), ← hh1, hp_i_si, if_neg (by omega)]; exact c2
  · rw [List.length_append, List.length_singleton] at hj
    rw [hp_i_si, if_neg (by omega), hp_i_si, if_neg (by omega), hp_i_si, if_neg (by omega), hp_i_si, ← hh1, hp_i_si, hp_i_si]
    by_cases z : j = o.length
    · rw [if_pos ⟨rfl, z⟩, if_pos ⟨rfl, z⟩, z, gd_e]; exact ⟨rfl, rfl⟩
    · rw [if_neg (fun y => z y.2), if_neg (fun y => z y.2), if_neg (by omega), gd_l (by omega)]; exact c3 j (by omega)
theorem M_hold {m c : Nat} {B : List Nat} {h : HP} (hs : MS m h) (hb : STK m B h) (hl : B.length < 300) (hc : c < 64) : pw (f_M_hold m (nI c) h) (fun g => hp_fr (S_pil m) h g ∧ STK m (c :: B) g) := by
  obtain ⟨c1, c2, c3⟩ := hb
  unfold f_M_hold
  rw [c1, mb_42 hs, mn_18 hs, if_pos (hp_in_nI hl (by omega)), nI_clamp (by omega), xx_lE]
  have e45 : hp_i (hp_si h (m + 18) B.length (nI c)) m 45 = nI B.length := by rw [hp_i_si, if_neg (by omega)]; exact c1
  rw [e45, nI_1, xx_lE]
  obtain ⟨h1, hh1⟩ : ∃ h1, hp_si (hp_si h (m + 18) B.length (nI c)) m 45 (nI (B.length + 1)) = h1 := ⟨_, rfl⟩
  rw [hh1]
  have H1 : hp_fr (S_pil m) h h1 := by rw [← hh1]; exact hf_si (hf_si (hp_fr_rf h) (by unfold S_pil; omega)) (by unfold S_pil; omega)
  have f45 : hp_i h1 m 45 = nI (B.length + 1) := by rw [← hh1, hp_i_si, if_pos ⟨rfl, rfl⟩]
  have f46 : hp_i h1 m 46 = nI (dep B) := by rw [← hh1, hp_i_si, if_neg (by omega), hp_i_si, if_neg (by omega)]; exact c2
  have fc : ∀ j, j < B.length + 1 → hp_i h1 (m + 18) j = nI ((c :: B).reverse.getD j 0) := fun j hj => by
    rw [← hh1, hp_i_si, if_neg (by omega), hp_i_si, List.reverse_cons]
    by_cases z : j = B.length
    · rw [if_pos ⟨rfl, z⟩, z, ← List.length_reverse, gd_e]
    · rw [if_neg (fun y => z y.2), gd_l (by rw [List.length_reverse]; omega)]; exact c3 j (by omega)
  have fin : c = 22 ∨ c = 30 → pw (xx_l (hp_si h1 m 46 ((hp_i h1 m 46) + (1 : Int32))) fun h_5 => some h_5) (fun g => hp_fr (S_pil m) h g ∧ STK m (c :: B) g) := by
    intro hq
    rw [f46, nI_1, xx_lE]
    refine pw_some ⟨hf_si H1 (by unfold S_pil; omega), ?_, ?_, fun j hj => ?_⟩
    · rw [hp_i_si, if_neg (by omega)]; exact f45
    · rw [hp_i_si, if_pos ⟨rfl, rfl⟩, dep, if_pos hq, Nat.add_comm]
    · rw [hp_i_si, if_neg (by omega)]; exact fc j hj
  by_cases z30 : c = 30
  · rw [if_pos (show nI c = (30 : Int32) by rw [z30]; rfl)]; exact fin (.inr z30)
  · rw [if_neg (show ¬ nI c = (30 : Int32) from fun y => z30 ((nI_eq (b := 30) (by omega) (by decide)).mp y))]
    by_cases z22 : c = 22
    · rw [if_pos (show nI c = (22 : Int32) by rw [z22]; rfl)]; exact fin (.inl z22)
    · rw [if_neg (show ¬ nI c = (22 : Int32) from fun y => z22 ((nI_eq (b := 22) (by omega) (by decide)).mp y))]
      exact pw_some ⟨H1, f45, by rw [dep, if_neg (by omega), Nat.zero_add]; exact f46, fc⟩
theorem M_upper {m : Nat} {B : List Nat} {h : HP} (hs : MS m h) (hb : STK m B h) (hl : B.length ≤ 300) : f_M_upper m h = some (nI (B.headD 30), h) := by
  obtain ⟨c1, c2, c3⟩ := hb
  unfold f_M_upper
  rw [c1]
  cases B with
  | nil => rw [if_pos (show nI ([] : List Nat).length = (0 : Int32) from rfl)]; rfl
  | cons c B =>
    have e := c3 B.length (by rw [List.length_cons]; omega)
    rw [List.reverse_cons, ← List.length_reverse, gd_e, List.length_reverse] at e
    rw [List.length_cons] at hl ⊢
    rw [if_neg (nI_ne0 (by omega) (by omega)), mb_42 hs, sub1 (by omega), mn_18 hs, if_pos (hp_in_nI (by omega) (by omega)), nI_clamp (by omega), show B.length + 1 - 1 = B.length by omega, e]
    rfl
def S_psn (m : Nat) : Nat → Nat → Prop := fun a k => S_pil m a k ∨ S_nte m a k
theorem M_pop {m u c : Nat} {B : List Nat} {o : List (Nat × Nat)} {h : HP} (hs : MS m h) (hb : STK m (c :: B) h) (ho : OUT m o u h) (hl : B.length < 300) (hol : o.length < 640) (hc : c ≤ 28) : pw (f_M_pop m h) (fun g => hp_fr (S_psn m) h g ∧ STK m B g ∧ OUT m (o ++ [(c, 0)]) u g) := by
  obtain ⟨c1, c2, c3⟩ := hb
  have e := c3 B.length (by rw [List.length_cons]; omega)
  rw [List.reverse_cons, ← List.length_reverse, gd_e, List.length_reverse] at e
  rw [List.length_cons] at c1 c3
  unfold f_M_pop f_M_pop_34
  rw [c1, sub1 (by omega), show B.length + 1 - 1 = B.length by omega, xx_lE]
  obtain ⟨h1, hh1⟩ : ∃ h1, hp_si h m 45 (nI B.length) = h1 := ⟨_, rfl⟩
  rw [hh1]
  have H1 : hp_fr (S_pil m) h h1 := by rw [← hh1]; exact hf_si (hp_fr_rf h) (by unfold S_pil; omega)
  have hs1 := MS_fr H1 hs
  have f45 : hp_i h1 m 45 = nI B.length := by rw [← hh1, hp_i_si, if_pos ⟨rfl, rfl⟩]
  have fe : hp_i h1 (m + 18) B.length = nI c := by rw [← hh1, hp_i_si, if_neg (by omega)]; exact e
  have f46 : hp_i h1 m 46 = nI (dep (c :: B)) := by rw [← hh1, hp_i_si, if_neg (by omega)]; exact c2
  have fc : ∀ j, j < B.length → hp_i h1 (m + 18) j = nI (B.reverse.getD j 0) := fun j hj => by
    rw [← hh1, hp_i_si, if_neg (by omega), c3 j (by omega), List.reverse_cons, gd_l (by rw [List.length_reverse]; omega)]
  have ho1 : OUT m o u h1 := OUT_fr H1 (fun a k z => by unfold S_pil at z; unfold S_nte; omega) ho
  rw [mb_42 hs1, f45, mn_18 hs1, if_pos (hp_in_nI hl (by omega)), nI_clamp (by omega), fe]
  have fin : ∀ g, hp_fr (S_pil m) h g → STK m B g → hp_i g (m + 18) B.length = nI c → OUT m o u g → pw ((hp_r g m 42).bind fun q_5 => if hp_in (hp_i g m 45) (hp_n g q_5) = true then (f_M_note m (hp_i g q_5 ((hp_i g m 45)).toNatClampNeg) (0 : Int32) g).bind fun x_7 => some x_7 else none) (fun g => hp_fr (S_psn m) h g ∧ STK m B g ∧ OUT m (o ++ [(c, 0)]) u g) := by
    intro g Hg hg eg og
    have hsg := MS_fr Hg hs
    rw [mb_42 hsg, hg.1, mn_18 hsg, if_pos (hp_in_nI hl (by omega)), nI_clamp (by omega), eg, show (0 : Int32) = nI 0 from rfl]
    refine pw_bind (pw_mono (M_note hsg og hol) ?_)
    rintro g2 ⟨H2, o2⟩
    exact pw_some ⟨hp_fr_tr (hp_fr_mo Hg (fun a k z => .inl z)) (hp_fr_mo H2 (fun a k z => .inr z)), STK_fr H2 (fun a k z => by unfold S_nte at z; unfold S_pil; omega) hg, o2⟩
  by_cases z22 : c = 22
  · rw [if_pos (show nI c = (22 : Int32) by rw [z22]; rfl), f46, dep, if_pos (.inl z22), sub1 (by omega), show 1 + dep B - 1 = dep B by omega, xx_lE]
    have H2 : hp_fr (S_pil m) h (hp_si h1 m 46 (nI (dep B))) := hf_si H1 (by unfold S_pil; omega)
    refine fin _ H2 ⟨?_, ?_, fun j hj => ?_⟩ ?_ ?_
    · rw [hp_i_si, if_neg (by omega)]; exact f45
    · rw [hp_i_si, if_pos ⟨rfl, rfl⟩]
    · rw [hp_i_si, if_neg (by omega)]; exact fc j hj
    · rw [hp_i_si, if_neg (by omega)]; exact fe
    · exact OUT_fr H2 (fun a k z => by unfold S_pil at z; unfold S_nte; omega) ho
  · rw [if_neg (show ¬ nI c = (22 : Int32) from fun y => z22 ((nI_eq (b := 22) (by omega) (by decide)).mp y))]
    rw [dep, if_neg (by omega), Nat.zero_add] at f46
    have ff := fin h1 H1 ⟨f45, f46, fc⟩ fe ho1
    rw [f45, nI_clamp (by omega)] at ff
    exact ff
theorem M_settle {m u v : Nat} {B : List Nat} (hB : BSE v B) (hv : v < 64) : ∀ (p : List Nat) (o : List (Nat × Nat)) (h : HP), MS m h → STK m (p ++ B) h → OUT m o u h → (∀ a, a ∈ p → v ≤ a ∧ a ≤ 28) → (∀ a, a ∈ B → a ≤ 30) → p.length + B.length ≤ 300 → o.length + p.length ≤ 640 → pw (f_M_settle m (nI v) h) (fun g => hp_fr (S_psn m) h g ∧ STK m B g ∧ OUT m (o ++ cz p) u g) := by
  intro p
  induction p with
  | nil =>
    intro o h hs hb ho _ hBm hl _
    rw [List.nil_append] at hb
    unfold f_M_settle
    refine pw_go ?_
    unfold f_M_settleb
    rw [List.length_nil] at hl
    have eo : o ++ cz [] = o := by rw [show cz [] = [] from rfl, List.append_nil]
    rw [bn_o (M_upper hs hb (by omega)), eo]
    dsimp only
    cases B with
    | nil => rw [if_pos (show nI (List.headD [] 30) = (30 : Int32) from rfl)]; exact pw_R rfl ⟨hp_fr_rf h, hb, ho⟩
    | cons c B =>
      have hc := hBm c (List.mem_cons_self ..)
      have hb2 := hB c rfl
      rw [show (c :: B).headD 30 = c from rfl]
      by_cases z : c = 30
      · rw [if_pos (show nI c = (30 : Int32) by rw [z]; rfl)]; exact pw_R rfl ⟨hp_fr_rf h, hb, ho⟩
      · rw [if_neg (show ¬ nI c = (30 : Int32) from fun y => z ((nI_eq (b := 30) (by omega) (by decide)).mp y)), bn_o (M_upper hs hb (by omega))]
        dsimp only
        rw [show (c :: B).headD 30 = c from rfl, if_pos (nI_lt (by omega) (by omega))]
        exact pw_R rfl ⟨hp_fr_rf h, hb, ho⟩
  | cons c p ih =>
    intro o h hs hb ho hp hBm hl hol
    rw [List.cons_append] at hb
    rw [List.length_cons] at hl hol
    have hc := hp c (List.mem_cons_self ..)
    unfold f_M_settle
    refine pw_go ?_
    unfold f_M_settleb
    rw [bn_o (M_upper hs hb (by rw [List.length_cons, List.length_append]; omega))]
    dsimp only
    rw [show (c :: (p ++ B)).headD 30 = c from rfl, if_neg (show ¬ nI c = (30 : Int32) from fun y => by have := (nI_eq (b := 30) (by omega) (by decide)).mp y; omega), bn_o (M_upper hs hb (by rw [List.length_cons, List.length_append]; omega))]
    dsimp only
    rw [show (c :: (p ++ B)).headD 30 = c from rfl, if_neg (nI_nlt (by omega) (by omega))]
    refine pw_bind (pw_mono (M_pop hs hb ho (by rw [List.length_append]; omega) (by omega) hc.2) ?_)
    rintro g ⟨Hg, bg, og⟩
    refine pw_L rfl ?_
    refine pw_mono (ih (o ++ [(c, 0)]) g (MS_fr Hg hs) bg og (fun a ha => hp a (List.mem_cons_of_mem _ ha)) hBm (by omega) (by rw [List.length_append, List.length_singleton]; omega)) ?_
    rintro g2 ⟨H2, b2, o2⟩
    refine ⟨hp_fr_tr Hg H2, b2, ?_⟩
    rw [show o ++ cz (c :: p) = o ++ [(c, 0)] ++ cz p by simp [cz]]
    exact o2
