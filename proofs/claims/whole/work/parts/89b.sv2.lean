/-! outcomes kept by what they depend on -/
def ky (P : PT) (N i : Nat) : Nat := (((p_ro P i * 12 + dy N) * 4 + lm N) * 32 + hd N i) * 4 + vs N i
theorem ky_lt {P : PT} (ok : POK P) {N i : Nat} (hi : i < p_nm P) (hd' : dy N < p_cy P) : ky P N i < 24576 := by
  have h1 := ok.2.2.2.2.2.2.2.2.2.1 i hi
  have h2 := ok.2.2.2.2.1
  have h3 := ok.2.1
  have := lm_lt N
  have := hd_lt N i
  have := vs_lt N i
  unfold ky; omega
theorem ky_inj {P : PT} (ok : POK P) {N i M j : Nat} (hi : i < p_nm P) (hj : j < p_nm P) (h1 : dy N < p_cy P) (h2 : dy M < p_cy P) (h : ky P N i = ky P M j) : p_ro P i = p_ro P j ∧ dy N = dy M ∧ lm N = lm M ∧ hd N i = hd M j ∧ vs N i = vs M j := by
  have h3 := ok.2.1
  have a1 := lm_lt N
  have a2 := hd_lt N i
  have a3 := vs_lt N i
  have b1 := lm_lt M
  have b2 := hd_lt M j
  have b3 := vs_lt M j
  unfold ky at h
  omega
theorem oc_key {P : PT} {N i M j : Nat} (h1 : p_ro P i = p_ro P j) (h2 : dy N = dy M) (h3 : lm N = lm M) (h4 : hd N i = hd M j) (h5 : vs N i = vs M j) : oc P N i = oc P M j := by
  have hse : se P N = se P M := by unfold se; rw [h2, h3]
  have henv : env P N i = env P M j := by
    funext k; unfold env; rw [hse, h4, h2, h5]
  have hrok : rok P N i = rok P M j := by
    funext r; unfold rok; rw [h1, henv]
  have hrul : rul P N i = rul P M j := by unfold rul; rw [hrok]
  unfold oc oL oH oS
  rw [hrul, henv, hse, h4]
def STC (P : PT) (a : Nat) (h : HP) : Prop := ∀ N i, i < p_nm P → dy N < p_cy P → hp_i h a (ky P N i) = nI 0 ∨ hp_i h a (ky P N i) = nI (oc P N i + 1)
theorem STC_ag {P : PT} {a : Nat} {h h' : HP} (H : ∀ k, hp_i h' a k = hp_i h a k) (hs : STC P a h) : STC P a h' := fun N i hi hd => by rw [H]; exact hs N i hi hd
def S_sp (sv q : Nat) : Nat → Nat → Prop := fun a k => S_oc q a k ∨ a = sv + 2
theorem X_steps {P : PT} {sv q i N : Nat} {h : HP} (hs : PSH q h) (ok : POK P) (hp : PX P q h) (hq : q + 8 < sv) (r0 : hp_r h (sv + 1) 0 = some (sv + 2)) (n2 : hp_n h (sv + 2) = 24576) (hi : i < p_nm P) (hN : N < 2 ^ 54) (hdc : dy N < p_cy P) (hc : STC P (sv + 2) h) : pw (f_Sp_outcome (sv + 1) q (lN N) (nI i) h) (fun r => r.1 = nI (oc P N i) ∧ hp_fr (S_sp sv q) h r.2 ∧ STC P (sv + 2) r.2) := by
  have hnm := ok.2.2.2.2.2.1
  have hk := ky_lt ok hi hdc
  have hoc := oc_lt ok N i
  have hdy := dy_lt N
  unfold f_Sp_outcome
  rw [bn_o (X_roleOf hs ok hp hi)]
  dsimp only
  rw [bn_o (X_day hN h)]
  dsimp only
  rw [xx_lE, bn_o (X_lamps N h)]
  dsimp only
  rw [xx_lE, bn_o (X_held hN (by omega) h)]
  dsimp only
  rw [bn_o (X_vis hN (by omega) h)]
  dsimp only
  rw [xx_lE]
  rw [show (12 : Int32) = nI 12 from rfl, show (4 : Int32) = nI 4 from rfl, show (32 : Int32) = nI 32 from rfl, pk_mul, nI_add, pk_mul, nI_add, pk_mul, nI_add, pk_mul, nI_add]
  rw [show (((p_ro P i * 12 + dy N) * 4 + lm N) * 32 + hd N i) * 4 + vs N i = ky P N i from rfl]
  have hk2 : nI (ky P N i) < (24576 : Int32) := by rw [show (24576 : Int32) = nI 24576 from rfl]; exact nI_lt hk (by omega)
  rw [if_neg (nI_pos (by omega)), if_pos hk2, bn_o r0, n2, if_pos (hp_in_nI hk (by omega)), nI_clamp (by omega)]
  have hcell := hc N i hi hdc
  by_cases hz : hp_i h (sv + 2) (ky P N i) = 0
  · rw [if_pos hz, bn_o r0]
    refine pw_bind (pw_mono (X_outcome hs ok hp hi hN) ?_)
    rintro ⟨v, g⟩ ⟨rfl, H⟩
    dsimp only at H ⊢
    rw [show hp_n g (sv + 2) = 24576 by rw [hp_fr_n H]; exact n2, if_pos (hp_in_nI hk (by omega)), nI_1, xx_lE]
    rw [show hp_r (hp_si g (sv + 2) (ky P N i) (nI (oc P N i + 1))) (sv + 1) 0 = some (sv + 2) by rw [hp_r_si, hp_fr_r H]; exact r0, bn_s]
    rw [show hp_n (hp_si g (sv + 2) (ky P N i) (nI (oc P N i + 1))) (sv + 2) = 24576 by rw [hp_n_si, hp_fr_n H]; exact n2, if_pos (hp_in_nI hk (by omega)), hp_i_si, if_pos ⟨rfl, rfl⟩, sub1 (by omega)]
    refine pw_some ⟨rfl, hf_si (hp_fr_mo H (fun a k hk => .inl hk)) (.inr rfl), fun M j hj hdM => ?_⟩
    dsimp only
    rw [hp_i_si]
    by_cases hkk : ky P M j = ky P N i
    · rw [if_pos ⟨rfl, hkk⟩]
      obtain ⟨k1, k2, k3, k4, k5⟩ := ky_inj ok hj hi hdM hdc hkk
      exact .inr (by rw [oc_key k1 k2 k3 k4 k5])
    · rw [if_neg (fun z => hkk z.2), hf_i H (by unfold S_oc; omega)]
      exact hc M j hj hdM
  · rw [if_neg hz, bn_o r0, n2, if_pos (hp_in_nI hk (by omega))]
    rcases hcell with z | z
    · exact absurd z hz
    · rw [z, sub1 (by omega)]
      exact pw_some ⟨rfl, hp_fr_rf h, hc⟩
/-! the class's survey, so far as it has come -/
def SVS (sv q : Nat) (h : HP) : Prop := hp_r h sv 0 = some (sv + 1) ∧ hp_r h (sv + 1) 0 = some (sv + 2) ∧ hp_r h sv 1 = some (sv + 3) ∧ hp_r h sv 2 = some (sv + 6) ∧ hp_r h sv 3 = some (sv + 7) ∧ hp_r h sv 4 = some q ∧ hp_r h sv 12 = some (sv + 8) ∧ hp_r h sv 13 = some (sv + 9) ∧ hp_n h (sv + 2) = 24576 ∧ hp_n h (sv + 6) = 5000 ∧ hp_n h (sv + 7) = 6 ∧ hp_n h (sv + 8) = 30000 ∧ hp_n h (sv + 9) = 5000
theorem SVS_fr {S : Nat → Nat → Prop} {sv q : Nat} {h h' : HP} (H : hp_fr S h h') (hs : SVS sv q h) : SVS sv q h' := by unfold SVS; simp only [hp_fr_r H, hp_fr_n H]; exact hs
/-- idle so far, as bits -/
def idl (P : PT) (f : Nat → Nat) : Nat → Int32
  | 0 => nI (2 ^ p_nm P - 1)
  | p + 1 => if p % 8 < p_nm P ∧ ¬ (oL P (f (p / 8) % 2 ^ 54) (p % 8) = se P (f (p / 8) % 2 ^ 54) ∧ oH P (f (p / 8) % 2 ^ 54) (p % 8) = hd (f (p / 8) % 2 ^ 54) (p % 8)) then idl P f p &&& (((1 : Int32) <<< (nI (p % 8) &&& 31)) ^^^ (-1 : Int32)) else idl P f p
/-- the most that a man holds in the first c states -/
def mxh (f : Nat → Nat) (i : Nat) : Nat → Nat
  | 0 => 0
  | c + 1 => if mxh f i c < hd (f c % 2 ^ 54) i then hd (f c % 2 ^ 54) i else mxh f i c
theorem mxh_lt (f : Nat → Nat) (i : Nat) : ∀ c, mxh f i c < 32 := by
  intro c
  induction c with
  | zero => show 0 < 32; decide
  | succ c ih => unfold mxh; split; exact hd_lt _ _; exact ih
theorem mxh_cong {f g : Nat → Nat} {i : Nat} : ∀ c, (∀ s, s < c → f s = g s) → mxh f i c = mxh g i c := by
  intro c
  induction c with
  | zero => intro _; rfl
  | succ c ih => intro h; unfold mxh; rw [ih (fun s hs => h s (by omega)), h c (by omega)]
theorem idl_cong {P : PT} {f g : Nat → Nat} : ∀ p, (∀ s, 8 * s < p → f s = g s) → idl P f p = idl P g p := by
  intro p
  induction p with
  | zero => intro _; rfl
  | succ p ih => intro h; unfold idl; rw [ih (fun s hs => h s (by omega)), h (p / 8) (by omega)]
theorem rgt_cong {P : PT} {f g : Nat → Nat} {c p : Nat} (h : ∀ s, 8 * s < p → f s = g s) : ∀ k, k < p → rgt P f c k = rgt P g c k := fun k hk => by unfold rgt; rw [h (k / 8) (by omega)]
def nxx (P : PT) (f : Nat → Nat) (n s i : Nat) : Int32 := if rs3 P (f s % 2 ^ 54) i = 1 then -1 else if rs3 P (f s % 2 ^ 54) i = 2 then -2 else nI (idx f n (tg P f s i))
theorem nxx_x {P : PT} {B C : BT} {s i : Nat} (hx : xtd B C) (hs : s < B.1) (hc : oS P (B.2.1 s % 2 ^ 54) i = 0 → idx B.2.1 B.1 (tg P B.2.1 s i) < B.1) : nxx P C.2.1 C.1 s i = nxx P B.2.1 B.1 s i := by
  have e : tg P C.2.1 s i = tg P B.2.1 s i := by unfold tg; rw [hx.2.1 s hs]
  unfold nxx
  rw [hx.2.1 s hs, e]
  by_cases ho : oS P (B.2.1 s % 2 ^ 54) i = 0
  · rw [idx_x hx (hc ho)]
  · rcases rs3_12 ho with z | z
    · rw [z, if_pos rfl, if_pos rfl]
    · rw [z, if_neg (by decide), if_pos rfl, if_neg (by decide), if_pos rfl]
/-- what the class has found of the leads ahead of p -/
def FND (P : PT) (sv st : Nat) (f : Nat → Nat) (p : Nat) (h : HP) : Prop :=
  hp_i h sv 6 = nI (fb_ct (rgt P f 1) p) ∧ hp_i h sv 7 = nI (fb_ct (rgt P f 2) p) ∧
  hp_i h sv 8 = (if fa_first (rgt P f 1) p < p then nI (dp (ffp P f) st (fa_first (rgt P f 1) p / 8) + 1) else -1) ∧
  (if fa_first (rgt P f 2) p < p then RWS sv st f (ffp P f) (fa_first (rgt P f 2) p / 8) (fa_first (rgt P f 2) p % 8) h else hp_i h sv 9 = nI 0 ∧ hp_i h sv 10 = -1)
def MST (P : PT) (sv : Nat) (f : Nat → Nat) (p : Nat) (h : HP) : Prop := ∀ i, i < p_nm P → hp_i h (sv + 7) i = nI (mxh f i (if i < p % 8 then p / 8 + 1 else p / 8))
def NXX (P : PT) (sv : Nat) (B : BT) (p : Nat) (h : HP) : Prop := ∀ s i, i < p_nm P → 8 * s + i < p → s < B.1 → hp_i h (sv + 8) (6 * s + i) = nxx P B.2.1 B.1 s i
def stN (P : PT) : Nat := (stB P 4).1
/-- all of it, where nothing is spent -/
def SVI (P : PT) (sv : Nat) (B : BT) (p : Nat) (h : HP) : Prop := SSX (sv + 3) 5000 B.1 B.2.1 h ∧ hp_i h sv 5 = nI 0 ∧ FND P sv (stN P) B.2.1 p h ∧ hp_i h sv 11 = idl P B.2.1 p ∧ MST P sv B.2.1 p h ∧ NXX P sv B p h ∧ CFX sv (stN P) B.1 (ffp P B.2.1) h ∧ STC P (sv + 2) h ∧ CLP P B p ∧ PAR P (stN P) B p
/-- or spent -/
def SVJ (P : PT) (sv : Nat) (B : BT) (p : Nat) (h : HP) : Prop := (B.2.2 = false ∧ SVI P sv B p h) ∨ (B.2.2 = true ∧ hp_i h sv 5 = nI 1)
def S_sv (sv q : Nat) : Nat → Nat → Prop := fun a k => S_oc q a k ∨ a = sv ∧ 5 ≤ k ∧ k ≤ 11 ∨ sv + 2 ≤ a ∧ a ≤ sv + 9
