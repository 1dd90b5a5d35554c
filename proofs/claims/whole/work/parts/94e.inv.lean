/-! all of it: both sides, and what the class keeps -/
def op_ (a : Nat) : Option Nat := if a = 0 then none else some a
def LAYO (m z sv ro fa ch : Nat) : Prop := (sv = 0 → ro = 0 ∧ fa = 0 ∧ ch = 0) ∧ (sv ≠ 0 → m + 56 ≤ sv ∧ sv + 10 ≤ z) ∧ (ro ≠ 0 → sv + 10 ≤ ro ∧ ro + 7 ≤ z) ∧ (fa ≠ 0 → sv + 10 ≤ fa ∧ fa + 5 ≤ z) ∧ (ch ≠ 0 → sv + 10 ≤ ch ∧ ch + 6 ≤ z) ∧ (ro ≠ 0 → fa ≠ 0 → ro + 7 ≤ fa ∨ fa + 5 ≤ ro) ∧ (ro ≠ 0 → ch ≠ 0 → ro + 7 ≤ ch ∨ ch + 6 ≤ ro) ∧ (fa ≠ 0 → ch ≠ 0 → fa + 5 ≤ ch ∨ ch + 6 ≤ fa)
def brr (P : PT) (s i : Nat) : Nat := rs3 P ((BF P 3).2.1 s % 2 ^ 54) i
def bnx (P : PT) (s i : Nat) : Nat := idx (BF P 3).2.1 (BF P 3).1 (tg P (BF P 3).2.1 s i)
noncomputable def enl (P : PT) : Nat := fb_ct (goodb (BF P 3).1 (p_nm P) (brr P) (bnx P)) (BF P 3).1
def KSV (P : PT) (q x sv ro : Nat) (h : HP) : Prop := SVZ sv h ∧ hp_r h sv 14 = op_ ro ∧ (hp_i h x 11 = 0 ∨ (hp_i h x 11 = 1 ∧ hp_r h sv 4 = some q ∧ SVJ P sv (BF P 3) (8 * (BF P 3).1) h ∧ (hp_i h sv 15 = -1 ∨ hp_i h sv 15 = nI (enl P))))
def KFA (P : PT) (x fa : Nat) (h : HP) : Prop := FAX fa h ∧ ∀ F, F < 3 → hp_i h (fa + 1) F = -3 ∨ (hp_i h x 11 = 1 ∧ hp_i h (fa + 1) F = brv P F)
def KCH (P : PT) (x ch : Nat) (h : HP) : Prop := (∃ c, CHX ch c h) ∧ ((hp_i h x 11 = 1 ∧ CHC P ch (BF P 3).1 (brr P) (bnx P) h) ∨ ∀ l, l < 4 → hp_i h (ch + 1) l = 0)
def CCH (P : PT) (q x m sv ro fa ch : Nat) (h : HP) : Prop := hp_r h x 8 = op_ sv ∧ hp_r h x 9 = op_ fa ∧ hp_r h x 10 = op_ ch ∧ LAYO m (hp_z h) sv ro fa ch ∧ (sv = 0 → hp_i h x 11 = 0) ∧ (sv ≠ 0 → KSV P q x sv ro h) ∧ (ro ≠ 0 → ROY ro h) ∧ (fa ≠ 0 → KFA P x fa h) ∧ (ch ≠ 0 → KCH P x ch h)
theorem SVJ_fr {S : Nat → Nat → Prop} {P : PT} {sv p : Nat} {B : BT} {h h' : HP} (H : hp_fr S h h') (hS : ∀ a k, S a k → ¬ (sv ≤ a ∧ a < sv + 10 ∧ ¬ (a = sv ∧ 12 ≤ k))) (hp : p ≤ 8 * B.1) (hj : SVJ P sv B p h) : SVJ P sv B p h' := by
  have e : ∀ a k, sv ≤ a ∧ a < sv + 10 ∧ ¬ (a = sv ∧ 12 ≤ k) → hp_i h' a k = hp_i h a k := fun a k hk => hf_i H (fun z => hS a k z hk)
  rcases hj with ⟨h0, i1, i2, i3, i4, i5, i6, i7, i8, i9, i10⟩ | ⟨h0, i2⟩
  · refine .inl ⟨h0, SSX_fr H (fun a k z y => hS a k z (by unfold F_SS at y; omega)) i1, by rw [e _ _ (by omega)]; exact i2, FND_x (xtd_rf B) hp i7.2.2.2.2.1 (fun a k hk => e a k (by unfold F_FN at hk; omega)) i3, by rw [e _ _ (by omega)]; exact i4, fun i hi => by rw [e _ _ (by omega)]; exact i5 i hi, fun s i a1 a2 a3 => by rw [e _ _ (by omega)]; exact i6 s i a1 a2 a3, CFX_fr H (fun a k z y => hS a k z (by omega)) i7, STC_ag (fun k => e _ _ (by omega)) i8, i9, i10⟩
  · exact .inr ⟨h0, by rw [e _ _ (by omega)]; exact i2⟩
theorem ROY_fr {S : Nat → Nat → Prop} {r : Nat} {h h' : HP} (H : hp_fr S h h') (hs : ROY r h) : ROY r h' := by unfold ROY; simp only [hp_fr_r H, hp_fr_n H]; exact hs
theorem KSV_fr {S : Nat → Nat → Prop} {P : PT} {q x sv ro : Nat} {h h' : HP} (H : hp_fr S h h') (h11 : ¬ S x 11) (hS : ∀ a k, S a k → ¬ (sv ≤ a ∧ a < sv + 10)) (hk : KSV P q x sv ro h) : KSV P q x sv ro h' := by
  obtain ⟨k1, k2, k3⟩ := hk
  refine ⟨SVZ_fr H k1, by rw [hp_fr_r H]; exact k2, ?_⟩
  rw [hf_i H h11, hp_fr_r H, hf_i H (fun z => hS _ _ z (by omega))]
  rcases k3 with z | ⟨z1, z2, z3, z4⟩
  · exact .inl z
  · exact .inr ⟨z1, z2, SVJ_fr H (fun a k z y => hS a k z (by omega)) (Nat.le_refl _) z3, z4⟩
theorem KFA_fr {S : Nat → Nat → Prop} {P : PT} {x fa : Nat} {h h' : HP} (H : hp_fr S h h') (h11 : ¬ S x 11) (hS : ∀ k, ¬ S (fa + 1) k) (hk : KFA P x fa h) : KFA P x fa h' := by
  refine ⟨FAX_fr H hk.1, fun F hF => ?_⟩
  rw [hf_i H h11, hf_i H (hS F)]; exact hk.2 F hF
theorem KCH_fr {S : Nat → Nat → Prop} {P : PT} {x ch : Nat} {h h' : HP} (H : hp_fr S h h') (h11 : ¬ S x 11) (hS : ∀ a k, S a k → ¬ (ch + 1 ≤ a ∧ a ≤ ch + 5)) (hk : KCH P x ch h) : KCH P x ch h' := by
  obtain ⟨⟨c, k1⟩, k2⟩ := hk
  refine ⟨⟨c, CHX_fr H k1⟩, ?_⟩
  rw [hf_i H h11]
  rcases k2 with ⟨z1, z2⟩ | z
  · refine .inl ⟨z1, fun l hl => ?_⟩
    rw [hf_i H (fun y => hS _ _ y (by omega))]
    rcases z2 l hl with w | ⟨w1, w2⟩
    · exact .inl w
    · refine .inr ⟨w1, fun d hd => ?_⟩
      rw [hf_l H (fun y => hS _ _ y (by omega)), hf_l H (fun y => hS _ _ y (by omega))]; exact w2 d hd
  · exact .inr (fun l hl => by rw [hf_i H (fun y => hS _ _ y (by omega))]; exact z l hl)
/-- calls that leave the caches alone -/
theorem CCH_fr {S : Nat → Nat → Prop} {P : PT} {q x m sv ro fa ch : Nat} {h h' : HP} (H : hp_fr S h h') (hx : x < m) (hS : ∀ a k, S a k → a < m + 56 ∧ ¬ (a = x ∧ k = 11)) (hc : CCH P q x m sv ro fa ch h) : CCH P q x m sv ro fa ch h' := by
  obtain ⟨c1, c2, c3, c4, c5, c6, c7, c8, c9⟩ := hc
  have h11 : ¬ S x 11 := fun z => (hS _ _ z).2 ⟨rfl, rfl⟩
  obtain ⟨l1, l2, l3, l4, l5, _⟩ := id c4
  refine ⟨by rw [hp_fr_r H]; exact c1, by rw [hp_fr_r H]; exact c2, by rw [hp_fr_r H]; exact c3, by rw [hp_fr_z H]; exact c4, fun z => by rw [hf_i H h11]; exact c5 z, fun z => KSV_fr H h11 (fun a k y w => ?_) (c6 z), fun z => ROY_fr H (c7 z), fun z => KFA_fr H h11 (fun k y => ?_) (c8 z), fun z => KCH_fr H h11 (fun a k y w => ?_) (c9 z)⟩
  · have := (hS _ _ y).1; have := l2 z; omega
  · have := (hS _ _ y).1; have := l4 z
    by_cases s0 : sv = 0
    · have := l1 s0; omega
    · have := l2 s0; omega
  · have := (hS _ _ y).1; have := l5 z
    by_cases s0 : sv = 0
    · have := l1 s0; omega
    · have := l2 s0; omega
def svS : Nat := ly_nf 9 + (ly_nf 8 + 24576 + ly_nf 7 + 5000 + 8192 + 5000 + 6 + 30000 + 5000)
def roS : Nat := ly_nf 6 + (5000 + 5000 + 5000 + 5000 + 5000 + 5000)
def faS : Nat := ly_nf 2 + (3 + ly_nf 7 + 5000 + 8192)
def chS : Nat := ly_nf 0 + (4 + 52 + 52 + 5000 + 5000)
/-- the room: what is used and what may still be -/
def RM (ZT ST sv ro fa ch : Nat) (h : HP) : Prop := hp_z h + (if sv = 0 then 10 else 0) + (if ro = 0 then 7 else 0) + (if fa = 0 then 5 else 0) + (if ch = 0 then 6 else 0) = ZT ∧ hp_s h + (if sv = 0 then svS else 0) + (if ro = 0 then roS else 0) + (if fa = 0 then faS else 0) + (if ch = 0 then chS else 0) = ST
def INV (P : PT) (x m ZT ST : Nat) (h : HP) : Prop := ∃ q sv ro fa ch, BAS P q x m h ∧ CCH P q x m sv ro fa ch h ∧ RM ZT ST sv ro fa ch h
/-- both answer alike, and all holds again -/
def OK2 (fx fm : HP → Option (Int32 × HP)) (x m : Nat) : Prop := ∀ (P : PT) (ZT ST : Nat) (h : HP), INV P x m ZT ST h → pw (fx h) (fun r => pw (fm r.2) (fun s => r.1 = s.1 ∧ INV P x m ZT ST s.2))
theorem OK2_ez {fx fm : HP → Option (Int32 × HP)} {x m : Nat} (he : EZ fx fm x m) : OK2 fx fm x m := by
  rintro P ZT ST h ⟨q, sv, ro, fa, ch, hb, hc, hr⟩
  refine pw_mono (he P q h hb) ?_
  intro r hr'
  refine pw_mono hr' ?_
  rintro s ⟨s1, s2, s3⟩
  have hm := hb.1
  refine ⟨s1, q, sv, ro, fa, ch, s2, CCH_fr s3 (by omega) (by unfold S_ez; omega) hc, ?_⟩
  unfold RM
  rw [hp_fr_z s3, hp_fr_s s3]; exact hr
