/-! the reference's parts -/
theorem im_1 (x : Nat) : im x + 1 = nI x := by
  by_cases z : x = 0
  · subst z; decide
  · rw [im_p (by omega), nI_1, show x - 1 + 1 = x by omega]
def PA (n nm : Nat) (rr nx : Nat → Nat → Nat) (pt : Nat → Nat) : Prop := (∀ s, s < n → pt s ≤ n ∧ (pt s ≠ 0 → pt (pt s - 1) = pt s)) ∧ (∀ u v, Gg n nm rr nx u v → pt v ≠ 0 → pt u ≠ 0) ∧ ∀ s t, s < n → t < n → pt s ≠ 0 → (pt s = pt t ↔ Mut (Gg n nm rr nx) s t)
def PSI (n nm : Nat) (rr nx : Nat → Nat → Nat) (pt o : Nat → Nat) (p k : Nat) (S : Nat → Bool) (sz : Nat) (st : Nat → Nat) (vc : Nat) : Prop := (∀ s, S s = true → s < n ∧ pt s = 0 ∧ Rch (Gg n nm rr nx) s (o p) ∧ ∃ q, k ≤ q ∧ q ≤ p ∧ o q = s) ∧ S (o p) = true ∧ (∀ j, j < sz → S (st j) = true) ∧ ∀ v, S v = true → v = vc ∨ (∃ j, j < sz ∧ st j = v) ∨ ∀ u, Gg n nm rr nx u v → pt u ≠ 0 ∨ S u = true
def ptS (S : Nat → Bool) (r : Nat) (pt : Nat → Nat) : Nat → Nat := fun s => if S s = true then r + 1 else pt s
/-- backwards closed -/
theorem bck_cl {G : Nat → Nat → Prop} {A : Nat → Prop} (h : ∀ u v, G u v → A v → A u) {s t : Nat} (hr : Rch G s t) (ht : A t) : A s := by
  refine Classical.byContradiction (fun z => ?_)
  exact Rch_in (S := fun x => ¬ A x) (fun u v hu hg hv => hu (h u v hg hv)) z hr ht
theorem PA_new {n nm p k : Nat} {rr nx : Nat → Nat → Nat} {pt o : Nat → Nat} {S : Nat → Bool} {st : Nat → Nat} (hp : p < n) (ho : ∀ q, q < n → o q < n) (hA : PA n nm rr nx pt) (q1 : ∀ q, k ≤ q → q < p → Rch (Gg n nm rr nx) (o p) (o q)) (h : PSI n nm rr nx pt o p k S 0 st n) : PA n nm rr nx (ptS S (o p) pt) := by
  obtain ⟨a1, a2, a3⟩ := hA
  obtain ⟨s1, s2, s3, s4⟩ := h
  have cl : ∀ u v, Gg n nm rr nx u v → (pt v ≠ 0 ∨ S v = true) → pt u ≠ 0 ∨ S u = true := by
    rintro u v hg (z | z)
    · exact .inl (a2 u v hg z)
    · rcases s4 v z with y | ⟨j, y, _⟩ | y
      · have := (s1 v z).1; omega
      · omega
      · exact y u hg
  have nz : ∀ s, ptS S (o p) pt s ≠ 0 ↔ (pt s ≠ 0 ∨ S s = true) := fun s => by
    unfold ptS; split
    · rename_i z; exact ⟨fun _ => .inr z, fun _ => by omega⟩
    · rename_i z; exact ⟨.inl, fun y => y.elim id (fun y => absurd y z)⟩
  have eS : ∀ s, S s = true → ptS S (o p) pt s = o p + 1 := fun s hs => by unfold ptS; rw [if_pos hs]
  have eN : ∀ s, S s ≠ true → ptS S (o p) pt s = pt s := fun s hs => by unfold ptS; rw [if_neg hs]
  have mr : ∀ s, S s = true → Mut (Gg n nm rr nx) s (o p) := fun s hs => by
    obtain ⟨x1, x2, x3, q, y1, y2, y3⟩ := s1 s hs
    refine ⟨x3, ?_⟩
    by_cases z : q = p
    · rw [← y3, z]; exact Rch_rf _
    · rw [← y3]; exact q1 q y1 (by omega)
  have ptr : ∀ t, t < n → pt t ≠ o p + 1 := fun t ht z => by
    have := (a1 t ht).2 (by omega)
    rw [z, show o p + 1 - 1 = o p by omega, (s1 _ s2).2.1] at this
    omega
  have nm1 : ∀ s t, pt s ≠ 0 → S t = true → ¬ Mut (Gg n nm rr nx) s t := fun s t h1 h2 hm => by
    have := bck_cl (A := fun x => pt x ≠ 0) a2 hm.2 h1
    exact this (s1 t h2).2.1
  refine ⟨fun s hs => ?_, fun u v hg hv => (nz u).mpr (cl u v hg ((nz v).mp hv)), fun s t hs ht h0 => ?_⟩
  · by_cases z : S s = true
    · rw [eS s z]
      have := ho p hp
      exact ⟨by omega, fun _ => by rw [show o p + 1 - 1 = o p by omega]; exact eS _ s2⟩
    · rw [eN s z]
      refine ⟨(a1 s hs).1, fun h0 => ?_⟩
      have h2 := (a1 s hs).2 h0
      rw [eN _ (fun y => by have := (s1 _ y).2.1; omega)]; exact h2
  · by_cases z : S s = true
    · by_cases y : S t = true
      · rw [eS s z, eS t y]
        exact ⟨fun _ => Mut_tr (mr s z) (Mut_sy (mr t y)), fun _ => rfl⟩
      · rw [eS s z, eN t y]
        refine ⟨fun w => absurd w.symm (ptr t ht), fun w => ?_⟩
        rcases bck_cl (A := fun x => pt x ≠ 0 ∨ S x = true) cl w.2 (.inr z) with q | q
        · exact absurd (Mut_sy w) (nm1 t s q z)
        · exact absurd q y
    · have hps : pt s ≠ 0 := ((nz s).mp h0).elim id (fun y => absurd y z)
      by_cases y : S t = true
      · rw [eN s z, eS t y]
        exact ⟨fun w => absurd w (ptr s hs), fun w => absurd w (nm1 s t hps y)⟩
      · rw [eN s z, eN t y]; exact a3 s t hs ht hps
def PRX (m n : Nat) (pt : Nat → Nat) (sz : Nat) (st : Nat → Nat) (h : HP) : Prop := (∀ s, s < n → hp_i h (m + 36) s = im (pt s)) ∧ ∀ j, j < sz → hp_i h (m + 34) j = nI (st j)
def S_pt (m : Nat) : Nat → Nat → Prop := fun a _ => a = m + 34 ∨ a = m + 36
def upB (f : Nat → Bool) (v : Nat) : Nat → Bool := fun s => if s = v then true else f s
theorem P_for {m n nm p k v sz : Nat} {rr nx : Nat → Nat → Nat} {pt o : Nat → Nat} {S : Nat → Bool} {st : Nat → Nat} {h : HP} {bb kk : Nat → Nat} {Q : ((Int32 × HP) ⊕ HP) → Prop} (ht : TAB m n nm rr nx h) (b1 : ∀ t, t ≤ n → hp_i h (m + 31) t = nI (bb t) ∧ bb t ≤ 30000) (b2 : ∀ t, t < n → bb t ≤ bb (t + 1)) (b3 : ∀ t j, t < n → bb t ≤ j → j < bb (t + 1) → hp_i h (m + 32) j = nI (kk j) ∧ Gg n nm rr nx (kk j) t) (b4 : ∀ s t, Gg n nm rr nx s t → ∃ j, bb t ≤ j ∧ j < bb (t + 1) ∧ kk j = s) (ho : ∀ q, q < n → o q < n) (hi : ∀ q r, q < r → r < n → o q ≠ o r) (hoh : ∀ q, q < n → hp_i h (m + 33) q = nI (o q)) (hp : p < n) (hk2 : ∀ q, q < k → ∀ t, Gg n nm rr nx (o q) t → (∃ r, r < k ∧ o r = t) ∨ ∃ r, p < r ∧ r < n ∧ o r = t) (hgt : ∀ q, p < q → q < n → pt (o q) ≠ 0) (hA : PA n nm rr nx pt) (hS : PSI n nm rr nx pt o p k S sz st v) (hv : S v = true) (hx : PRX m n (ptS S (o p) pt) sz st h) (hc : sz ≤ fb_ct S n) : pw (f_M_layParts_112 m (nI p) (nI v) (im sz) (nI (bb v)) h) (xx_L2 (fun t => ∃ S' sz' st', t.1 = im sz' ∧ hp_fr (S_pt m) h t.2 ∧ PSI n nm rr nx pt o p k S' sz' st' n ∧ PRX m n (ptS S' (o p) pt) sz' st' t.2 ∧ fb_ct S' n + sz = fb_ct S n + sz') Q) := by
  obtain ⟨hm, a2, a3, a4, a5, a6, a7, a8⟩ := id ht
  have hvn : v < n := (hS.1 v hv).1
  unfold f_M_layParts_112
  refine pw_cnt (bb (v + 1)) (fun j t => ∃ S' sz' st', t.1 = im sz' ∧ t.2.1 = nI j ∧ hp_fr (S_pt m) h t.2.2 ∧ PSI n nm rr nx pt o p k S' sz' st' v ∧ S' v = true ∧ PRX m n (ptS S' (o p) pt) sz' st' t.2.2 ∧ fb_ct S' n + sz = fb_ct S n + sz' ∧ bb v ≤ j ∧ ∀ i, bb v ≤ i → i < j → pt (kk i) ≠ 0 ∨ S' (kk i) = true) ?_ ?_ (bb v) (im sz, nI (bb v), h) (b2 v hvn) ⟨S, sz, st, rfl, rfl, hp_fr_rf h, hS, hv, hx, rfl, Nat.le_refl _, fun i h1 h2 => by omega⟩
  · rintro j ⟨_, _, g⟩ hj ⟨S', sz', st', rfl, rfl, H, hS', hv', hx', hc', hbj, hcl⟩
    dsimp only at H hx' ⊢
    have hb1 := (b1 (v + 1) (by omega)).2
    have hm := MS_fr H hm
    obtain ⟨e1, e2⟩ := b3 v j hvn hbj hj
    have e0 : hp_i g (m + 31) (v + 1) = nI (bb (v + 1)) := by rw [hf_i H (by unfold S_pt; omega)]; exact (b1 (v + 1) (by omega)).1
    have e1 : hp_i g (m + 32) j = nI (kk j) := by rw [hf_i H (by unfold S_pt; omega)]; exact e1
    have e3 : hp_i g (m + 33) p = nI (o p) := by rw [hf_i H (by unfold S_pt; omega)]; exact hoh p hp
    obtain ⟨u, hu⟩ : ∃ u, kk j = u := ⟨_, rfl⟩
    rw [hu] at e1 e2
    have hun : u < n := e2.1
    have hct := fb_ct_le S' n
    have hop := ho p hp
    have hpu := (hA.1 u hun).1
    unfold f_M_layParts_112b f_M_layParts_177
    rw [mb_69 hm, nI_1, mn_31 hm, if_pos (hp_in_nI (by omega) (by omega)), nI_clamp (by omega), e0, if_neg (nI_ge hj (by omega)), mb_74 hm, mb_70 hm, mn_32 hm, if_pos (hp_in_nI (by omega) (by omega)), nI_clamp (by omega), e1, mn_36 hm, if_pos (hp_in_nI (by omega) (by omega)), nI_clamp (by omega), hx'.1 u hun]
    have hpl : ptS S' (o p) pt u ≤ n := by unfold ptS; split <;> omega
    by_cases hz : ptS S' (o p) pt u = 0
    · have hz1 : S' u ≠ true := fun z => by unfold ptS at hz; rw [if_pos z] at hz; omega
      have hz2 : pt u = 0 := by unfold ptS at hz; rw [if_neg hz1] at hz; exact hz
      obtain ⟨y1, y2, y3, y4⟩ := hS'
      have cu := fb_ct_upd S' true hun
      rw [bool_f hz1] at cu
      have cu' : fb_ct (upB S' u) n = fb_ct S' n + 1 := cu
      have ctu := fb_ct_le (upB S' u) n
      rw [hz, if_pos im_0, mb_74 hm, mb_70 hm, mn_32 hm, if_pos (hp_in_nI (by omega) (by omega)), mb_71 hm, mn_33 hm, if_pos (hp_in_nI (by omega) (by omega)), e1, mn_36 hm, if_pos (hp_in_nI (by omega) (by omega)), nI_clamp (by omega), nI_clamp (by omega), e3, xx_lE, im_1, xx_lE]
      have hm2 : MS m (hp_si g (m + 36) u (nI (o p))) := hm
      have e1' : hp_i (hp_si g (m + 36) u (nI (o p))) (m + 32) j = nI u := by rw [hp_i_si, if_neg (by omega)]; exact e1
      rw [mb_72 hm2, mb_70 hm2, mn_32 hm2, if_pos (hp_in_nI (by omega) (by omega)), mn_34 hm2, if_pos (hp_in_nI (by omega) (by omega)), e1', nI_clamp (by omega), xx_lE, xx_lE, ← im_s]
      obtain ⟨q, q1, q2⟩ := fb_onto ho hi hun
      have hqp : q ≤ p := Nat.le_of_not_lt (fun z => hgt q z q1 (by rw [q2]; exact hz2))
      have hqk : k ≤ q := Nat.le_of_not_lt (fun z => by
        obtain ⟨_, _, _, q', w1, w2, w3⟩ := y1 v hv'
        rcases hk2 q z v (by rw [q2]; exact e2) with ⟨r, r1, r2⟩ | ⟨r, r1, r2, r3⟩
        · exact hi r q' (by omega) (by omega) (by rw [r2, w3])
        · exact hi q' r (by omega) r2 (by rw [r3, w3]))
      have hub : ∀ s, upB S' u s = true ↔ s = u ∨ S' s = true := fun s => by
        unfold upB; split
        · rename_i z; exact ⟨fun _ => .inl z, fun _ => rfl⟩
        · rename_i z; exact ⟨.inr, fun y => y.elim (fun y => absurd y z) id⟩
      refine pw_L rfl ⟨upB S' u, sz' + 1, upN st' sz' u, rfl, nI_1 j, hf_si (hf_si H (.inr rfl)) (.inl rfl), ⟨fun s hs => ?_, (hub _).mpr (.inr y2), fun i hi' => ?_, fun w hw => ?_⟩, (hub _).mpr (.inr hv'), ⟨fun s hs => ?_, fun i hi' => ?_⟩, by omega, by omega, fun i i1 i2 => ?_⟩
      · rcases (hub s).mp hs with z | z
        · rw [z]; exact ⟨hun, hz2, Rch_tr (Rch_e e2) (y1 v hv').2.2.1, q, hqk, hqp, q2⟩
        · exact y1 s z
      · rw [hub]
        by_cases z : i = sz'
        · left; rw [z, upN_s]
        · right; rw [upN_n z]; exact y3 i (by omega)
      · rcases (hub w).mp hw with z | z
        · exact .inr (.inl ⟨sz', by omega, by rw [upN_s, z]⟩)
        · rcases y4 w z with x | ⟨i, x1, x2⟩ | x
          · exact .inl x
          · exact .inr (.inl ⟨i, by omega, by rw [upN_n (by omega)]; exact x2⟩)
          · refine .inr (.inr (fun a ha => ?_))
            rcases x a ha with c | c
            · exact .inl c
            · exact .inr ((hub a).mpr (.inr c))
      · rw [hp_i_si, if_neg (by omega), hp_i_si]
        by_cases z : s = u
        · rw [if_pos ⟨rfl, z⟩]
          unfold ptS
          rw [if_pos ((hub s).mpr (.inl z)), im_s]
        · rw [if_neg (fun w => z w.2), hx'.1 s hs]
          unfold ptS upB
          rw [if_neg z]
      · rw [hp_i_si]
        by_cases z : i = sz'
        · rw [if_pos ⟨rfl, z⟩, z, upN_s]
        · rw [if_neg (fun w => z w.2), upN_n z, hp_i_si, if_neg (by omega)]; exact hx'.2 i (by omega)
      · rw [hub]
        by_cases z : i = j
        · right; left; rw [z, hu]
        · rcases hcl i i1 (by omega) with c | c
          · exact .inl c
          · exact .inr (.inr c)
    · rw [if_neg (im_neg hz (by omega)), xx_lE]
      refine pw_L rfl ⟨S', sz', st', rfl, nI_1 j, H, hS', hv', hx', hc', by omega, fun i i1 i2 => ?_⟩
      by_cases z : i = j
      · rw [z, hu]
        unfold ptS at hz
        by_cases w : S' u = true
        · exact .inr w
        · rw [if_neg w] at hz; exact .inl hz
      · exact hcl i i1 (by omega)
  · rintro ⟨_, _, g⟩ ⟨S', sz', st', rfl, rfl, H, hS', hv', hx', hc', hbj, hcl⟩
    dsimp only at H hx' ⊢
    have hb1 := (b1 (v + 1) (by omega)).2
    have hm := MS_fr H hm
    have e0 : hp_i g (m + 31) (v + 1) = nI (bb (v + 1)) := by rw [hf_i H (by unfold S_pt; omega)]; exact (b1 (v + 1) (by omega)).1
    obtain ⟨y1, y2, y3, y4⟩ := hS'
    refine pw_R (t := (Sum.inl (im sz', g) : (Int32 × HP) ⊕ ((Int32 × HP) ⊕ HP))) ?_ ⟨S', sz', st', rfl, H, ⟨y1, y2, y3, fun w hw => ?_⟩, hx', hc'⟩
    · unfold f_M_layParts_112b f_M_layParts_183
      rw [mb_69 hm, nI_1, mn_31 hm, if_pos (hp_in_nI (by omega) (by omega)), nI_clamp (by omega), e0, if_pos (nI_le (Nat.le_refl _) (by omega))]; rfl
    · rcases y4 w hw with x | x
      · refine .inr (.inr (fun u hu => ?_))
        rw [x] at hu
        obtain ⟨j, j1, j2, j3⟩ := b4 u v hu
        have := hcl j j1 j2
        rw [j3] at this; exact this
      · exact .inr x
