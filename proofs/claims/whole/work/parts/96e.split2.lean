/-! the class's words one by one -/
def S_sp2 (r : Nat) : Nat → Nat → Prop := fun a k => a = r ∧ k = 10 ∨ r + 2 ≤ a ∧ a ≤ r + 4
def RKS (r : Nat) (h : HP) : Prop := hp_r h r 7 = some (r + 2) ∧ hp_r h r 8 = some (r + 3) ∧ hp_r h r 9 = some (r + 4) ∧ hp_n h (r + 2) = 1401 ∧ hp_n h (r + 3) = 1401 ∧ hp_n h (r + 4) = 1401
theorem RKS_fr {S : Nat → Nat → Prop} {r : Nat} {h g : HP} (H : hp_fr S h g) (hs : RKS r h) : RKS r g := by unfold RKS; simp only [hp_fr_r H, hp_fr_n H]; exact hs
/-- the words so far -/
def TKP (K : TKS) (r k : Nat) (h : HP) : Prop := hp_i h r 10 = nI k ∧ ∀ j, j < k → hp_i h (r + 2) j = nI (t_k K j) ∧ hp_i h (r + 3) j = nI (t_s K j) ∧ hp_l h (r + 4) j = lN (if t_k K j = 21 then t_n K j else if t_k K j ≤ 20 then t_v K j else 0)
theorem C_add {K : TKS} {r k : Nat} {kd st nx : Int32} {v : Int64} {h : HP} (hs : RKS r h) (ht : TKP K r k h) (hk : k ≤ 1400) (e1 : kd = nI (t_k K k)) (e2 : st = nI (t_s K k)) (e3 : v = lN (if t_k K k = 21 then t_n K k else if t_k K k ≤ 20 then t_v K k else 0)) : pw (f_Rd_addToken r kd st v nx h) (fun q => q.1 = nx ∧ hp_fr (S_sp2 r) h q.2 ∧ TKP K r (k + 1) q.2) := by
  obtain ⟨a1, a2, a3, a4, a5, a6⟩ := hs
  obtain ⟨t1, t2⟩ := ht
  unfold f_Rd_addToken
  rw [t1, if_neg (show ¬ (1400 : Int32) < nI k from nI_nlt (a := 1400) (by omega) (by omega)), bn_o a1, a4, if_pos (hp_in_nI (by omega) (by omega)), nI_clamp (by omega), xx_lE]
  obtain ⟨h1, hh1⟩ : ∃ h1, hp_si h (r + 2) k kd = h1 := ⟨_, rfl⟩
  rw [hh1]
  have H1 : hp_fr (S_sp2 r) h h1 := by rw [← hh1]; exact hf_si (hp_fr_rf h) (by unfold S_sp2; omega)
  have b1 : hp_i h1 r 10 = nI k := by rw [← hh1, hp_i_si, if_neg (by omega)]; exact t1
  rw [bn_o (show hp_r h1 r 8 = some (r + 3) by rw [hp_fr_r H1]; exact a2), b1, show hp_n h1 (r + 3) = 1401 by rw [hp_fr_n H1]; exact a5, if_pos (hp_in_nI (by omega) (by omega)), nI_clamp (by omega), xx_lE]
  obtain ⟨h2, hh2⟩ : ∃ h2, hp_si h1 (r + 3) k st = h2 := ⟨_, rfl⟩
  rw [hh2]
  have H2 : hp_fr (S_sp2 r) h h2 := by rw [← hh2]; exact hf_si H1 (by unfold S_sp2; omega)
  have b2 : hp_i h2 r 10 = nI k := by rw [← hh2, hp_i_si, if_neg (by omega)]; exact b1
  rw [bn_o (show hp_r h2 r 9 = some (r + 4) by rw [hp_fr_r H2]; exact a3), b2, show hp_n h2 (r + 4) = 1401 by rw [hp_fr_n H2]; exact a6, if_pos (hp_in_nI (by omega) (by omega)), nI_clamp (by omega), xx_lE]
  obtain ⟨h3, hh3⟩ : ∃ h3, hp_sl h2 (r + 4) k v = h3 := ⟨_, rfl⟩
  rw [hh3]
  have H3 : hp_fr (S_sp2 r) h h3 := by rw [← hh3]; exact hf_sl H2 (by unfold S_sp2; omega)
  have b3 : hp_i h3 r 10 = nI k := by rw [← hh3]; exact b2
  rw [b3, nI_1, xx_lE]
  refine pw_some ⟨rfl, hf_si H3 (by unfold S_sp2; omega), by rw [hp_i_si, if_pos ⟨rfl, rfl⟩], fun j hj => ?_⟩
  rw [hp_i_si, if_neg (by omega), hp_i_si, if_neg (by omega)]
  show hp_i h3 (r + 2) j = _ ∧ hp_i h3 (r + 3) j = _ ∧ hp_l h3 (r + 4) j = _
  have c2 : hp_i h3 (r + 2) j = if j = k then kd else hp_i h (r + 2) j := by
    rw [← hh3]
    show hp_i h2 (r + 2) j = _
    rw [← hh2, hp_i_si, if_neg (by omega), ← hh1, hp_i_si]
    by_cases z : j = k
    · rw [if_pos ⟨rfl, z⟩, if_pos z]
    · rw [if_neg (fun y => z y.2), if_neg z]
  have c3 : hp_i h3 (r + 3) j = if j = k then st else hp_i h (r + 3) j := by
    rw [← hh3]
    show hp_i h2 (r + 3) j = _
    rw [← hh2, hp_i_si]
    by_cases z : j = k
    · rw [if_pos ⟨rfl, z⟩, if_pos z]
    · rw [if_neg (fun y => z y.2), if_neg z, ← hh1, hp_i_si, if_neg (by omega)]
  have c4 : hp_l h3 (r + 4) j = if j = k then v else hp_l h (r + 4) j := by
    rw [← hh3, hp_l_sl]
    by_cases z : j = k
    · rw [if_pos ⟨rfl, z⟩, if_pos z]
    · rw [if_neg (fun y => z y.2), if_neg z, ← hh2]
      show hp_l h1 (r + 4) j = _
      rw [← hh1]; rfl
  rw [c2, c3, c4]
  by_cases z : j = k
  · rw [if_pos z, if_pos z, if_pos z, z]; exact ⟨e1, e2, e3⟩
  · rw [if_neg z, if_neg z, if_neg z]; exact t2 j (by omega)
theorem C_token {r tp L k : Nat} {T : Nat → Nat} {h : HP} (hs : RTP r tp L T h) (hk : RKS r h) (ht : TKP (TKL T L) r k h) (hkN : k ≤ 1400) : pw (f_Rd_takeToken r (nI (sk T L (lp T L k))) h) (fun q => q.1 = (if t_k (TKL T L) k = 22 ∨ t_k (TKL T L) k = 23 then -1 else nI (lp T L (k + 1))) ∧ hp_fr (S_sp2 r) h q.2 ∧ TKP (TKL T L) r (k + 1) q.2) := by
  have hL := hs.2.2.2.1
  have hT : ∀ k, k < L → T k < 256 := fun k hk => (hs.2.2.2.2 k hk).1
  have hle := lp_le T L k
  obtain ⟨a, hae⟩ : ∃ a, lp T L k = a := ⟨_, rfl⟩
  have ha : a ≤ L := by omega
  have hsk := sk_le (T := T) ha
  have ek : t_k (TKL T L) k = lk T L a := by rw [← hae]; rfl
  have es : t_s (TKL T L) k = sk T L a := by rw [← hae]; rfl
  have en : t_n (TKL T L) k = if lk T L a = 21 then wN (fun i => T (sk T L a + i)) (dl T L (sk T L a)) else 0 := by rw [← hae]; rfl
  have ev : t_v (TKL T L) k = if lk T L a ≤ 20 then wV (fun i => T (sk T L a + i)) (wl T L (sk T L a)) else 0 := by rw [← hae]; rfl
  have ex : lp T L (k + 1) = lnx T L a := by rw [← hae]; rfl
  rw [hae, ek, ex]
  have bb := bvb hT (sk T L a)
  -- a word is added
  have add : ∀ (kd : Nat) (v : Int64) (nx : Int32), kd = lk T L a → v = lN (if lk T L a = 21 then (if lk T L a = 21 then wN (fun i => T (sk T L a + i)) (dl T L (sk T L a)) else 0) else if lk T L a ≤ 20 then (if lk T L a ≤ 20 then wV (fun i => T (sk T L a + i)) (wl T L (sk T L a)) else 0) else 0) → nx = (if lk T L a = 22 ∨ lk T L a = 23 then -1 else nI (lnx T L a)) → pw (f_Rd_addToken r (nI kd) (nI (sk T L a)) v nx h) (fun q => q.1 = (if lk T L a = 22 ∨ lk T L a = 23 then -1 else nI (lnx T L a)) ∧ hp_fr (S_sp2 r) h q.2 ∧ TKP (TKL T L) r (k + 1) q.2) := by
    intro kd v nx h1 h2 h3
    have := C_add (K := TKL T L) (nx := nx) (kd := nI kd) (st := nI (sk T L a)) (v := v) hk ht hkN (by rw [ek, h1]) (by rw [es]) (by rw [ek, en, ev]; exact h2)
    rw [h3] at this ⊢
    exact this
  unfold f_Rd_takeToken
  rw [bn_o (C_byte hs (by omega)), hs.2.2.1]
  dsimp only
  by_cases zE : sk T L a < L
  rotate_left
  · have hlk : lk T L a = 22 := by unfold lk; rw [bt_out (by omega)]; rfl
    rw [if_neg (nI_nlt (by omega) (by omega)), show (22 : Int32) = nI 22 from rfl]
    refine pw_bind (pw_mono (add 22 0 (-1) hlk.symm (by rw [hlk]; rfl) (by rw [if_pos (.inl hlk)])) ?_)
    rintro q hq
    exact pw_some hq
  rw [if_pos (nI_lt zE (by omega)), bn_o (LT_M _ _).2, bb.2.1]
  dsimp only
  cases zL : isL (btx T L (sk T L a))
  · rw [nf0, if_pos (show nI 0 = (0 : Int32) from rfl), bn_o (DG_M _ _).2, bb.2.2.2.1]
    dsimp only
    cases zD : isD (btx T L (sk T L a))
    · rw [nf0, if_pos (show nI 0 = (0 : Int32) from rfl), bn_o (SG_M _ _).2, bb.2.2.2.2.2.1]
      dsimp only
      have hnx : lnx T L a = sk T L a + 1 := by unfold lnx; rw [zL, zD, if_neg (by decide), if_neg (by decide), if_pos zE]
      have zne : ¬ btx T L (sk T L a) = 256 := by rw [bt_in zE]; have := hT _ zE; omega
      cases zS : isS (btx T L (sk T L a))
      · have hlk : lk T L a = 23 := by unfold lk; rw [zL, zD, zS, if_neg (by decide), if_neg (by decide), if_neg (by decide), if_neg zne]
        rw [nf0, if_pos (show nI 0 = (0 : Int32) from rfl), show (23 : Int32) = nI 23 from rfl]
        refine pw_bind (pw_mono (add 23 0 (-1) hlk.symm (by rw [hlk]; rfl) (by rw [if_pos (.inr hlk)])) ?_)
        rintro q hq
        exact pw_some hq
      · have hlk : lk T L a = btx T L (sk T L a) := by unfold lk; rw [zL, zD, zS, if_neg (by decide), if_neg (by decide), if_pos rfl]
        have hsg := isS_r.mp zS
        rw [nt1, if_neg (show ¬ nI 1 = (0 : Int32) by decide), (bb.2.2.2.2.2.2.2.2.2.2.2 (by omega)).2, nI_1]
        refine pw_bind (pw_mono (add (btx T L (sk T L a)) 0 (nI (sk T L a + 1)) hlk.symm (by rw [if_neg (by omega), if_neg (by omega)]; rfl) (by rw [if_neg (by omega), hnx])) ?_)
        rintro q hq
        exact pw_some hq
    · rw [nt1, if_neg (show ¬ nI 1 = (0 : Int32) by decide)]
      have hdl := dl_le T L (sk T L a)
      have hnx : lnx T L a = sk T L a + dl T L (sk T L a) := by unfold lnx; rw [zL, zD, if_neg (by decide), if_pos rfl]
      -- the number's end
      have fin : ∀ v3 : Int32, (dl T L (sk T L a) ≤ 4 → v3 = nI (wN (fun i => T (sk T L a + i)) (dl T L (sk T L a)))) → pw (f_Rd_takeNumber_49 r (nI (sk T L a)) (nI (sk T L a + dl T L (sk T L a))) v3 h) (fun q => q.1 = (if lk T L a = 22 ∨ lk T L a = 23 then -1 else nI (lnx T L a)) ∧ hp_fr (S_sp2 r) h q.2 ∧ TKP (TKL T L) r (k + 1) q.2) := by
        intro v3 hv3
        have dd := bvb hT (sk T L a + dl T L (sk T L a))
        have bad : lk T L a = 23 → pw (f_Rd_takeNumber_67 r (nI (sk T L a)) h) (fun q => q.1 = (if lk T L a = 22 ∨ lk T L a = 23 then -1 else nI (lnx T L a)) ∧ hp_fr (S_sp2 r) h q.2 ∧ TKP (TKL T L) r (k + 1) q.2) := by
          intro hlk
          unfold f_Rd_takeNumber_67
          rw [show (23 : Int32) = nI 23 from rfl]
          refine pw_bind (pw_mono (add 23 0 (-1) hlk.symm (by rw [hlk]; rfl) (by rw [if_pos (.inr hlk)])) ?_)
          rintro q hq
          exact pw_some hq
        unfold f_Rd_takeNumber_49
        rw [pk_sub (by omega), show sk T L a + dl T L (sk T L a) - sk T L a = dl T L (sk T L a) by omega]
        by_cases z4 : 4 < dl T L (sk T L a)
        · rw [if_pos (show (4 : Int32) < nI (dl T L (sk T L a)) from nI_lt (a := 4) z4 (by omega))]
          exact bad (by unfold lk; rw [zL, zD, if_neg (by decide), if_pos rfl, if_neg (by omega)])
        · rw [if_neg (show ¬ (4 : Int32) < nI (dl T L (sk T L a)) from nI_nlt (a := 4) (by omega) (by omega)), bn_o (C_byte hs (by omega))]
          dsimp only
          rw [bn_o (LT_M _ _).2, dd.2.1]
          dsimp only
          cases zl : isL (btx T L (sk T L a + dl T L (sk T L a)))
          · have hlk : lk T L a = 21 := by unfold lk; rw [zL, zD, if_neg (by decide), if_pos rfl, if_pos ⟨by omega, zl⟩]
            have hwb := wN_b _ (nd_dig (T := T) (L := L) (s := sk T L a))
            have hp4 : 10 ^ dl T L (sk T L a) ≤ 10 ^ 4 := Nat.pow_le_pow_right (by decide) (by omega)
            have hwb : wN (fun i => T (sk T L a + i)) (dl T L (sk T L a)) < 10 ^ dl T L (sk T L a) := hwb
            simp only [Nat.reducePow] at hp4
            rw [nf0, if_pos (show nI 0 = (0 : Int32) from rfl), hv3 (by omega), nI_l (by omega), show (21 : Int32) = nI 21 from rfl]
            refine pw_bind (pw_mono (add 21 _ _ hlk.symm (by rw [if_pos hlk, if_pos hlk]) (by rw [if_neg (by omega), hnx])) ?_)
            rintro q hq
            exact pw_some hq
          · rw [nt1, if_neg (show ¬ nI 1 = (0 : Int32) by decide)]
            exact bad (by unfold lk; rw [zL, zD, if_neg (by decide), if_pos rfl, zl, if_neg (fun y => absurd y.2 (by decide))])
      unfold f_Rd_takeNumber f_Rd_takeNumber_7
      refine pw_bind (pw_mono (pw_cnt (dl T L (sk T L a)) (fun i t => t.1 = nI (sk T L a + i) ∧ (i ≤ 4 → t.2.1 = nI (wN (fun i => T (sk T L a + i)) i)) ∧ t.2.2.1 = nI i ∧ t.2.2.2 = h) (P := fun q => q.1 = (if lk T L a = 22 ∨ lk T L a = 23 then -1 else nI (lnx T L a)) ∧ hp_fr (S_sp2 r) h q.2 ∧ TKP (TKL T L) r (k + 1) q.2) ?_ ?_ 0 (nI (sk T L a), 0, 0, h) (by omega) ⟨rfl, fun _ => rfl, rfl, rfl⟩) ?_)
      · rintro i ⟨_, v3, _, _⟩ hi ⟨rfl, hv3, rfl, rfl⟩
        dsimp only at hv3 ⊢
        obtain ⟨d1, d2⟩ := dl_in hi
        have dd := bvb hT (sk T L a + i)
        have dg := nd_dig (T := T) (L := L) i hi
        unfold f_Rd_takeNumber_7b
        rw [if_neg (show ¬ (1400 : Int32) ≤ nI i from nI_ge (b := 1400) (by omega) (by decide)), bn_o (C_byte hs (by omega))]
        dsimp only
        rw [bn_o (DG_M _ _).2, dd.2.2.2.1, d1, nt1]
        dsimp only
        rw [if_neg (show ¬ nI 1 = (0 : Int32) by decide), bn_o (C_byte hs (by omega))]
        dsimp only
        rw [(dd.2.2.2.2.2.2.2.2.2.2.2 (by rw [bt_in d2]; omega)).2, bt_in d2]
        simp only [xx_lE]
        rw [nI_1, nI_1]
        refine pw_L rfl ⟨rfl, fun y => ?_, rfl, rfl⟩
        dsimp only
        rw [hv3 (by omega), show (10 : Int32) = nI 10 from rfl, show (48 : Int32) = nI 48 from rfl, pk_mul, pk_sub (by omega), nI_add]
        rfl
      · rintro ⟨_, v3, _, _⟩ ⟨rfl, hv3, rfl, rfl⟩
        dsimp only at hv3 ⊢
        have dd := bvb hT (sk T L a + dl T L (sk T L a))
        have de := dl_end (T := T) (L := L) (s := sk T L a) (by omega)
        unfold f_Rd_takeNumber_7b
        by_cases z : (1400 : Int32) ≤ nI (dl T L (sk T L a))
        · rw [if_pos z]
          exact pw_mapR (fin v3 hv3)
        · rw [if_neg z, bn_o (C_byte hs (by omega))]
          dsimp only
          rw [bn_o (DG_M _ _).2, dd.2.2.2.1, de, nf0]
          dsimp only
          rw [if_pos (show nI 0 = (0 : Int32) from rfl)]
          exact pw_mapR (fin v3 hv3)
      · rintro q hq
        exact pw_some hq
  · rw [nt1, if_neg (show ¬ nI 1 = (0 : Int32) by decide)]
    have hwl := wl_le T L (sk T L a)
    have hnx : lnx T L a = sk T L a + wl T L (sk T L a) := by unfold lnx; rw [zL, if_pos rfl]
    have fin : ∀ v3 : Int64, (wl T L (sk T L a) ≤ 8 → v3 = lN (wV (fun i => T (sk T L a + i)) (wl T L (sk T L a)))) → pw (f_Rd_takeWord_53 r (nI (sk T L a)) (nI (sk T L a + wl T L (sk T L a))) v3 h) (fun q => q.1 = (if lk T L a = 22 ∨ lk T L a = 23 then -1 else nI (lnx T L a)) ∧ hp_fr (S_sp2 r) h q.2 ∧ TKP (TKL T L) r (k + 1) q.2) := by
      intro v3 hv3
      unfold f_Rd_takeWord_53
      rw [pk_sub (by omega), show sk T L a + wl T L (sk T L a) - sk T L a = wl T L (sk T L a) by omega]
      by_cases z8 : wl T L (sk T L a) ≤ 8
      · have hlk : lk T L a = wkd (wW (fun i => T (sk T L a + i)) (wl T L (sk T L a))) := by unfold lk; rw [zL, if_pos rfl, if_pos z8]
        have hle := wk_le (wW (fun i => T (sk T L a + i)) (wl T L (sk T L a)))
        rw [if_pos (show nI (wl T L (sk T L a)) ≤ (8 : Int32) from nI_le (b := 8) z8 (by decide)), bn_o (C_kind hs z8 (by omega) wd_let)]
        dsimp only
        refine pw_bind (pw_mono (add _ v3 _ hlk.symm (by rw [if_neg (by omega), if_pos (by omega), if_pos (by omega)]; exact hv3 z8) (by rw [if_neg (by omega), hnx])) ?_)
        rintro q hq
        exact pw_some hq
      · have hlk : lk T L a = 23 := by unfold lk; rw [zL, if_pos rfl, if_neg z8]
        rw [if_neg (show ¬ nI (wl T L (sk T L a)) ≤ (8 : Int32) from nI_ge (a := 8) (by omega) (by omega)), show (23 : Int32) = nI 23 from rfl]
        refine pw_bind (pw_mono (add 23 0 (-1) hlk.symm (by rw [hlk]; rfl) (by rw [if_pos (.inr hlk)])) ?_)
        rintro q hq
        exact pw_some hq
    unfold f_Rd_takeWord f_Rd_takeWord_7
    refine pw_bind (pw_mono (pw_cnt (wl T L (sk T L a)) (fun i t => t.1 = nI (sk T L a + i) ∧ (i ≤ 8 → t.2.1 = lN (wV (fun i => T (sk T L a + i)) i)) ∧ t.2.2.1 = nI i ∧ t.2.2.2 = h) (P := fun q => q.1 = (if lk T L a = 22 ∨ lk T L a = 23 then -1 else nI (lnx T L a)) ∧ hp_fr (S_sp2 r) h q.2 ∧ TKP (TKL T L) r (k + 1) q.2) ?_ ?_ 0 (nI (sk T L a), 0, 0, h) (by omega) ⟨rfl, fun _ => rfl, rfl, rfl⟩) ?_)
    · rintro i ⟨_, v3, _, _⟩ hi ⟨rfl, hv3, rfl, rfl⟩
      dsimp only at hv3 ⊢
      obtain ⟨d1, d2⟩ := wl_in hi
      have dd := bvb hT (sk T L a + i)
      have dg := wd_let (T := T) (L := L) i hi
      unfold f_Rd_takeWord_7b
      rw [if_neg (show ¬ (1400 : Int32) ≤ nI i from nI_ge (b := 1400) (by omega) (by decide)), bn_o (C_byte hs (by omega))]
      dsimp only
      rw [bn_o (LT_M _ _).2, dd.2.1, d1, nt1]
      dsimp only
      rw [if_neg (show ¬ nI 1 = (0 : Int32) by decide), bn_o (C_byte hs (by omega))]
      dsimp only
      rw [(dd.2.2.2.2.2.2.2.2.2.2.2 (by rw [bt_in d2]; omega)).2, bt_in d2]
      simp only [xx_lE]
      rw [nI_1, nI_1]
      refine pw_L rfl ⟨rfl, fun y => ?_, rfl, rfl⟩
      dsimp only
      rw [hv3 (by omega), show (97 : Int32) = nI 97 from rfl, pk_sub (by omega), nI_1, nI_l (by omega), show (32 : Int64) = lN 32 from rfl, lN_mul, lN_add]
      show lN _ = lN (wV (fun i => T (sk T L a + i)) i * 32 + (T (sk T L a + i) - 96))
      congr 1
      omega
    · rintro ⟨_, v3, _, _⟩ ⟨rfl, hv3, rfl, rfl⟩
      dsimp only at hv3 ⊢
      have dd := bvb hT (sk T L a + wl T L (sk T L a))
      have de := wl_end (T := T) (L := L) (s := sk T L a) (by omega)
      unfold f_Rd_takeWord_7b
      by_cases z : (1400 : Int32) ≤ nI (wl T L (sk T L a))
      · rw [if_pos z]
        exact pw_mapR (fin v3 hv3)
      · rw [if_neg z, bn_o (C_byte hs (by omega))]
        dsimp only
        rw [bn_o (LT_M _ _).2, dd.2.1, de, nf0]
        dsimp only
        rw [if_pos (show nI 0 = (0 : Int32) from rfl)]
        exact pw_mapR (fin v3 hv3)
    · rintro q hq
      exact pw_some hq
theorem C_split {r tp L : Nat} {T : Nat → Nat} {h : HP} (htp : tp < r) (hs : RTP r tp L T h) (hk : RKS r h) : pw (f_Rd_splitText r h) (fun g => hp_fr (S_sp2 r) h g ∧ TKX (TKL T L) r g) := by
  have hL := hs.2.2.2.1
  have ok := TKL_ok (T := T) hL
  have hN := ok.1
  obtain ⟨N, eN⟩ : ∃ N, t_N (TKL T L) = N := ⟨_, rfl⟩
  rw [eN] at hN
  unfold f_Rd_splitText
  rw [xx_lE]
  obtain ⟨h1, hh1⟩ : ∃ h1, hp_si h r 10 (0 : Int32) = h1 := ⟨_, rfl⟩
  rw [hh1]
  have H1 : hp_fr (S_sp2 r) h h1 := by rw [← hh1]; exact hf_si (hp_fr_rf h) (by unfold S_sp2; omega)
  have ctx : ∀ g, hp_fr (S_sp2 r) h g → RTP r tp L T g ∧ RKS r g := fun g H => ⟨RTP_fr H (fun a k z => by unfold S_sp2 at z; omega) hs, RKS_fr H hk⟩
  unfold f_Rd_splitText_9
  refine pw_cnt (N + 1) (fun i t => t.1 = (if i = N + 1 then -1 else nI (lp T L i)) ∧ t.2.1 = nI i ∧ hp_fr (S_sp2 r) h t.2.2 ∧ TKP (TKL T L) r i t.2.2) ?_ ?_ 0 (0, 0, h1) (by omega) ⟨by rw [if_neg (by omega)]; rfl, rfl, H1, by rw [← hh1, hp_i_si, if_pos ⟨rfl, rfl⟩]; rfl, fun j hj => absurd hj (Nat.not_lt_zero _)⟩
  · rintro i ⟨_, _, g⟩ hi ⟨rfl, rfl, H, tk⟩
    dsimp only at H tk ⊢
    obtain ⟨c1, c2⟩ := ctx g H
    have hle := lp_le T L i
    unfold f_Rd_splitText_9b
    rw [if_neg (show ¬ (1400 : Int32) < nI i from nI_nlt (a := 1400) (by omega) (by omega)), if_neg (show ¬ i = N + 1 by omega), if_neg (show ¬ nI (lp T L i) = (-1 : Int32) from nI_nm1 (by omega)), bn_o (C_blanks c1 hle)]
    dsimp only
    refine pw_bind (pw_mono (C_token c1 c2 tk (by omega)) ?_)
    rintro q ⟨q1, q2, q3⟩
    rw [xx_lE, nI_1]
    refine pw_L rfl ⟨?_, rfl, hp_fr_tr H q2, q3⟩
    dsimp only
    rw [q1]
    by_cases z : i = N
    · have ht := ok.2.2.1
      rw [eN, ← z] at ht
      rw [if_pos ht, if_pos (by omega)]
    · have ht := ok.2.1 i (by omega)
      rw [if_neg (fun y => by rcases y with y | y <;> omega), if_neg (by omega)]
  · rintro ⟨_, _, g⟩ ⟨rfl, rfl, H, tk⟩
    dsimp only at H tk ⊢
    unfold f_Rd_splitText_9b
    have fin : pw ((some (.inr g)) : Option ((Int32 × Int32 × HP) ⊕ HP)) (xx_L2 (fun _ => False) (fun g => hp_fr (S_sp2 r) h g ∧ TKX (TKL T L) r g)) := pw_R rfl ⟨H, by rw [eN]; exact tk.1, fun j hj => tk.2 j (by rw [eN] at hj; omega)⟩
    by_cases z : (1400 : Int32) < nI (N + 1)
    · rw [if_pos z]; exact fin
    · rw [if_neg z, if_pos (show N + 1 = N + 1 from rfl), if_pos rfl]; exact fin
