/-! the reference's next word -/
theorem nf0 : (if false = true then 1 else 0) = 0 := rfl
theorem nt1 : (if true = true then 1 else 0) = 1 := rfl
theorem bvb {T : Nat → Nat} {L : Nat} (hT : ∀ k, k < L → T k < 256) (i : Nat) : LT (bv (btx T L i)) = nI (if isL (btx T L i) = true then 1 else 0) ∧ LT (sbv (btx T L i)) = nI (if isL (btx T L i) = true then 1 else 0) ∧ DG (bv (btx T L i)) = nI (if isD (btx T L i) = true then 1 else 0) ∧ DG (sbv (btx T L i)) = nI (if isD (btx T L i) = true then 1 else 0) ∧ SG (bv (btx T L i)) = nI (if isS (btx T L i) = true then 1 else 0) ∧ SG (sbv (btx T L i)) = nI (if isS (btx T L i) = true then 1 else 0) ∧ (bv (btx T L i) = 32 ↔ btx T L i = 32) ∧ (bv (btx T L i) = 10 ↔ btx T L i = 10) ∧ (sbv (btx T L i) = 32 ↔ btx T L i = 32) ∧ (sbv (btx T L i) = 10 ↔ btx T L i = 10) ∧ (0 ≤ bv (btx T L i) ↔ btx T L i < 256) ∧ (btx T L i < 128 → bv (btx T L i) = nI (btx T L i) ∧ sbv (btx T L i) = nI (btx T L i)) := byt ⟨btx T L i, bt_lt hT i⟩
theorem M_here {m L b i : Nat} {T : Nat → Nat} {h : HP} (hc : MTC m L T h) (h4 : hp_i h m 4 = nI b) (hb : b + i < 2 ^ 30) : f_M_here m (nI i) h = some (bv (btx T L (b + i)), h) := by
  obtain ⟨c1, c2, c3, c4⟩ := hc
  unfold f_M_here
  rw [c3.1, h4, nI_add]
  by_cases z : L ≤ b + i
  · rw [if_pos (nI_le z (by omega)), bt_out z]; rfl
  · rw [if_neg (nI_ge (by omega) (by omega)), mb_0 c1, mn_1 c1, if_pos (hp_in_nI (by omega) (by omega)), nI_clamp (by omega), (c4 (b + i) (by omega)).2, bt_in (by omega)]
    unfold bv
    rw [if_pos (c4 (b + i) (by omega)).1]
def LEX (m L a : Nat) (T : Nat → Nat) (g : HP) : Prop := hp_i g m 6 = nI (rk (lk T L a)) ∧ hp_i g m 7 = nI (sk T L a) ∧ (lk T L a ≠ 23 → hp_i g m 8 = nI (if lk T L a = 21 then wN (fun i => T (sk T L a + i)) (dl T L (sk T L a)) else 0) ∧ hp_i g m 4 = nI (lnx T L a)) ∧ (lk T L a ≤ 20 → hp_l g m 9 = lN (wW (fun i => T (sk T L a + i)) (wl T L (sk T L a))))
theorem or8 {W c : Nat} (hW : W < 2 ^ 55) (hc : c < 256) : ((lN W <<< (((8 : Int32)).toInt64 &&& 63)) ||| (nI c).toInt64) = lN (W * 256 + c) := by
  rw [show (8 : Int32) = nI 8 from rfl, wb_shl _ (by decide), nI_l (by omega)]
  rw [Int64.or_comm, g_or' (k := 8) rfl (by omega) (by simp only [Nat.reducePow] at *; omega)]
  rw [show (2 : Nat) ^ 8 = 256 from rfl, Nat.add_comm]
theorem T_232 {m v : Nat} {h : HP} {kd : Nat} (hk : kd < 64) (h6 : hp_i h m 6 = nI kd) : f_M_token_232 m (nI v) h = some (if kd = 3 then h else hp_si h m 4 (hp_i h m 4 + nI v)) := by
  unfold f_M_token_232
  rw [h6]
  by_cases z : kd = 3
  · rw [if_pos (show nI kd = (3 : Int32) by rw [z]; rfl), if_pos z]
  · rw [if_neg (show ¬ nI kd = (3 : Int32) from fun y => z ((nI_eq (b := 3) (by omega) (by decide)).mp y)), if_neg z, xx_lE]
/-- the ends of a word -/
theorem T_fin {m L a v kd nn : Nat} {W : Nat} {T : Nat → Nat} {h0 h : HP} (ha : a ≤ L) (hL : L ≤ 1400) (H : hp_fr (S_tk m) h0 h) (h4 : hp_i h m 4 = nI (sk T L a)) (h7 : hp_i h m 7 = nI (sk T L a)) (h8 : kd ≠ 3 → hp_i h m 8 = nI nn) (h9 : kd = 1 → hp_l h m 9 = lN W) (hkd : rk (lk T L a) = kd) (hk64 : kd < 64) (h3 : kd = 3 ↔ lk T L a = 23) (hn : lk T L a ≠ 23 → nn = (if lk T L a = 21 then wN (fun i => T (sk T L a + i)) (dl T L (sk T L a)) else 0) ∧ lnx T L a = sk T L a + v) (hW : lk T L a ≤ 20 → W = wW (fun i => T (sk T L a + i)) (wl T L (sk T L a))) : pw (f_M_token_232 m (nI v) (hp_si h m 6 (nI kd))) (fun g => hp_fr (S_tk m) h0 g ∧ LEX m L a T g) := by
  have e6 : hp_i (hp_si h m 6 (nI kd)) m 6 = nI kd := by rw [hp_i_si, if_pos ⟨rfl, rfl⟩]
  have e4 : hp_i (hp_si h m 6 (nI kd)) m 4 = nI (sk T L a) := by rw [hp_i_si, if_neg (by omega)]; exact h4
  rw [T_232 hk64 e6, e4, nI_add]
  have H1 : hp_fr (S_tk m) h0 (hp_si h m 6 (nI kd)) := hf_si H (by unfold S_tk; omega)
  by_cases z : kd = 3
  · rw [if_pos z]
    have h23 := h3.mp z
    refine pw_some ⟨H1, by rw [hkd]; exact e6, by rw [hp_i_si, if_neg (by omega)]; exact h7, fun y => absurd h23 y, fun y => by omega⟩
  · rw [if_neg z]
    have h23 : lk T L a ≠ 23 := fun y => z (h3.mpr y)
    obtain ⟨n1, n2⟩ := hn h23
    refine pw_some ⟨hf_si H1 (by unfold S_tk; omega), ?_, ?_, fun _ => ⟨?_, ?_⟩, fun y => ?_⟩
    · rw [hp_i_si, if_neg (by omega), hkd]; exact e6
    · rw [hp_i_si, if_neg (by omega), hp_i_si, if_neg (by omega)]; exact h7
    · rw [hp_i_si, if_neg (by omega), hp_i_si, if_neg (by omega), ← n1]; exact h8 z
    · rw [hp_i_si, if_pos ⟨rfl, rfl⟩, n2]
    · show hp_l h m 9 = _
      rw [← hW y]
      exact h9 (by rw [← hkd]; unfold rk; rw [if_pos y])
theorem M_lex {m L a : Nat} {T : Nat → Nat} {h : HP} (hc : MTC m L T h) (h4 : hp_i h m 4 = nI a) (ha : a ≤ L) : pw (f_M_token m h) (fun g => hp_fr (S_tk m) h g ∧ LEX m L a T g) := by
  have hL := hc.2.1
  have hT : ∀ k, k < L → T k < 256 := fun k hk => (hc.2.2.2 k hk).1
  have ctx : ∀ g, hp_fr (S_tk m) h g → MTC m L T g := fun g H => MTC_tk H hc
  have hs := sk_le (T := T) ha
  unfold f_M_token
  refine pw_cnt (sk T L a - a) (fun i g => hp_fr (S_tk m) h g ∧ hp_i g m 4 = nI (a + i)) ?_ ?_ 0 h (by omega) ⟨hp_fr_rf h, h4⟩
  · rintro i g hi ⟨H, g4⟩
    have hno := fa_first_no (fun d => !isB (btx T L (a + d))) (L - a) i (by unfold sk at hi; omega)
    have hB : isB (btx T L (a + i)) = true := by
      cases z : isB (btx T L (a + i))
      · simp only [z] at hno; exact absurd hno (by decide)
      · rfl
    have bb := bvb hT (a + i)
    unfold f_M_tokenb f_M_token_20
    rw [show (0 : Int32) = nI 0 from rfl, bn_o (M_here (ctx g H) g4 (by omega)), Nat.add_zero]
    dsimp only
    unfold isB at hB
    simp only [Bool.or_eq_true, decide_eq_true_eq] at hB
    by_cases z : btx T L (a + i) = 32
    · rw [if_pos (bb.2.2.2.2.2.2.1.mpr z), g4, nI_1, xx_lE]
      exact pw_L rfl ⟨hf_si H (by unfold S_tk; omega), by rw [hp_i_si, if_pos ⟨rfl, rfl⟩]; rfl⟩
    · rw [if_neg (fun y => z (bb.2.2.2.2.2.2.1.mp y)), bn_o (M_here (ctx g H) g4 (by omega)), Nat.add_zero]
      dsimp only
      rw [if_pos (bb.2.2.2.2.2.2.2.1.mpr (by omega)), g4, nI_1, xx_lE]
      exact pw_L rfl ⟨hf_si H (by unfold S_tk; omega), by rw [hp_i_si, if_pos ⟨rfl, rfl⟩]; rfl⟩
  · rintro g ⟨H, g4⟩
    rw [show a + (sk T L a - a) = sk T L a by omega] at g4
    have bb := bvb hT (sk T L a)
    have hnb : isB (btx T L (sk T L a)) = false := by
      by_cases z : sk T L a < L
      · have hy := fa_first_yes (fun d => !isB (btx T L (a + d))) (L - a) (by unfold sk at z; omega)
        have e : a + fa_first (fun d => !isB (btx T L (a + d))) (L - a) = sk T L a := rfl
        simp only [e] at hy
        cases y : isB (btx T L (sk T L a))
        · rfl
        · rw [y] at hy; exact absurd hy (by decide)
      · rw [bt_out (by omega)]; rfl
    unfold isB at hnb
    simp only [Bool.or_eq_false_iff, decide_eq_false_iff_not] at hnb
    unfold f_M_tokenb
    rw [show (0 : Int32) = nI 0 from rfl, bn_o (M_here (ctx g H) g4 (by omega)), Nat.add_zero]
    dsimp only
    rw [if_neg (fun y => hnb.1 (bb.2.2.2.2.2.2.1.mp y)), bn_o (M_here (ctx g H) g4 (by omega)), Nat.add_zero]
    dsimp only
    rw [if_neg (fun y => hnb.2 (bb.2.2.2.2.2.2.2.1.mp y))]
    refine pw_mapR ?_
    unfold f_M_token_33
    rw [g4, xx_lE]
    obtain ⟨g1, hg1⟩ : ∃ g1, hp_si g m 7 (nI (sk T L a)) = g1 := ⟨_, rfl⟩
    rw [hg1]
    have H1 : hp_fr (S_tk m) h g1 := by rw [← hg1]; exact hf_si H (by unfold S_tk; omega)
    have e4 : hp_i g1 m 4 = nI (sk T L a) := by rw [← hg1, hp_i_si, if_neg (by omega)]; exact g4
    have e7 : hp_i g1 m 7 = nI (sk T L a) := by rw [← hg1, hp_i_si, if_pos ⟨rfl, rfl⟩]
    rw [show (0 : Int32) = nI 0 from rfl, bn_o (M_here (ctx g1 H1) e4 (by omega)), Nat.add_zero]
    simp only [xx_lE]
    obtain ⟨g2, hg2⟩ : ∃ g2, hp_si (hp_sl g1 m 9 0) m 8 (nI 0) = g2 := ⟨_, rfl⟩
    rw [hg2]
    have H2 : hp_fr (S_tk m) h g2 := by rw [← hg2]; exact hf_si (hf_sl H1 (by unfold S_tk; omega)) (by unfold S_tk; omega)
    have f4 : hp_i g2 m 4 = nI (sk T L a) := by rw [← hg2, hp_i_si, if_neg (by omega)]; exact e4
    have f7 : hp_i g2 m 7 = nI (sk T L a) := by rw [← hg2, hp_i_si, if_neg (by omega)]; exact e7
    have f8 : hp_i g2 m 8 = nI 0 := by rw [← hg2, hp_i_si, if_pos ⟨rfl, rfl⟩]
    have f9 : hp_l g2 m 9 = lN 0 := by rw [← hg2]; show hp_l (hp_sl g1 m 9 0) m 9 = _; rw [hp_l_sl, if_pos ⟨rfl, rfl⟩]; rfl
    by_cases zE : btx T L (sk T L a) = 256
    · have hlk : lk T L a = 22 := by unfold lk; rw [zE]; rfl
      have hge : ¬ sk T L a < L := fun y => by have := hT _ y; rw [bt_in y] at zE; omega
      rw [if_neg (show ¬ nI 0 ≤ bv (btx T L (sk T L a)) from fun y => by have := bb.2.2.2.2.2.2.2.2.2.2.1.mp y; omega)]
      refine T_fin (kd := 0) (v := 0) (nn := 0) (W := 0) ha hL H2 f4 f7 (fun _ => f8) (fun y => absurd y (by decide)) (by rw [hlk]; rfl) (by decide) (by rw [hlk]; decide) (fun _ => ⟨by rw [hlk]; rfl, ?_⟩) (fun y => by omega)
      unfold lnx
      rw [zE, if_neg (by decide), if_neg (by decide), if_neg hge]; rfl
    have hlt : btx T L (sk T L a) < 256 := by have := bt_lt hT (sk T L a); omega
    have hsL : sk T L a < L := Nat.lt_of_not_le (fun y => zE (bt_out y))
    rw [if_pos (show nI 0 ≤ bv (btx T L (sk T L a)) from bb.2.2.2.2.2.2.2.2.2.2.1.mpr hlt), bn_o (LT_M _ _).1, bb.1]
    dsimp only
    cases zL : isL (btx T L (sk T L a))
    · rw [nf0, if_pos (show nI 0 = nI 0 from rfl), bn_o (DG_M _ _).1, bb.2.2.1]
      dsimp only
      cases zD : isD (btx T L (sk T L a))
      · rw [nf0, if_pos (show nI 0 = nI 0 from rfl), bn_o (SG_M _ _).1, bb.2.2.2.2.1]
        dsimp only
        unfold f_M_token_229
        have hnx : lnx T L a = sk T L a + 1 := by unfold lnx; rw [zL, zD, if_neg (by decide), if_neg (by decide), if_pos hsL]
        cases zS : isS (btx T L (sk T L a))
        · have hlk : lk T L a = 23 := by unfold lk; rw [zL, zD, zS, if_neg (by decide), if_neg (by decide), if_neg (by decide), if_neg zE]
          rw [nf0, if_pos (show nI 0 = nI 0 from rfl), xx_lE, show (1 : Int32) = nI 1 from rfl, show (3 : Int32) = nI 3 from rfl]
          exact T_fin (kd := 3) (v := 1) (nn := 0) (W := 0) ha hL H2 f4 f7 (fun _ => f8) (fun y => absurd y (by decide)) (by rw [hlk]; rfl) (by decide) (by rw [hlk]; decide) (fun y => absurd hlk y) (fun y => by omega)
        · have hlk : lk T L a = btx T L (sk T L a) := by unfold lk; rw [zL, zD, zS, if_neg (by decide), if_neg (by decide), if_pos rfl]
          have hsg := isS_r.mp zS
          rw [nt1, if_neg (show ¬ nI 1 = nI 0 by decide), xx_lE, (bb.2.2.2.2.2.2.2.2.2.2.2 (by omega)).1, show (1 : Int32) = nI 1 from rfl]
          exact T_fin (kd := btx T L (sk T L a)) (v := 1) (nn := 0) (W := 0) ha hL H2 f4 f7 (fun _ => f8) (fun y => by omega) (by rw [hlk]; exact (rk_eq (by omega)).mpr rfl) (by omega) (by omega) (fun y => ⟨by rw [if_neg (by omega)], hnx⟩) (fun y => by omega)
      · rw [nt1, if_neg (show ¬ nI 1 = nI 0 by decide)]
        have hdp := dl_pos zD
        have hdl := dl_le T L (sk T L a)
        have hnx : lnx T L a = sk T L a + dl T L (sk T L a) := by unfold lnx; rw [zL, zD, if_neg (by decide), if_pos rfl]
        unfold f_M_token_144
        refine pw_cnt (dl T L (sk T L a)) (fun i t => t.1 = nI i ∧ hp_fr (S_tk m) h t.2 ∧ hp_i t.2 m 4 = nI (sk T L a) ∧ hp_i t.2 m 7 = nI (sk T L a) ∧ hp_i t.2 m 8 = nI (wN (fun i => T (sk T L a + i)) (if i ≤ 4 then i else 4))) ?_ ?_ 0 (nI 0, g2) (by omega) ⟨rfl, H2, f4, f7, f8⟩
        · rintro i ⟨_, q⟩ hi ⟨rfl, Hq, q4, q7, q8⟩
          dsimp only at Hq q4 q7 q8 ⊢
          obtain ⟨d1, d2⟩ := dl_in hi
          have dd := bvb hT (sk T L a + i)
          have dg := nd_dig (T := T) (L := L) i hi
          unfold f_M_token_144b f_M_token_180
          rw [bn_o (M_here (ctx q Hq) q4 (by omega))]
          dsimp only
          rw [bn_o (DG_M _ _).1, dd.2.2.1, d1, nt1]
          dsimp only
          rw [if_neg (show ¬ nI 1 = (0 : Int32) by decide)]
          by_cases zi : 4 ≤ i
          · rw [if_pos (show (4 : Int32) ≤ nI i from nI_le (a := 4) zi (by omega)), xx_lE, nI_1]
            refine pw_L rfl ⟨rfl, Hq, q4, q7, ?_⟩
            rw [q8]
            by_cases z4 : i = 4
            · rw [if_pos (by omega), if_neg (by omega), z4]
            · rw [if_neg (by omega), if_neg (by omega)]
          · rw [if_neg (show ¬ (4 : Int32) ≤ nI i from nI_ge (b := 4) (by omega) (by decide)), bn_o (M_here (ctx q Hq) q4 (by omega))]
            dsimp only
            rw [q8, if_pos (show i ≤ 4 by omega), (dd.2.2.2.2.2.2.2.2.2.2.2 (by rw [bt_in d2]; omega)).1, bt_in d2, show (10 : Int32) = nI 10 from rfl, show (48 : Int32) = nI 48 from rfl, pk_mul, nI_add, pk_sub (by omega), xx_lE, xx_lE, nI_1]
            refine pw_L rfl ⟨rfl, hf_si Hq (by unfold S_tk; omega), by rw [hp_i_si, if_neg (by omega)]; exact q4, by rw [hp_i_si, if_neg (by omega)]; exact q7, ?_⟩
            rw [hp_i_si, if_pos ⟨rfl, rfl⟩, if_pos (show i + 1 ≤ 4 by omega)]
            show nI _ = nI (wN (fun i => T (sk T L a + i)) i * 10 + (T (sk T L a + i) - 48))
            congr 1
            omega
        · rintro ⟨_, q⟩ ⟨rfl, Hq, q4, q7, q8⟩
          dsimp only at Hq q4 q7 q8 ⊢
          have dd := bvb hT (sk T L a + dl T L (sk T L a))
          have de := dl_end (T := T) (L := L) (s := sk T L a) (by omega)
          unfold f_M_token_144b f_M_token_186 f_M_token_203 f_M_token_208
          rw [bn_o (M_here (ctx q Hq) q4 (by omega))]
          dsimp only
          rw [bn_o (DG_M _ _).1, dd.2.2.1, de, nf0]
          dsimp only
          rw [if_pos (show nI 0 = (0 : Int32) from rfl)]
          refine pw_mapR ?_
          have bad : lk T L a = 23 → pw (xx_l (hp_si q m 6 (3 : Int32)) fun h_15 => f_M_token_232 m (nI (dl T L (sk T L a))) h_15) (fun g => hp_fr (S_tk m) h g ∧ LEX m L a T g) := by
            intro hlk
            rw [xx_lE, show (3 : Int32) = nI 3 from rfl]
            exact T_fin (kd := 3) (nn := 0) (W := 0) ha hL Hq q4 q7 (fun y => absurd rfl y) (fun y => absurd y (by decide)) (by rw [hlk]; rfl) (by decide) (by rw [hlk]; decide) (fun y => absurd hlk y) (fun y => by omega)
          by_cases z4 : 4 < dl T L (sk T L a)
          · rw [if_pos (show (4 : Int32) < nI (dl T L (sk T L a)) from nI_lt (a := 4) z4 (by omega))]
            exact bad (by unfold lk; rw [zL, zD, if_neg (by decide), if_pos rfl, if_neg (by omega)])
          · rw [if_neg (show ¬ (4 : Int32) < nI (dl T L (sk T L a)) from nI_nlt (a := 4) (by omega) (by omega)), bn_o (M_here (ctx q Hq) q4 (by omega))]
            dsimp only
            rw [bn_o (LT_M _ _).1, dd.1]
            dsimp only
            cases zl : isL (btx T L (sk T L a + dl T L (sk T L a)))
            · have hlk : lk T L a = 21 := by unfold lk; rw [zL, zD, if_neg (by decide), if_pos rfl, if_pos ⟨by omega, zl⟩]
              rw [nf0, if_pos (show nI 0 = (0 : Int32) from rfl), xx_lE, show (2 : Int32) = nI 2 from rfl]
              rw [if_pos (by omega)] at q8
              exact T_fin (kd := 2) (nn := wN (fun i => T (sk T L a + i)) (dl T L (sk T L a))) (W := 0) ha hL Hq q4 q7 (fun _ => q8) (fun y => absurd y (by decide)) (by rw [hlk]; rfl) (by decide) (by rw [hlk]; decide) (fun y => ⟨by rw [if_pos hlk], hnx⟩) (fun y => by omega)
            · rw [nt1, if_neg (show ¬ nI 1 = (0 : Int32) by decide)]
              exact bad (by unfold lk; rw [zL, zD, if_neg (by decide), if_pos rfl, zl, if_neg (fun y => absurd y.2 (by decide))])
    · rw [nt1, if_neg (show ¬ nI 1 = nI 0 by decide)]
      have hwp := wl_pos zL
      have hwl := wl_le T L (sk T L a)
      have hnx : lnx T L a = sk T L a + wl T L (sk T L a) := by unfold lnx; rw [zL, if_pos rfl]
      unfold f_M_token_78
      refine pw_cnt (wl T L (sk T L a)) (fun i t => t.1 = nI i ∧ hp_fr (S_tk m) h t.2 ∧ hp_i t.2 m 4 = nI (sk T L a) ∧ hp_i t.2 m 7 = nI (sk T L a) ∧ hp_i t.2 m 8 = nI 0 ∧ hp_l t.2 m 9 = lN (wW (fun i => T (sk T L a + i)) (if i ≤ 8 then i else 8))) ?_ ?_ 0 (nI 0, g2) (by omega) ⟨rfl, H2, f4, f7, f8, f9⟩
      · rintro i ⟨_, q⟩ hi ⟨rfl, Hq, q4, q7, q8, q9⟩
        dsimp only at Hq q4 q7 q8 q9 ⊢
        obtain ⟨d1, d2⟩ := wl_in hi
        have dd := bvb hT (sk T L a + i)
        have dg := wd_let (T := T) (L := L) i hi
        unfold f_M_token_78b f_M_token_113
        rw [bn_o (M_here (ctx q Hq) q4 (by omega))]
        dsimp only
        rw [bn_o (LT_M _ _).1, dd.1, d1, nt1]
        dsimp only
        rw [if_neg (show ¬ nI 1 = (0 : Int32) by decide)]
        by_cases zi : 8 ≤ i
        · rw [if_pos (show (8 : Int32) ≤ nI i from nI_le (a := 8) zi (by omega)), xx_lE, nI_1]
          refine pw_L rfl ⟨rfl, Hq, q4, q7, q8, ?_⟩
          rw [q9]
          by_cases z4 : i = 8
          · rw [if_pos (by omega), if_neg (by omega), z4]
          · rw [if_neg (by omega), if_neg (by omega)]
        · have hwb := (wW_b (f := fun i => T (sk T L a + i)) i (fun j hj => wd_let (T := T) (L := L) j (by omega)) (by omega)).1
          have h55 : wW (fun i => T (sk T L a + i)) i < 2 ^ 56 := Nat.lt_of_lt_of_le hwb (Nat.pow_le_pow_right (by decide) (by omega))
          have h55' : wW (fun i => T (sk T L a + i)) i < 2 ^ 55 := by
            by_cases z : 0 < i
            · have h2 := (wW_b (f := fun i => T (sk T L a + i)) i (fun j hj => wd_let (T := T) (L := L) j (by omega)) (by omega)).2 z
              have h3 : 2 ^ (8 * i) ≤ 2 ^ 56 := Nat.pow_le_pow_right (by decide) (by omega)
              simp only [Nat.reducePow] at h3 ⊢
              omega
            · rw [show i = 0 by omega]; exact (show 0 < 2 ^ 55 by decide)
          rw [if_neg (show ¬ (8 : Int32) ≤ nI i from nI_ge (b := 8) (by omega) (by decide)), bn_o (M_here (ctx q Hq) q4 (by omega))]
          dsimp only
          rw [q9, if_pos (show i ≤ 8 by omega), (dd.2.2.2.2.2.2.2.2.2.2.2 (by rw [bt_in d2]; omega)).1, bt_in d2, or8 h55' (by omega), xx_lE, xx_lE, nI_1]
          refine pw_L rfl ⟨rfl, hf_sl Hq (by unfold S_tk; omega), q4, q7, q8, ?_⟩
          rw [hp_l_sl, if_pos ⟨rfl, rfl⟩, if_pos (show i + 1 ≤ 8 by omega)]
          rfl
      · rintro ⟨_, q⟩ ⟨rfl, Hq, q4, q7, q8, q9⟩
        dsimp only at Hq q4 q7 q8 q9 ⊢
        have dd := bvb hT (sk T L a + wl T L (sk T L a))
        have de := wl_end (T := T) (L := L) (s := sk T L a) (by omega)
        unfold f_M_token_78b f_M_token_119 f_M_token_131
        rw [bn_o (M_here (ctx q Hq) q4 (by omega))]
        dsimp only
        rw [bn_o (LT_M _ _).1, dd.1, de, nf0]
        dsimp only
        rw [if_pos (show nI 0 = (0 : Int32) from rfl)]
        refine pw_mapR ?_
        by_cases z8 : wl T L (sk T L a) ≤ 8
        · have hlk : lk T L a = wkd (wW (fun i => T (sk T L a + i)) (wl T L (sk T L a))) := by unfold lk; rw [zL, if_pos rfl, if_pos z8]
          have hle := wk_le (wW (fun i => T (sk T L a + i)) (wl T L (sk T L a)))
          rw [if_pos (show nI (wl T L (sk T L a)) ≤ (8 : Int32) from nI_le (b := 8) z8 (by decide)), xx_lE, show (1 : Int32) = nI 1 from rfl]
          rw [if_pos z8] at q9
          exact T_fin (kd := 1) (nn := 0) (W := wW (fun i => T (sk T L a + i)) (wl T L (sk T L a))) ha hL Hq q4 q7 (fun _ => q8) (fun _ => q9) (by unfold rk; rw [if_pos (by omega)]) (by decide) (by omega) (fun y => ⟨by rw [if_neg (by omega)], hnx⟩) (fun y => rfl)
        · have hlk : lk T L a = 23 := by unfold lk; rw [zL, if_pos rfl, if_neg z8]
          rw [if_neg (show ¬ nI (wl T L (sk T L a)) ≤ (8 : Int32) from nI_ge (a := 8) (by omega) (by omega)), xx_lE, show (3 : Int32) = nI 3 from rfl]
          exact T_fin (kd := 3) (nn := 0) (W := 0) ha hL Hq q4 q7 (fun y => absurd rfl y) (fun y => absurd y (by decide)) (by rw [hlk]; rfl) (by decide) (by rw [hlk]; decide) (fun y => absurd hlk y) (fun y => by omega)
theorem LEX_MTK {T : Nat → Nat} {L m k : Nat} {g : HP} (hk : k ≤ t_N (TKL T L)) (h : LEX m L (lp T L k) T g) : MTK (TKL T L) (lp T L) m k g := ⟨hk, h.1, h.2.1, h.2.2.1, h.2.2.2⟩
theorem TKL_T {T : Nat → Nat} {L m : Nat} : TOKS (TKL T L) (lp T L) m L T := by
  intro k h hc hk hm
  have hL := hc.2.1
  have h23 := ((TKL_ok (T := T) hL).2.1 k hk).2
  refine pw_mono (M_lex hc (hm.2.2.2.1 h23).2 (lp_le T L (k + 1))) ?_
  rintro g ⟨H, q⟩
  exact ⟨H, LEX_MTK hk q⟩
