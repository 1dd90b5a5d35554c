/-! the reference's line, by its first word -/
theorem M_lineOf {K : TKS} {ps : Nat → Nat} {m L F k : Nat} {T : Nat → Nat} {P : PT} {cn nk : Nat → Nat} {h : HP} (ok : TKO K) (hr : RSS K ps m L T P cn nk F k h) : f_M_lineOf m h = some (if t_k K k < 4 ∧ F / 2 ^ (t_k K k) % 2 = 0 then nI (t_k K k) else -1, h) := by
  obtain ⟨⟨r1, r2, r3⟩, q⟩ := hr
  have fl := q.2.2.2.2.2.2.2.2.2.2.2.2.2.2.2.2
  have w : ∀ j, j < 20 → ∀ {T : Type} (f : Int32 × HP → Option T), (f_M_isWord m (lN (cst j)) h).bind f = f (nI (if t_k K k = j then 1 else 0), h) := fun j hj T f => bn_o (M_word ok r3 hj) f
  unfold f_M_lineOf
  rw [show (465491030131 : Int64) = lN (cst 0) from rfl, show (427238321253 : Int64) = lN (cst 1) from rfl, show (439720963187 : Int64) = lN (cst 2) from rfl, show (495873782388 : Int64) = lN (cst 3) from rfl]
  have e57 : ∀ j, j < 4 → f_M_lineOf_57 m (nI j) h = some (if F / 2 ^ j % 2 = 0 then nI j else -1, h) := by
    intro j hj
    have hb : F / 2 ^ j % 2 < 2 := Nat.mod_lt _ (by decide)
    unfold f_M_lineOf_57
    rw [if_neg (nI_pos (by omega)), mb_19 r1.1, mn_11 r1.1, if_pos (hp_in_nI hj (by omega)), nI_clamp (by omega), fl j hj]
    by_cases z : F / 2 ^ j % 2 = 0
    · rw [z, if_pos (show nI 0 = (0 : Int32) from rfl), if_pos rfl]
    · rw [if_neg (nI_ne0 (by omega) (by omega)), if_neg z]
  generalize t_k K k = t at *
  have yes : ∀ j, j < 4 → t = j → some (if F / 2 ^ j % 2 = 0 then nI j else -1, h) = some (if t < 4 ∧ F / 2 ^ t % 2 = 0 then nI t else -1, h) := by
    intro j hj e
    subst e
    by_cases z : F / 2 ^ t % 2 = 0
    · rw [if_pos z, if_pos ⟨hj, z⟩]
    · rw [if_neg z, if_neg (fun y => z y.2)]
  rw [w 0 (by decide)]
  dsimp only
  by_cases z0 : t = 0
  · rw [if_pos z0, if_neg (show ¬ nI 1 = (0 : Int32) by decide)]; exact (e57 0 (by decide)).trans (yes 0 (by decide) z0)
  rw [if_neg z0, if_pos (show nI 0 = (0 : Int32) from rfl), w 1 (by decide)]
  dsimp only
  by_cases z1 : t = 1
  · rw [if_pos z1, if_neg (show ¬ nI 1 = (0 : Int32) by decide)]; exact (e57 1 (by decide)).trans (yes 1 (by decide) z1)
  rw [if_neg z1, if_pos (show nI 0 = (0 : Int32) from rfl), w 2 (by decide)]
  dsimp only
  by_cases z2 : t = 2
  · rw [if_pos z2, if_neg (show ¬ nI 1 = (0 : Int32) by decide)]; exact (e57 2 (by decide)).trans (yes 2 (by decide) z2)
  rw [if_neg z2, if_pos (show nI 0 = (0 : Int32) from rfl), w 3 (by decide)]
  dsimp only
  by_cases z3 : t = 3
  · rw [if_pos z3, if_neg (show ¬ nI 1 = (0 : Int32) by decide)]; exact (e57 3 (by decide)).trans (yes 3 (by decide) z3)
  rw [if_neg z3, if_pos (show nI 0 = (0 : Int32) from rfl)]
  unfold f_M_lineOf_57
  rw [if_pos (show (-1 : Int32) < 0 by decide), if_neg (by omega)]
theorem M_rl_bad {K : TKS} {ps : Nat → Nat} {m L F k : Nat} {T : Nat → Nat} {P : PT} {cn nk : Nat → Nat} {h : HP} (ok : TKO K) (hv : VAL K P cn nk F) (hr : RSS K ps m L T P cn nk F k h) (h1 : ¬ (t_k K k < 4 ∧ F / 2 ^ (t_k K k) % 2 = 0)) (h7 : ¬ (t_k K k = 7 ∧ p_nr P < 4)) (h10 : ¬ (t_k K k = 10 ∧ p_nu P < 16)) : f_M_readLine m h = (f_M_wrong m (nI 2) h).bind fun x => f_M_readLine_152 m x := by
  have hnr := hv.1.2.2.2.2.1
  have hnu := hv.1.2.2.2.2.2.2.1
  unfold f_M_readLine
  rw [bn_o (M_lineOf ok hr), if_neg h1]
  dsimp only
  unfold f_M_readLine_16 f_M_readLine_29 f_M_readLine_121 f_M_readLine_147
  have w : ∀ j, j < 20 → ∀ {T : Type} (f : Int32 × HP → Option T), (f_M_isWord m (lN (cst j)) h).bind f = f (nI (if t_k K k = j then 1 else 0), h) := fun j hj T f => bn_o (M_word ok hr.1.2.2 hj) f
  rw [if_pos (show (-1 : Int32) < 0 by decide), if_pos (show (-1 : Int32) < 0 by decide), if_neg (show ¬ (-1 : Int32) = 0 by decide), if_neg (show ¬ (-1 : Int32) = 1 by decide), if_neg (show ¬ (-1 : Int32) = 2 by decide), if_neg (show ¬ (-1 : Int32) = 3 by decide), show (1919904869 : Int64) = lN (cst 7) from rfl, show (1920298085 : Int64) = lN (cst 10) from rfl, show (2 : Int32) = nI 2 from rfl, w 7 (by decide)]
  dsimp only
  have fin : (((f_M_isWord m (lN (cst 10)) h).bind fun x_12 => if x_12.1 = 0 then (f_M_wrong m (nI 2) x_12.2).bind fun x_13 => f_M_readLine_152 m x_13 else if (16 : Int32) ≤ hp_i x_12.2 m 26 then (f_M_wrong m (nI 2) x_12.2).bind fun x_13 => f_M_readLine_152 m x_13 else (f_M_readRule m x_12.2).bind fun x_14 => f_M_readLine_152 m x_14)) = (f_M_wrong m (nI 2) h).bind fun x => f_M_readLine_152 m x := by
    rw [w 10 (by decide)]
    dsimp only
    by_cases z : t_k K k = 10
    · rw [if_pos z, if_neg (show ¬ nI 1 = (0 : Int32) by decide), hr.2.2.2.2.2.2.2.1, if_pos (show (16 : Int32) ≤ nI (p_nu P) from nI_le (a := 16) (by omega) (by omega))]
    · rw [if_neg z, if_pos (show nI 0 = (0 : Int32) from rfl)]
  by_cases z : t_k K k = 7
  · rw [if_pos z, if_neg (show ¬ nI 1 = (0 : Int32) by decide), hr.2.2.2.2.2.1, if_pos (show (4 : Int32) ≤ nI (p_nr P) from nI_le (a := 4) (by omega) (by omega))]
    exact fin
  · rw [if_neg z, if_pos (show nI 0 = (0 : Int32) from rfl)]
    exact fin
theorem L_fin {K : TKS} {ps : Nat → Nat} {r pl m L F k kk : Nat} {T : Nat → Nat} {P : PT} {cn nk : Nat → Nat} {fM : HP → Option HP} {fC : HP → Option HP} {g : HP} (hT : TOKS K ps m L T) (hx : CTX K r pl g) (hb : pw (fC g) (BOUT K ps r pl m L T P cn nk F k kk fM g)) (he : ∀ h, RSS K ps m L T P cn nk F k h → f_M_readLine m h = (fM h).bind fun x => f_M_readLine_152 m x) : pw ((fC g).bind fun x => f_Rd_readLine_90 r x) (BOUT K ps r pl m L T P cn nk F k (kk + 1) (f_M_readLine m) g) := by
  refine pw_bind (pw_mono hb ?_)
  intro g' hb'
  refine pw_mono (L_end hT hx hb') ?_
  rintro g2 ⟨H, z⟩
  refine ⟨H, ?_⟩
  rcases z with ⟨c, p, z1, z2, z3⟩ | ⟨P', cn', nk', F', k', z1, z2, z3, z4⟩
  · exact .inl ⟨c, p, z1, z2, fun h hr => by rw [he h hr]; exact z3 h hr⟩
  · exact .inr ⟨P', cn', nk', F', k', z1, z2, z3, fun h hr => by rw [he h hr]; exact z4 h hr⟩
/-- refused at once -/
theorem L_bad {K : TKS} {ps : Nat → Nat} {r pl m L F k : Nat} {T : Nat → Nat} {P : PT} {cn nk : Nat → Nat} {g : HP} (hx : CTX K r pl g) (hv : VAL K P cn nk F) (hs : CS K r pl P nk F k g) : pw (f_Rd_refuse r (2 : Int32) g) (BOUT K ps r pl m L T P cn nk F k k (fun h => f_M_wrong m (nI 2) h) g) := by
  rw [show (2 : Int32) = nI 2 from rfl]
  refine pw_mono (R_ref hx hs.1 (by decide) (by decide)) ?_
  rintro g' ⟨H, D⟩
  refine ⟨ra_cl H, .inl ⟨2, t_s K k, D, PLB_ra hx.1 H (CS_PLB hv hs), fun h hr => ?_⟩⟩
  refine pw_mono (M_wr hx.2.1 hr.1 (by decide) (by decide)) ?_
  rintro h' ⟨H', q1, q2⟩
  rw [if_neg hs.1.2.1] at q2
  exact ⟨ln_rf H', q1, .inl q2⟩
theorem bits : ∀ F : Fin 16, ∀ t : Fin 4, ((nI F.1 &&& ((1 : Int32) <<< (nI t.1 &&& 31)) = 0) ↔ F.1 / 2 ^ t.1 % 2 = 0) ∧ (F.1 / 2 ^ t.1 % 2 = 0 → nI F.1 ||| ((1 : Int32) <<< (nI t.1 &&& 31)) = nI (F.1 + 2 ^ t.1) ∧ F.1 + 2 ^ t.1 < 16 ∧ ∀ i : Fin 4, (F.1 + 2 ^ t.1) / 2 ^ i.1 % 2 = if i.1 = t.1 then 1 else F.1 / 2 ^ i.1 % 2) := by decide +kernel
