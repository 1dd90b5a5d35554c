/-! the heap's picture: ints, longs, references by address and place; kinds; lengths; the next address; slots used -/
abbrev HP : Type := (Nat → Nat → Int32) × (Nat → Nat → Int64) × (Nat → Nat → Option Nat) × (Nat → Nat) × (Nat → Nat) × Nat × Nat
def hp_i (h : HP) (a k : Nat) : Int32 := h.1 a k
def hp_l (h : HP) (a k : Nat) : Int64 := h.2.1 a k
def hp_r (h : HP) (a k : Nat) : Option Nat := h.2.2.1 a k
def hp_k (h : HP) (a : Nat) : Nat := h.2.2.2.1 a
def hp_n (h : HP) (a : Nat) : Nat := h.2.2.2.2.1 a
def hp_z (h : HP) : Nat := h.2.2.2.2.2.1
def hp_s (h : HP) : Nat := h.2.2.2.2.2.2
def hp_u {α : Type} (f : Nat → Nat → α) (a k : Nat) (v : α) : Nat → Nat → α := fun b j => if b = a ∧ j = k then v else f b j
def hp_si (h : HP) (a k : Nat) (v : Int32) : HP := (hp_u h.1 a k v, h.2)
def hp_sl (h : HP) (a k : Nat) (v : Int64) : HP := (h.1, hp_u h.2.1 a k v, h.2.2)
def hp_sr (h : HP) (a k : Nat) (v : Option Nat) : HP := (h.1, h.2.1, hp_u h.2.2.1 a k v, h.2.2.2)
/-- a new cell of kind k, length n, sz slots -/
def hp_nw (h : HP) (k n sz : Nat) : HP := (fun b j => if b = hp_z h then 0 else h.1 b j, fun b j => if b = hp_z h then 0 else h.2.1 b j, fun b j => if b = hp_z h then none else h.2.2.1 b j, fun b => if b = hp_z h then k else hp_k h b, fun b => if b = hp_z h then n else hp_n h b, hp_z h + 1, hp_s h + sz)
/-- ints copied from one array to another -/
def hp_cp (h : HP) (a0 sp a dp n : Nat) : HP := (fun b j => if b = a then va_cpy (h.1 a0) (h.1 a) sp dp n j else h.1 b j, h.2)
theorem hp_i_si (h : HP) (a k : Nat) (v : Int32) (b j : Nat) : hp_i (hp_si h a k v) b j = if b = a ∧ j = k then v else hp_i h b j := rfl
theorem hp_l_si (h : HP) (a k : Nat) (v : Int32) (b j : Nat) : hp_l (hp_si h a k v) b j = hp_l h b j := rfl
theorem hp_r_si (h : HP) (a k : Nat) (v : Int32) (b j : Nat) : hp_r (hp_si h a k v) b j = hp_r h b j := rfl
theorem hp_k_si (h : HP) (a k : Nat) (v : Int32) (b : Nat) : hp_k (hp_si h a k v) b = hp_k h b := rfl
theorem hp_n_si (h : HP) (a k : Nat) (v : Int32) (b : Nat) : hp_n (hp_si h a k v) b = hp_n h b := rfl
theorem hp_z_si (h : HP) (a k : Nat) (v : Int32) : hp_z (hp_si h a k v) = hp_z h := rfl
theorem hp_s_si (h : HP) (a k : Nat) (v : Int32) : hp_s (hp_si h a k v) = hp_s h := rfl
theorem hp_i_sl (h : HP) (a k : Nat) (v : Int64) (b j : Nat) : hp_i (hp_sl h a k v) b j = hp_i h b j := rfl
theorem hp_l_sl (h : HP) (a k : Nat) (v : Int64) (b j : Nat) : hp_l (hp_sl h a k v) b j = if b = a ∧ j = k then v else hp_l h b j := rfl
theorem hp_r_sl (h : HP) (a k : Nat) (v : Int64) (b j : Nat) : hp_r (hp_sl h a k v) b j = hp_r h b j := rfl
theorem hp_k_sl (h : HP) (a k : Nat) (v : Int64) (b : Nat) : hp_k (hp_sl h a k v) b = hp_k h b := rfl
theorem hp_n_sl (h : HP) (a k : Nat) (v : Int64) (b : Nat) : hp_n (hp_sl h a k v) b = hp_n h b := rfl
theorem hp_z_sl (h : HP) (a k : Nat) (v : Int64) : hp_z (hp_sl h a k v) = hp_z h := rfl
theorem hp_s_sl (h : HP) (a k : Nat) (v : Int64) : hp_s (hp_sl h a k v) = hp_s h := rfl
theorem hp_i_sr (h : HP) (a k : Nat) (v : Option Nat) (b j : Nat) : hp_i (hp_sr h a k v) b j = hp_i h b j := rfl
theorem hp_l_sr (h : HP) (a k : Nat) (v : Option Nat) (b j : Nat) : hp_l (hp_sr h a k v) b j = hp_l h b j := rfl
theorem hp_r_sr (h : HP) (a k : Nat) (v : Option Nat) (b j : Nat) : hp_r (hp_sr h a k v) b j = if b = a ∧ j = k then v else hp_r h b j := rfl
theorem hp_k_sr (h : HP) (a k : Nat) (v : Option Nat) (b : Nat) : hp_k (hp_sr h a k v) b = hp_k h b := rfl
theorem hp_n_sr (h : HP) (a k : Nat) (v : Option Nat) (b : Nat) : hp_n (hp_sr h a k v) b = hp_n h b := rfl
theorem hp_z_sr (h : HP) (a k : Nat) (v : Option Nat) : hp_z (hp_sr h a k v) = hp_z h := rfl
theorem hp_s_sr (h : HP) (a k : Nat) (v : Option Nat) : hp_s (hp_sr h a k v) = hp_s h := rfl
theorem hp_i_nw (h : HP) (k n sz : Nat) (b j : Nat) : hp_i (hp_nw h k n sz) b j = if b = hp_z h then 0 else hp_i h b j := rfl
theorem hp_l_nw (h : HP) (k n sz : Nat) (b j : Nat) : hp_l (hp_nw h k n sz) b j = if b = hp_z h then 0 else hp_l h b j := rfl
theorem hp_r_nw (h : HP) (k n sz : Nat) (b j : Nat) : hp_r (hp_nw h k n sz) b j = if b = hp_z h then none else hp_r h b j := rfl
theorem hp_k_nw (h : HP) (k n sz : Nat) (b : Nat) : hp_k (hp_nw h k n sz) b = if b = hp_z h then k else hp_k h b := rfl
theorem hp_n_nw (h : HP) (k n sz : Nat) (b : Nat) : hp_n (hp_nw h k n sz) b = if b = hp_z h then n else hp_n h b := rfl
theorem hp_z_nw (h : HP) (k n sz : Nat) : hp_z (hp_nw h k n sz) = hp_z h + 1 := rfl
theorem hp_s_nw (h : HP) (k n sz : Nat) : hp_s (hp_nw h k n sz) = hp_s h + sz := rfl
theorem hp_i_cp (h : HP) (a0 sp a dp n : Nat) (b j : Nat) : hp_i (hp_cp h a0 sp a dp n) b j = if b = a then va_cpy (hp_i h a0) (hp_i h a) sp dp n j else hp_i h b j := rfl
theorem hp_l_cp (h : HP) (a0 sp a dp n : Nat) (b j : Nat) : hp_l (hp_cp h a0 sp a dp n) b j = hp_l h b j := rfl
theorem hp_r_cp (h : HP) (a0 sp a dp n : Nat) (b j : Nat) : hp_r (hp_cp h a0 sp a dp n) b j = hp_r h b j := rfl
theorem hp_k_cp (h : HP) (a0 sp a dp n : Nat) (b : Nat) : hp_k (hp_cp h a0 sp a dp n) b = hp_k h b := rfl
theorem hp_n_cp (h : HP) (a0 sp a dp n : Nat) (b : Nat) : hp_n (hp_cp h a0 sp a dp n) b = hp_n h b := rfl
theorem hp_z_cp (h : HP) (a0 sp a dp n : Nat) : hp_z (hp_cp h a0 sp a dp n) = hp_z h := rfl
theorem hp_s_cp (h : HP) (a0 sp a dp n : Nat) : hp_s (hp_cp h a0 sp a dp n) = hp_s h := rfl
/-- what is fixed for a run: classes' numbers and slots, arrays' classes, the first address of ours, the literal's two cells -/
abbrev LG : Type := va_G × (Nat → ClassId) × Nat × Nat × Nat
def lg_D (g : LG) : va_G := g.1
def lg_Y (g : LG) : Nat → ClassId := g.2.1
def lg_B (g : LG) : Nat := g.2.2.1
def lg_S (g : LG) : Nat := g.2.2.2.1
def lg_V (g : LG) : Nat := g.2.2.2.2
def lg_A (g : LG) : Nat → Prop := fun q => lg_B g ≤ q
def lg_T (g : LG) : List (ClassId × FieldType) := [(lg_Y g 12, .byte), (lg_Y g 13, .int), (lg_Y g 14, .long), (lg_Y g 15, .boolean), (lg_Y g 16, .object "LampYard$Course")]
def hp_fv (h : HP) (a c k : Nat) : Value := if ly_cat (ly_ty c k) = 0 then .int (hp_i h a k) else if ly_cat (ly_ty c k) = 1 then .long (hp_l h a k) else va_rf (hp_r h a k)
def hp_fs (h : HP) (a c : Nat) : List Value := (List.range (ly_nf c)).map (hp_fv h a c)
def hp_e (g : LG) (h : HP) (a : Nat) : va_E := if hp_k h a = 14 then .inl (lg_Y g 14, hp_n h a, .inr (.inl (hp_l h a))) else if hp_k h a = 16 then .inl (lg_Y g 16, hp_n h a, .inr (.inr (.inr (.inr (hp_r h a))))) else if 12 ≤ hp_k h a then .inl (lg_Y g (hp_k h a), hp_n h a, .inl (hp_i h a)) else .inr (hp_k h a, hp_fs h a (hp_k h a))
def hp_L (g : LG) (h : HP) : List Nat := List.range' (lg_B g) (hp_z h - lg_B g)
def hp_rk (c k : Nat) : Nat := if c = 16 then 1 else ly_kd (ly_ty c k)
def hp_ok (g : LG) (h : HP) : Prop := ∀ a, lg_B g ≤ a → a < hp_z h → hp_k h a ≤ 16 ∧ ∀ k b, hp_r h a k = some b → lg_B g ≤ b ∧ b < hp_z h ∧ hp_k h b = hp_rk (hp_k h a) k
def hp_R (g : LG) (h : HP) (H : Heap) : Prop := H.size = hp_z h ∧ lg_B g ≤ hp_z h ∧ va_P (lg_D g) ly_cl (va_pl (hp_L g h) (hp_e g h)) H ∧ hp_ok g h
def hp_mo (h h' : HP) : Prop := hp_z h ≤ hp_z h' ∧ hp_s h ≤ hp_s h' ∧ ∀ a, a < hp_z h → hp_k h' a = hp_k h a
theorem hp_mo_rf (h : HP) : hp_mo h h := ⟨Nat.le_refl _, Nat.le_refl _, fun _ _ => rfl⟩
theorem hp_mo_tr {a b c : HP} (h1 : hp_mo a b) (h2 : hp_mo b c) : hp_mo a c := ⟨Nat.le_trans h1.1 h2.1, Nat.le_trans h1.2.1 h2.2.1, fun q hq => (h2.2.2 q (Nat.lt_of_lt_of_le hq h1.1)).trans (h1.2.2 q hq)⟩
theorem hp_mo_si (h : HP) (a k : Nat) (v : Int32) : hp_mo h (hp_si h a k v) := hp_mo_rf h
theorem hp_mo_sl (h : HP) (a k : Nat) (v : Int64) : hp_mo h (hp_sl h a k v) := hp_mo_rf h
theorem hp_mo_sr (h : HP) (a k : Nat) (v : Option Nat) : hp_mo h (hp_sr h a k v) := hp_mo_rf h
theorem hp_mo_cp (h : HP) (a0 sp a dp n : Nat) : hp_mo h (hp_cp h a0 sp a dp n) := hp_mo_rf h
theorem hp_mo_nw (h : HP) (k n sz : Nat) : hp_mo h (hp_nw h k n sz) := ⟨Nat.le_succ _, Nat.le_add_right _ _, fun a ha => by rw [hp_k_nw, if_neg (Nat.ne_of_lt ha)]⟩
theorem hp_memL {g : LG} {h : HP} {a : Nat} : a ∈ hp_L g h ↔ lg_B g ≤ a ∧ a < lg_B g + (hp_z h - lg_B g) := by
  simp [hp_L, List.mem_range'_1]
theorem hp_inL {g : LG} {h : HP} {a : Nat} (h1 : lg_B g ≤ a) (h2 : a < hp_z h) : a ∈ hp_L g h := hp_memL.mpr ⟨h1, by omega⟩
theorem hp_dis (g : LG) (B n : Nat) (hB : lg_B g ≤ B) (f : Nat → va_E) : va_D (lg_A g) (va_pl (List.range' B n) f) := by
  have key : ∀ (i : Nat) (p : Nat × va_E), (va_pl (List.range' B n) f)[i]? = some p → p.1 = B + i := by
    intro i p hp
    simp only [va_pl, List.getElem?_map] at hp
    cases hq : (List.range' B n)[i]? with
    | none => rw [hq] at hp; cases hp
    | some b =>
      rw [hq] at hp
      cases hp
      obtain ⟨hl, hq⟩ := List.getElem?_eq_some_iff.mp hq
      rw [List.getElem_range'] at hq
      show b = B + i
      omega
  refine ⟨fun i j p q hi hj he => ?_, fun k q hk => ?_⟩
  · have h1 := key i p hi
    have h2 := key j q hj
    omega
  · have h1 := key k q hk
    show lg_B g ≤ q.1
    omega
theorem hp_disL (g : LG) (h : HP) (f : Nat → va_E) : va_D (lg_A g) (va_pl (hp_L g h) f) := hp_dis g _ _ (Nat.le_refl _) f
theorem hp_getL {g : LG} {h : HP} {a : Nat} (h1 : lg_B g ≤ a) (h2 : a < hp_z h) : ∃ k : Nat, (va_pl (hp_L g h) (hp_e g h))[k]? = some (a, hp_e g h a) := va_pl_get (X := []) (hp_inL h1 h2)
theorem hp_setL {g : LG} {h h' : HP} {a k : Nat} {e : va_E} (h1 : lg_B g ≤ a) (h2 : a < hp_z h) (hk : (va_pl (hp_L g h) (hp_e g h))[k]? = some (a, hp_e g h a)) (hz : hp_z h' = hp_z h) (he : ∀ b, hp_e g h' b = va_up (hp_e g h) a e b) : (va_pl (hp_L g h) (hp_e g h)).set k (a, e) = va_pl (hp_L g h') (hp_e g h') := by
  have h3 := va_pl_set (X := []) (e := e) (hp_disL g h (hp_e g h)) (hp_inL h1 h2) hk
  have h4 : hp_L g h' = hp_L g h := by simp only [hp_L, hz]
  rw [h4]
  exact h3.trans (congrArg (fun l => [] ++ l) (va_pl_congr (fun b => (he b).symm)))
theorem hp_e14 {g : LG} {h : HP} {a : Nat} (hk : hp_k h a = 14) : hp_e g h a = .inl (lg_Y g 14, hp_n h a, .inr (.inl (hp_l h a))) := by simp [hp_e, hk]
theorem hp_e16 {g : LG} {h : HP} {a : Nat} (hk : hp_k h a = 16) : hp_e g h a = .inl (lg_Y g 16, hp_n h a, .inr (.inr (.inr (.inr (hp_r h a))))) := by simp [hp_e, hk]
theorem hp_eI {g : LG} {h : HP} {a k : Nat} (hk : hp_k h a = k) (h1 : 12 ≤ k) (h2 : k ≠ 14) (h3 : k ≠ 16) : hp_e g h a = .inl (lg_Y g k, hp_n h a, .inl (hp_i h a)) := by simp [hp_e, hk, h1, h2, h3]
theorem hp_eO {g : LG} {h : HP} {a c : Nat} (hk : hp_k h a = c) (h1 : c < 12) : hp_e g h a = .inr (c, hp_fs h a c) := by
  have h2 : c ≠ 14 := by omega
  have h3 : c ≠ 16 := by omega
  have h4 : ¬ 12 ≤ c := by omega
  simp [hp_e, hk, h2, h3, h4]
theorem hp_eI_si {g : LG} {h : HP} {a k j : Nat} {v : Int32} (hk : hp_k h a = k) (h1 : 12 ≤ k) (h2 : k ≠ 14) (h3 : k ≠ 16) (b : Nat) : hp_e g (hp_si h a j v) b = va_up (hp_e g h) a (.inl (lg_Y g k, hp_n h a, .inl (upd (hp_i h a) j v))) b := by
  by_cases hb : b = a
  · subst hb
    rw [va_up_self, hp_eI (h := hp_si h b j v) hk h1 h2 h3]
    have : hp_i (hp_si h b j v) b = upd (hp_i h b) j v := by funext q; simp [hp_i_si, upd]
    rw [this]; rfl
  · rw [va_up_ne _ _ hb]
    have e1 : hp_i (hp_si h a j v) b = hp_i h b := by funext q; simp [hp_i_si, hb]
    have e2 : ∀ c, hp_fs (hp_si h a j v) b c = hp_fs h b c := fun c => by
      simp only [hp_fs]
      apply List.map_congr_left
      intro q _
      simp [hp_fv, hp_i_si, hp_l_si, hp_r_si, hb]
    simp only [hp_e, e1, e2]; rfl
theorem hp_e14_sl {g : LG} {h : HP} {a j : Nat} {v : Int64} (hk : hp_k h a = 14) (b : Nat) : hp_e g (hp_sl h a j v) b = va_up (hp_e g h) a (.inl (lg_Y g 14, hp_n h a, .inr (.inl (vp_updL (hp_l h a) j v)))) b := by
  by_cases hb : b = a
  · subst hb
    rw [va_up_self, hp_e14 (h := hp_sl h b j v) hk]
    have : hp_l (hp_sl h b j v) b = vp_updL (hp_l h b) j v := by funext q; simp [hp_l_sl, vp_updL]
    rw [this]; rfl
  · rw [va_up_ne _ _ hb]
    have e1 : hp_l (hp_sl h a j v) b = hp_l h b := by funext q; simp [hp_l_sl, hb]
    have e2 : ∀ c, hp_fs (hp_sl h a j v) b c = hp_fs h b c := fun c => by
      simp only [hp_fs]
      apply List.map_congr_left
      intro q _
      simp [hp_fv, hp_i_sl, hp_l_sl, hp_r_sl, hb]
    simp only [hp_e, e1, e2]; rfl
theorem hp_e16_sr {g : LG} {h : HP} {a j : Nat} {v : Option Nat} (hk : hp_k h a = 16) (b : Nat) : hp_e g (hp_sr h a j v) b = va_up (hp_e g h) a (.inl (lg_Y g 16, hp_n h a, .inr (.inr (.inr (.inr (va_up (hp_r h a) j v)))))) b := by
  by_cases hb : b = a
  · subst hb
    rw [va_up_self, hp_e16 (h := hp_sr h b j v) hk]
    have : hp_r (hp_sr h b j v) b = va_up (hp_r h b) j v := by funext q; simp [hp_r_sr, va_up]
    rw [this]; rfl
  · rw [va_up_ne _ _ hb]
    have e1 : hp_r (hp_sr h a j v) b = hp_r h b := by funext q; simp [hp_r_sr, hb]
    have e2 : ∀ c, hp_fs (hp_sr h a j v) b c = hp_fs h b c := fun c => by
      simp only [hp_fs]
      apply List.map_congr_left
      intro q _
      simp [hp_fv, hp_i_sr, hp_l_sr, hp_r_sr, hb]
    simp only [hp_e, e1, e2]; rfl
theorem hp_rset {n : Nat} {f f' : Nat → Value} {k : Nat} {v : Value} (h : ∀ j, f' j = if j = k then v else f j) : ((List.range n).map f).set k v = (List.range n).map f' := by
  apply List.ext_getElem?
  intro j
  by_cases hj : j = k
  · subst hj
    by_cases hl : j < n
    · rw [List.getElem?_set_self (by simpa using hl)]; simp [hl, h]
    · simp [hl]
  · rw [List.getElem?_set_ne (Ne.symm hj)]
    by_cases hl : j < n
    · simp [hl, h, hj]
    · simp [hl]
theorem hp_eO_si {g : LG} {h : HP} {a c j : Nat} {v : Int32} (hk : hp_k h a = c) (h1 : c < 12) (ht : ly_cat (ly_ty c j) = 0) (b : Nat) : hp_e g (hp_si h a j v) b = va_up (hp_e g h) a (.inr (c, (hp_fs h a c).set j (.int v))) b := by
  by_cases hb : b = a
  · subst hb
    rw [va_up_self, hp_eO (h := hp_si h b j v) hk h1]
    rw [hp_fs, hp_fs, hp_rset (f' := hp_fv (hp_si h b j v) b c)]
    intro q
    by_cases hq : q = j
    · subst hq; simp [hp_fv, ht, hp_i_si]
    · simp [hp_fv, hp_i_si, hq, hp_l_si, hp_r_si]
  · rw [va_up_ne _ _ hb]
    have e1 : hp_i (hp_si h a j v) b = hp_i h b := by funext q; simp [hp_i_si, hb]
    have e2 : ∀ c, hp_fs (hp_si h a j v) b c = hp_fs h b c := fun c => by
      simp only [hp_fs]
      apply List.map_congr_left
      intro q _
      simp [hp_fv, hp_i_si, hp_l_si, hp_r_si, hb]
    simp only [hp_e, e1, e2]; rfl
theorem hp_eO_sl {g : LG} {h : HP} {a c j : Nat} {v : Int64} (hk : hp_k h a = c) (h1 : c < 12) (ht : ly_cat (ly_ty c j) = 1) (b : Nat) : hp_e g (hp_sl h a j v) b = va_up (hp_e g h) a (.inr (c, (hp_fs h a c).set j (.long v))) b := by
  by_cases hb : b = a
  · subst hb
    rw [va_up_self, hp_eO (h := hp_sl h b j v) hk h1]
    rw [hp_fs, hp_fs, hp_rset (f' := hp_fv (hp_sl h b j v) b c)]
    intro q
    by_cases hq : q = j
    · subst hq; simp [hp_fv, ht, hp_l_sl]
    · simp [hp_fv, hp_l_sl, hq, hp_i_sl, hp_r_sl]
  · rw [va_up_ne _ _ hb]
    have e1 : hp_l (hp_sl h a j v) b = hp_l h b := by funext q; simp [hp_l_sl, hb]
    have e2 : ∀ c, hp_fs (hp_sl h a j v) b c = hp_fs h b c := fun c => by
      simp only [hp_fs]
      apply List.map_congr_left
      intro q _
      simp [hp_fv, hp_i_sl, hp_l_sl, hp_r_sl, hb]
    simp only [hp_e, e1, e2]; rfl
theorem hp_eO_sr {g : LG} {h : HP} {a c j : Nat} {v : Option Nat} (hk : hp_k h a = c) (h1 : c < 12) (ht : ly_cat (ly_ty c j) = 2) (b : Nat) : hp_e g (hp_sr h a j v) b = va_up (hp_e g h) a (.inr (c, (hp_fs h a c).set j (va_rf v))) b := by
  by_cases hb : b = a
  · subst hb
    rw [va_up_self, hp_eO (h := hp_sr h b j v) hk h1]
    rw [hp_fs, hp_fs, hp_rset (f' := hp_fv (hp_sr h b j v) b c)]
    intro q
    by_cases hq : q = j
    · subst hq; simp [hp_fv, ht, hp_r_sr]
    · simp [hp_fv, hp_r_sr, hq, hp_i_sr, hp_l_sr]
  · rw [va_up_ne _ _ hb]
    have e1 : hp_r (hp_sr h a j v) b = hp_r h b := by funext q; simp [hp_r_sr, hb]
    have e2 : ∀ c, hp_fs (hp_sr h a j v) b c = hp_fs h b c := fun c => by
      simp only [hp_fs]
      apply List.map_congr_left
      intro q _
      simp [hp_fv, hp_i_sr, hp_l_sr, hp_r_sr, hb]
    simp only [hp_e, e1, e2]; rfl
theorem hp_eI_cp {g : LG} {h : HP} {a0 sp a dp n : Nat} (hk : hp_k h a = 13) (b : Nat) : hp_e g (hp_cp h a0 sp a dp n) b = va_up (hp_e g h) a (.inl (lg_Y g 13, hp_n h a, .inl (va_cpy (hp_i h a0) (hp_i h a) sp dp n))) b := by
  by_cases hb : b = a
  · subst hb
    rw [va_up_self, hp_eI (h := hp_cp h a0 sp b dp n) hk (by decide) (by decide) (by decide)]
    have : hp_i (hp_cp h a0 sp b dp n) b = va_cpy (hp_i h a0) (hp_i h b) sp dp n := by funext q; simp [hp_i_cp]
    rw [this]; rfl
  · rw [va_up_ne _ _ hb]
    have e1 : hp_i (hp_cp h a0 sp a dp n) b = hp_i h b := by funext q; simp [hp_i_cp, hb]
    have e2 : ∀ c, hp_fs (hp_cp h a0 sp a dp n) b c = hp_fs h b c := fun c => by
      simp only [hp_fs]
      apply List.map_congr_left
      intro q _
      simp [hp_fv, hp_i_cp, hp_l_cp, hp_r_cp, hb]
    simp only [hp_e, e1, e2]; rfl
theorem hp_e_nw {g : LG} {h : HP} {k n sz b : Nat} (hb : b ≠ hp_z h) : hp_e g (hp_nw h k n sz) b = hp_e g h b := by
  have e1 : hp_i (hp_nw h k n sz) b = hp_i h b := by funext q; simp [hp_i_nw, hb]
  have e2 : hp_l (hp_nw h k n sz) b = hp_l h b := by funext q; simp [hp_l_nw, hb]
  have e3 : hp_r (hp_nw h k n sz) b = hp_r h b := by funext q; simp [hp_r_nw, hb]
  have e4 : hp_k (hp_nw h k n sz) b = hp_k h b := by simp [hp_k_nw, hb]
  have e5 : hp_n (hp_nw h k n sz) b = hp_n h b := by simp [hp_n_nw, hb]
  have e6 : ∀ c, hp_fs (hp_nw h k n sz) b c = hp_fs h b c := fun c => by
    simp only [hp_fs]
    apply List.map_congr_left
    intro q _
    simp [hp_fv, e1, e2, e3]
  simp only [hp_e, e1, e2, e3, e4, e5, e6]
theorem hp_L_nw {g : LG} {h : HP} {k n sz : Nat} (hB : lg_B g ≤ hp_z h) : hp_L g (hp_nw h k n sz) = hp_L g h ++ [hp_z h] := by
  simp only [hp_L, hp_z_nw]
  rw [show hp_z h + 1 - lg_B g = (hp_z h - lg_B g) + 1 by omega, List.range'_concat]
  rw [show lg_B g + 1 * (hp_z h - lg_B g) = hp_z h by omega]
theorem hp_pushL {g : LG} {h : HP} {k n sz : Nat} {e : va_E} (hB : lg_B g ≤ hp_z h) (he : hp_e g (hp_nw h k n sz) (hp_z h) = e) : va_pl (hp_L g h) (hp_e g h) ++ [(hp_z h, e)] = va_pl (hp_L g (hp_nw h k n sz)) (hp_e g (hp_nw h k n sz)) := by
  have hn : hp_z h ∉ hp_L g h := fun q => by have := hp_memL.mp q; omega
  rw [va_pl_push hn, hp_L_nw hB]
  apply va_pl_congr
  intro b
  by_cases hb : b = hp_z h
  · subst hb; rw [va_up_self, he]
  · rw [va_up_ne _ _ hb, hp_e_nw hb]
theorem hp_ok_si {g : LG} {h : HP} {a k : Nat} {v : Int32} (h1 : hp_ok g h) : hp_ok g (hp_si h a k v) := h1
theorem hp_ok_sl {g : LG} {h : HP} {a k : Nat} {v : Int64} (h1 : hp_ok g h) : hp_ok g (hp_sl h a k v) := h1
theorem hp_ok_cp {g : LG} {h : HP} {a0 sp a dp n : Nat} (h1 : hp_ok g h) : hp_ok g (hp_cp h a0 sp a dp n) := h1
theorem hp_ok_sr {g : LG} {h : HP} {a k : Nat} {v : Option Nat} (h1 : hp_ok g h) (hv : ∀ b, v = some b → lg_B g ≤ b ∧ b < hp_z h ∧ hp_k h b = hp_rk (hp_k h a) k) : hp_ok g (hp_sr h a k v) := by
  intro q q1 q2
  refine ⟨(h1 q q1 q2).1, fun j b hb => ?_⟩
  rw [hp_r_sr] at hb
  by_cases hc : q = a ∧ j = k
  · rw [if_pos hc] at hb
    obtain ⟨rfl, rfl⟩ := hc
    exact hv b hb
  · rw [if_neg hc] at hb
    exact (h1 q q1 q2).2 j b hb
theorem hp_ok_nw {g : LG} {h : HP} {k n sz : Nat} (h1 : hp_ok g h) (hk : k ≤ 16) : hp_ok g (hp_nw h k n sz) := by
  intro q q1 q2
  rw [hp_z_nw] at q2
  rw [hp_k_nw]
  by_cases hq : q = hp_z h
  · rw [if_pos hq]
    refine ⟨hk, fun j b hb => ?_⟩
    rw [hp_r_nw, if_pos hq] at hb
    cases hb
  · rw [if_neg hq]
    have h2 := h1 q q1 (by omega)
    refine ⟨h2.1, fun j b hb => ?_⟩
    rw [hp_r_nw, if_neg hq] at hb
    obtain ⟨b1, b2, b3⟩ := h2.2 j b hb
    rw [hp_z_nw, hp_k_nw, if_neg (by omega)]
    exact ⟨b1, by omega, b3⟩
