/-! a method's contract out of its body; the simulation xx_S: a pure function's value tells what the code does -/
def lv0 : Nat → List AV → List (Nat × AV)
  | _, [] => []
  | i, v :: vs => (i, v) :: lv0 (if av_w v then i + 2 else i + 1) vs
theorem lv0_eq : ∀ (av : List AV) (i : Nat), lv_args i (av.map av_c) = (lv0 i av).map av_p
  | [], _ => rfl
  | v :: vs, i => by
    have e : ((av_c v).category = 2) ↔ av_w v = true := by rw [← av_cat v]; simp
    simp only [List.map_cons, lv_args, lv0, av_p]
    congr 1
    by_cases hw : av_w v = true
    · rw [if_pos (e.mpr hw), if_pos hw]; exact lv0_eq vs _
    · rw [if_neg (fun q => hw (e.mp q)), if_neg hw]; exact lv0_eq vs _
theorem lv0_m : ∀ (av : List AV) (i : Nat) (q : Nat × AV), q ∈ lv0 i av → q.2 ∈ av
  | [], _, q, h => by simp [lv0] at h
  | v :: vs, i, q, h => by
    rcases List.mem_cons.mp h with rfl | h
    · exact List.mem_cons_self
    · exact List.mem_cons_of_mem _ (lv0_m vs _ q h)
/-- the answer's kind is the method's -/
def xx_rr : Option FieldType → Option AV → Prop
  | none, none => True
  | some .long, some (.inr (.inl _)) => True
  | some (.object _), some (.inr (.inr _)) => True
  | some .int, some (.inl _) => True
  | some .boolean, some (.inl _) => True
  | some .char, some (.inl _) => True
  | _, _ => False
theorem xx_Mof {g : LG} {l : Launch} {y : MethodName} {cc : ByteArray} {mL : Nat} {rt : Option FieldType} {d : Nat} {av : List AV} {h : HP} {r : Option AV} {h' : HP} (hy : plainFor y = true) (tb : TBL) (htb : ∀ q ∈ tb, decode cc q.1 = .ok (q.2.1, q.2.2)) (hrr : xx_rr rt r) (hlv : (lg_sl (av.map av_c)).length ≤ mL)
    (body : ∀ K : KK, xx_C K y.cls tb mL d rt → kg K = g → cx_l (kx K) = l → k0 K = h → kr K = r → k1 K = h' → (y.name = "<init>" → (cx_h (kx K)).name = "<init>") → xx_X K 0 (lv0 0 av) [] h) : xx_M g l y cc mL rt d av h r h' := by
  refine va_MetF (cc := cc) (maxL := mL) (ret := rt) hy rfl ?_
  intro p e s m args below meth c s₁ B hml hv
  obtain ⟨rfl, hR, hK, hok⟩ := hv
  rw [lg_entry_eq]
  have hl := lv_entry (av.map av_c) hlv
  rw [lv0_eq] at hl
  generalize (lg_sl (av.map av_c) ++ List.replicate (mL - (lg_sl (av.map av_c)).length) Slot.unset).toArray = ls at hl ⊢
  have hts := atoms_spec (ws := Cond.code y cc mL rt :: ly_T) B.pre
  have hlocks := B.notSynchronized
  have hret := B.returns
  have hbs : lg_B g ≤ s.heap.size := by rw [hR.1]; exact hR.2.1
  have HC : xx_C (g, (p, l, e, (headSpec (Cond.code y cc mL rt :: ly_T) { frames := d, cells := hp_z h' - hp_z h, slots := hp_s h' - hp_s h, locals := 64 * d }).room, s, m, (av.map av_c).toArray, below, meth, c, MQ below (xx_Q g r h') (av.map av_c).toArray s (hp_z h' - hp_z h) (hp_s h' - hp_s h) (lg_A g)), mL, h, r, h', rt) y.cls tb mL d rt := by
    refine ⟨B.exec, fun q hq => by show decode c.code _ = _; rw [B.bytes]; exact htb q hq, hml, rfl, findClass_of_methodNamed B.named, fun w hw => hts w (List.mem_cons_of_mem _ hw), hK, Nat.le_refl _, Nat.le_refl _, Nat.le_refl _, Nat.le_refl _, hbs, rfl, ?_⟩
    intro pc ls2 H locs i hdec hri hnk hR' hS' hmo hrok
    have hq : ∀ t : State, t.heap = H → s.WarmedH t.vm → xx_Q g r h' (av.map av_c).toArray s (.returned (r.map av_c)) t := fun t ht hW => ⟨⟨rfl, hrok, by rw [ht]; exact hR', hK.warm hW ht hS'⟩, hS'.F ht⟩
    have hnk : xx_nk rt r := hnk
    have hri : xx_ri i r := hri
    have hdec : decode c.code pc = .ok (i, 1) := hdec
    cases r with
    | none =>
      have hrt : rt = none := by
        cases rt with
        | none => rfl
        | some t => cases t <;> exact absurd hrr id
      subst hrt
      have hi : i = .return_ := hri
      subst hi
      exact W.vret (Qc := xx_Q g none h') (free := lg_A g) B.exec rfl hret hq hS'.2.2 hdec hlocks
    | some v =>
      rcases v with x | x | ⟨k, q⟩
      · have hi : i = .ireturn := hri
        subst hi
        cases rt with
        | none => exact absurd hrr id
        | some t => exact W.zret (Qc := xx_Q g (some (.inl x)) h') (free := lg_A g) B.exec rfl hret (hnk t x rfl rfl) hq hS'.2.2 hdec hlocks
      · have hi : i = .lreturn := hri
        subst hi
        have hrt : rt = some .long := by
          cases rt with
          | none => exact absurd hrr id
          | some t => cases t <;> first | rfl | exact absurd hrr id
        subst hrt
        exact W.lret (Qc := xx_Q g (some (.inr (.inl x))) h') (free := lg_A g) B.exec rfl hret hq hS'.2.2 hdec hlocks
      · have hi : i = .areturn := hri
        subst hi
        have hrt : ∃ t, rt = some t ∧ ∃ n, t = .object n := by
          cases rt with
          | none => exact absurd hrr id
          | some t => cases t <;> first | exact ⟨_, rfl, _, rfl⟩ | exact absurd hrr id
        obtain ⟨t, rfl, n, rfl⟩ := hrt
        exact W.aret (Qc := xx_Q g (some (.inr (.inr (k, q)))) h') (free := lg_A g) B.exec rfl hret (Or.inl ⟨n, rfl⟩) (by cases q with | none => exact Or.inl rfl | some a => exact Or.inr ⟨a, rfl⟩) hq hS'.2.2 hdec hlocks
  have r0 : cx_W _ s.heap [] (hp_z h - hp_z h) (hp_s h - hp_s h) (F0 m 0 ls []) := body _ HC rfl rfl rfl rfl rfl (fun hn => (name_of_methodNamed B.named B.method).1.trans hn) s.heap [] ls hR va_S.rf (hp_mo_rf h) hl (fun q hq => hok _ (lv0_m av 0 q hq)) (fun v hv => absurd hv List.not_mem_nil)
  rw [Nat.sub_self, Nat.sub_self] at r0
  exact r0
/-! the simulation -/
def xx_l {α β : Type} (a : α) (f : α → β) : β := f a
def hp_in (x : Int32) (n : Nat) : Bool := !(decide (x < 0)) && decide (x.toNatClampNeg < n)
theorem hp_in_vp {x : Int32} {n : Nat} (h : hp_in x n = true) : vp_in x n := by
  simp only [hp_in, Bool.and_eq_true, Bool.not_eq_true', decide_eq_false_iff_not, decide_eq_true_eq] at h
  rintro (q | q)
  · exact h.1 q
  · omega
def hp_z01 (x : Int32) : Bool := decide (x = 0) || decide (x = 1)
theorem hp_z01_or {x : Int32} (h : hp_z01 x = true) : x = 0 ∨ x = 1 := by simpa [hp_z01] using h
/-- a loop: its body gives the next state, or what the loop ends in -/
def xx_ln {S T : Type} (body : S → Option (S ⊕ T)) : Nat → S → Option T
  | 0, _ => none
  | n + 1, s => match body s with
    | none => none
    | some (.inl s') => xx_ln body n s'
    | some (.inr t) => some t
noncomputable def xx_lp {S T : Type} (body : S → Option (S ⊕ T)) (s : S) : Option T :=
  @dite _ (∃ n, (xx_ln body n s).isSome = true) (Classical.propDecidable _) (fun h => xx_ln body (Classical.choose h) s) (fun _ => none)
theorem xx_ln_mono {S T : Type} {body : S → Option (S ⊕ T)} : ∀ (n : Nat) (s : S) (t : T), xx_ln body n s = some t → ∀ m, n ≤ m → xx_ln body m s = some t
  | 0, s, t, h, m, _ => by cases h
  | n + 1, s, t, h, 0, hm => by omega
  | n + 1, s, t, h, m + 1, hm => by
    simp only [xx_ln] at h ⊢
    cases hb : body s with
    | none => rw [hb] at h; cases h
    | some x =>
      rw [hb] at h
      cases x with
      | inl s' => exact xx_ln_mono n s' t h m (by omega)
      | inr t' => exact h
theorem xx_lp_of {S T : Type} {body : S → Option (S ⊕ T)} {n : Nat} {s : S} {t : T} (h : xx_ln body n s = some t) : xx_lp body s = some t := by
  have he : ∃ n, (xx_ln body n s).isSome = true := ⟨n, by rw [h]; rfl⟩
  unfold xx_lp
  rw [dif_pos he]
  have h1 := Classical.choose_spec he
  obtain ⟨t', ht'⟩ := Option.isSome_iff_exists.mp h1
  have h2 := xx_ln_mono _ s t' ht' (max n (Classical.choose he)) (Nat.le_max_right _ _)
  have h3 := xx_ln_mono _ s t h (max n (Classical.choose he)) (Nat.le_max_left _ _)
  rw [ht', ← h2, h3]
theorem xx_lp_ex {S T : Type} {body : S → Option (S ⊕ T)} {s : S} {t : T} (h : xx_lp body s = some t) : ∃ n, xx_ln body n s = some t := by
  unfold xx_lp at h
  by_cases he : ∃ n, (xx_ln body n s).isSome = true
  · rw [dif_pos he] at h
    exact ⟨_, h⟩
  · rw [dif_neg he] at h
    cases h
def xx_z2 {S T : Type} (hf : S → HP) (zf : T → HP) : S ⊕ T → HP
  | .inl s => hf s
  | .inr t => zf t
def xx_L2 {S T : Type} (P : S → Prop) (L : T → Prop) : S ⊕ T → Prop
  | .inl s => P s
  | .inr t => L t
def xx_S {T : Type} (C : KK → Prop) (zf : T → HP) (L : KK → T → Prop) (pc : Nat) (lv : List (Nat × AV)) (st : List AV) (h : HP) (o : Option T) : Prop :=
  ∀ x, o = some x → hp_mo h (zf x) ∧ ∀ K, C K → hp_le (zf x) (k1 K) → L K x → xx_X K pc lv st h
def xx_D (own : String) (tb : TBL) (nL d : Nat) (rt : Option FieldType) (b : Bool) (K : KK) : Prop := xx_C K own tb nL d rt ∧ (b = true → (cx_h (kx K)).name = "<init>")
section XS
variable {own : String} {tb : TBL} {nL d : Nat} {rt : Option FieldType} {b : Bool} {pc pc' : Nat} {lv lv' : List (Nat × AV)} {st st' : List AV} {h : HP} {T : Type} {C : KK → Prop} {zf : T → HP} {L : KK → T → Prop} {o : Option T}
theorem xs_step (f : ∀ K, C K → xx_X K pc' lv' st' h → xx_X K pc lv st h) (k : xx_S C zf L pc' lv' st' h o) : xx_S C zf L pc lv st h o := fun x hx => ⟨(k x hx).1, fun K HC hb hL => f K HC ((k x hx).2 K HC hb hL)⟩
theorem xs_stepb (f : ∀ K, C K → hp_le h (k1 K) → xx_X K pc' lv' st' h → xx_X K pc lv st h) (k : xx_S C zf L pc' lv' st' h o) : xx_S C zf L pc lv st h o := fun x hx => ⟨(k x hx).1, fun K HC hb hL => f K HC (hp_le_tr (hp_mo_le (k x hx).1) hb) ((k x hx).2 K HC hb hL)⟩
theorem xs_ite {c : Prop} [Decidable c] {p1 p2 : Nat} {o1 o2 : Option T} (f : ∀ K, C K → (c → xx_X K p1 lv' st' h) → (¬ c → xx_X K p2 lv' st' h) → xx_X K pc lv st h) (q1 : xx_S C zf L p1 lv' st' h o1) (q2 : xx_S C zf L p2 lv' st' h o2) : xx_S C zf L pc lv st h (if c then o1 else o2) := by
  intro x hx
  by_cases hc : c
  · rw [if_pos hc] at hx
    exact ⟨(q1 x hx).1, fun K HC hb hL => f K HC (fun _ => (q1 x hx).2 K HC hb hL) (fun q => absurd hc q)⟩
  · rw [if_neg hc] at hx
    exact ⟨(q2 x hx).1, fun K HC hb hL => f K HC (fun q => absurd q hc) (fun _ => (q2 x hx).2 K HC hb hL)⟩
theorem xs_if {c : Prop} [Decidable c] {o1 o2 : Option T} (q1 : c → xx_S C zf L pc lv st h o1) (q2 : ¬ c → xx_S C zf L pc lv st h o2) : xx_S C zf L pc lv st h (if c then o1 else o2) := by
  intro x hx
  by_cases hc : c
  · rw [if_pos hc] at hx
    exact q1 hc x hx
  · rw [if_neg hc] at hx
    exact q2 hc x hx
theorem xs_chk {c : Prop} [Decidable c] (q1 : c → xx_S C zf L pc lv st h o) : xx_S C zf L pc lv st h (if c then o else none) := by
  intro x hx
  by_cases hc : c
  · rw [if_pos hc] at hx
    exact q1 hc x hx
  · rw [if_neg hc] at hx
    cases hx
theorem xs_bind {α : Type} {r : Option α} {g : α → Option T} (k : ∀ q, r = some q → xx_S C zf L pc lv st h (g q)) : xx_S C zf L pc lv st h (r.bind g) := by
  intro x hx
  cases hr : r with
  | none => rw [hr] at hx; cases hx
  | some q => rw [hr] at hx; exact k q hr x hx
theorem xs_gen {α : Type} {e : α} {g : α → Option T} (k : ∀ v : α, v = e → xx_S C zf L pc lv st h (g v)) : xx_S C zf L pc lv st h (xx_l e g) := k e rfl
theorem xs_topi {e : Int32} {g : Int32 → Option T} (k : ∀ v : Int32, xx_S C zf L pc lv (av_I v :: st) h (g v)) : xx_S C zf L pc lv (av_I e :: st) h (xx_l e g) := k e
theorem xs_topl {e : Int64} {g : Int64 → Option T} (k : ∀ v : Int64, xx_S C zf L pc lv (av_L v :: st) h (g v)) : xx_S C zf L pc lv (av_L e :: st) h (xx_l e g) := k e
theorem xs_heap {h1 : HP} {g : HP → Option T} (hm : hp_mo h h1) (f : ∀ K, C K → xx_X K pc' lv' st' h1 → xx_X K pc lv st h) (k : ∀ h2 : HP, xx_S C zf L pc' lv' st' h2 (g h2)) : xx_S C zf L pc lv st h (xx_l h1 g) := fun x hx => ⟨hp_mo_tr hm (k h1 x hx).1, fun K HC hb hL => f K HC ((k h1 x hx).2 K HC hb hL)⟩
theorem xs_new {c n m : Nat} {g : Nat → HP → Option T} (f : ∀ K, C K → hp_le (hp_nw h c n m) (k1 K) → xx_X K pc' lv' (av_R c (some (hp_z h)) :: st') (hp_nw h c n m) → xx_X K pc lv st h) (k : ∀ (q : Nat) (h2 : HP), xx_S C zf L pc' lv' (av_R c (some q) :: st') h2 (g q h2)) : xx_S C zf L pc lv st h (xx_l (hp_z h) fun q => xx_l (hp_nw h c n m) fun h2 => g q h2) := fun x hx => ⟨hp_mo_tr (hp_mo_nw h c n m) (k (hp_z h) (hp_nw h c n m) x hx).1, fun K HC hb hL => f K HC (hp_le_tr (hp_mo_le (k (hp_z h) (hp_nw h c n m) x hx).1) hb) ((k (hp_z h) (hp_nw h c n m) x hx).2 K HC hb hL)⟩
/-- calls -/
theorem xs_callx {T2 : Type} {M : T2 → Prop} (zr : T2 → List AV) (zh : T2 → HP) {o2 : Option T2} {g : T2 → Option T} (hS : ∀ x, o2 = some x → hp_mo h (zh x) ∧ M x) (f : ∀ K, C K → ∀ x, M x → hp_mo h (zh x) → hp_le (zh x) (k1 K) → xx_X K pc' lv' (zr x ++ st') (zh x) → xx_X K pc lv st h) (k : ∀ x, xx_S C zf L pc' lv' (zr x ++ st') (zh x) (g x)) : xx_S C zf L pc lv st h (o2.bind g) := by
  intro x hx
  cases ho : o2 with
  | none => rw [ho] at hx; cases hx
  | some y =>
    rw [ho] at hx
    have hx : g y = some x := hx
    obtain ⟨h1, h2⟩ := hS y ho
    exact ⟨hp_mo_tr h1 (k y x hx).1, fun K HC hb hL => f K HC y h2 h1 (hp_le_tr (hp_mo_le (k y x hx).1) hb) ((k y x hx).2 K HC hb hL)⟩
theorem xs_calli {M : Int32 × HP → Prop} {o2 : Option (Int32 × HP)} {g : Int32 × HP → Option T} (hS : ∀ x, o2 = some x → hp_mo h x.2 ∧ M x) (f : ∀ K, C K → ∀ x, M x → hp_mo h x.2 → hp_le x.2 (k1 K) → xx_X K pc' lv' (av_I x.1 :: st') x.2 → xx_X K pc lv st h) (k : ∀ x : Int32 × HP, xx_S C zf L pc' lv' (av_I x.1 :: st') x.2 (g x)) : xx_S C zf L pc lv st h (o2.bind g) := xs_callx (fun x => [av_I x.1]) (fun x => x.2) hS f k
theorem xs_calll {M : Int64 × HP → Prop} {o2 : Option (Int64 × HP)} {g : Int64 × HP → Option T} (hS : ∀ x, o2 = some x → hp_mo h x.2 ∧ M x) (f : ∀ K, C K → ∀ x, M x → hp_mo h x.2 → hp_le x.2 (k1 K) → xx_X K pc' lv' (av_L x.1 :: st') x.2 → xx_X K pc lv st h) (k : ∀ x : Int64 × HP, xx_S C zf L pc' lv' (av_L x.1 :: st') x.2 (g x)) : xx_S C zf L pc lv st h (o2.bind g) := xs_callx (fun x => [av_L x.1]) (fun x => x.2) hS f k
theorem xs_callr {M : Nat × HP → Prop} (c : Nat) {o2 : Option (Nat × HP)} {g : Nat × HP → Option T} (hS : ∀ x, o2 = some x → hp_mo h x.2 ∧ M x) (f : ∀ K, C K → ∀ x, M x → hp_mo h x.2 → hp_le x.2 (k1 K) → xx_X K pc' lv' (av_R c (some x.1) :: st') x.2 → xx_X K pc lv st h) (k : ∀ x : Nat × HP, xx_S C zf L pc' lv' (av_R c (some x.1) :: st') x.2 (g x)) : xx_S C zf L pc lv st h (o2.bind g) := xs_callx (fun x => [av_R c (some x.1)]) (fun x => x.2) hS f k
theorem xs_callv {M : HP → Prop} {o2 : Option HP} {g : HP → Option T} (hS : ∀ x, o2 = some x → hp_mo h x ∧ M x) (f : ∀ K, C K → ∀ x, M x → hp_mo h x → hp_le x (k1 K) → xx_X K pc' lv' st' x → xx_X K pc lv st h) (k : ∀ x : HP, xx_S C zf L pc' lv' st' x (g x)) : xx_S C zf L pc lv st h (o2.bind g) := xs_callx (fun _ => []) (fun x => x) hS f k
/-- a way that leaves a loop, or comes to what is behind it -/
theorem xs_map {T2 : Type} {zf2 : T2 → HP} {L2 : KK → T2 → Prop} {i : T → T2} (hz : ∀ x, zf2 (i x) = zf x) (hL2 : ∀ K x, L2 K (i x) → L K x) (k : xx_S C zf L pc lv st h o) : xx_S C zf2 L2 pc lv st h (o.map i) := by
  intro x hx
  cases ho : o with
  | none => rw [ho] at hx; cases hx
  | some y =>
    rw [ho] at hx
    cases hx
    obtain ⟨h1, h2⟩ := k y ho
    rw [hz]
    exact ⟨h1, fun K HC hb hL => h2 K HC hb (hL2 K y hL)⟩
/-- back at a loop's head -/
theorem xs_back {x : T} (hz : zf x = h) (hL : ∀ K, L K x → xx_X K pc lv st h) : xx_S C zf L pc lv st h (some x) := by
  intro y hy
  cases hy
  rw [hz]
  exact ⟨hp_mo_rf h, fun K _ _ q => hL K q⟩
theorem xs_loop {S : Type} {body : S → Option (S ⊕ T)} (lsf : S → List (Nat × AV)) (hf : S → HP) (hb : ∀ s, xx_S C (xx_z2 hf zf) (fun K => xx_L2 (fun s => xx_X K pc (lsf s) st (hf s)) (L K)) pc (lsf s) st (hf s) (body s)) : ∀ s, xx_S C zf L pc (lsf s) st (hf s) (xx_lp body s) := by
  intro s x hx
  obtain ⟨n, hn⟩ := xx_lp_ex hx
  clear hx
  induction n generalizing s with
  | zero => cases hn
  | succ n ih =>
    simp only [xx_ln] at hn
    cases hbs : body s with
    | none => rw [hbs] at hn; cases hn
    | some y =>
      rw [hbs] at hn
      cases y with
      | inl s' =>
        obtain ⟨i1, i2⟩ := ih s' hn
        obtain ⟨j1, j2⟩ := hb s _ hbs
        exact ⟨hp_mo_tr j1 i1, fun K HC hb2 hL => j2 K HC (hp_le_tr (hp_mo_le i1) hb2) (i2 K HC hb2 hL)⟩
      | inr t =>
        have hn : some t = some x := hn
        cases hn
        exact hb s _ hbs
theorem xs_ret (i : Nat) {x : T} (hd : tb[i]? = some (pc, .return_, 1)) (hz : zf x = h) (hL : ∀ K, L K x → kr K = none ∧ k1 K = h) : xx_S (xx_D own tb nL d rt b) zf L pc lv [] h (some x) := by
  intro y hy
  cases hy
  rw [hz]
  refine ⟨hp_mo_rf h, fun K HC _ q => ?_⟩
  obtain ⟨e1, e2⟩ := hL K q
  intro H locs ls hR hS hM hl ho hs
  rw [← e2] at hR hM ⊢
  have r := HC.1.2.2.2.2.2.2.2.2.2.2.2.2.2 pc ls H locs .return_ (HC.1.dec hd) (by rw [e1]; rfl) (fun ty v _ hv => by rw [e1] at hv; cases hv) hR hS hM (fun v hv => by rw [e1] at hv; cases hv)
  rw [e1] at r
  exact r
theorem xs_reti (i : Nat) {v : Int32} {x : T} (hd : tb[i]? = some (pc, .ireturn, 1)) (hz : zf x = h) (hL : ∀ K, L K x → kr K = some (av_I v) ∧ k1 K = h) (hn : ∀ ty, rt = some ty → narrow ty (.int v) = .int v) : xx_S (xx_D own tb nL d rt b) zf L pc lv [av_I v] h (some x) := by
  intro y hy
  cases hy
  rw [hz]
  refine ⟨hp_mo_rf h, fun K HC _ q => ?_⟩
  obtain ⟨e1, e2⟩ := hL K q
  intro H locs ls hR hS hM hl ho hs
  rw [← e2] at hR hM ⊢
  have r := HC.1.2.2.2.2.2.2.2.2.2.2.2.2.2 pc ls H locs .ireturn (HC.1.dec hd) (by rw [e1]; rfl) (fun ty w ht hv => by rw [e1] at hv; cases hv; exact hn ty ht) hR hS hM (fun w hv => by rw [e1] at hv; cases hv; trivial)
  rw [e1] at r
  exact r
theorem xs_retl (i : Nat) {v : Int64} {x : T} (hd : tb[i]? = some (pc, .lreturn, 1)) (hz : zf x = h) (hL : ∀ K, L K x → kr K = some (av_L v) ∧ k1 K = h) : xx_S (xx_D own tb nL d rt b) zf L pc lv [av_L v] h (some x) := by
  intro y hy
  cases hy
  rw [hz]
  refine ⟨hp_mo_rf h, fun K HC _ q => ?_⟩
  obtain ⟨e1, e2⟩ := hL K q
  intro H locs ls hR hS hM hl ho hs
  rw [← e2] at hR hM ⊢
  have r := HC.1.2.2.2.2.2.2.2.2.2.2.2.2.2 pc ls H locs .lreturn (HC.1.dec hd) (by rw [e1]; rfl) (fun ty w ht hv => by rw [e1] at hv; cases hv) hR hS hM (fun w hv => by rw [e1] at hv; cases hv; trivial)
  rw [e1] at r
  exact r
theorem xs_reta (i : Nat) {c a : Nat} {x : T} (hd : tb[i]? = some (pc, .areturn, 1)) (hz : zf x = h) (hL : ∀ K, L K x → kr K = some (av_R c (some a)) ∧ k1 K = h) : xx_S (xx_D own tb nL d rt b) zf L pc lv [av_R c (some a)] h (some x) := by
  intro y hy
  cases hy
  rw [hz]
  refine ⟨hp_mo_rf h, fun K HC _ q => ?_⟩
  obtain ⟨e1, e2⟩ := hL K q
  intro H locs ls hR hS hM hl ho hs
  have hok := st_h hs
  rw [← e2] at hR hM hok ⊢
  have r := HC.1.2.2.2.2.2.2.2.2.2.2.2.2.2 pc ls H locs .areturn (HC.1.dec hd) (by rw [e1]; rfl) (fun ty w ht hv => by rw [e1] at hv; cases hv) hR hS hM (fun w hv => by rw [e1] at hv; cases hv; exact hok)
  rw [e1] at r
  exact r
end XS
/-- ends of methods: what the answer and the last picture are -/
def xL_i (K : KK) (x : Int32 × HP) : Prop := kr K = some (av_I x.1) ∧ k1 K = x.2
def xL_l (K : KK) (x : Int64 × HP) : Prop := kr K = some (av_L x.1) ∧ k1 K = x.2
def xL_r (c : Nat) (K : KK) (x : Nat × HP) : Prop := kr K = some (av_R c (some x.1)) ∧ k1 K = x.2
def xL_v (K : KK) (x : HP) : Prop := kr K = none ∧ k1 K = x
def xz_i (x : Int32 × HP) : HP := x.2
def xz_l (x : Int64 × HP) : HP := x.2
def xz_r (x : Nat × HP) : HP := x.2
def xz_v (x : HP) : HP := x
theorem xM_i {y : MethodName} {cc : ByteArray} {mL d : Nat} {rt : Option FieldType} {av : List AV} {h : HP} {o : Option (Int32 × HP)} {b : Bool} {tb : TBL} (hy : plainFor y = true) (htb : ∀ q ∈ tb, decode cc q.1 = .ok (q.2.1, q.2.2)) (hrr : ∀ v, xx_rr rt (some (av_I v))) (hlv : (lg_sl (av.map av_c)).length ≤ mL) (hini : b = true → y.name = "<init>") (hS : xx_S (xx_D y.cls tb mL d rt b) xz_i xL_i 0 (lv0 0 av) [] h o) : ∀ x, o = some x → hp_mo h x.2 ∧ ∀ g l, xx_M g l y cc mL rt d av h (some (av_I x.1)) x.2 :=
  fun x hx => ⟨(hS x hx).1, fun g l => xx_Mof hy tb htb (hrr _) hlv (fun K HC e1 e2 e3 e4 e5 e6 => (hS x hx).2 K ⟨HC, fun hb => e6 (hini hb)⟩ (by rw [e5]; exact ⟨Nat.le_refl _, Nat.le_refl _⟩) ⟨e4, e5⟩)⟩
theorem xM_l {y : MethodName} {cc : ByteArray} {mL d : Nat} {rt : Option FieldType} {av : List AV} {h : HP} {o : Option (Int64 × HP)} {b : Bool} {tb : TBL} (hy : plainFor y = true) (htb : ∀ q ∈ tb, decode cc q.1 = .ok (q.2.1, q.2.2)) (hrr : ∀ v, xx_rr rt (some (av_L v))) (hlv : (lg_sl (av.map av_c)).length ≤ mL) (hini : b = true → y.name = "<init>") (hS : xx_S (xx_D y.cls tb mL d rt b) xz_l xL_l 0 (lv0 0 av) [] h o) : ∀ x, o = some x → hp_mo h x.2 ∧ ∀ g l, xx_M g l y cc mL rt d av h (some (av_L x.1)) x.2 :=
  fun x hx => ⟨(hS x hx).1, fun g l => xx_Mof hy tb htb (hrr _) hlv (fun K HC e1 e2 e3 e4 e5 e6 => (hS x hx).2 K ⟨HC, fun hb => e6 (hini hb)⟩ (by rw [e5]; exact ⟨Nat.le_refl _, Nat.le_refl _⟩) ⟨e4, e5⟩)⟩
theorem xM_r {y : MethodName} {cc : ByteArray} {mL d c : Nat} {rt : Option FieldType} {av : List AV} {h : HP} {o : Option (Nat × HP)} {b : Bool} {tb : TBL} (hy : plainFor y = true) (htb : ∀ q ∈ tb, decode cc q.1 = .ok (q.2.1, q.2.2)) (hrr : ∀ v, xx_rr rt (some (av_R c v))) (hlv : (lg_sl (av.map av_c)).length ≤ mL) (hini : b = true → y.name = "<init>") (hS : xx_S (xx_D y.cls tb mL d rt b) xz_r (xL_r c) 0 (lv0 0 av) [] h o) : ∀ x, o = some x → hp_mo h x.2 ∧ ∀ g l, xx_M g l y cc mL rt d av h (some (av_R c (some x.1))) x.2 :=
  fun x hx => ⟨(hS x hx).1, fun g l => xx_Mof hy tb htb (hrr _) hlv (fun K HC e1 e2 e3 e4 e5 e6 => (hS x hx).2 K ⟨HC, fun hb => e6 (hini hb)⟩ (by rw [e5]; exact ⟨Nat.le_refl _, Nat.le_refl _⟩) ⟨e4, e5⟩)⟩
theorem xM_v {y : MethodName} {cc : ByteArray} {mL d : Nat} {rt : Option FieldType} {av : List AV} {h : HP} {o : Option HP} {b : Bool} {tb : TBL} (hy : plainFor y = true) (htb : ∀ q ∈ tb, decode cc q.1 = .ok (q.2.1, q.2.2)) (hrr : xx_rr rt none) (hlv : (lg_sl (av.map av_c)).length ≤ mL) (hini : b = true → y.name = "<init>") (hS : xx_S (xx_D y.cls tb mL d rt b) xz_v xL_v 0 (lv0 0 av) [] h o) : ∀ x, o = some x → hp_mo h x ∧ ∀ g l, xx_M g l y cc mL rt d av h none x :=
  fun x hx => ⟨(hS x hx).1, fun g l => xx_Mof hy tb htb hrr hlv (fun K HC e1 e2 e3 e4 e5 e6 => (hS x hx).2 K ⟨HC, fun hb => e6 (hini hb)⟩ (by rw [e5]; exact ⟨Nat.le_refl _, Nat.le_refl _⟩) ⟨e4, e5⟩)⟩
