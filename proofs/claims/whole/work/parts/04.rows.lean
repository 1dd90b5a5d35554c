/-! values, the context of a method's body, the judgement xx_X, rows -/
abbrev AV : Type := Int32 ⊕ Int64 ⊕ (Nat × Option Nat)
abbrev av_I (x : Int32) : AV := .inl x
abbrev av_L (x : Int64) : AV := .inr (.inl x)
abbrev av_R (k : Nat) (r : Option Nat) : AV := .inr (.inr (k, r))
def av_c : AV → Value
  | .inl x => .int x
  | .inr (.inl x) => .long x
  | .inr (.inr q) => va_rf q.2
def av_w : AV → Bool
  | .inr (.inl _) => true
  | _ => false
def av_p (q : Nat × AV) : Nat × Value := (q.1, av_c q.2)
def av_ok (g : LG) (h : HP) : AV → Prop
  | .inr (.inr (k, some a)) => 90 ≤ k ∨ (lg_B g ≤ a ∧ a < hp_z h ∧ hp_k h a = k)
  | _ => True
theorem av_cat (v : AV) : ((av_c v).category == 2) = av_w v := by
  rcases v with x | x | ⟨k, r⟩
  · rfl
  · rfl
  · cases r <;> rfl
theorem av_cat1 {v : AV} (h : av_w v = false) : (av_c v).category = 1 := by
  rcases v with x | x | ⟨k, r⟩
  · rfl
  · cases h
  · cases r <;> rfl
theorem av_ok_mo {g : LG} {h h' : HP} {v : AV} (hm : hp_mo h h') (h1 : av_ok g h v) : av_ok g h' v := by
  rcases v with x | x | ⟨k, r⟩
  · trivial
  · trivial
  · cases r with
    | none => trivial
    | some a =>
      rcases h1 with h1 | ⟨h1, h2, h3⟩
      · exact Or.inl h1
      · exact Or.inr ⟨h1, Nat.lt_of_lt_of_le h2 hm.1, (hm.2.2 a h2).trans h3⟩
theorem av_rok {g : LG} {h : HP} {k a : Nat} (hk : k < 90) (h1 : av_ok g h (av_R k (some a))) : lg_B g ≤ a ∧ a < hp_z h ∧ hp_k h a = k := by
  rcases h1 with h1 | h1
  · omega
  · exact h1
abbrev CX : Type := Program × Launch × Env × Room × State × MethodId × Array Value × List Frame × Method × Code × (State → Prop)
abbrev cx_p (x : CX) : Program := x.1
abbrev cx_l (x : CX) : Launch := x.2.1
abbrev cx_e (x : CX) : Env := x.2.2.1
abbrev cx_R (x : CX) : Room := x.2.2.2.1
abbrev cx_s (x : CX) : State := x.2.2.2.2.1
abbrev cx_m (x : CX) : MethodId := x.2.2.2.2.2.1
abbrev cx_a (x : CX) : Array Value := x.2.2.2.2.2.2.1
abbrev cx_b (x : CX) : List Frame := x.2.2.2.2.2.2.2.1
abbrev cx_h (x : CX) : Method := x.2.2.2.2.2.2.2.2.1
abbrev cx_c (x : CX) : Code := x.2.2.2.2.2.2.2.2.2.1
abbrev cx_Q (x : CX) : State → Prop := x.2.2.2.2.2.2.2.2.2.2
def cx_W (x : CX) (H : Heap) (locs : List Loc) (ce sl : Nat) (f : JFrame) : Prop := W (cx_p x) (cx_l x) (cx_e x) (cx_R x) (cx_s x) (cx_m x) (cx_a x) (cx_b x) (cx_h x) (cx_c x) H locs ce sl (cx_Q x) f
abbrev KK : Type := LG × CX × Nat × HP × Option AV × HP × Option FieldType
abbrev kg (K : KK) : LG := K.1
abbrev kx (K : KK) : CX := K.2.1
abbrev kn (K : KK) : Nat := K.2.2.1
abbrev k0 (K : KK) : HP := K.2.2.2.1
abbrev kr (K : KK) : Option AV := K.2.2.2.2.1
abbrev k1 (K : KK) : HP := K.2.2.2.2.2.1
abbrev kt (K : KK) : Option FieldType := K.2.2.2.2.2.2
def xx_X (K : KK) (pc : Nat) (lv : List (Nat × AV)) (st : List AV) (h : HP) : Prop :=
  ∀ (H : Heap) (locs : List Loc) (ls : Array Slot), hp_R (kg K) h H → va_S (lg_A (kg K)) (cx_s (kx K)).heap H locs → hp_mo (k0 K) h → lv_has ls (kn K) (lv.map av_p) → (∀ q ∈ lv, av_ok (kg K) h q.2) → (∀ v ∈ st, av_ok (kg K) h v) →
    cx_W (kx K) H locs (hp_z h - hp_z (k0 K)) (hp_s h - hp_s (k0 K)) (F0 (cx_m (kx K)) pc ls (st.map av_c))
/-- the literal's text and bytes -/
def ly_tx : String := "lamps   cycle   fails   start   off     on      any     role    men     holds   rule    when    set     hold    say     or      and     not     day     visits  "
def ly_by : List Int32 := [108, 97, 109, 112, 115, 32, 32, 32, 99, 121, 99, 108, 101, 32, 32, 32, 102, 97, 105, 108, 115, 32, 32, 32, 115, 116, 97, 114, 116, 32, 32, 32, 111, 102, 102, 32, 32, 32, 32, 32, 111, 110, 32, 32, 32, 32, 32, 32, 97, 110, 121, 32, 32, 32, 32, 32, 114, 111, 108, 101, 32, 32, 32, 32, 109, 101, 110, 32, 32, 32, 32, 32, 104, 111, 108, 100, 115, 32, 32, 32, 114, 117, 108, 101, 32, 32, 32, 32, 119, 104, 101, 110, 32, 32, 32, 32, 115, 101, 116, 32, 32, 32, 32, 32, 104, 111, 108, 100, 32, 32, 32, 32, 115, 97, 121, 32, 32, 32, 32, 32, 111, 114, 32, 32, 32, 32, 32, 32, 97, 110, 100, 32, 32, 32, 32, 32, 110, 111, 116, 32, 32, 32, 32, 32, 100, 97, 121, 32, 32, 32, 32, 32, 118, 105, 115, 105, 116, 115, 32, 32]
/-- what is known of the classes, and of the literal -/
def ly_K (g : LG) (U : State) : Prop := va_K (lg_D g) ly_cl (lg_T g) U ∧ vk_R "LampYard$Reader" 114 ly_tx (lg_S g) U ∧ vk_S 1 [160] [ly_by] (fun _ => lg_S g) (fun _ => lg_V g) (lg_A g) U U.heap ∧ va_AO "LampYard$Course" U ∧ va_Z "java/lang/String" "COMPACT_STRINGS" "Z" (.int 1) (lg_A g) U U.heap ∧ va_Zq "jdk/internal/util/Preconditions" "SIOOBE_FORMATTER" "Ljava/util/function/BiFunction;" (lg_A g) U U.heap
def xx_ri (i : Instr) : Option AV → Prop
  | none => i = .return_
  | some (.inl _) => i = .ireturn
  | some (.inr (.inl _)) => i = .lreturn
  | some (.inr (.inr _)) => i = .areturn
def xx_nk (t : Option FieldType) (r : Option AV) : Prop := ∀ ty v, t = some ty → r = some (av_I v) → narrow ty (.int v) = .int v
abbrev TBL : Type := List (Nat × Instr × Nat)
def xx_C (K : KK) (own : String) (tb : TBL) (nL d : Nat) (rt : Option FieldType) : Prop :=
  (cx_p (kx K)).tables.exec = Jvm.exec ∧ (∀ q ∈ tb, decode (cx_c (kx K)).code q.1 = .ok (q.2.1, q.2.2)) ∧ (cx_c (kx K)).maxLocals = kn K ∧ kn K = nL ∧ (cx_s (kx K)).vm.findClass own = some (cx_m (kx K)).cls ∧
  (∀ w ∈ ly_T, w.before (cx_a (kx K)) (cx_s (kx K)) = true) ∧ ly_K (kg K) (cx_s (kx K)) ∧ d ≤ (cx_R (kx K)).frames ∧ 64 * d ≤ (cx_R (kx K)).locals ∧
  hp_z (k1 K) - hp_z (k0 K) ≤ (cx_R (kx K)).cells ∧ hp_s (k1 K) - hp_s (k0 K) ≤ (cx_R (kx K)).slots ∧ lg_B (kg K) ≤ (cx_s (kx K)).heap.size ∧ kt K = rt ∧
  ∀ (pc : Nat) (ls : Array Slot) (H : Heap) (locs : List Loc) (i : Instr), decode (cx_c (kx K)).code pc = .ok (i, 1) → xx_ri i (kr K) → xx_nk rt (kr K) → hp_R (kg K) (k1 K) H → va_S (lg_A (kg K)) (cx_s (kx K)).heap H locs → hp_mo (k0 K) (k1 K) → (∀ v, kr K = some v → av_ok (kg K) (k1 K) v) →
    cx_W (kx K) H locs (hp_z (k1 K) - hp_z (k0 K)) (hp_s (k1 K) - hp_s (k0 K)) (F0 (cx_m (kx K)) pc ls ((kr K).toList.map av_c))
section XR
variable {K : KK} {own : String} {tb : TBL} {nL d : Nat} {rt : Option FieldType} {pc : Nat} {lv : List (Nat × AV)} {st : List AV} {h : HP}
theorem xx_C.ex (HC : xx_C K own tb nL d rt) : (cx_p (kx K)).tables.exec = Jvm.exec := HC.1
theorem xx_C.dec (HC : xx_C K own tb nL d rt) {i pc n : Nat} {ins : Instr} (hd : tb[i]? = some (pc, ins, n)) : decode (cx_c (kx K)).code pc = .ok (ins, n) := HC.2.1 (pc, ins, n) (List.mem_of_getElem? hd)
theorem xx_C.ml (HC : xx_C K own tb nL d rt) : (cx_c (kx K)).maxLocals = kn K := HC.2.2.1
theorem xx_C.nl (HC : xx_C K own tb nL d rt) : kn K = nL := HC.2.2.2.1
theorem xx_C.ow (HC : xx_C K own tb nL d rt) : (cx_s (kx K)).vm.findClass own = some (cx_m (kx K)).cls := HC.2.2.2.2.1
theorem xx_C.hts (HC : xx_C K own tb nL d rt) : ∀ w ∈ ly_T, w.before (cx_a (kx K)) (cx_s (kx K)) = true := HC.2.2.2.2.2.1
theorem xx_C.kk (HC : xx_C K own tb nL d rt) : ly_K (kg K) (cx_s (kx K)) := HC.2.2.2.2.2.2.1
theorem xx_C.fr (HC : xx_C K own tb nL d rt) : d ≤ (cx_R (kx K)).frames := HC.2.2.2.2.2.2.2.1
theorem xx_C.lo (HC : xx_C K own tb nL d rt) : 64 * d ≤ (cx_R (kx K)).locals := HC.2.2.2.2.2.2.2.2.1
theorem xx_C.ce (HC : xx_C K own tb nL d rt) : hp_z (k1 K) - hp_z (k0 K) ≤ (cx_R (kx K)).cells := HC.2.2.2.2.2.2.2.2.2.1
theorem xx_C.sl (HC : xx_C K own tb nL d rt) : hp_s (k1 K) - hp_s (k0 K) ≤ (cx_R (kx K)).slots := HC.2.2.2.2.2.2.2.2.2.2.1
theorem xx_C.bs (HC : xx_C K own tb nL d rt) : lg_B (kg K) ≤ (cx_s (kx K)).heap.size := HC.2.2.2.2.2.2.2.2.2.2.2.1
theorem xx_C.kt (HC : xx_C K own tb nL d rt) : kt K = rt := HC.2.2.2.2.2.2.2.2.2.2.2.2.1
theorem st_0 {P : AV → Prop} {b : AV} (hb : P b) (h : ∀ v ∈ st, P v) : ∀ v ∈ b :: st, P v := List.forall_mem_cons.mpr ⟨hb, h⟩
theorem st_1 {P : AV → Prop} {a b : AV} (hb : P b) (h : ∀ v ∈ a :: st, P v) : ∀ v ∈ b :: st, P v := List.forall_mem_cons.mpr ⟨hb, (List.forall_mem_cons.mp h).2⟩
theorem st_2 {P : AV → Prop} {a c b : AV} (hb : P b) (h : ∀ v ∈ a :: c :: st, P v) : ∀ v ∈ b :: st, P v := List.forall_mem_cons.mpr ⟨hb, (List.forall_mem_cons.mp (List.forall_mem_cons.mp h).2).2⟩
theorem st_d {P : AV → Prop} {a : AV} (h : ∀ v ∈ a :: st, P v) : ∀ v ∈ st, P v := (List.forall_mem_cons.mp h).2
theorem st_d2 {P : AV → Prop} {a b : AV} (h : ∀ v ∈ a :: b :: st, P v) : ∀ v ∈ st, P v := st_d (st_d h)
theorem st_d3 {P : AV → Prop} {a b c : AV} (h : ∀ v ∈ a :: b :: c :: st, P v) : ∀ v ∈ st, P v := st_d (st_d (st_d h))
theorem st_h {P : AV → Prop} {a : AV} (h : ∀ v ∈ a :: st, P v) : P a := (List.forall_mem_cons.mp h).1

theorem xr_iadd (HC : xx_C K own tb nL d rt) (i pc' : Nat) {x y : Int32} (hd : tb[i]? = some (pc, .iadd, 1)) (hp : pc + 1 = pc') (k : xx_X K pc' lv (av_I (x + y) :: st) h) : xx_X K pc lv (av_I y :: av_I x :: st) h := by
  subst hp
  intro H locs ls hR hS hM hl ho hs
  exact lv_iadd HC.ex rfl (HC.dec hd) (k H locs ls hR hS hM hl ho (st_2 trivial hs))
theorem xr_isub (HC : xx_C K own tb nL d rt) (i pc' : Nat) {x y : Int32} (hd : tb[i]? = some (pc, .isub, 1)) (hp : pc + 1 = pc') (k : xx_X K pc' lv (av_I (x - y) :: st) h) : xx_X K pc lv (av_I y :: av_I x :: st) h := by
  subst hp
  intro H locs ls hR hS hM hl ho hs
  exact lv_isub HC.ex rfl (HC.dec hd) (k H locs ls hR hS hM hl ho (st_2 trivial hs))
theorem xr_imul (HC : xx_C K own tb nL d rt) (i pc' : Nat) {x y : Int32} (hd : tb[i]? = some (pc, .imul, 1)) (hp : pc + 1 = pc') (k : xx_X K pc' lv (av_I (x * y) :: st) h) : xx_X K pc lv (av_I y :: av_I x :: st) h := by
  subst hp
  intro H locs ls hR hS hM hl ho hs
  exact lv_imul HC.ex rfl (HC.dec hd) (k H locs ls hR hS hM hl ho (st_2 trivial hs))
theorem xr_iand (HC : xx_C K own tb nL d rt) (i pc' : Nat) {x y : Int32} (hd : tb[i]? = some (pc, .iand, 1)) (hp : pc + 1 = pc') (k : xx_X K pc' lv (av_I (x &&& y) :: st) h) : xx_X K pc lv (av_I y :: av_I x :: st) h := by
  subst hp
  intro H locs ls hR hS hM hl ho hs
  exact lv_iand HC.ex rfl (HC.dec hd) (k H locs ls hR hS hM hl ho (st_2 trivial hs))
theorem xr_ior (HC : xx_C K own tb nL d rt) (i pc' : Nat) {x y : Int32} (hd : tb[i]? = some (pc, .ior, 1)) (hp : pc + 1 = pc') (k : xx_X K pc' lv (av_I (x ||| y) :: st) h) : xx_X K pc lv (av_I y :: av_I x :: st) h := by
  subst hp
  intro H locs ls hR hS hM hl ho hs
  exact lv_ior HC.ex rfl (HC.dec hd) (k H locs ls hR hS hM hl ho (st_2 trivial hs))
theorem xr_ixor (HC : xx_C K own tb nL d rt) (i pc' : Nat) {x y : Int32} (hd : tb[i]? = some (pc, .ixor, 1)) (hp : pc + 1 = pc') (k : xx_X K pc' lv (av_I (x ^^^ y) :: st) h) : xx_X K pc lv (av_I y :: av_I x :: st) h := by
  subst hp
  intro H locs ls hR hS hM hl ho hs
  exact lv_ixor HC.ex rfl (HC.dec hd) (k H locs ls hR hS hM hl ho (st_2 trivial hs))
theorem xr_ishl (HC : xx_C K own tb nL d rt) (i pc' : Nat) {x y : Int32} (hd : tb[i]? = some (pc, .ishl, 1)) (hp : pc + 1 = pc') (k : xx_X K pc' lv (av_I (x <<< (y &&& 31)) :: st) h) : xx_X K pc lv (av_I y :: av_I x :: st) h := by
  subst hp
  intro H locs ls hR hS hM hl ho hs
  exact lv_ishl HC.ex rfl (HC.dec hd) (k H locs ls hR hS hM hl ho (st_2 trivial hs))
theorem xr_ishr (HC : xx_C K own tb nL d rt) (i pc' : Nat) {x y : Int32} (hd : tb[i]? = some (pc, .ishr, 1)) (hp : pc + 1 = pc') (k : xx_X K pc' lv (av_I (x >>> (y &&& 31)) :: st) h) : xx_X K pc lv (av_I y :: av_I x :: st) h := by
  subst hp
  intro H locs ls hR hS hM hl ho hs
  exact lv_ishr HC.ex rfl (HC.dec hd) (k H locs ls hR hS hM hl ho (st_2 trivial hs))
theorem xr_iushr (HC : xx_C K own tb nL d rt) (i pc' : Nat) {x y : Int32} (hd : tb[i]? = some (pc, .iushr, 1)) (hp : pc + 1 = pc') (k : xx_X K pc' lv (av_I ((x.toUInt32 >>> (y.toUInt32 &&& Int32.toUInt32 31)).toInt32) :: st) h) : xx_X K pc lv (av_I y :: av_I x :: st) h := by
  subst hp
  intro H locs ls hR hS hM hl ho hs
  exact lv_iushr HC.ex rfl (HC.dec hd) rfl (k H locs ls hR hS hM hl ho (st_2 trivial hs))
theorem xr_idiv (HC : xx_C K own tb nL d rt) (i pc' : Nat) {x y : Int32} (hne : ¬ y = 0) (hd : tb[i]? = some (pc, .idiv, 1)) (hp : pc + 1 = pc') (k : xx_X K pc' lv (av_I (x / y) :: st) h) : xx_X K pc lv (av_I y :: av_I x :: st) h := by
  subst hp
  intro H locs ls hR hS hM hl ho hs
  exact lv_idiv HC.ex rfl (HC.dec hd) hne (k H locs ls hR hS hM hl ho (st_2 trivial hs))
theorem xr_irem (HC : xx_C K own tb nL d rt) (i pc' : Nat) {x y : Int32} (hne : ¬ y = 0) (hd : tb[i]? = some (pc, .irem, 1)) (hp : pc + 1 = pc') (k : xx_X K pc' lv (av_I (x - x / y * y) :: st) h) : xx_X K pc lv (av_I y :: av_I x :: st) h := by
  subst hp
  intro H locs ls hR hS hM hl ho hs
  exact lv_irem HC.ex rfl (HC.dec hd) hne (k H locs ls hR hS hM hl ho (st_2 trivial hs))
theorem xr_ladd (HC : xx_C K own tb nL d rt) (i pc' : Nat) {x y : Int64} (hd : tb[i]? = some (pc, .ladd, 1)) (hp : pc + 1 = pc') (k : xx_X K pc' lv (av_L (x + y) :: st) h) : xx_X K pc lv (av_L y :: av_L x :: st) h := by
  subst hp
  intro H locs ls hR hS hM hl ho hs
  exact lv_ladd HC.ex rfl (HC.dec hd) (k H locs ls hR hS hM hl ho (st_2 trivial hs))
theorem xr_lsub (HC : xx_C K own tb nL d rt) (i pc' : Nat) {x y : Int64} (hd : tb[i]? = some (pc, .lsub, 1)) (hp : pc + 1 = pc') (k : xx_X K pc' lv (av_L (x - y) :: st) h) : xx_X K pc lv (av_L y :: av_L x :: st) h := by
  subst hp
  intro H locs ls hR hS hM hl ho hs
  exact lv_lsub HC.ex rfl (HC.dec hd) (k H locs ls hR hS hM hl ho (st_2 trivial hs))
theorem xr_lmul (HC : xx_C K own tb nL d rt) (i pc' : Nat) {x y : Int64} (hd : tb[i]? = some (pc, .lmul, 1)) (hp : pc + 1 = pc') (k : xx_X K pc' lv (av_L (x * y) :: st) h) : xx_X K pc lv (av_L y :: av_L x :: st) h := by
  subst hp
  intro H locs ls hR hS hM hl ho hs
  exact lv_lmul HC.ex rfl (HC.dec hd) (k H locs ls hR hS hM hl ho (st_2 trivial hs))
theorem xr_land (HC : xx_C K own tb nL d rt) (i pc' : Nat) {x y : Int64} (hd : tb[i]? = some (pc, .land, 1)) (hp : pc + 1 = pc') (k : xx_X K pc' lv (av_L (x &&& y) :: st) h) : xx_X K pc lv (av_L y :: av_L x :: st) h := by
  subst hp
  intro H locs ls hR hS hM hl ho hs
  exact lv_land HC.ex rfl (HC.dec hd) (k H locs ls hR hS hM hl ho (st_2 trivial hs))
theorem xr_lor (HC : xx_C K own tb nL d rt) (i pc' : Nat) {x y : Int64} (hd : tb[i]? = some (pc, .lor, 1)) (hp : pc + 1 = pc') (k : xx_X K pc' lv (av_L (x ||| y) :: st) h) : xx_X K pc lv (av_L y :: av_L x :: st) h := by
  subst hp
  intro H locs ls hR hS hM hl ho hs
  exact lv_lor HC.ex rfl (HC.dec hd) (k H locs ls hR hS hM hl ho (st_2 trivial hs))
theorem xr_lxor (HC : xx_C K own tb nL d rt) (i pc' : Nat) {x y : Int64} (hd : tb[i]? = some (pc, .lxor, 1)) (hp : pc + 1 = pc') (k : xx_X K pc' lv (av_L (x ^^^ y) :: st) h) : xx_X K pc lv (av_L y :: av_L x :: st) h := by
  subst hp
  intro H locs ls hR hS hM hl ho hs
  exact lv_lxor HC.ex rfl (HC.dec hd) (k H locs ls hR hS hM hl ho (st_2 trivial hs))
theorem xr_ldiv (HC : xx_C K own tb nL d rt) (i pc' : Nat) {x y : Int64} (hne : ¬ y = 0) (hd : tb[i]? = some (pc, .ldiv, 1)) (hp : pc + 1 = pc') (k : xx_X K pc' lv (av_L (x / y) :: st) h) : xx_X K pc lv (av_L y :: av_L x :: st) h := by
  subst hp
  intro H locs ls hR hS hM hl ho hs
  exact lv_ldiv HC.ex rfl (HC.dec hd) hne (k H locs ls hR hS hM hl ho (st_2 trivial hs))
theorem xr_lrem (HC : xx_C K own tb nL d rt) (i pc' : Nat) {x y : Int64} (hne : ¬ y = 0) (hd : tb[i]? = some (pc, .lrem, 1)) (hp : pc + 1 = pc') (k : xx_X K pc' lv (av_L (x - x / y * y) :: st) h) : xx_X K pc lv (av_L y :: av_L x :: st) h := by
  subst hp
  intro H locs ls hR hS hM hl ho hs
  exact lv_lrem HC.ex rfl (HC.dec hd) hne (k H locs ls hR hS hM hl ho (st_2 trivial hs))
theorem xr_lneg (HC : xx_C K own tb nL d rt) (i pc' : Nat) {x : Int64} (hd : tb[i]? = some (pc, .lneg, 1)) (hp : pc + 1 = pc') (k : xx_X K pc' lv (av_L (-x) :: st) h) : xx_X K pc lv (av_L x :: st) h := by
  subst hp
  intro H locs ls hR hS hM hl ho hs
  exact lv_lneg HC.ex rfl (HC.dec hd) (k H locs ls hR hS hM hl ho (st_1 trivial hs))
theorem xr_lcmp (HC : xx_C K own tb nL d rt) (i pc' : Nat) {x y : Int64} (hd : tb[i]? = some (pc, .lcmp, 1)) (hp : pc + 1 = pc') (k : xx_X K pc' lv (av_I (lg_cmp x y) :: st) h) : xx_X K pc lv (av_L y :: av_L x :: st) h := by
  subst hp
  intro H locs ls hR hS hM hl ho hs
  exact W.lcmp HC.ex rfl (HC.dec hd) (k H locs ls hR hS hM hl ho (st_2 trivial hs))
theorem xr_lshl (HC : xx_C K own tb nL d rt) (i pc' : Nat) {x : Int64} {y : Int32} (hd : tb[i]? = some (pc, .lshl, 1)) (hp : pc + 1 = pc') (k : xx_X K pc' lv (av_L (x <<< (y.toInt64 &&& 63)) :: st) h) : xx_X K pc lv (av_I y :: av_L x :: st) h := by
  subst hp
  intro H locs ls hR hS hM hl ho hs
  exact lv_lshl HC.ex rfl (HC.dec hd) rfl (k H locs ls hR hS hM hl ho (st_2 trivial hs))
theorem xr_lshr (HC : xx_C K own tb nL d rt) (i pc' : Nat) {x : Int64} {y : Int32} (hd : tb[i]? = some (pc, .lshr, 1)) (hp : pc + 1 = pc') (k : xx_X K pc' lv (av_L (x >>> (y.toInt64 &&& 63)) :: st) h) : xx_X K pc lv (av_I y :: av_L x :: st) h := by
  subst hp
  intro H locs ls hR hS hM hl ho hs
  exact lv_lshr HC.ex rfl (HC.dec hd) rfl (k H locs ls hR hS hM hl ho (st_2 trivial hs))
theorem xr_lushr (HC : xx_C K own tb nL d rt) (i pc' : Nat) {x : Int64} {y : Int32} (hd : tb[i]? = some (pc, .lushr, 1)) (hp : pc + 1 = pc') (k : xx_X K pc' lv (av_L ((x.toUInt64 >>> (y.toInt64.toUInt64 &&& Int64.toUInt64 63)).toInt64) :: st) h) : xx_X K pc lv (av_I y :: av_L x :: st) h := by
  subst hp
  intro H locs ls hR hS hM hl ho hs
  exact lv_lushr HC.ex rfl (HC.dec hd) rfl (k H locs ls hR hS hM hl ho (st_2 trivial hs))
theorem xr_i2l (HC : xx_C K own tb nL d rt) (i pc' : Nat) {x : Int32} (hd : tb[i]? = some (pc, .i2l, 1)) (hp : pc + 1 = pc') (k : xx_X K pc' lv (av_L x.toInt64 :: st) h) : xx_X K pc lv (av_I x :: st) h := by
  subst hp
  intro H locs ls hR hS hM hl ho hs
  exact lv_i2l HC.ex rfl (HC.dec hd) rfl (k H locs ls hR hS hM hl ho (st_1 trivial hs))
theorem xr_l2i (HC : xx_C K own tb nL d rt) (i pc' : Nat) {x : Int64} (hd : tb[i]? = some (pc, .l2i, 1)) (hp : pc + 1 = pc') (k : xx_X K pc' lv (av_I x.toInt32 :: st) h) : xx_X K pc lv (av_L x :: st) h := by
  subst hp
  intro H locs ls hR hS hM hl ho hs
  exact lv_l2i HC.ex rfl (HC.dec hd) rfl (k H locs ls hR hS hM hl ho (st_1 trivial hs))
theorem xr_i2b (HC : xx_C K own tb nL d rt) (i pc' : Nat) {x : Int32} (hd : tb[i]? = some (pc, .i2b, 1)) (hp : pc + 1 = pc') (k : xx_X K pc' lv (av_I x.toInt8.toInt32 :: st) h) : xx_X K pc lv (av_I x :: st) h := by
  subst hp
  intro H locs ls hR hS hM hl ho hs
  exact lv_i2b HC.ex rfl (HC.dec hd) rfl (k H locs ls hR hS hM hl ho (st_1 trivial hs))
theorem xr_iconst (HC : xx_C K own tb nL d rt) (i pc' : Nat) {n : Int} (v : Int32) (hv : Int32.ofInt n = v) (hd : tb[i]? = some (pc, .iconst n, 1)) (hp : pc + 1 = pc') (k : xx_X K pc' lv (av_I v :: st) h) : xx_X K pc lv (st) h := by
  subst hp
  intro H locs ls hR hS hM hl ho hs
  exact lv_iconst HC.ex rfl (HC.dec hd) hv (k H locs ls hR hS hM hl ho (st_0 trivial hs))
theorem xr_bipush (HC : xx_C K own tb nL d rt) (i pc' : Nat) {n : Int} (v : Int32) (hv : (Int8.ofInt n).toInt32 = v) (hd : tb[i]? = some (pc, .bipush n, 2)) (hp : pc + 2 = pc') (k : xx_X K pc' lv (av_I v :: st) h) : xx_X K pc lv (st) h := by
  subst hp
  intro H locs ls hR hS hM hl ho hs
  exact lv_bipush HC.ex rfl (HC.dec hd) hv (k H locs ls hR hS hM hl ho (st_0 trivial hs))
theorem xr_sipush (HC : xx_C K own tb nL d rt) (i pc' : Nat) {n : Int} (v : Int32) (hv : (Int16.ofInt n).toInt32 = v) (hd : tb[i]? = some (pc, .sipush n, 3)) (hp : pc + 3 = pc') (k : xx_X K pc' lv (av_I v :: st) h) : xx_X K pc lv (st) h := by
  subst hp
  intro H locs ls hR hS hM hl ho hs
  exact lv_sipush HC.ex rfl (HC.dec hd) hv (k H locs ls hR hS hM hl ho (st_0 trivial hs))
theorem xr_lconst (HC : xx_C K own tb nL d rt) (i pc' : Nat) {n : Fin 2} (v : Int64) (hv : Int64.ofNat (n : Nat) = v) (hd : tb[i]? = some (pc, .lconst n, 1)) (hp : pc + 1 = pc') (k : xx_X K pc' lv (av_L v :: st) h) : xx_X K pc lv (st) h := by
  subst hp
  intro H locs ls hR hS hM hl ho hs
  exact lv_lconst HC.ex rfl (HC.dec hd) hv (k H locs ls hR hS hM hl ho (st_0 trivial hs))
theorem xr_ldc (HC : xx_C K own tb nL d rt) (i pc' : Nat) {ix : Nat} {v : Int32} (hw : Cond.constant own ix v ∈ ly_T) (hd : tb[i]? = some (pc, .ldc ix, 2)) (hp : pc + 2 = pc') (k : xx_X K pc' lv (av_I v :: st) h) : xx_X K pc lv (st) h := by
  subst hp
  intro H locs ls hR hS hM hl ho hs
  exact lv_ldc HC.ex rfl HC.ow (HC.hts _ hw) (HC.dec hd) (k H locs ls hR hS hM hl ho (st_0 trivial hs))
theorem xr_ldcw (HC : xx_C K own tb nL d rt) (i pc' : Nat) {ix : Nat} {v : Int32} (hw : Cond.constant own ix v ∈ ly_T) (hd : tb[i]? = some (pc, .ldc_w ix, 3)) (hp : pc + 3 = pc') (k : xx_X K pc' lv (av_I v :: st) h) : xx_X K pc lv (st) h := by
  subst hp
  intro H locs ls hR hS hM hl ho hs
  exact lv_ldcw HC.ex rfl HC.ow (HC.hts _ hw) (HC.dec hd) (k H locs ls hR hS hM hl ho (st_0 trivial hs))
theorem xr_ldc2 (HC : xx_C K own tb nL d rt) (i pc' : Nat) {ix : Nat} {v : Int64} (hw : Cond.constantLong own ix v ∈ ly_T) (hd : tb[i]? = some (pc, .ldc2_w ix, 3)) (hp : pc + 3 = pc') (k : xx_X K pc' lv (av_L v :: st) h) : xx_X K pc lv (st) h := by
  subst hp
  intro H locs ls hR hS hM hl ho hs
  exact lv_ldc2 HC.ex rfl HC.ow (HC.hts _ hw) (HC.dec hd) (k H locs ls hR hS hM hl ho (st_0 trivial hs))
theorem xr_dup (HC : xx_C K own tb nL d rt) (i pc' : Nat) {v : AV} (hv : av_w v = false) (hd : tb[i]? = some (pc, .dup, 1)) (hp : pc + 1 = pc') (k : xx_X K pc' lv (v :: v :: st) h) : xx_X K pc lv (v :: st) h := by
  subst hp
  intro H locs ls hR hS hM hl ho hs
  exact lv_dup HC.ex rfl (HC.dec hd) (av_cat1 hv) (k H locs ls hR hS hM hl ho (st_0 (st_h hs) hs))
theorem xr_pop (HC : xx_C K own tb nL d rt) (i pc' : Nat) {v : AV} (hv : av_w v = false) (hd : tb[i]? = some (pc, .pop, 1)) (hp : pc + 1 = pc') (k : xx_X K pc' lv (st) h) : xx_X K pc lv (v :: st) h := by
  subst hp
  intro H locs ls hR hS hM hl ho hs
  exact lv_pop HC.ex rfl (HC.dec hd) (av_cat1 hv) (k H locs ls hR hS hM hl ho (st_d hs))
theorem xr_dup2 (HC : xx_C K own tb nL d rt) (i pc' : Nat) {v w : AV} (hv : av_w v = false) (hw : av_w w = false) (hd : tb[i]? = some (pc, .dup2, 1)) (hp : pc + 1 = pc') (k : xx_X K pc' lv (v :: w :: v :: w :: st) h) : xx_X K pc lv (v :: w :: st) h := by
  subst hp
  intro H locs ls hR hS hM hl ho hs
  exact lv_dup2_11 HC.ex rfl (HC.dec hd) (av_cat1 hv) (av_cat1 hw) (k H locs ls hR hS hM hl ho (st_0 (st_h hs) (st_0 (st_h (st_d hs)) hs)))
theorem lv_mem {lv : List (Nat × AV)} {q : Nat × Value} (hq : q ∈ lv.map av_p) : ∃ r ∈ lv, av_p r = q := by
  obtain ⟨r, h1, h2⟩ := List.mem_map.mp hq
  exact ⟨r, h1, h2⟩
theorem lv_get {ls : Array Slot} {lv : List (Nat × AV)} {n j i : Nat} {v : AV} (hl : lv_has ls n (lv.map av_p)) (hj : lv[j]? = some (i, v)) : ls[i]? = some (.val (av_c v)) := hl.2.2 (i, av_c v) (List.mem_map.mpr ⟨(i, v), List.mem_of_getElem? hj, rfl⟩)
theorem lv_okj {g : LG} {lv : List (Nat × AV)} {j i : Nat} {v : AV} (ho : ∀ q ∈ lv, av_ok g h q.2) (hj : lv[j]? = some (i, v)) : av_ok g h v := ho (i, v) (List.mem_of_getElem? hj)
def lv_ins : List (Nat × AV) → Nat × AV → List (Nat × AV)
  | [], q => [q]
  | p :: l, q => if q.1 ≤ p.1 then q :: p :: l else p :: lv_ins l q
theorem lv_insm {q : Nat × AV} : ∀ (l : List (Nat × AV)) (p : Nat × AV), q ∈ lv_ins l p → q = p ∨ q ∈ l
  | [], p, h => by simpa [lv_ins] using h
  | r :: l, p, h => by
    simp only [lv_ins] at h
    split at h
    · rcases List.mem_cons.mp h with h | h
      · exact Or.inl h
      · exact Or.inr h
    · rcases List.mem_cons.mp h with h | h
      · exact Or.inr (h ▸ List.mem_cons_self)
      · rcases lv_insm l p h with h | h
        · exact Or.inl h
        · exact Or.inr (List.mem_cons_of_mem _ h)
def lv_put (lv : List (Nat × AV)) (i : Nat) (v : AV) : List (Nat × AV) := lv_ins (lv.filter (fun q => !(q.1 == i) && (!(av_w v && q.1 == i + 1) && !(q.1 + 1 == i && av_w q.2)))) (i, v)
theorem lv_putm {lv : List (Nat × AV)} {i : Nat} {v : AV} {q : Nat × AV} (hq : q ∈ lv_put lv i v) : q = (i, v) ∨ (q ∈ lv ∧ (!(q.1 == i) && (!(av_w v && q.1 == i + 1) && !(q.1 + 1 == i && av_w q.2))) = true) := by
  rcases lv_insm _ _ hq with h | h
  · exact Or.inl h
  · exact Or.inr (List.mem_filter.mp h)
theorem lv_put1 {ls' : Array Slot} {lv : List (Nat × AV)} {n i : Nat} {v : AV} (hw : av_w v = false) (h : lv_has ls' n ((i, av_c v) :: (lv.map av_p).filter (fun q => !(q.1 == i) && !(q.1 + 1 == i && q.2.category == 2)))) : lv_has ls' n ((lv_put lv i v).map av_p) := by
  refine ⟨h.1, h.2.1, fun q hq => h.2.2 q ?_⟩
  obtain ⟨r, hr, rfl⟩ := lv_mem hq
  rcases lv_putm hr with rfl | ⟨h1, h2⟩
  · exact List.mem_cons_self
  · refine List.mem_cons_of_mem _ (List.mem_filter.mpr ⟨List.mem_map.mpr ⟨r, h1, rfl⟩, ?_⟩)
    simp only [hw, Bool.false_and, Bool.not_false, Bool.true_and] at h2
    show (!(r.1 == i) && !(r.1 + 1 == i && (av_c r.2).category == 2)) = true
    rw [av_cat]
    exact h2
theorem lv_put2 {ls' : Array Slot} {lv : List (Nat × AV)} {n i : Nat} {v : AV} (hw : av_w v = true) (h : lv_has ls' n ((i, av_c v) :: (lv.map av_p).filter (fun q => !(q.1 == i) && (!(q.1 == i + 1) && !(q.1 + 1 == i && q.2.category == 2))))) : lv_has ls' n ((lv_put lv i v).map av_p) := by
  refine ⟨h.1, h.2.1, fun q hq => h.2.2 q ?_⟩
  obtain ⟨r, hr, rfl⟩ := lv_mem hq
  rcases lv_putm hr with rfl | ⟨h1, h2⟩
  · exact List.mem_cons_self
  · refine List.mem_cons_of_mem _ (List.mem_filter.mpr ⟨List.mem_map.mpr ⟨r, h1, rfl⟩, ?_⟩)
    simp only [hw, Bool.true_and] at h2
    show (!(r.1 == i) && (!(r.1 == i + 1) && !(r.1 + 1 == i && (av_c r.2).category == 2))) = true
    rw [av_cat]
    exact h2
theorem lv_puto {g : LG} {lv : List (Nat × AV)} {i : Nat} {v : AV} (hv : av_ok g h v) (ho : ∀ q ∈ lv, av_ok g h q.2) : ∀ q ∈ lv_put lv i v, av_ok g h q.2 := by
  intro q hq
  rcases lv_putm hq with rfl | ⟨h1, -⟩
  · exact hv
  · exact ho q h1
def lv_pk (l : List (Nat × AV)) (ks : List Nat) : List (Nat × AV) := ks.filterMap (fun k => l[k]?)
theorem lv_pkm {l : List (Nat × AV)} {ks : List Nat} {q : Nat × AV} (h : q ∈ lv_pk l ks) : q ∈ l := by
  obtain ⟨k, -, hk⟩ := List.mem_filterMap.mp h
  exact List.mem_of_getElem? hk
theorem xr_sub {lv' : List (Nat × AV)} (ks : List Nat) (hk : lv_pk lv ks = lv') (k : xx_X K pc lv' st h) : xx_X K pc lv st h := by
  subst hk
  intro H locs ls hR hS hM hl ho hs
  refine k H locs ls hR hS hM ⟨hl.1, hl.2.1, fun q hq => ?_⟩ (fun q hq => ho q (lv_pkm hq)) hs
  obtain ⟨r, hr, rfl⟩ := lv_mem hq
  exact hl.2.2 _ (List.mem_map.mpr ⟨r, lv_pkm hr, rfl⟩)
theorem xr_iload_n (HC : xx_C K own tb nL d rt) (i pc' : Nat) {n : Fin 4} {ix j : Nat} {x : Int32} (hn : (n : Nat) = ix) (hj : lv[j]? = some (ix, av_I x)) (hd : tb[i]? = some (pc, .iload_n n, 1)) (hp : pc + 1 = pc') (k : xx_X K pc' lv (av_I x :: st) h) : xx_X K pc lv (st) h := by
  subst hp
  intro H locs ls hR hS hM hl ho hs
  exact lv_iload_n HC.ex rfl (HC.dec hd) hn (lv_get hl hj) (k H locs ls hR hS hM hl ho (st_0 trivial hs))
theorem xr_iload (HC : xx_C K own tb nL d rt) (i pc' : Nat) {ix j : Nat} {x : Int32} (hj : lv[j]? = some (ix, av_I x)) (hd : tb[i]? = some (pc, .iload ix, 2)) (hp : pc + 2 = pc') (k : xx_X K pc' lv (av_I x :: st) h) : xx_X K pc lv (st) h := by
  subst hp
  intro H locs ls hR hS hM hl ho hs
  exact lv_iload HC.ex rfl (HC.dec hd) (lv_get hl hj) (k H locs ls hR hS hM hl ho (st_0 trivial hs))
theorem xr_lload_n (HC : xx_C K own tb nL d rt) (i pc' : Nat) {n : Fin 4} {ix j : Nat} {x : Int64} (hn : (n : Nat) = ix) (hj : lv[j]? = some (ix, av_L x)) (hd : tb[i]? = some (pc, .lload_n n, 1)) (hp : pc + 1 = pc') (k : xx_X K pc' lv (av_L x :: st) h) : xx_X K pc lv (st) h := by
  subst hp
  intro H locs ls hR hS hM hl ho hs
  exact lv_lload_n HC.ex rfl (HC.dec hd) hn (lv_get hl hj) (k H locs ls hR hS hM hl ho (st_0 trivial hs))
theorem xr_lload (HC : xx_C K own tb nL d rt) (i pc' : Nat) {ix j : Nat} {x : Int64} (hj : lv[j]? = some (ix, av_L x)) (hd : tb[i]? = some (pc, .lload ix, 2)) (hp : pc + 2 = pc') (k : xx_X K pc' lv (av_L x :: st) h) : xx_X K pc lv (st) h := by
  subst hp
  intro H locs ls hR hS hM hl ho hs
  exact lv_lload HC.ex rfl (HC.dec hd) (lv_get hl hj) (k H locs ls hR hS hM hl ho (st_0 trivial hs))
theorem xr_aload_n (HC : xx_C K own tb nL d rt) (i pc' : Nat) {n : Fin 4} {ix j c x : Nat} (hn : (n : Nat) = ix) (hj : lv[j]? = some (ix, av_R c (some x))) (hd : tb[i]? = some (pc, .aload_n n, 1)) (hp : pc + 1 = pc') (k : xx_X K pc' lv (av_R c (some x) :: st) h) : xx_X K pc lv (st) h := by
  subst hp
  intro H locs ls hR hS hM hl ho hs
  exact lv_aload_n HC.ex rfl (HC.dec hd) hn (lv_get hl hj) (k H locs ls hR hS hM hl ho (st_0 (lv_okj ho hj) hs))
theorem xr_aload (HC : xx_C K own tb nL d rt) (i pc' : Nat) {ix j c x : Nat} (hj : lv[j]? = some (ix, av_R c (some x))) (hd : tb[i]? = some (pc, .aload ix, 2)) (hp : pc + 2 = pc') (k : xx_X K pc' lv (av_R c (some x) :: st) h) : xx_X K pc lv (st) h := by
  subst hp
  intro H locs ls hR hS hM hl ho hs
  exact lv_aload HC.ex rfl (HC.dec hd) (lv_get hl hj) (k H locs ls hR hS hM hl ho (st_0 (lv_okj ho hj) hs))
theorem xr_istore_n (HC : xx_C K own tb nL d rt) (i pc' : Nat) {n : Fin 4} {ix : Nat} {x : Int32} (hn : (n : Nat) = ix) {lv' : List (Nat × AV)} (hd : tb[i]? = some (pc, .istore_n n, 1)) (hp : pc + 1 = pc') (hb : ix < nL) (hl' : lv_put lv ix (av_I x) = lv') (k : xx_X K pc' lv' st h) : xx_X K pc lv (av_I x :: st) h := by
  subst hp
  subst hl'
  intro H locs ls hR hS hM hl ho hs
  exact lv_istore_n HC.ex rfl (HC.dec hd) hn hl (by rw [HC.nl]; exact hb) rfl (fun ls' hl2 => k H locs ls' hR hS hM (lv_put1 rfl hl2) (lv_puto (st_h hs) ho) (st_d hs))
theorem xr_istore (HC : xx_C K own tb nL d rt) (i pc' : Nat) {ix : Nat} {x : Int32} {lv' : List (Nat × AV)} (hd : tb[i]? = some (pc, .istore ix, 2)) (hp : pc + 2 = pc') (hb : ix < nL) (hl' : lv_put lv ix (av_I x) = lv') (k : xx_X K pc' lv' st h) : xx_X K pc lv (av_I x :: st) h := by
  subst hp
  subst hl'
  intro H locs ls hR hS hM hl ho hs
  exact lv_istore HC.ex rfl (HC.dec hd) hl (by rw [HC.nl]; exact hb) rfl (fun ls' hl2 => k H locs ls' hR hS hM (lv_put1 rfl hl2) (lv_puto (st_h hs) ho) (st_d hs))
theorem xr_lstore_n (HC : xx_C K own tb nL d rt) (i pc' : Nat) {n : Fin 4} {ix : Nat} {x : Int64} (hn : (n : Nat) = ix) {lv' : List (Nat × AV)} (hd : tb[i]? = some (pc, .lstore_n n, 1)) (hp : pc + 1 = pc') (hb : ix + 1 < nL) (hl' : lv_put lv ix (av_L x) = lv') (k : xx_X K pc' lv' st h) : xx_X K pc lv (av_L x :: st) h := by
  subst hp
  subst hl'
  intro H locs ls hR hS hM hl ho hs
  exact lv_lstore_n HC.ex rfl (HC.dec hd) hn hl (by rw [HC.nl]; exact hb) rfl (fun ls' hl2 => k H locs ls' hR hS hM (lv_put2 rfl hl2) (lv_puto (st_h hs) ho) (st_d hs))
theorem xr_lstore (HC : xx_C K own tb nL d rt) (i pc' : Nat) {ix : Nat} {x : Int64} {lv' : List (Nat × AV)} (hd : tb[i]? = some (pc, .lstore ix, 2)) (hp : pc + 2 = pc') (hb : ix + 1 < nL) (hl' : lv_put lv ix (av_L x) = lv') (k : xx_X K pc' lv' st h) : xx_X K pc lv (av_L x :: st) h := by
  subst hp
  subst hl'
  intro H locs ls hR hS hM hl ho hs
  exact lv_lstore HC.ex rfl (HC.dec hd) hl (by rw [HC.nl]; exact hb) rfl (fun ls' hl2 => k H locs ls' hR hS hM (lv_put2 rfl hl2) (lv_puto (st_h hs) ho) (st_d hs))
theorem xr_astore_n (HC : xx_C K own tb nL d rt) (i pc' : Nat) {n : Fin 4} {ix c x : Nat} (hn : (n : Nat) = ix) {lv' : List (Nat × AV)} (hd : tb[i]? = some (pc, .astore_n n, 1)) (hp : pc + 1 = pc') (hb : ix < nL) (hl' : lv_put lv ix (av_R c (some x)) = lv') (k : xx_X K pc' lv' st h) : xx_X K pc lv (av_R c (some x) :: st) h := by
  subst hp
  subst hl'
  intro H locs ls hR hS hM hl ho hs
  exact lv_astore_n HC.ex rfl (HC.dec hd) hn hl (by rw [HC.nl]; exact hb) rfl (fun ls' hl2 => k H locs ls' hR hS hM (lv_put1 rfl hl2) (lv_puto (st_h hs) ho) (st_d hs))
theorem xr_astore (HC : xx_C K own tb nL d rt) (i pc' : Nat) {ix c x : Nat} {lv' : List (Nat × AV)} (hd : tb[i]? = some (pc, .astore ix, 2)) (hp : pc + 2 = pc') (hb : ix < nL) (hl' : lv_put lv ix (av_R c (some x)) = lv') (k : xx_X K pc' lv' st h) : xx_X K pc lv (av_R c (some x) :: st) h := by
  subst hp
  subst hl'
  intro H locs ls hR hS hM hl ho hs
  exact lv_astore HC.ex rfl (HC.dec hd) hl (by rw [HC.nl]; exact hb) rfl (fun ls' hl2 => k H locs ls' hR hS hM (lv_put1 rfl hl2) (lv_puto (st_h hs) ho) (st_d hs))
theorem xr_iinc (HC : xx_C K own tb nL d rt) (i pc' : Nat) {ix j : Nat} {n : Int} {x : Int32} (v : Int32) {lv' : List (Nat × AV)} (hj : lv[j]? = some (ix, av_I x)) (hv : x + Int32.ofInt n = v) (hd : tb[i]? = some (pc, .iinc ix n, 3)) (hp : pc + 3 = pc') (hb : ix < nL) (hl' : lv_put lv ix (av_I v) = lv') (k : xx_X K pc' lv' st h) : xx_X K pc lv st h := by
  subst hp
  subst hl'
  intro H locs ls hR hS hM hl ho hs
  have hj2 : (lv.map av_p)[j]? = some (ix, .int x) := by rw [List.getElem?_map, hj]; rfl
  exact lv_iinc HC.ex rfl (HC.dec hd) hl hj2 hv (by rw [HC.nl]; exact hb) rfl (fun ls' hl2 => k H locs ls' hR hS hM (lv_put1 rfl hl2) (lv_puto trivial ho) hs)
theorem xr_goto (HC : xx_C K own tb nL d rt) (i pc' : Nat) {off : Int} (hd : tb[i]? = some (pc, .goto off, 3)) (hp : (pc : Int) + off = (pc' : Int)) (k : xx_X K pc' lv st h) : xx_X K pc lv st h := by
  intro H locs ls hR hS hM hl ho hs
  exact lv_goto HC.ex rfl (HC.dec hd) hp (k H locs ls hR hS hM hl ho hs)
theorem xr_if_eq (HC : xx_C K own tb nL d rt) (i pt pf : Nat) {x : Int32} {off : Int} (hd : tb[i]? = some (pc, .ifCond .eq off, 3)) (hp : (pc : Int) + off = (pt : Int)) (hf : pc + 3 = pf) (k1 : x = 0 → xx_X K pt lv st h) (k2 : ¬ x = 0 → xx_X K pf lv st h) : xx_X K pc lv (av_I x :: st) h := by
  subst hf
  intro H locs ls hR hS hM hl ho hs
  exact lv_if_eq HC.ex rfl (HC.dec hd) hp (fun q => k1 q H locs ls hR hS hM hl ho (st_d hs)) (fun q => k2 q H locs ls hR hS hM hl ho (st_d hs))
theorem xr_if_ne (HC : xx_C K own tb nL d rt) (i pt pf : Nat) {x : Int32} {off : Int} (hd : tb[i]? = some (pc, .ifCond .ne off, 3)) (hp : (pc : Int) + off = (pt : Int)) (hf : pc + 3 = pf) (k1 : ¬ x = 0 → xx_X K pt lv st h) (k2 : x = 0 → xx_X K pf lv st h) : xx_X K pc lv (av_I x :: st) h := by
  subst hf
  intro H locs ls hR hS hM hl ho hs
  exact lv_if_ne HC.ex rfl (HC.dec hd) hp (fun q => k1 q H locs ls hR hS hM hl ho (st_d hs)) (fun q => k2 q H locs ls hR hS hM hl ho (st_d hs))
theorem xr_if_lt (HC : xx_C K own tb nL d rt) (i pt pf : Nat) {x : Int32} {off : Int} (hd : tb[i]? = some (pc, .ifCond .lt off, 3)) (hp : (pc : Int) + off = (pt : Int)) (hf : pc + 3 = pf) (k1 : x < 0 → xx_X K pt lv st h) (k2 : ¬ x < 0 → xx_X K pf lv st h) : xx_X K pc lv (av_I x :: st) h := by
  subst hf
  intro H locs ls hR hS hM hl ho hs
  exact lv_if_lt HC.ex rfl (HC.dec hd) hp (fun q => k1 q H locs ls hR hS hM hl ho (st_d hs)) (fun q => k2 q H locs ls hR hS hM hl ho (st_d hs))
theorem xr_if_ge (HC : xx_C K own tb nL d rt) (i pt pf : Nat) {x : Int32} {off : Int} (hd : tb[i]? = some (pc, .ifCond .ge off, 3)) (hp : (pc : Int) + off = (pt : Int)) (hf : pc + 3 = pf) (k1 : 0 ≤ x → xx_X K pt lv st h) (k2 : ¬ 0 ≤ x → xx_X K pf lv st h) : xx_X K pc lv (av_I x :: st) h := by
  subst hf
  intro H locs ls hR hS hM hl ho hs
  exact lv_if_ge HC.ex rfl (HC.dec hd) hp (fun q => k1 q H locs ls hR hS hM hl ho (st_d hs)) (fun q => k2 q H locs ls hR hS hM hl ho (st_d hs))
theorem xr_if_gt (HC : xx_C K own tb nL d rt) (i pt pf : Nat) {x : Int32} {off : Int} (hd : tb[i]? = some (pc, .ifCond .gt off, 3)) (hp : (pc : Int) + off = (pt : Int)) (hf : pc + 3 = pf) (k1 : 0 < x → xx_X K pt lv st h) (k2 : ¬ 0 < x → xx_X K pf lv st h) : xx_X K pc lv (av_I x :: st) h := by
  subst hf
  intro H locs ls hR hS hM hl ho hs
  exact lv_if_gt HC.ex rfl (HC.dec hd) hp (fun q => k1 q H locs ls hR hS hM hl ho (st_d hs)) (fun q => k2 q H locs ls hR hS hM hl ho (st_d hs))
theorem xr_if_le (HC : xx_C K own tb nL d rt) (i pt pf : Nat) {x : Int32} {off : Int} (hd : tb[i]? = some (pc, .ifCond .le off, 3)) (hp : (pc : Int) + off = (pt : Int)) (hf : pc + 3 = pf) (k1 : x ≤ 0 → xx_X K pt lv st h) (k2 : ¬ x ≤ 0 → xx_X K pf lv st h) : xx_X K pc lv (av_I x :: st) h := by
  subst hf
  intro H locs ls hR hS hM hl ho hs
  exact lv_if_le HC.ex rfl (HC.dec hd) hp (fun q => k1 q H locs ls hR hS hM hl ho (st_d hs)) (fun q => k2 q H locs ls hR hS hM hl ho (st_d hs))
theorem xr_icmp_eq (HC : xx_C K own tb nL d rt) (i pt pf : Nat) {x y : Int32} {off : Int} (hd : tb[i]? = some (pc, .if_icmp .eq off, 3)) (hp : (pc : Int) + off = (pt : Int)) (hf : pc + 3 = pf) (k1 : x = y → xx_X K pt lv st h) (k2 : ¬ x = y → xx_X K pf lv st h) : xx_X K pc lv (av_I y :: av_I x :: st) h := by
  subst hf
  intro H locs ls hR hS hM hl ho hs
  exact lv_icmp_eq HC.ex rfl (HC.dec hd) hp (fun q => k1 q H locs ls hR hS hM hl ho (st_d2 hs)) (fun q => k2 q H locs ls hR hS hM hl ho (st_d2 hs))
theorem xr_icmp_ne (HC : xx_C K own tb nL d rt) (i pt pf : Nat) {x y : Int32} {off : Int} (hd : tb[i]? = some (pc, .if_icmp .ne off, 3)) (hp : (pc : Int) + off = (pt : Int)) (hf : pc + 3 = pf) (k1 : ¬ x = y → xx_X K pt lv st h) (k2 : x = y → xx_X K pf lv st h) : xx_X K pc lv (av_I y :: av_I x :: st) h := by
  subst hf
  intro H locs ls hR hS hM hl ho hs
  exact lv_icmp_ne HC.ex rfl (HC.dec hd) hp (fun q => k1 q H locs ls hR hS hM hl ho (st_d2 hs)) (fun q => k2 q H locs ls hR hS hM hl ho (st_d2 hs))
theorem xr_icmp_lt (HC : xx_C K own tb nL d rt) (i pt pf : Nat) {x y : Int32} {off : Int} (hd : tb[i]? = some (pc, .if_icmp .lt off, 3)) (hp : (pc : Int) + off = (pt : Int)) (hf : pc + 3 = pf) (k1 : x < y → xx_X K pt lv st h) (k2 : ¬ x < y → xx_X K pf lv st h) : xx_X K pc lv (av_I y :: av_I x :: st) h := by
  subst hf
  intro H locs ls hR hS hM hl ho hs
  exact lv_icmp_lt HC.ex rfl (HC.dec hd) hp (fun q => k1 q H locs ls hR hS hM hl ho (st_d2 hs)) (fun q => k2 q H locs ls hR hS hM hl ho (st_d2 hs))
theorem xr_icmp_ge (HC : xx_C K own tb nL d rt) (i pt pf : Nat) {x y : Int32} {off : Int} (hd : tb[i]? = some (pc, .if_icmp .ge off, 3)) (hp : (pc : Int) + off = (pt : Int)) (hf : pc + 3 = pf) (k1 : y ≤ x → xx_X K pt lv st h) (k2 : ¬ y ≤ x → xx_X K pf lv st h) : xx_X K pc lv (av_I y :: av_I x :: st) h := by
  subst hf
  intro H locs ls hR hS hM hl ho hs
  exact lv_icmp_ge HC.ex rfl (HC.dec hd) hp (fun q => k1 q H locs ls hR hS hM hl ho (st_d2 hs)) (fun q => k2 q H locs ls hR hS hM hl ho (st_d2 hs))
theorem xr_icmp_gt (HC : xx_C K own tb nL d rt) (i pt pf : Nat) {x y : Int32} {off : Int} (hd : tb[i]? = some (pc, .if_icmp .gt off, 3)) (hp : (pc : Int) + off = (pt : Int)) (hf : pc + 3 = pf) (k1 : y < x → xx_X K pt lv st h) (k2 : ¬ y < x → xx_X K pf lv st h) : xx_X K pc lv (av_I y :: av_I x :: st) h := by
  subst hf
  intro H locs ls hR hS hM hl ho hs
  exact lv_icmp_gt HC.ex rfl (HC.dec hd) hp (fun q => k1 q H locs ls hR hS hM hl ho (st_d2 hs)) (fun q => k2 q H locs ls hR hS hM hl ho (st_d2 hs))
theorem xr_icmp_le (HC : xx_C K own tb nL d rt) (i pt pf : Nat) {x y : Int32} {off : Int} (hd : tb[i]? = some (pc, .if_icmp .le off, 3)) (hp : (pc : Int) + off = (pt : Int)) (hf : pc + 3 = pf) (k1 : x ≤ y → xx_X K pt lv st h) (k2 : ¬ x ≤ y → xx_X K pf lv st h) : xx_X K pc lv (av_I y :: av_I x :: st) h := by
  subst hf
  intro H locs ls hR hS hM hl ho hs
  exact lv_icmp_le HC.ex rfl (HC.dec hd) hp (fun q => k1 q H locs ls hR hS hM hl ho (st_d2 hs)) (fun q => k2 q H locs ls hR hS hM hl ho (st_d2 hs))
theorem xr_ifnonnull (HC : xx_C K own tb nL d rt) (i pt pf : Nat) {c : Nat} {r : Option Nat} {off : Int} (hd : tb[i]? = some (pc, .ifnonnull off, 3)) (hp : (pc : Int) + off = (pt : Int)) (hf : pc + 3 = pf) (k1 : ¬ r = none → xx_X K pt lv st h) (k2 : r = none → xx_X K pf lv st h) : xx_X K pc lv (av_R c r :: st) h := by
  subst hf
  intro H locs ls hR hS hM hl ho hs
  cases r with
  | none => exact lv_ifnonnullN HC.ex rfl (HC.dec hd) (k2 rfl H locs ls hR hS hM hl ho (st_d hs))
  | some a => exact lv_ifnonnull HC.ex rfl (HC.dec hd) hp (k1 (fun q => by cases q) H locs ls hR hS hM hl ho (st_d hs))
theorem xr_ifnull (HC : xx_C K own tb nL d rt) (i pt pf : Nat) {c : Nat} {r : Option Nat} {off : Int} (hd : tb[i]? = some (pc, .ifnull off, 3)) (hp : (pc : Int) + off = (pt : Int)) (hf : pc + 3 = pf) (k1 : r = none → xx_X K pt lv st h) (k2 : ¬ r = none → xx_X K pf lv st h) : xx_X K pc lv (av_R c r :: st) h := by
  subst hf
  intro H locs ls hR hS hM hl ho hs
  cases r with
  | none => exact lv_ifnullN HC.ex rfl (HC.dec hd) hp (k1 rfl H locs ls hR hS hM hl ho (st_d hs))
  | some a => exact lv_ifnull HC.ex rfl (HC.dec hd) (k2 (fun q => by cases q) H locs ls hR hS hM hl ho (st_d hs))
theorem xr_tabI (HC : xx_C K own tb nL d rt) (i pt : Nat) {x : Int32} (v : Int32) {lo hi df : Int} {offs : Array Int} {ln : Nat} {off : Int} (hd : tb[i]? = some (pc, .tableswitch df lo hi offs, ln)) (hx : x = v) (h1 : ¬ v.toInt < lo) (h2 : ¬ hi < v.toInt) (ho2 : offs[(v.toInt - lo).toNat]? = some off) (hp : (pc : Int) + off = (pt : Int)) (k : xx_X K pt lv st h) : xx_X K pc lv (av_I x :: st) h := by
  subst hx
  intro H locs ls hR hS hM hl ho hs
  exact lv_tableIn HC.ex rfl (HC.dec hd) h1 h2 ho2 hp (k H locs ls hR hS hM hl ho (st_d hs))
theorem xr_tabO (HC : xx_C K own tb nL d rt) (i pt : Nat) {x : Int32} (vs : List Int32) {lo hi df : Int} {offs : Array Int} {ln : Nat} (hd : tb[i]? = some (pc, .tableswitch df lo hi offs, ln)) (hv : ∀ j : Fin (hi - lo + 1).toNat, ∃ v ∈ vs, v.toInt = lo + (j.val : Int)) (hx : ∀ v ∈ vs, ¬ x = v) (hp : (pc : Int) + df = (pt : Int)) (k : xx_X K pt lv st h) : xx_X K pc lv (av_I x :: st) h := by
  intro H locs ls hR hS hM hl ho hs
  refine lv_tableOut HC.ex rfl (HC.dec hd) ?_ hp (k H locs ls hR hS hM hl ho (st_d hs))
  by_cases h1 : x.toInt < lo
  · exact Or.inl h1
  · by_cases h2 : hi < x.toInt
    · exact Or.inr h2
    · exfalso
      obtain ⟨v, hv1, hv2⟩ := hv ⟨(x.toInt - lo).toNat, by omega⟩
      refine hx v hv1 (Int32.toInt_inj.mp ?_)
      have : (((x.toInt - lo).toNat : Nat) : Int) = x.toInt - lo := Int.toNat_of_nonneg (by omega)
      rw [hv2]
      show x.toInt = lo + (((x.toInt - lo).toNat : Nat) : Int)
      omega
theorem xr_look (HC : xx_C K own tb nL d rt) (i pt : Nat) {x : Int32} {df : Int} {ps : Array (Int × Int)} {ln : Nat} {off : Int} (hd : tb[i]? = some (pc, .lookupswitch df ps, ln)) (hq : (ps.toList.zip (ps.toList.drop 1)).all (fun (a, next) => a.1 < next.1) = true) (ho2 : Op.lookupswitch.offset ps.toList df x.toInt = off) (hp : (pc : Int) + off = (pt : Int)) (k : xx_X K pt lv st h) : xx_X K pc lv (av_I x :: st) h := by
  intro H locs ls hR hS hM hl ho hs
  exact lv_lookup HC.ex rfl (HC.dec hd) hq ho2 hp (k H locs ls hR hS hM hl ho (st_d hs))
end XR
