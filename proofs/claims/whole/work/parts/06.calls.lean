/-! new cells, calls, returns -/
def hp_le (h h' : HP) : Prop := hp_z h ≤ hp_z h' ∧ hp_s h ≤ hp_s h'
theorem hp_mo_le {h h' : HP} (m : hp_mo h h') : hp_le h h' := ⟨m.1, m.2.1⟩
theorem hp_le_tr {a b c : HP} (h1 : hp_le a b) (h2 : hp_le b c) : hp_le a c := ⟨Nat.le_trans h1.1 h2.1, Nat.le_trans h1.2 h2.2⟩
theorem ly_Tg {w : Cond} (h : w ∈ ly_T) : (w.onTables && w.keeps) = true ∨ ∃ ty, w = .arrayClass ty := good_of_word (List.mem_filter.mp h).2
section XN
variable {K : KK} {own : String} {tb : TBL} {nL d : Nat} {rt : Option FieldType} {pc : Nat} {lv : List (Nat × AV)} {st : List AV} {h : HP}
theorem hp_Rnew {g : LG} {h : HP} {k n sz : Nat} {H H1 : Heap} {e : va_E} (hR : hp_R g h H) (hk : k ≤ 16) (he : hp_e g (hp_nw h k n sz) (hp_z h) = e) (z1 : H1.size = hp_z h + 1) (o1 : ∀ q, q < hp_z h → H1[q]? = H[q]?) (hat : va_at (lg_D g) ly_cl (hp_z h, e) H1) : hp_R g (hp_nw h k n sz) H1 := by
  refine ⟨z1, Nat.le_succ_of_le hR.2.1, ?_, hp_ok_nw hR.2.2.2 hk⟩
  rw [← hp_pushL hR.2.1 he]
  refine (hR.2.2.1.kept (fun k x hx => o1 x.1 (by rw [← hR.1]; exact (hR.2.2.1 k x hx).lt))).app (fun k x hx => ?_)
  have hz : k < 1 := (List.getElem?_eq_some_iff.mp hx).1
  rw [show k = 0 by omega] at hx
  cases hx
  exact hat
theorem xh_nS {g : LG} {H0 H H1 : Heap} {locs : List Loc} {z : Nat} (hS : va_S (lg_A g) H0 H locs) (hz : H.size = z) (z1 : H1.size = z + 1) (o1 : ∀ q, q < z → H1[q]? = H[q]?) : va_S (lg_A g) H0 H1 locs := by
  subst hz
  exact ⟨Nat.le_trans hS.1 (by omega), fun x h1 h2 => (o1 x (Nat.lt_of_lt_of_le h1 hS.1)).trans (hS.2.1 x h1 h2), hS.2.2⟩
theorem xh_df {c j : Nat} {h : HP} {n sz : Nat} (hc : c < 12) (hj : j < ly_nf c) : defaultValue (ly_ty c j) = vp_V (hp_fs (hp_nw h c n sz) (hp_z h) c) j := by
  have e : vp_V (hp_fs (hp_nw h c n sz) (hp_z h) c) j = hp_fv (hp_nw h c n sz) (hp_z h) c j := by simp [vp_V, hp_fs, hj]
  rw [e]
  obtain ⟨t0, t1, t2⟩ := ly_tc hc j hj
  simp only [hp_fv, hp_i_nw, hp_l_nw, hp_r_nw, if_true]
  by_cases c0 : ly_cat (ly_ty c j) = 0
  · rw [if_pos c0]
    rcases t0 c0 with q | q <;> rw [q] <;> rfl
  · by_cases c1 : ly_cat (ly_ty c j) = 1
    · rw [if_neg c0, if_pos c1, t1 c1]; rfl
    · rw [if_neg c0, if_neg c1]
      have c2 : ly_cat (ly_ty c j) = 2 := by
        revert c0 c1
        generalize ly_ty c j = t
        cases t <;> simp [ly_cat]
      rcases t2 c2 with ⟨q, e⟩ | ⟨q, e⟩ <;> rw [e] <;> rfl
theorem xr_new (HC : xx_C K own tb nL d rt) (i pc' : Nat) (c : Nat) {ix : Nat} (hb : hp_le (hp_nw h c 0 (ly_nf c)) (k1 K)) (hd : tb[i]? = some (pc, .new ix, 3)) (hp : pc + 3 = pc') (hw : Cond.classLink own ix (ly_cn c) ∈ ly_T) (hc : c < 12) (kk : xx_X K pc' lv (av_R c (some (hp_z h)) :: st) (hp_nw h c 0 (ly_nf c))) : xx_X K pc lv st h := by
  subst hp
  intro H locs ls hR hS hM hl ho hs
  have hKn := HC.kk.1.1 c _ (ly_clc hc)
  have b1 := hb.1
  have b2 := hb.2
  rw [hp_z_nw] at b1
  rw [hp_s_nw] at b2
  have hce := HC.ce
  have hsl := HC.sl
  have m1 := hM.1
  have m2 := hM.2.1
  refine W.newcK HC.ex rfl HC.ow (HC.hts _ hw) (HC.hts _ (ly_is hc)) (HC.hts _ (ly_id hc)) rfl (HC.dec hd) (by omega) (by omega) hKn.2.1 hR.1 fun H1 kC hkC e1 z1 o1 => ?_
  have hmo := hp_mo_nw h c 0 (ly_nf c)
  have he : hp_e (kg K) (hp_nw h c 0 (ly_nf c)) (hp_z h) = .inr (c, hp_fs (hp_nw h c 0 (ly_nf c)) (hp_z h) c) := hp_eO (by rw [hp_k_nw, if_pos rfl]) hc
  have r := kk H1 locs ls (hp_Rnew hR (by omega) he z1 o1 ⟨_, ly_clc hc, (u_born (ly_ty c) HC.hts (ly_in hc) hKn hkC e1 (ly_tk hc)).to (fun j hj => xh_df hc hj)⟩) (xh_nS hS hR.1 z1 o1) (hp_mo_tr hM hmo) hl (xh_okm hmo ho) (st_0 (Or.inr ⟨hR.2.1, Nat.lt_succ_self _, by rw [hp_k_nw, if_pos rfl]⟩) (xh_okv hmo hs))
  rw [show hp_z (hp_nw h c 0 (ly_nf c)) - hp_z (k0 K) = hp_z h - hp_z (k0 K) + 1 by rw [hp_z_nw]; omega, show hp_s (hp_nw h c 0 (ly_nf c)) - hp_s (k0 K) = hp_s h - hp_s (k0 K) + ly_nf c by rw [hp_s_nw]; omega] at r
  exact r
theorem xr_newa (HC : xx_C K own tb nL d rt) (i pc' : Nat) (k N j : Nat) {at_ : ArrayType} {ty : FieldType} {x : Int32} {a0 : vp_A} (hb : hp_le (hp_nw h k N N) (k1 K)) (hd : tb[i]? = some (pc, .newarray at_, 2)) (hp : pc + 2 = pc') (hat : newarray.typeOf at_ = ty) (hw : Cond.arrayClass ty ∈ ly_T) (hk : k ≤ 16) (hj : (lg_T (kg K))[j]? = some (lg_Y (kg K) k, ty)) (hra : va_RA (cx_s (kx K)) (lg_Y (kg K) k) ty → (cx_s (kx K)).vm.findClass ("[" ++ ty.toString) = some (lg_Y (kg K) k))
    (he : hp_e (kg K) (hp_nw h k N N) (hp_z h) = .inl (lg_Y (kg K) k, a0)) (ha : ∀ cA : ClassId, vp_cell cA a0 = arrV cA N (fun _ => defaultValue ty)) (hx : ¬ x < 0) (hN : x.toNatClampNeg = N) (hby : N * componentBytes ty ≤ 536870912)
    (kk : xx_X K pc' lv (av_R k (some (hp_z h)) :: st) (hp_nw h k N N)) : xx_X K pc lv (av_I x :: st) h := by
  subst hp
  subst hat
  intro H locs ls hR hS hM hl ho hs
  have b1 := hb.1
  have b2 := hb.2
  rw [hp_z_nw] at b1
  rw [hp_s_nw] at b2
  have hce := HC.ce
  have hsl := HC.sl
  have m1 := hM.1
  have m2 := hM.2.1
  refine va_newaK HC.ex rfl (HC.hts _ hw) rfl (HC.dec hd) rfl hx hN hby (by omega) (by omega) hR.1 fun H1 cA e1 z1 o1 hAr hNm => ?_
  have hcA : cA = lg_Y (kg K) k := Option.some.inj (hNm.symm.trans (hra (HC.kk.1.2 j _ hj).2))
  subst hcA
  have hmo := hp_mo_nw h k N N
  have r := kk H1 locs ls (hp_Rnew hR hk he z1 o1 (show H1[hp_z h]? = some (vp_cell _ _) by rw [ha]; exact e1)) (xh_nS hS hR.1 z1 o1) (hp_mo_tr hM hmo) hl (xh_okm hmo ho) (st_0 (Or.inr ⟨hR.2.1, Nat.lt_succ_self _, by rw [hp_k_nw, if_pos rfl]⟩) (xh_okv hmo (st_d hs)))
  rw [show hp_z (hp_nw h k N N) - hp_z (k0 K) = hp_z h - hp_z (k0 K) + 1 by rw [hp_z_nw]; omega, show hp_s (hp_nw h k N N) - hp_s (k0 K) = hp_s h - hp_s (k0 K) + N by rw [hp_s_nw]; omega] at r
  exact r
theorem xh_eI {g : LG} {h : HP} {k n sz : Nat} (h1 : 12 ≤ k) (h2 : k ≠ 14) (h3 : k ≠ 16) : hp_e g (hp_nw h k n sz) (hp_z h) = .inl (lg_Y g k, n, .inl (fun _ => 0)) := by
  rw [hp_eI (k := k) (by rw [hp_k_nw, if_pos rfl]) h1 h2 h3, hp_n_nw, if_pos rfl]
  have : hp_i (hp_nw h k n sz) (hp_z h) = fun _ => 0 := by funext q; simp [hp_i_nw]
  rw [this]
theorem xh_eL {g : LG} {h : HP} {n sz : Nat} : hp_e g (hp_nw h 14 n sz) (hp_z h) = .inl (lg_Y g 14, n, .inr (.inl (fun _ => 0))) := by
  rw [hp_e14 (by rw [hp_k_nw, if_pos rfl]), hp_n_nw, if_pos rfl]
  have : hp_l (hp_nw h 14 n sz) (hp_z h) = fun _ => 0 := by funext q; simp [hp_l_nw]
  rw [this]
theorem xh_eQ {g : LG} {h : HP} {n sz : Nat} : hp_e g (hp_nw h 16 n sz) (hp_z h) = .inl (lg_Y g 16, n, .inr (.inr (.inr (.inr (fun _ => none))))) := by
  rw [hp_e16 (by rw [hp_k_nw, if_pos rfl]), hp_n_nw, if_pos rfl]
  have : hp_r (hp_nw h 16 n sz) (hp_z h) = fun _ => none := by funext q; simp [hp_r_nw]
  rw [this]
theorem xr_newB (HC : xx_C K own tb nL d rt) (i pc' N : Nat) {x : Int32} (hb : hp_le (hp_nw h 12 N N) (k1 K)) (hd : tb[i]? = some (pc, .newarray .byte, 2)) (hp : pc + 2 = pc') (hx : ¬ x < 0) (hN : x.toNatClampNeg = N) (hby : N * componentBytes .byte ≤ 536870912) (kk : xx_X K pc' lv (av_R 12 (some (hp_z h)) :: st) (hp_nw h 12 N N)) : xx_X K pc lv (av_I x :: st) h :=
  xr_newa HC i pc' 12 N 0 hb hd hp rfl ly_ca0 (by decide) rfl (fun q => q) (xh_eI (by decide) (by decide) (by decide)) (fun _ => rfl) hx hN hby kk
theorem xr_newI (HC : xx_C K own tb nL d rt) (i pc' N : Nat) {x : Int32} (hb : hp_le (hp_nw h 13 N N) (k1 K)) (hd : tb[i]? = some (pc, .newarray .int, 2)) (hp : pc + 2 = pc') (hx : ¬ x < 0) (hN : x.toNatClampNeg = N) (hby : N * componentBytes .int ≤ 536870912) (kk : xx_X K pc' lv (av_R 13 (some (hp_z h)) :: st) (hp_nw h 13 N N)) : xx_X K pc lv (av_I x :: st) h :=
  xr_newa HC i pc' 13 N 1 hb hd hp rfl ly_ca1 (by decide) rfl (fun q => q) (xh_eI (by decide) (by decide) (by decide)) (fun _ => rfl) hx hN hby kk
theorem xr_newL (HC : xx_C K own tb nL d rt) (i pc' N : Nat) {x : Int32} (hb : hp_le (hp_nw h 14 N N) (k1 K)) (hd : tb[i]? = some (pc, .newarray .long, 2)) (hp : pc + 2 = pc') (hx : ¬ x < 0) (hN : x.toNatClampNeg = N) (hby : N * componentBytes .long ≤ 536870912) (kk : xx_X K pc' lv (av_R 14 (some (hp_z h)) :: st) (hp_nw h 14 N N)) : xx_X K pc lv (av_I x :: st) h :=
  xr_newa HC i pc' 14 N 2 hb hd hp rfl ly_ca2 (by decide) rfl (fun q => q) xh_eL (fun _ => rfl) hx hN hby kk
theorem xr_newZ (HC : xx_C K own tb nL d rt) (i pc' N : Nat) {x : Int32} (hb : hp_le (hp_nw h 15 N N) (k1 K)) (hd : tb[i]? = some (pc, .newarray .boolean, 2)) (hp : pc + 2 = pc') (hx : ¬ x < 0) (hN : x.toNatClampNeg = N) (hby : N * componentBytes .boolean ≤ 536870912) (kk : xx_X K pc' lv (av_R 15 (some (hp_z h)) :: st) (hp_nw h 15 N N)) : xx_X K pc lv (av_I x :: st) h :=
  xr_newa HC i pc' 15 N 3 hb hd hp rfl ly_ca3 (by decide) rfl (fun q => q) (xh_eI (by decide) (by decide) (by decide)) (fun _ => rfl) hx hN hby kk
theorem xr_newQ (HC : xx_C K own tb nL d rt) (i pc' N : Nat) {ix : Nat} {x : Int32} (hb : hp_le (hp_nw h 16 N N) (k1 K)) (hd : tb[i]? = some (pc, .anewarray ix, 3)) (hp : pc + 3 = pc') (hw : Cond.classLink own ix "LampYard$Course" ∈ ly_T) (hx : ¬ x < 0) (hN : x.toNatClampNeg = N) (hby : N * 4 ≤ 536870912) (kk : xx_X K pc' lv (av_R 16 (some (hp_z h)) :: st) (hp_nw h 16 N N)) : xx_X K pc lv (av_I x :: st) h := by
  subst hp
  subst hN
  intro H locs ls hR hS hM hl ho hs
  have b1 := hb.1
  have b2 := hb.2
  rw [hp_z_nw] at b1
  rw [hp_s_nw] at b2
  have hce := HC.ce
  have hsl := HC.sl
  have m1 := hM.1
  have m2 := hM.2.1
  refine W.anew HC.ex rfl HC.ow (HC.hts _ hw) (va_AO.use HC.kk.2.2.2.1) rfl (HC.dec hd) rfl hx hby (by omega) (by omega) fun cA kA comp f1 f2 f3 f4 => ?_
  obtain ⟨kA', comp', g1, g2, g3, g4⟩ := (HC.kk.1.2 4 _ rfl).2
  have hcA : cA = lg_Y (kg K) 16 := Option.some.inj (f1.symm.trans g4)
  subst hcA
  generalize hH1 : H.push ({ cls := lg_Y (kg K) 16, slots := Array.replicate x.toNatClampNeg .null, vm := .none } : Cell) = H1
  have z1 : H1.size = hp_z h + 1 := by rw [← hH1, Array.size_push, hR.1]
  have e1 : H1[hp_z h]? = some (arrV (lg_Y (kg K) 16) x.toNatClampNeg (fun _ => .null)) := by rw [← hH1, ← hR.1, Array.getElem?_push_size, ← arrV_new]
  have o1 : ∀ q : Nat, q < hp_z h → H1[q]? = H[q]? := fun q hq => by rw [← hH1, Array.getElem?_push, if_neg (by rw [hR.1]; exact Nat.ne_of_lt hq)]
  have hmo := hp_mo_nw h 16 x.toNatClampNeg x.toNatClampNeg
  have r := kk H1 locs ls (hp_Rnew hR (by decide) xh_eQ z1 o1 (show H1[hp_z h]? = some (vp_cell _ _) by rw [vp_cell_q]; exact e1)) (xh_nS hS hR.1 z1 o1) (hp_mo_tr hM hmo) hl (xh_okm hmo ho) (st_0 (Or.inr ⟨hR.2.1, Nat.lt_succ_self _, by rw [hp_k_nw, if_pos rfl]⟩) (xh_okv hmo (st_d hs)))
  rw [show hp_z (hp_nw h 16 x.toNatClampNeg x.toNatClampNeg) - hp_z (k0 K) = hp_z h - hp_z (k0 K) + 1 by rw [hp_z_nw]; omega, show hp_s (hp_nw h 16 x.toNatClampNeg x.toNatClampNeg) - hp_s (k0 K) = hp_s h - hp_s (k0 K) + x.toNatClampNeg by rw [hp_s_nw]; omega] at r
  rw [hR.1]
  exact r
def xh_rm (st : List AV) : Nat := (st.map fun v => if av_w v then 2 else 1).sum
theorem xh_rmc (st : List AV) : ((st.map av_c).map fun v => v.category).sum = xh_rm st := by
  induction st with
  | nil => rfl
  | cons v st ih =>
    have e : (av_c v).category = if av_w v then 2 else 1 := by
      rcases v with x | x | ⟨k, r⟩
      · rfl
      · rfl
      · cases r <;> rfl
    simp only [List.map_cons, List.sum_cons, xh_rm, e] at ih ⊢
    rw [ih]
theorem ly_oi : Cond.instanceMethod Lib.objectInit ∈ ly_T := ly_at 28 (by decide +kernel) rfl
theorem ly_oc : Cond.code Lib.objectInit ⟨#[0xb1]⟩ 1 none ∈ ly_T := ly_at 29 (by decide +kernel) rfl
theorem xr_obj (HC : xx_C K own tb nL d rt) (i pc' : Nat) {ix c a : Nat} (hd : tb[i]? = some (pc, .invokespecial ix, 3)) (hp : pc + 3 = pc') (hw : Cond.methodLink own ix Lib.objectInit ∈ ly_T) (hdd : 1 ≤ d) (hst : xh_rm st ≤ 8) (kk : xx_X K pc' lv st h) : xx_X K pc lv (av_R c (some a) :: st) h := by
  subst hp
  intro H locs ls hR hS hM hl ho hs
  have h1 := HC.fr
  have h2 := HC.lo
  refine W.objInit HC.ex rfl HC.ow (HC.hts _ hw) (HC.hts _ ly_oi) (HC.hts _ ly_oc) rfl (by rw [HC.ml]; exact hl.1) rfl (HC.dec hd) (by omega) ?_ (kk H locs ls hR hS hM hl ho (st_d hs))
  rw [xh_rmc]
  show 2 * 0 + _ + _ ≤ _
  omega
theorem xr_max (HC : xx_C K own tb nL d rt) (i pc' : Nat) {ix : Nat} {x y : Int32} (hb : hp_le h (k1 K)) (hd : tb[i]? = some (pc, .invokestatic ix, 3)) (hp : pc + 3 = pc') (hw : Cond.methodLink own ix Lib.Math.max.name ∈ ly_T) (hw2 : Cond.static Lib.Math.max.name ∈ ly_T) (hw3 : Cond.initialized "java/lang/Math" ∈ ly_T) (hw4 : Cond.code Lib.Math.max.name Lib.Math.max.code 2 (some .int) ∈ ly_T) (hdd : 1 ≤ d) (hst : xh_rm st ≤ 8) (kk : xx_X K pc' lv (av_I (if x < y then y else x) :: st) h) : xx_X K pc lv (av_I y :: av_I x :: st) h := by
  subst hp
  intro H locs ls hR hS hM hl ho hs
  have h1 := HC.fr
  have h2 := HC.lo
  have hce := HC.ce
  have hsl := HC.sl
  have b1 := hb.1
  have b2 := hb.2
  refine va_mmax HC.ex rfl (by rw [HC.ml]; exact hl.1.symm) HC.ow (HC.hts _ hw) (HC.hts _ hw2) (HC.hts _ hw3) (HC.hts _ hw4) (by omega) ?_ (by omega) (by omega) (HC.dec hd) (kk H locs ls hR hS hM hl ho (st_2 trivial hs))
  rw [xh_rmc]
  omega
theorem xr_min (HC : xx_C K own tb nL d rt) (i pc' : Nat) {ix : Nat} {x y : Int32} (hb : hp_le h (k1 K)) (hd : tb[i]? = some (pc, .invokestatic ix, 3)) (hp : pc + 3 = pc') (hw : Cond.methodLink own ix Lib.Math.min.name ∈ ly_T) (hw2 : Cond.static Lib.Math.min.name ∈ ly_T) (hw3 : Cond.initialized "java/lang/Math" ∈ ly_T) (hw4 : Cond.code Lib.Math.min.name Lib.Math.min.code 2 (some .int) ∈ ly_T) (hdd : 1 ≤ d) (hst : xh_rm st ≤ 8) (kk : xx_X K pc' lv (av_I (if y < x then y else x) :: st) h) : xx_X K pc lv (av_I y :: av_I x :: st) h := by
  subst hp
  intro H locs ls hR hS hM hl ho hs
  have h1 := HC.fr
  have h2 := HC.lo
  have hce := HC.ce
  have hsl := HC.sl
  have b1 := hb.1
  have b2 := hb.2
  refine va_mmin HC.ex rfl (by rw [HC.ml]; exact hl.1.symm) HC.ow (HC.hts _ hw) (HC.hts _ hw2) (HC.hts _ hw3) (HC.hts _ hw4) (by omega) ?_ (by omega) (by omega) (HC.dec hd) (kk H locs ls hR hS hM hl ho (st_2 trivial hs))
  rw [xh_rmc]
  omega
def xx_Q (g : LG) (r : Option AV) (h' : HP) : Array Value → State → Outcome → State → Prop := fun _ st o t => (o = .returned (r.map av_c) ∧ (∀ v, r = some v → av_ok g h' v) ∧ hp_R g h' t.heap ∧ ly_K g t) ∧ va_F (lg_A g) st t
/-- a method's contract at given arguments and picture: its answer, the picture behind it -/
def xx_M (g : LG) (l : Launch) (y : MethodName) (cc : ByteArray) (mL : Nat) (rt : Option FieldType) (d : Nat) (av : List AV) (h : HP) (r : Option AV) (h' : HP) : Prop :=
  Met l y (Cond.code y cc mL rt :: ly_T) { frames := d, cells := hp_z h' - hp_z h, slots := hp_s h' - hp_s h, locals := 64 * d } (va_Pc (av.map av_c) (fun U => hp_R g h U.heap ∧ ly_K g U ∧ ∀ v ∈ av, av_ok g h v)) (xx_Q g r h') (hp_z h' - hp_z h) (hp_s h' - hp_s h) (lg_A g)
theorem ly_K.calling {g : LG} {U : State} {f : JFrame} {mk : MethodId} {a : Array Value} (h : ly_K g U) : ly_K g (U.calling f mk a) := ⟨va_K.moved (u := U) (U := U.calling f mk a) (Vm.Alike.refl U.vm) h.1, vk_R.same (u := U) (U := U.calling f mk a) rfl h.2.1, vk_S.moved (u := U) (U := U.calling f mk a) (Vm.Alike.refl U.vm) h.2.2.1, va_AO.moved (u := U) (U := U.calling f mk a) (Vm.Alike.refl U.vm) h.2.2.2.1, va_Z.moved (u := U) (U := U.calling f mk a) (Vm.Alike.refl U.vm) h.2.2.2.2.1, va_Zq.moved (u := U) (U := U.calling f mk a) (Vm.Alike.refl U.vm) h.2.2.2.2.2⟩
theorem ly_K.warm {g : LG} {s U : State} {H : Heap} {locs : List Loc} (hW : s.WarmedH U.vm) (hU : U.heap = H) (hS : va_S (lg_A g) s.heap H locs) (h : ly_K g s) : ly_K g U := by
  have hk : ∀ a : Nat, a < s.heap.size → ¬ lg_A g a → H[a]? = s.heap[a]? := fun a h1 h2 => hS.2.1 a h1 h2
  refine ⟨va_K.moved hW.alike h.1, vk_R.warm hW h.2.1, ?_, va_AO.moved hW.alike h.2.2.2.1, ?_, ?_⟩
  · rw [hU]
    exact (vk_S.moved hW.alike h.2.2.1).kept hk
  · rw [hU]
    exact (va_Z.moved hW.alike h.2.2.2.2.1).kept hk
  · rw [hU]
    exact (va_Zq.moved hW.alike h.2.2.2.2.2).kept hk
/-- behind a call -/
theorem xh_back {g : LG} {x : CX} {h h' h0 : HP} {r : Option AV} {H : Heap} {locs : List Loc} {ls : Array Slot} {st : List AV} {st0 : List Value} {a : Array Value} (hmo : hp_mo h h') (hM : hp_mo h0 h) (hS : va_S (lg_A g) (cx_s x).heap H locs)
    (hr : va_Run (cx_p x) (cx_l x) (cx_e x) (cx_R x) (cx_s x) (cx_m x) (cx_a x) (cx_b x) (cx_h x) (cx_c x) H locs (hp_z h - hp_z h0) (hp_s h - hp_s h0) (hp_z h' - hp_z h) (hp_s h' - hp_s h) (F0 (cx_m x) pc ls st0) (st.map av_c) (xx_Q g r h' a) (lg_A g))
    (kk : ∀ (H1 : Heap) (locs1 : List Loc), hp_R g h' H1 → va_S (lg_A g) (cx_s x).heap H1 locs1 → (∀ v, r = some v → av_ok g h' v) → cx_W x H1 locs1 (hp_z h' - hp_z h0) (hp_s h' - hp_s h0) (F0 (cx_m x) (pc + 3) ls ((r.toList ++ st).map av_c))) : cx_W x H locs (hp_z h - hp_z h0) (hp_s h - hp_s h0) (F0 (cx_m x) pc ls st0) := by
  intro T hT X
  obtain ⟨v, st₀, t, T', L, e0, X', hL, e1, e2, ⟨⟨hv, hrok, hR', -⟩, hz, hk⟩, stp⟩ := hr T hT X
  have hv : v = r.map av_c := by injection hv
  subst hv
  rw [e0] at hz hk
  have c1 : hp_z h - hp_z h0 + (hp_z h' - hp_z h) = hp_z h' - hp_z h0 := by have := hmo.1; have := hM.1; omega
  have c2 : hp_s h - hp_s h0 + (hp_s h' - hp_s h) = hp_s h' - hp_s h0 := by have := hmo.2.1; have := hM.2.1; omega
  rw [c1, c2] at X'
  have e3 : (r.map av_c).toList ++ st.map av_c = (r.toList ++ st).map av_c := by cases r <;> simp
  obtain ⟨t2, a1, b1⟩ := kk T'.heap (locs ++ L) (by rw [e1]; exact hR') ⟨Nat.le_trans hS.1 (by rw [e1]; exact hz), fun q h1 h2 => by rw [e1, hk q (Nat.lt_of_lt_of_le h1 hS.1) h2]; exact hS.2.1 q h1 h2, fun q hq => by
      rcases List.mem_append.mp hq with h | h
      · exact hS.2.2 q h
      · exact hL q h⟩ hrok T' rfl X'
  refine ⟨t2, stp t2 ?_, b1⟩
  show Steps _ _ _ (T'.setTop { F0 (cx_m x) pc ls st0 with pc := pc + 3, stack := (r.map av_c).toList ++ st.map av_c }) t2
  rw [e3]
  exact a1
theorem xh_vs {g : LG} {h : HP} {av : List AV} {st : List AV} {v : AV} (hs : ∀ q ∈ av.reverse ++ v :: st, av_ok g h q) : (∀ q ∈ v :: av, av_ok g h q) ∧ ∀ q ∈ st, av_ok g h q := by
  refine ⟨fun q hq => ?_, fun q hq => hs q (List.mem_append_right _ (List.mem_cons_of_mem _ hq))⟩
  rcases List.mem_cons.mp hq with rfl | hq
  · exact hs q (List.mem_append_right _ List.mem_cons_self)
  · exact hs q (List.mem_append_left _ (List.mem_reverse.mpr hq))
theorem xh_ss {g : LG} {h : HP} {av : List AV} {st : List AV} (hs : ∀ q ∈ av.reverse ++ st, av_ok g h q) : (∀ q ∈ av, av_ok g h q) ∧ ∀ q ∈ st, av_ok g h q :=
  ⟨fun q hq => hs q (List.mem_append_left _ (List.mem_reverse.mpr hq)), fun q hq => hs q (List.mem_append_right _ hq)⟩
theorem xh_st {r : Option AV} {g : LG} {h : HP} {st : List AV} (h1 : ∀ v, r = some v → av_ok g h v) (h2 : ∀ q ∈ st, av_ok g h q) : ∀ q ∈ r.toList ++ st, av_ok g h q := by
  cases r with
  | none => exact h2
  | some v => exact st_0 (h1 v rfl) h2
def xh_mh (y : MethodName) (n : Nat) : Prop := y.cls ≠ "java/lang/invoke/MethodHandle" ∧ y.cls ≠ "java/lang/invoke/VarHandle" ∧ (parseMethodDescriptor y.desc).map (fun d => d.parameters.length) = some n
theorem xr_callV (HC : xx_C K own tb nL d rt) (i pc' : Nat) {ix c b mL d2 : Nat} {y : MethodName} {cc : ByteArray} {rt2 : Option FieldType} {av st0 : List AV} {r : Option AV} {h' : HP} (hM : xx_M (kg K) (cx_l (kx K)) y cc mL rt2 d2 (av_R c (some b) :: av) h r h') (hmo : hp_mo h h') (hb : hp_le h' (k1 K)) (hd : tb[i]? = some (pc, .invokevirtual ix, 3)) (hp : pc + 3 = pc')
    (hw1 : Cond.methodLink own ix y ∈ ly_T) (hw2 : Cond.instanceMethod y ∈ ly_T) (hw3 : Cond.selects (ly_cn c) y y ∈ ly_T) (hw4 : Cond.code y cc mL rt2 ∈ ly_T) (hcy : y.cls = ly_cn c) (hmh : xh_mh y av.length) (hc : c < 12) (hdd : d2 + 1 ≤ d) (hml : mL ≤ 40) (hst : xh_rm st ≤ 8) (he : st0 = av.reverse ++ av_R c (some b) :: st) (kk : xx_X K pc' lv (r.toList ++ st) h') : xx_X K pc lv st0 h := by
  subst hp
  subst he
  intro H locs ls hR hS hM0 hl ho hs
  obtain ⟨ha, hs2⟩ := xh_vs hs
  obtain ⟨a1, a2, a3⟩ := av_rok (by omega) (st_h ha)
  obtain ⟨q0, hq⟩ := hp_getL a1 a2
  rw [hp_eO a3 hc] at hq
  have f1 := HC.fr
  have f2 := HC.lo
  have hce := HC.ce
  have hsl := HC.sl
  have b1 := hb.1
  have b2 := hb.2
  have m1 := hmo.1
  have m2 := hmo.2.1
  have n1 := hM0.1
  have n2 := hM0.2.1
  refine xh_back (a := #[]) (r := r) hmo hM0 hS (va_runV (C := ly_cn c) (b := b) (As := av.map av_c) (rest := st.map av_c) (g := F0 (cx_m (kx K)) pc ls ((av.reverse ++ av_R c (some b) :: st).map av_c)) ⟨HC.ex, rfl, HC.ml, HC.ow, HC.hts⟩ hM (cwV av.length HC.hts ?_ rfl rfl rfl ⟨hcy, hmh⟩ ⟨by show d2 + 1 ≤ _; omega, by show 8 + (mL + 11) + 64 * d2 ≤ _; omega⟩) ⟨fun a U f mk q => ⟨q.1, q.2.1, q.2.2.1.calling, q.2.2.2⟩, va_recv HC.kk.1 hR.2.2.1 (ly_clc hc) hq, fun U hU hW => ⟨rfl, by rw [hU]; exact hR, HC.kk.warm hW hU hS, ha⟩⟩ rfl (by simp) hl.1 (by simp [av_c, va_rf]) (lv_room (by rw [xh_rmc]; exact hst)) (HC.dec hd) ⟨by omega, by omega⟩) (fun H1 locs1 hR1 hS1 hrok => kk H1 locs1 ls hR1 hS1 (hp_mo_tr hM0 hmo) hl (xh_okm hmo ho) (xh_st hrok (xh_okv hmo hs2)))
  intro w hw
  have hmem : w ∈ ly_T := by
    rcases List.mem_append.mp hw with hw | hw
    · simp only [List.mem_cons, List.not_mem_nil, or_false] at hw
      rcases hw with rfl | rfl | rfl | rfl
      · exact hw1
      · exact hw2
      · exact hw3
      · exact ly_id hc
    · rcases List.mem_cons.mp hw with rfl | hw
      · exact hw4
      · exact hw
  exact ⟨hmem, ly_Tg hmem⟩
theorem xr_callS (HC : xx_C K own tb nL d rt) (i pc' : Nat) {ix mL d2 : Nat} {y : MethodName} {cc : ByteArray} {rt2 : Option FieldType} {av st0 : List AV} {r : Option AV} {h' : HP} (hM : xx_M (kg K) (cx_l (kx K)) y cc mL rt2 d2 av h r h') (hmo : hp_mo h h') (hb : hp_le h' (k1 K)) (hd : tb[i]? = some (pc, .invokestatic ix, 3)) (hp : pc + 3 = pc')
    (hw1 : Cond.methodLink own ix y ∈ ly_T) (hw2 : Cond.static y ∈ ly_T) (hw3 : Cond.initialized y.cls ∈ ly_T) (hw4 : Cond.code y cc mL rt2 ∈ ly_T) (hmh : xh_mh y av.length) (hdd : d2 + 1 ≤ d) (hml : mL ≤ 40) (hst : xh_rm st ≤ 8) (he : st0 = av.reverse ++ st) (kk : xx_X K pc' lv (r.toList ++ st) h') : xx_X K pc lv st0 h := by
  subst hp
  subst he
  intro H locs ls hR hS hM0 hl ho hs
  obtain ⟨ha, hs2⟩ := xh_ss hs
  have f1 := HC.fr
  have f2 := HC.lo
  have hce := HC.ce
  have hsl := HC.sl
  have b1 := hb.1
  have b2 := hb.2
  have m1 := hmo.1
  have m2 := hmo.2.1
  have n1 := hM0.1
  have n2 := hM0.2.1
  refine xh_back (a := #[]) (r := r) hmo hM0 hS (va_runS (As := av.map av_c) (rest := st.map av_c) (g := F0 (cx_m (kx K)) pc ls ((av.reverse ++ st).map av_c)) ⟨HC.ex, rfl, HC.ml, HC.ow, HC.hts⟩ hM ⟨callB_of av.length HC.hts (ws' := ly_T) ?_ rfl rfl rfl (HC.hts _ hw3) (HC.hts _ hw1) hmh ⟨by show d2 + 1 ≤ _; omega, by show 8 + (mL + 11) + 64 * d2 ≤ _; omega⟩, HC.hts _ hw2⟩ ⟨fun a U f mk q => ⟨q.1, q.2.1, q.2.2.1.calling, q.2.2.2⟩, fun U hU hW => ⟨rfl, by rw [hU]; exact hR, HC.kk.warm hW hU hS, ha⟩⟩ rfl (by simp) hl.1 (by simp) (lv_room (by rw [xh_rmc]; exact hst)) (HC.dec hd) ⟨by omega, by omega⟩) (fun H1 locs1 hR1 hS1 hrok => kk H1 locs1 ls hR1 hS1 (hp_mo_tr hM0 hmo) hl (xh_okm hmo ho) (xh_st hrok (xh_okv hmo hs2)))
  intro w hw
  have hmem : w ∈ ly_T := by
    rcases List.mem_cons.mp hw with rfl | hw
    · exact hw4
    · exact hw
  exact ⟨hmem, ly_Tg hmem⟩
theorem xr_callI (HC : xx_C K own tb nL d rt) (i pc' : Nat) {ix c b mL d2 : Nat} {y : MethodName} {cc : ByteArray} {av st0 : List AV} {h' : HP} (hM : xx_M (kg K) (cx_l (kx K)) y cc mL none d2 (av_R c (some b) :: av) h none h') (hmo : hp_mo h h') (hb : hp_le h' (k1 K)) (hd : tb[i]? = some (pc, .invokespecial ix, 3)) (hp : pc + 3 = pc')
    (hw1 : Cond.methodLink own ix y ∈ ly_T) (hw2 : Cond.instanceMethod y ∈ ly_T) (hw3 : Cond.initialized y.cls ∈ ly_T) (hw4 : Cond.code y cc mL none ∈ ly_T) (hny : y.name = "<init>") (hmh : xh_mh y av.length) (hdd : d2 + 1 ≤ d) (hml : mL ≤ 40) (hst : xh_rm st ≤ 8) (he : st0 = av.reverse ++ av_R c (some b) :: st) (kk : xx_X K pc' lv st h') : xx_X K pc lv st0 h := by
  subst hp
  subst he
  intro H locs ls hR hS hM0 hl ho hs
  obtain ⟨ha, hs2⟩ := xh_vs hs
  have f1 := HC.fr
  have f2 := HC.lo
  have hce := HC.ce
  have hsl := HC.sl
  have b1 := hb.1
  have b2 := hb.2
  have m1 := hmo.1
  have m2 := hmo.2.1
  have n1 := hM0.1
  have n2 := hM0.2.1
  refine xh_back (a := #[]) (r := none) hmo hM0 hS (va_runI (b := b) (As := av.map av_c) (rest := st.map av_c) (g := F0 (cx_m (kx K)) pc ls ((av.reverse ++ av_R c (some b) :: st).map av_c)) ⟨HC.ex, rfl, HC.ml, HC.ow, HC.hts⟩ hM (cwI av.length HC.hts (ws' := ly_T) ?_ rfl rfl rfl (HC.hts _ hw3) (HC.hts _ hw1) (HC.hts _ hw2) hny hmh ⟨by show d2 + 1 ≤ _; omega, by show 8 + (mL + 11) + 64 * d2 ≤ _; omega⟩) ⟨fun a U f mk q => ⟨q.1, q.2.1, q.2.2.1.calling, q.2.2.2⟩, fun U hU hW => ⟨rfl, by rw [hU]; exact hR, HC.kk.warm hW hU hS, ha⟩⟩ rfl (by simp) hl.1 (by simp [av_c, va_rf]) (lv_room (by rw [xh_rmc]; exact hst)) (HC.dec hd) ⟨by omega, by omega⟩) (fun H1 locs1 hR1 hS1 _ => kk H1 locs1 ls hR1 hS1 (hp_mo_tr hM0 hmo) hl (xh_okm hmo ho) (xh_okv hmo hs2))
  intro w hw
  have hmem : w ∈ ly_T := by
    rcases List.mem_cons.mp hw with rfl | hw
    · exact hw4
    · exact hw
  exact ⟨hmem, ly_Tg hmem⟩
end XN
