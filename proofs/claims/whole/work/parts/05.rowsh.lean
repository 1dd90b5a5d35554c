/-! rows over the heap: fields, arrays, new cells -/
section XH
variable {K : KK} {own : String} {tb : TBL} {nL d : Nat} {rt : Option FieldType} {pc : Nat} {lv : List (Nat × AV)} {st : List AV} {h : HP}
theorem xh_D (g : LG) (h : HP) : va_D (lg_A g) (va_pl (hp_L g h) (hp_e g h)) := hp_disL g h _
theorem xh_fsk {h : HP} {a c k : Nat} (hk : k < ly_nf c) : (hp_fs h a c)[k]? = some (hp_fv h a c k) := by simp [hp_fs, hk]
theorem xh_fsl {h : HP} {a c k : Nat} (hk : k < ly_nf c) : k < (hp_fs h a c).length := by simpa [hp_fs] using hk
theorem xh_okm {g : LG} {h h' : HP} (hm : hp_mo h h') (ho : ∀ q ∈ lv, av_ok g h q.2) : ∀ q ∈ lv, av_ok g h' q.2 := fun q hq => av_ok_mo hm (ho q hq)
theorem xh_okv {g : LG} {h h' : HP} (hm : hp_mo h h') (ho : ∀ v ∈ st, av_ok g h v) : ∀ v ∈ st, av_ok g h' v := fun q hq => av_ok_mo hm (ho q hq)
theorem xr_getv (HC : xx_C K own tb nL d rt) (i pc' : Nat) (c k : Nat) {ix a : Nat} (v : AV) (hd : tb[i]? = some (pc, .getfield ix, 3)) (hp : pc + 3 = pc') (hw : Cond.fieldLink own ix (ly_cn c) (ly_TT c k).2.1 (ly_TT c k).2.2.1 ∈ ly_T) (hc : c < 12) (hk : k < ly_nf c) (hv : hp_fv h a c k = av_c v) (hok : hp_ok (kg K) h → lg_B (kg K) ≤ a → a < hp_z h → hp_k h a = c → av_ok (kg K) h v) (kk : xx_X K pc' lv (v :: st) h) : xx_X K pc lv (av_R c (some a) :: st) h := by
  subst hp
  intro H locs ls hR hS hM hl ho hs
  obtain ⟨a1, a2, a3⟩ := av_rok (by omega) (st_h hs)
  obtain ⟨q0, hq⟩ := hp_getL a1 a2
  rw [hp_eO a3 hc] at hq
  refine va_get (D := lg_D (kg K)) (ci := c) (v := av_c v) (C := ly_cn c) (T := ly_TT c) (N := ly_nf c) HC.ex rfl HC.hts (ly_in hc) HC.ow HC.kk.1 hR.2.2.1 q0 hq (ly_clc hc) k hk (HC.hts _ hw) (fun _ h9 => h9) ((xh_fsk hk).trans (congrArg some hv)) (HC.dec hd) ?_
  exact kk H locs ls hR hS hM hl ho (st_1 (hok hR.2.2.2 a1 a2 a3) hs)
theorem xr_geti (HC : xx_C K own tb nL d rt) (i pc' : Nat) (c k : Nat) {ix a : Nat} (hd : tb[i]? = some (pc, .getfield ix, 3)) (hp : pc + 3 = pc') (hw : Cond.fieldLink own ix (ly_cn c) (ly_TT c k).2.1 (ly_TT c k).2.2.1 ∈ ly_T) (hc : c < 12) (hk : k < ly_nf c) (ht : ly_cat (ly_ty c k) = 0) (kk : xx_X K pc' lv (av_I (hp_i h a k) :: st) h) : xx_X K pc lv (av_R c (some a) :: st) h :=
  xr_getv HC i pc' c k (av_I (hp_i h a k)) hd hp hw hc hk (by simp [hp_fv, ht, av_c]) (fun _ _ _ _ => trivial) kk
theorem xr_getl (HC : xx_C K own tb nL d rt) (i pc' : Nat) (c k : Nat) {ix a : Nat} (hd : tb[i]? = some (pc, .getfield ix, 3)) (hp : pc + 3 = pc') (hw : Cond.fieldLink own ix (ly_cn c) (ly_TT c k).2.1 (ly_TT c k).2.2.1 ∈ ly_T) (hc : c < 12) (hk : k < ly_nf c) (ht : ly_cat (ly_ty c k) = 1) (kk : xx_X K pc' lv (av_L (hp_l h a k) :: st) h) : xx_X K pc lv (av_R c (some a) :: st) h :=
  xr_getv HC i pc' c k (av_L (hp_l h a k)) hd hp hw hc hk (by simp [hp_fv, ht, av_c]) (fun _ _ _ _ => trivial) kk
theorem xr_getq (HC : xx_C K own tb nL d rt) (i pc' : Nat) (c k kd : Nat) {ix a : Nat} (hd : tb[i]? = some (pc, .getfield ix, 3)) (hp : pc + 3 = pc') (hw : Cond.fieldLink own ix (ly_cn c) (ly_TT c k).2.1 (ly_TT c k).2.2.1 ∈ ly_T) (hc : c < 12) (hk : k < ly_nf c) (ht : ly_cat (ly_ty c k) = 2) (hkd : ly_kd (ly_ty c k) = kd) (kk : xx_X K pc' lv (av_R kd (hp_r h a k) :: st) h) : xx_X K pc lv (av_R c (some a) :: st) h :=
  xr_getv HC i pc' c k (av_R kd (hp_r h a k)) hd hp hw hc hk (by simp [hp_fv, ht, av_c]) (fun hok a1 a2 a3 => by
    cases hr : hp_r h a k with
    | none => trivial
    | some b =>
      have h1 := (hok a a1 a2).2 k b hr
      rw [a3, hp_rk, if_neg (by omega), hkd] at h1
      exact Or.inr h1) kk
theorem xr_getr (HC : xx_C K own tb nL d rt) (i pc' : Nat) (c k kd : Nat) {ix a q : Nat} (hq : hp_r h a k = some q) (hd : tb[i]? = some (pc, .getfield ix, 3)) (hp : pc + 3 = pc') (hw : Cond.fieldLink own ix (ly_cn c) (ly_TT c k).2.1 (ly_TT c k).2.2.1 ∈ ly_T) (hc : c < 12) (hk : k < ly_nf c) (ht : ly_cat (ly_ty c k) = 2) (hkd : ly_kd (ly_ty c k) = kd) (kk : xx_X K pc' lv (av_R kd (some q) :: st) h) : xx_X K pc lv (av_R c (some a) :: st) h :=
  xr_getq HC i pc' c k kd hd hp hw hc hk ht hkd (by rw [hq]; exact kk)
/-- one cell written -/
theorem hp_Rset {g : LG} {h h' : HP} {H H1 : Heap} {a : Nat} {e : va_E} (hR : hp_R g h H) (a1 : lg_B g ≤ a) (a2 : a < hp_z h) (hz : hp_z h' = hp_z h) (he : ∀ b, hp_e g h' b = va_up (hp_e g h) a e b) (hok : hp_ok g h') (z : H1.size = H.size) (oq : ∀ q : Nat, q ≠ a → H1[q]? = H[q]?) (hat : va_at (lg_D g) ly_cl (a, e) H1) : hp_R g h' H1 := by
  obtain ⟨q0, hq⟩ := hp_getL a1 a2
  refine ⟨by rw [z, hz]; exact hR.1, by rw [hz]; exact hR.2.1, ?_, hok⟩
  rw [← hp_setL a1 a2 hq hz he]
  exact hR.2.2.1.set (xh_D g h) hq hat oq
theorem xh_pS {g : LG} {H0 H H1 : Heap} {locs : List Loc} {a k : Nat} (hS : va_S (lg_A g) H0 H locs) (z : H1.size = H.size) (oq : ∀ q : Nat, q ≠ a → H1[q]? = H[q]?) (ha : lg_B g ≤ a) : va_S (lg_A g) H0 H1 (locs ++ [⟨a, k⟩]) := hS.put z oq ha
/-- a field written: the picture's next -/
theorem xr_putv (HC : xx_C K own tb nL d rt) (i pc' : Nat) (c k : Nat) {ix a : Nat} {v : AV} {h' : HP} (hd : tb[i]? = some (pc, .putfield ix, 3)) (hp : pc + 3 = pc') (hw : Cond.fieldLink own ix (ly_cn c) (ly_TT c k).2.1 (ly_TT c k).2.2.1 ∈ ly_T) (hc : c < 12) (hk : k < ly_nf c)
    (hfin : (ly_TT c k).2.2.2 = false ∨ ((ly_TT c k).2.2.2 = true ∧ (cx_h (kx K)).name = "<init>" ∧ ly_cn c = own)) (hn : narrow (ly_ty c k) (av_c v) = av_c v) (hf : fits (ly_ty c k) (av_c v) = true)
    (hz : hp_z h' = hp_z h) (hss : hp_s h' = hp_s h) (hmo : hp_mo h h') (he : hp_k h a = c → ∀ b, hp_e (kg K) h' b = va_up (hp_e (kg K) h) a (.inr (c, (hp_fs h a c).set k (av_c v))) b) (hok : hp_ok (kg K) h → hp_k h a = c → av_ok (kg K) h v → hp_ok (kg K) h')
    (kk : xx_X K pc' lv st h') : xx_X K pc lv (v :: av_R c (some a) :: st) h := by
  subst hp
  intro H locs ls hR hS hM hl ho hs
  obtain ⟨a1, a2, a3⟩ := av_rok (by omega) (st_h (st_d hs))
  obtain ⟨q0, hq⟩ := hp_getL a1 a2
  rw [hp_eO a3 hc] at hq
  have hK := HC.kk.1
  have hap := va_apart (own := own) HC.hts (ly_in hc) (ly_ty c) (ly_tk hc) (ly_nm hc) hK (ly_clc hc)
  obtain ⟨r, h1, cell, q1, q2, q3, q4⟩ := hR.2.2.1 q0 _ hq
  have hr : r = (ly_cn c, ly_TT c, ly_nf c) := Option.some.inj (h1.symm.trans (ly_clc hc))
  subst hr
  obtain ⟨hSl, hfc, kC, hkC, hkind⟩ := hK.1 c _ (ly_clc hc)
  obtain ⟨cf, kf, fi, f, hi, hsl⟩ := hSl k hk
  have hlay := HC.hts _ (ly_in hc _ (u_in_lay hk))
  unfold u_lay at hlay
  have hst := (u_facts hfc hkC (u_lays HC.hts (ly_in hc) hk) hi).1
  have go : ∀ H' : Heap, H'[a]? = some (cell.setSlot f.slot (av_c v)) → H'.size = H.size → (∀ q, q ≠ a → H'[q]? = H[q]?) → cx_W (kx K) H' (locs ++ [⟨a, f.slot⟩]) (hp_z h - hp_z (k0 K)) (hp_s h - hp_s (k0 K)) (F0 (cx_m (kx K)) (pc + 3) ls (st.map av_c)) := by
    intro H' e1 z oq
    rw [hsl] at e1 ⊢
    have hat : va_at (lg_D (kg K)) ly_cl (a, .inr (c, (hp_fs h a c).set k (av_c v))) H' := ⟨_, ly_clc hc, t_OB.to (V := updV (vp_V (hp_fs h a c)) k (av_c v)) ⟨_, e1, q2, q3, t_set q4 hap hk (av_c v)⟩ (fun j _ => vp_updV_set (xh_fsl hk) (av_c v) j)⟩
    have r := kk H' _ ls (hp_Rset hR a1 a2 hz (he a3) (hok hR.2.2.2 a3 (st_h hs)) z oq hat) (xh_pS (k := (lg_D (kg K)).2 c k) hS z oq a1) (hp_mo_tr hM hmo) hl (xh_okm hmo ho) (xh_okv hmo (st_d2 hs))
    rw [hz, hss] at r
    exact r
  rcases hfin with hfin | ⟨hfin, hini, hdc⟩
  · rw [if_neg (by rw [hfin]; decide)] at hlay
    exact W.putK HC.ex rfl (f := f) ⟨HC.ow, HC.hts _ hw, ⟨_, _, _, hi⟩, hst⟩ (by rw [q2]; exact u_store hfc hkC hkind hlay hi (ly_tk hc k hk) hn hf) q1 q3 (by rw [hsl]; exact k2_hasslot (q4 k hk)) rfl rfl (HC.dec hd) go
  · rw [if_pos hfin] at hlay
    have hcf : (cx_m (kx K)).cls = cf := by
      obtain ⟨_, _, c', _, _, _, -, -, hf', -, -, -, hown2, -⟩ := Cond.laysFinal_spec hlay
      have e1 : c' = cf := by have := hi.symm.trans hf'; simp at this; exact this.1.symm
      have hown3 : (cx_s (kx K)).vm.findClass (ly_cn c) = some c' := hown2
      rw [hdc] at hown3
      rw [← e1]; exact Option.some.inj (HC.ow.symm.trans hown3)
    exact W.putFinK HC.ex rfl HC.ow (HC.hts _ hw) hi hst hcf hini (by rw [q2]; exact u_fits hfc hkC hkind (Or.inr hlay) hi (ly_tk hc k hk) hn hf) q1 q3 (by rw [hsl]; exact k2_hasslot (q4 k hk)) rfl rfl (HC.dec hd) go
theorem xh_fi {x : Int32} : fits .int (.int x) = true := rfl
theorem xr_puti (HC : xx_C K own tb nL d rt) (i pc' : Nat) (c k : Nat) {ix a : Nat} {x : Int32} (hd : tb[i]? = some (pc, .putfield ix, 3)) (hp : pc + 3 = pc') (hw : Cond.fieldLink own ix (ly_cn c) (ly_TT c k).2.1 (ly_TT c k).2.2.1 ∈ ly_T) (hc : c < 12) (hk : k < ly_nf c) (hfin : (ly_TT c k).2.2.2 = false) (ht : ly_ty c k = .int) (kk : xx_X K pc' lv st (hp_si h a k x)) : xx_X K pc lv (av_I x :: av_R c (some a) :: st) h :=
  xr_putv (h' := hp_si h a k x) HC i pc' c k hd hp hw hc hk (Or.inl hfin) (by rw [ht]; rfl) (by rw [ht]; rfl) rfl rfl (hp_mo_si h a k x) (fun hk2 b => hp_eO_si hk2 hc (by rw [ht]; rfl) b) (fun h1 _ _ => h1) kk
theorem xr_putz (HC : xx_C K own tb nL d rt) (i pc' : Nat) (c k : Nat) {ix a : Nat} {x : Int32} (hx : x = 0 ∨ x = 1) (hd : tb[i]? = some (pc, .putfield ix, 3)) (hp : pc + 3 = pc') (hw : Cond.fieldLink own ix (ly_cn c) (ly_TT c k).2.1 (ly_TT c k).2.2.1 ∈ ly_T) (hc : c < 12) (hk : k < ly_nf c) (hfin : (ly_TT c k).2.2.2 = false) (ht : ly_ty c k = .boolean) (kk : xx_X K pc' lv st (hp_si h a k x)) : xx_X K pc lv (av_I x :: av_R c (some a) :: st) h :=
  xr_putv (h' := hp_si h a k x) HC i pc' c k hd hp hw hc hk (Or.inl hfin) (by rw [ht]; rcases hx with rfl | rfl <;> rfl) (by rw [ht]; rcases hx with rfl | rfl <;> rfl) rfl rfl (hp_mo_si h a k x) (fun hk2 b => hp_eO_si hk2 hc (by rw [ht]; rfl) b) (fun h1 _ _ => h1) kk
theorem xr_putl (HC : xx_C K own tb nL d rt) (i pc' : Nat) (c k : Nat) {ix a : Nat} {x : Int64} (hd : tb[i]? = some (pc, .putfield ix, 3)) (hp : pc + 3 = pc') (hw : Cond.fieldLink own ix (ly_cn c) (ly_TT c k).2.1 (ly_TT c k).2.2.1 ∈ ly_T) (hc : c < 12) (hk : k < ly_nf c) (hfin : (ly_TT c k).2.2.2 = false) (ht : ly_ty c k = .long) (kk : xx_X K pc' lv st (hp_sl h a k x)) : xx_X K pc lv (av_L x :: av_R c (some a) :: st) h :=
  xr_putv (h' := hp_sl h a k x) HC i pc' c k hd hp hw hc hk (Or.inl hfin) (by rw [ht]; rfl) (by rw [ht]; rfl) rfl rfl (hp_mo_sl h a k x) (fun hk2 b => hp_eO_sl hk2 hc (by rw [ht]; rfl) b) (fun h1 _ _ => h1) kk
theorem xr_putr (HC : xx_C K own tb nL d rt) (i pc' : Nat) (c k kd : Nat) {ix a q : Nat} (hd : tb[i]? = some (pc, .putfield ix, 3)) (hp : pc + 3 = pc') (hw : Cond.fieldLink own ix (ly_cn c) (ly_TT c k).2.1 (ly_TT c k).2.2.1 ∈ ly_T) (hc : c < 12) (hk : k < ly_nf c) (hfin : (ly_TT c k).2.2.2 = false ∨ ((ly_TT c k).2.2.2 = true ∧ (cx_h (kx K)).name = "<init>" ∧ ly_cn c = own)) (ht : ly_cat (ly_ty c k) = 2) (hkd : ly_kd (ly_ty c k) = kd) (hk9 : kd < 90) (kk : xx_X K pc' lv st (hp_sr h a k (some q))) : xx_X K pc lv (av_R kd (some q) :: av_R c (some a) :: st) h :=
  xr_putv (h' := hp_sr h a k (some q)) HC i pc' c k hd hp hw hc hk hfin (by rcases (ly_tc hc k hk).2.2 ht with ⟨n, e⟩ | ⟨t, e⟩ <;> rw [e] <;> rfl) (by rcases (ly_tc hc k hk).2.2 ht with ⟨n, e⟩ | ⟨t, e⟩ <;> rw [e] <;> rfl) rfl rfl (hp_mo_sr h a k (some q)) (fun hk2 b => hp_eO_sr hk2 hc ht b)
    (fun h1 h2 h3 => hp_ok_sr h1 (fun b hb => by
      cases hb
      have h4 := av_rok hk9 h3
      rw [h2, hp_rk, if_neg (by omega), hkd]
      exact h4)) kk

/-- arrays: reading -/
theorem xh_ar {g : LG} {k : Nat} {ty : FieldType} (j : Nat) (hj : (lg_T g)[j]? = some (lg_Y g k, ty)) {U : State} (hK : ly_K g U) : ArrOfT U (lg_Y g k) ty := (hK.1.2 j _ hj).1
theorem xr_iald (HC : xx_C K own tb nL d rt) (i pc' : Nat) {a : Nat} {x : Int32} (hin : vp_in x (hp_n h a)) (hd : tb[i]? = some (pc, .iaload, 1)) (hp : pc + 1 = pc') (kk : xx_X K pc' lv (av_I (hp_i h a x.toNatClampNeg) :: st) h) : xx_X K pc lv (av_I x :: av_R 13 (some a) :: st) h := by
  subst hp
  intro H locs ls hR hS hM hl ho hs
  obtain ⟨a1, a2, a3⟩ := av_rok (by decide) (st_h (st_d hs))
  obtain ⟨q0, hq⟩ := hp_getL a1 a2
  rw [hp_eI a3 (by decide) (by decide) (by decide)] at hq
  exact va_iald HC.ex rfl HC.kk.1 hR.2.2.1 q0 1 hq rfl hin (HC.dec hd) (kk H locs ls hR hS hM hl ho (st_2 trivial hs))
theorem xr_bald (HC : xx_C K own tb nL d rt) (i pc' : Nat) {a : Nat} {x : Int32} (hin : vp_in x (hp_n h a)) (hd : tb[i]? = some (pc, .baload, 1)) (hp : pc + 1 = pc') (kk : xx_X K pc' lv (av_I (hp_i h a x.toNatClampNeg) :: st) h) : xx_X K pc lv (av_I x :: av_R 12 (some a) :: st) h := by
  subst hp
  intro H locs ls hR hS hM hl ho hs
  obtain ⟨a1, a2, a3⟩ := av_rok (by decide) (st_h (st_d hs))
  obtain ⟨q0, hq⟩ := hp_getL a1 a2
  rw [hp_eI a3 (by decide) (by decide) (by decide)] at hq
  exact va_bald HC.ex rfl HC.kk.1 hR.2.2.1 q0 0 hq rfl hin (HC.dec hd) (kk H locs ls hR hS hM hl ho (st_2 trivial hs))
theorem xr_zald (HC : xx_C K own tb nL d rt) (i pc' : Nat) {a : Nat} {x : Int32} (hin : vp_in x (hp_n h a)) (hd : tb[i]? = some (pc, .baload, 1)) (hp : pc + 1 = pc') (kk : xx_X K pc' lv (av_I (hp_i h a x.toNatClampNeg) :: st) h) : xx_X K pc lv (av_I x :: av_R 15 (some a) :: st) h := by
  subst hp
  intro H locs ls hR hS hM hl ho hs
  obtain ⟨a1, a2, a3⟩ := av_rok (by decide) (st_h (st_d hs))
  obtain ⟨q0, hq⟩ := hp_getL a1 a2
  rw [hp_eI a3 (by decide) (by decide) (by decide)] at hq
  exact va_zald HC.ex rfl HC.kk.1 hR.2.2.1 q0 3 hq rfl hin (HC.dec hd) (kk H locs ls hR hS hM hl ho (st_2 trivial hs))
theorem xr_lald (HC : xx_C K own tb nL d rt) (i pc' : Nat) {a : Nat} {x : Int32} (hin : vp_in x (hp_n h a)) (hd : tb[i]? = some (pc, .laload, 1)) (hp : pc + 1 = pc') (kk : xx_X K pc' lv (av_L (hp_l h a x.toNatClampNeg) :: st) h) : xx_X K pc lv (av_I x :: av_R 14 (some a) :: st) h := by
  subst hp
  intro H locs ls hR hS hM hl ho hs
  obtain ⟨a1, a2, a3⟩ := av_rok (by decide) (st_h (st_d hs))
  obtain ⟨q0, hq⟩ := hp_getL a1 a2
  rw [hp_e14 a3] at hq
  exact va_lald HC.ex rfl HC.kk.1 hR.2.2.1 q0 2 hq rfl hin (HC.dec hd) (kk H locs ls hR hS hM hl ho (st_2 trivial hs))
theorem xr_aald (HC : xx_C K own tb nL d rt) (i pc' : Nat) {a q : Nat} {x : Int32} (hq : hp_r h a x.toNatClampNeg = some q) (hin : vp_in x (hp_n h a)) (hd : tb[i]? = some (pc, .aaload, 1)) (hp : pc + 1 = pc') (kk : xx_X K pc' lv (av_R 1 (some q) :: st) h) : xx_X K pc lv (av_I x :: av_R 16 (some a) :: st) h := by
  subst hp
  intro H locs ls hR hS hM hl ho hs
  obtain ⟨a1, a2, a3⟩ := av_rok (by decide) (st_h (st_d hs))
  obtain ⟨q0, hq0⟩ := hp_getL a1 a2
  rw [hp_e16 a3] at hq0
  refine va_aldq HC.ex rfl HC.kk.1 hR.2.2.1 q0 4 hq0 rfl hin (HC.dec hd) ?_
  rw [hq]
  refine kk H locs ls hR hS hM hl ho (st_2 (Or.inr ?_) hs)
  have h1 := (hR.2.2.2 a a1 a2).2 _ q hq
  rw [a3] at h1
  exact h1
theorem xr_alen (HC : xx_C K own tb nL d rt) (i pc' : Nat) {a c : Nat} (hc : 12 ≤ c) (hc2 : c ≤ 16) (hd : tb[i]? = some (pc, .arraylength, 1)) (hp : pc + 1 = pc') (kk : xx_X K pc' lv (av_I (Int32.ofNat (hp_n h a)) :: st) h) : xx_X K pc lv (av_R c (some a) :: st) h := by
  subst hp
  intro H locs ls hR hS hM hl ho hs
  obtain ⟨a1, a2, a3⟩ := av_rok (by omega) (st_h hs)
  obtain ⟨q0, hq⟩ := hp_getL a1 a2
  have hk := kk H locs ls hR hS hM hl ho (st_1 trivial hs)
  rcases (show c = 12 ∨ c = 13 ∨ c = 14 ∨ c = 15 ∨ c = 16 by omega) with rfl | rfl | rfl | rfl | rfl
  · rw [hp_eI a3 (by decide) (by decide) (by decide)] at hq
    exact va_alen HC.ex rfl HC.kk.1 hR.2.2.1 q0 0 hq (ty := .byte) rfl rfl (HC.dec hd) hk
  · rw [hp_eI a3 (by decide) (by decide) (by decide)] at hq
    exact va_alen HC.ex rfl HC.kk.1 hR.2.2.1 q0 1 hq (ty := .int) rfl rfl (HC.dec hd) hk
  · rw [hp_e14 a3] at hq
    exact va_alen HC.ex rfl HC.kk.1 hR.2.2.1 q0 2 hq (ty := .long) rfl rfl (HC.dec hd) hk
  · rw [hp_eI a3 (by decide) (by decide) (by decide)] at hq
    exact va_alen HC.ex rfl HC.kk.1 hR.2.2.1 q0 3 hq (ty := .boolean) rfl rfl (HC.dec hd) hk
  · rw [hp_e16 a3] at hq
    exact va_alen HC.ex rfl HC.kk.1 hR.2.2.1 q0 4 hq (ty := .object "LampYard$Course") rfl rfl (HC.dec hd) hk
/-- arrays: writing -/
theorem xh_in {x : Int32} {cA : ClassId} {n : Nat} {f : Nat → Value} (hin : vp_in x n) : ¬ (x < 0 ∨ (arrV cA n f).slots.size ≤ x.toNatClampNeg) := by rw [arrV_size]; exact hin
theorem xr_iast (HC : xx_C K own tb nL d rt) (i pc' : Nat) {a : Nat} {x y : Int32} (hin : vp_in x (hp_n h a)) (hd : tb[i]? = some (pc, .iastore, 1)) (hp : pc + 1 = pc') (kk : xx_X K pc' lv st (hp_si h a x.toNatClampNeg y)) : xx_X K pc lv (av_I y :: av_I x :: av_R 13 (some a) :: st) h := by
  subst hp
  intro H locs ls hR hS hM hl ho hs
  obtain ⟨a1, a2, a3⟩ := av_rok (by decide) (st_h (st_d (st_d hs)))
  obtain ⟨q0, hq⟩ := hp_getL a1 a2
  rw [hp_eI a3 (by decide) (by decide) (by decide)] at hq
  refine W.iast HC.ex rfl (hR.2.2.1 q0 _ hq) (xh_ar 1 rfl HC.kk _ _) (fun q => by cases q) (xh_in hin) rfl rfl (HC.dec hd) fun H1 e z oq => ?_
  refine kk H1 _ ls (hp_Rset hR a1 a2 rfl (hp_eI_si (v := y) a3 (by decide) (by decide) (by decide)) hR.2.2.2 z oq ?_) (xh_pS hS z oq a1) hM hl ho (st_d3 hs)
  show H1[a]? = some (vp_cell _ _)
  rw [e, vp_cell_i, vp_cell_i, arrV_store]
  congr 2
  funext q
  by_cases hq : q = x.toNatClampNeg
  · subst hq; simp [updV, upd]
  · simp [updV, upd, hq]
theorem xr_bast (HC : xx_C K own tb nL d rt) (i pc' : Nat) {a : Nat} {x y : Int32} (hin : vp_in x (hp_n h a)) (hd : tb[i]? = some (pc, .bastore, 1)) (hp : pc + 1 = pc') (kk : xx_X K pc' lv st (hp_si h a x.toNatClampNeg (vp_nar .byte y))) : xx_X K pc lv (av_I y :: av_I x :: av_R 12 (some a) :: st) h := by
  subst hp
  intro H locs ls hR hS hM hl ho hs
  obtain ⟨a1, a2, a3⟩ := av_rok (by decide) (st_h (st_d (st_d hs)))
  obtain ⟨q0, hq⟩ := hp_getL a1 a2
  rw [hp_eI a3 (by decide) (by decide) (by decide)] at hq
  refine W.bast HC.ex rfl (hR.2.2.1 q0 _ hq) (xh_ar 0 rfl HC.kk _ _) (fun q => by cases q) (xh_in hin) rfl rfl (HC.dec hd) fun H1 e z oq => ?_
  refine kk H1 _ ls (hp_Rset hR a1 a2 rfl (hp_eI_si (v := vp_nar .byte y) a3 (by decide) (by decide) (by decide)) hR.2.2.2 z oq ?_) (xh_pS hS z oq a1) hM hl ho (st_d3 hs)
  show H1[a]? = some (vp_cell _ _)
  rw [e, vp_cell_i, vp_cell_i, arrV_store]
  congr 2
  funext q
  by_cases hq : q = x.toNatClampNeg
  · subst hq; simp [updV, upd, vp_nar, narrow]
  · simp [updV, upd, hq]
theorem xr_zast (HC : xx_C K own tb nL d rt) (i pc' : Nat) {a : Nat} {x y : Int32} (hin : vp_in x (hp_n h a)) (hd : tb[i]? = some (pc, .bastore, 1)) (hp : pc + 1 = pc') (kk : xx_X K pc' lv st (hp_si h a x.toNatClampNeg (vp_nar .boolean y))) : xx_X K pc lv (av_I y :: av_I x :: av_R 15 (some a) :: st) h := by
  subst hp
  intro H locs ls hR hS hM hl ho hs
  obtain ⟨a1, a2, a3⟩ := av_rok (by decide) (st_h (st_d (st_d hs)))
  obtain ⟨q0, hq⟩ := hp_getL a1 a2
  rw [hp_eI a3 (by decide) (by decide) (by decide)] at hq
  refine W.zast HC.ex rfl (hR.2.2.1 q0 _ hq) (xh_ar 3 rfl HC.kk _ _) (fun q => by cases q) (xh_in hin) rfl rfl (HC.dec hd) fun H1 e z oq => ?_
  refine kk H1 _ ls (hp_Rset hR a1 a2 rfl (hp_eI_si (v := vp_nar .boolean y) a3 (by decide) (by decide) (by decide)) hR.2.2.2 z oq ?_) (xh_pS hS z oq a1) hM hl ho (st_d3 hs)
  show H1[a]? = some (vp_cell _ _)
  rw [e, vp_cell_i, vp_cell_i, arrV_store]
  congr 2
  funext q
  by_cases hq : q = x.toNatClampNeg
  · subst hq; simp [updV, upd, vp_nar, narrow]
  · simp [updV, upd, hq]
theorem xr_last (HC : xx_C K own tb nL d rt) (i pc' : Nat) {a : Nat} {x : Int32} {y : Int64} (hin : vp_in x (hp_n h a)) (hd : tb[i]? = some (pc, .lastore, 1)) (hp : pc + 1 = pc') (kk : xx_X K pc' lv st (hp_sl h a x.toNatClampNeg y)) : xx_X K pc lv (av_L y :: av_I x :: av_R 14 (some a) :: st) h := by
  subst hp
  intro H locs ls hR hS hM hl ho hs
  obtain ⟨a1, a2, a3⟩ := av_rok (by decide) (st_h (st_d (st_d hs)))
  obtain ⟨q0, hq⟩ := hp_getL a1 a2
  rw [hp_e14 a3] at hq
  refine W.last HC.ex rfl (hR.2.2.1 q0 _ hq) (xh_ar 2 rfl HC.kk _ _) (fun q => by cases q) (xh_in hin) rfl rfl (HC.dec hd) fun H1 e z oq => ?_
  refine kk H1 _ ls (hp_Rset hR a1 a2 rfl (hp_e14_sl (v := y) a3) hR.2.2.2 z oq ?_) (xh_pS hS z oq a1) hM hl ho (st_d3 hs)
  show H1[a]? = some (vp_cell _ _)
  rw [e, vp_cell_l, vp_cell_l, arrV_store]
  congr 2
  funext q
  by_cases hq : q = x.toNatClampNeg
  · subst hq; simp [updV, vp_updL]
  · simp [updV, vp_updL, hq]
theorem xr_aast (HC : xx_C K own tb nL d rt) (i pc' : Nat) {a v : Nat} {x : Int32} (hin : vp_in x (hp_n h a)) (hd : tb[i]? = some (pc, .aastore, 1)) (hp : pc + 1 = pc') (kk : xx_X K pc' lv st (hp_sr h a x.toNatClampNeg (some v))) : xx_X K pc lv (av_R 1 (some v) :: av_I x :: av_R 16 (some a) :: st) h := by
  subst hp
  intro H locs ls hR hS hM hl ho hs
  obtain ⟨a1, a2, a3⟩ := av_rok (by decide) (st_h (st_d (st_d hs)))
  obtain ⟨v1, v2, v3⟩ := av_rok (by decide) (st_h hs)
  obtain ⟨q0, hq⟩ := hp_getL a1 a2
  rw [hp_e16 a3] at hq
  obtain ⟨qk, hqk⟩ := hp_getL v1 v2
  rw [hp_eO v3 (by decide)] at hqk
  have hlt : x.toNatClampNeg < hp_n h a := Nat.not_le.mp fun q => hin (Or.inr q)
  have h0 : ¬ x < 0 := fun q => hin (Or.inl q)
  obtain ⟨r', hr', cellV, g1, g2, g3, -⟩ := hR.2.2.1 qk _ hqk
  have hcls := (HC.kk.1.1 1 _ (ly_clc (by decide))).2
  obtain ⟨kA, comp, k1, k2, k3, -⟩ := (HC.kk.1.2 4 _ rfl).2
  have hcomp : comp = (lg_D (kg K)).1 1 := Option.some.inj (k3.symm.trans hcls.1)
  subst hcomp
  obtain ⟨kC, hkC, -⟩ := hcls.2
  refine W.aast HC.ex rfl (hR.2.2.1 q0 _ hq) (fun q h => by cases h) (fun h => by cases h) k1 k2 rfl hkC ⟨h0, by show _ < (arrV _ _ _).slots.size; rw [arrV_size]; exact hlt⟩ g1 (fun q h => by rw [g3] at h; cases h) (by rw [g2]; exact hkC) (by rw [g2]; exact va_assign hcls) rfl rfl (HC.dec hd) fun H1 e z oq => ?_
  refine kk H1 _ ls (hp_Rset hR a1 a2 rfl (hp_e16_sr (v := some v) a3) (hp_ok_sr hR.2.2.2 (fun b hb => by cases hb; rw [a3]; exact ⟨v1, v2, v3⟩)) z oq ?_) (xh_pS hS z oq a1) hM hl ho (st_d3 hs)
  show H1[a]? = some (vp_cell _ _)
  rw [e, vp_cell_q, vp_cell_q, arrV_store]
  congr 2
  funext q
  by_cases hq : q = x.toNatClampNeg
  · subst hq; simp [updV, va_up, va_rf]
  · simp [updV, va_up, hq]
end XH
