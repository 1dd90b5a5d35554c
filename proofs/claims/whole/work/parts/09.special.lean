/-! rows for the literal, for a copied array, for a switch by look-up -/
def ly_ch (x : Int32) : Int32 := ly_by.getD x.toNatClampNeg 0 &&& 255
theorem ly_lkN {x v : Int32} {k : Int} (hk : v.toInt = k) (h : ¬ x = v) : ¬ k = x.toInt := fun q => h (Int32.toInt_inj.mp (q.symm.trans hk.symm))
theorem ly_lkD : ∀ {ps : List (Int × Int)} {df k : Int}, (∀ q ∈ ps, ¬ q.1 = k) → Op.lookupswitch.offset ps df k = df
  | [], df, k, _ => rfl
  | q :: ps, df, k, h => by
    have h1 := h q List.mem_cons_self
    have h2 := ly_lkD (df := df) (fun r hr => h r (List.mem_cons_of_mem _ hr))
    obtain ⟨a, b⟩ := q
    rw [Op.lookupswitch.offset_cons, if_neg h1]
    exact h2
section XC
variable {K : KK} {own : String} {tb : TBL} {nL d : Nat} {rt : Option FieldType} {pc : Nat} {lv : List (Nat × AV)} {st : List AV} {h : HP}
theorem xr_copy6 (HC : xx_C K own tb nL d rt) (i pc' : Nat) {ix a0 a : Nat} (hn0 : 6 ≤ hp_n h a0) (hn1 : 6 ≤ hp_n h a) (hd : tb[i]? = some (pc, .invokestatic ix, 3)) (hp : pc + 3 = pc') (hw : Cond.methodLink own ix arraycopyName ∈ ly_T) (hdd : 1 ≤ d) (hst : xh_rm st ≤ 8) (kk : xx_X K pc' lv st (hp_cp h a0 0 a 0 6)) : xx_X K pc lv (av_I 6 :: av_I 0 :: av_R 13 (some a) :: av_I 0 :: av_R 13 (some a0) :: st) h := by
  subst hp
  intro H locs ls hR hS hM hl ho hs
  obtain ⟨a1, a2, a3⟩ := av_rok (by decide) (st_h (st_d (st_d hs)))
  obtain ⟨b1, b2, b3⟩ := av_rok (by decide) (st_h (st_d (st_d (st_d (st_d hs)))))
  have hs2 := st_d (st_d (st_d (st_d (st_d hs))))
  obtain ⟨q1, hq1⟩ := hp_getL a1 a2
  rw [hp_eI a3 (by decide) (by decide) (by decide)] at hq1
  obtain ⟨q0, hq0⟩ := hp_getL b1 b2
  rw [hp_eI b3 (by decide) (by decide) (by decide)] at hq0
  have f1 := HC.fr
  have f2 := HC.lo
  have hc0 : H[a0]? = some (arrV (lg_Y (kg K) 13) (hp_n h a0) (fun j => .int (hp_i h a0 j))) := hR.2.2.1 q0 _ hq0
  have hc1 : H[a]? = some (arrV (lg_Y (kg K) 13) (hp_n h a) (fun j => .int (hp_i h a j))) := hR.2.2.1 q1 _ hq1
  intro T hT X
  obtain ⟨-, kA, hkA, cmA, hkkA⟩ := xh_ar 1 rfl HC.kk (hp_n h a0) (fun j => .int (hp_i h a0 j))
  obtain ⟨-, kB, hkB, cmB, hkkB⟩ := xh_ar 1 rfl HC.kk (hp_n h a) (fun j => .int (hp_i h a j))
  obtain ⟨vm', X', step⟩ := X.arraycopy HC.ex HC.ow (HC.hts _ hw) (HC.hts _ ly_cp2) (HC.hts _ ly_cp1) (HC.hts _ ly_cp3) (src := a0) (dst := a) (cs := arrV (lg_Y (kg K) 13) (hp_n h a0) (fun j => .int (hp_i h a0 j))) (cd := arrV (lg_Y (kg K) 13) (hp_n h a) (fun j => .int (hp_i h a j))) (srcPos := 0) (destPos := 0) (n := 6) (by rw [hT]; exact hc0) (by rw [hT]; exact hc1)
    (fun _ z => by cases z) (fun _ z => by cases z) (fun z => by cases z) (fun z => by cases z) hkA hkB hkkA hkkB (by decide) (by decide) (by decide) (by decide)
    (by rw [arrV_size]; show ¬ (0 : Int) + 6 > _; omega)
    (by rw [arrV_size]; show ¬ (0 : Int) + 6 > _; omega)
    (fun vm₁ _ j hj => by
      have hj : j < 6 := hj
      have e : (arrV (lg_Y (kg K) 13) (hp_n h a0) (fun j => .int (hp_i h a0 j))).slots.getD ((0 : Int32).toNatClampNeg + j) .null = .int (hp_i h a0 ((0 : Int32).toNatClampNeg + j)) := by
        rw [Array.getD_eq_getD_getElem?, arrV_read _ _ (show (0 : Int32).toNatClampNeg + j < hp_n h a0 by show 0 + j < _; omega)]
        rfl
      refine ⟨?_, ?_⟩
      · rw [e]; rfl
      · rw [e]; exact trivial)
    (g := F0 (cx_m (kx K)) pc ls ((av_I 6 :: av_I 0 :: av_R 13 (some a) :: av_I 0 :: av_R 13 (some a0) :: st).map av_c)) rfl (by rw [HC.ml]; exact hl.1) (rest := st.map av_c) rfl (HC.dec hd) (by omega)
    (by
      rw [xh_rmc]
      have : nativeFrameWords "java/lang/System" "arraycopy" 5 + 11 ≤ 40 := by decide +kernel
      show 2 * 0 + _ + _ ≤ _
      omega)
  have e1 : copied (arrV (lg_Y (kg K) 13) (hp_n h a0) (fun j => .int (hp_i h a0 j))) (arrV (lg_Y (kg K) 13) (hp_n h a) (fun j => .int (hp_i h a j))) 0 0 6 = arrV (lg_Y (kg K) 13) (hp_n h a) (fun j => .int (va_cpy (hp_i h a0) (hp_i h a) 0 0 6 j)) := va_copied (fun z => .int z) (lg_Y (kg K) 13) (lg_Y (kg K) 13) (hp_i h a0) (hp_i h a) (show (0 : Int32).toNatClampNeg + (6 : Int32).toNatClampNeg ≤ hp_n h a0 from hn0)
  rw [e1] at X' step
  have hl2 : a < H.size := (Array.getElem?_eq_some_iff.mp hc1).1
  have hheap : ((T.setVm vm').setCell a (arrV (lg_Y (kg K) 13) (hp_n h a) (fun j => .int (va_cpy (hp_i h a0) (hp_i h a) 0 0 6 j)))).heap = H.setIfInBounds a (arrV (lg_Y (kg K) 13) (hp_n h a) (fun j => .int (va_cpy (hp_i h a0) (hp_i h a) 0 0 6 j))) := by rw [← hT]; rfl
  have oq : ∀ q : Nat, q ≠ a → (H.setIfInBounds a (arrV (lg_Y (kg K) 13) (hp_n h a) (fun j => .int (va_cpy (hp_i h a0) (hp_i h a) 0 0 6 j))))[q]? = H[q]? := fun q hq => by simp [Array.getElem?_setIfInBounds, Ne.symm hq]
  have z : (H.setIfInBounds a (arrV (lg_Y (kg K) 13) (hp_n h a) (fun j => .int (va_cpy (hp_i h a0) (hp_i h a) 0 0 6 j)))).size = H.size := by simp
  obtain ⟨t, r1, r2⟩ := kk _ _ ls (hp_Rset hR a1 a2 rfl (hp_eI_cp (a0 := a0) (sp := 0) (dp := 0) (n := 6) a3) hR.2.2.2 z oq (show (H.setIfInBounds a _)[a]? = some _ by simp [Array.getElem?_setIfInBounds, hl2]; rfl)) ⟨by rw [z]; exact hS.1, fun q g1 g2 => by
      rw [oq q (fun e => g2 (by rw [e]; exact a1))]
      exact hS.2.1 q g1 g2, fun q hq => by
      rcases List.mem_append.mp hq with hh | hh
      · exact hS.2.2 q hh
      · obtain ⟨w, -, hw2⟩ := List.mem_map.mp hh
        rw [← hw2]
        exact a1⟩ hM hl ho hs2 _ hheap X'
  exact ⟨t, step t r1, r2⟩
theorem xr_str (HC : xx_C K own tb nL d rt) (i pc' : Nat) (ho9 : own = "LampYard$Reader") (hd : tb[i]? = some (pc, .ldc 114, 2)) (hp : pc + 2 = pc') (kk : xx_X K pc' lv (av_R 98 (some (lg_S (kg K))) :: st) h) : xx_X K pc lv st h := by
  subst hp
  subst ho9
  intro H locs ls hR hS hM hl ho hs
  exact va_ldcS HC.ex rfl HC.ow HC.kk.2.1 (HC.dec hd) (kk H locs ls hR hS hM hl ho (st_0 (Or.inl (by decide)) hs))
/-- a call on the literal -/
theorem xr_callQ (HC : xx_C K own tb nL d rt) (i pc' : Nat) {ix mL d2 : Nat} {y : MethodName} {cc : ByteArray} {rt2 : Option FieldType} {av st0 : List AV} {r : Option AV} {h' : HP} (hM : xx_M (kg K) (cx_l (kx K)) y cc mL rt2 d2 (av_R 98 (some (lg_S (kg K))) :: av) h r h') (hmo : hp_mo h h') (hb : hp_le h' (k1 K)) (hd : tb[i]? = some (pc, .invokevirtual ix, 3)) (hp : pc + 3 = pc')
    (hw1 : Cond.methodLink own ix y ∈ ly_T) (hw2 : Cond.instanceMethod y ∈ ly_T) (hw3 : Cond.selects "java/lang/String" y y ∈ ly_T) (hw4 : Cond.code y cc mL rt2 ∈ ly_T) (hw5 : Cond.initialized "java/lang/String" ∈ ly_T) (hcy : y.cls = "java/lang/String") (hmh : xh_mh y av.length) (hdd : d2 + 1 ≤ d) (hml : mL ≤ 40) (hst : xh_rm st ≤ 8) (he : st0 = av.reverse ++ av_R 98 (some (lg_S (kg K))) :: st) (kk : xx_X K pc' lv (r.toList ++ st) h') : xx_X K pc lv st0 h := by
  subst hp
  subst he
  intro H locs ls hR hS hM0 hl ho hs
  obtain ⟨ha, hs2⟩ := xh_vs hs
  have f1 := HC.fr
  have f2 := HC.lo
  have hce := HC.ce
  have hsl := HC.sl
  have b1 := hb.1
  have b2 := hb.2
  have m1 := hmo.1
  have m2 := hmo.2.1
  have n1 := hM0.1
  have n2 := hM0.2.1
  refine xh_back (a := #[]) (r := r) hmo hM0 hS (va_runV (C := "java/lang/String") (b := lg_S (kg K)) (As := av.map av_c) (rest := st.map av_c) (g := F0 (cx_m (kx K)) pc ls ((av.reverse ++ av_R 98 (some (lg_S (kg K))) :: st).map av_c)) ⟨HC.ex, rfl, HC.ml, HC.ow, HC.hts⟩ hM (cwV av.length HC.hts ?_ rfl rfl rfl ⟨hcy, hmh⟩ ⟨by show d2 + 1 ≤ _; omega, by show 8 + (mL + 11) + 64 * d2 ≤ _; omega⟩) ⟨fun a U f mk q => ⟨q.1, q.2.1, q.2.2.1.calling, q.2.2.2⟩, vk_recv (adK := fun _ => lg_S (kg K)) (i := 0) HC.kk.2.2.1 (by decide) hS, fun U hU hW => ⟨rfl, by rw [hU]; exact hR, HC.kk.warm hW hU hS, ha⟩⟩ rfl (by simp) hl.1 (by simp [av_c, va_rf]) (lv_room (by rw [xh_rmc]; exact hst)) (HC.dec hd) ⟨by omega, by omega⟩) (fun H1 locs1 hR1 hS1 hrok => kk H1 locs1 ls hR1 hS1 (hp_mo_tr hM0 hmo) hl (xh_okm hmo ho) (xh_st hrok (xh_okv hmo hs2)))
  intro w hw
  have hmem : w ∈ ly_T := by
    rcases List.mem_append.mp hw with hw | hw
    · simp only [List.mem_cons, List.not_mem_nil, or_false] at hw
      rcases hw with rfl | rfl | rfl | rfl
      · exact hw1
      · exact hw2
      · exact hw3
      · exact hw5
    · rcases List.mem_cons.mp hw with rfl | hw
      · exact hw4
      · exact hw
  exact ⟨hmem, ly_Tg hmem⟩
theorem xr_gsC (HC : xx_C K own tb nL d rt) (i pc' : Nat) {ix : Nat} (hd : tb[i]? = some (pc, .getstatic ix, 3)) (hp : pc + 3 = pc') (hw : Cond.fieldLink own ix "java/lang/String" "COMPACT_STRINGS" "Z" ∈ ly_T) (kk : xx_X K pc' lv (av_I 1 :: st) h) : xx_X K pc lv st h := by
  subst hp
  intro H locs ls hR hS hM hl ho hs
  exact va_gets HC.ex rfl HC.kk.2.2.2.2.1 hS HC.ow (HC.hts _ hw) (fun _ q => q) (HC.dec hd) (kk H locs ls hR hS hM hl ho (st_0 trivial hs))
theorem xr_gsF (HC : xx_C K own tb nL d rt) (i pc' : Nat) {ix : Nat} (hd : tb[i]? = some (pc, .getstatic ix, 3)) (hp : pc + 3 = pc') (hw : Cond.fieldLink own ix "jdk/internal/util/Preconditions" "SIOOBE_FORMATTER" "Ljava/util/function/BiFunction;" ∈ ly_T) (kk : ∀ r, xx_X K pc' lv (av_R 96 r :: st) h) : xx_X K pc lv st h := by
  subst hp
  intro H locs ls hR hS hM hl ho hs
  rcases HC.kk.2.2.2.2.2 with hz | ⟨t, hz⟩
  · exact va_gets HC.ex rfl hz hS HC.ow (HC.hts _ hw) (fun _ q => q) (HC.dec hd) (kk none H locs ls hR hS hM hl ho (st_0 trivial hs))
  · exact va_gets HC.ex rfl hz hS HC.ow (HC.hts _ hw) (fun _ q => q) (HC.dec hd) (kk (some t) H locs ls hR hS hM hl ho (st_0 (Or.inl (by decide)) hs))
theorem xr_gfC (HC : xx_C K own tb nL d rt) (i pc' : Nat) {ix : Nat} (hd : tb[i]? = some (pc, .getfield ix, 3)) (hp : pc + 3 = pc') (hw : Cond.fieldLink own ix "java/lang/String" "coder" "B" ∈ ly_T) (kk : xx_X K pc' lv (av_I 0 :: st) h) : xx_X K pc lv (av_R 98 (some (lg_S (kg K))) :: st) h := by
  subst hp
  intro H locs ls hR hS hM hl ho hs
  exact vk_getf HC.ex rfl (HC.kk.2.2.1.1 0 (by decide)).2.1 hS HC.ow (HC.hts _ hw) (fun _ q => q) (HC.dec hd) (kk H locs ls hR hS hM hl ho (st_1 trivial hs))
theorem xr_gfV (HC : xx_C K own tb nL d rt) (i pc' : Nat) {ix : Nat} (hd : tb[i]? = some (pc, .getfield ix, 3)) (hp : pc + 3 = pc') (hw : Cond.fieldLink own ix "java/lang/String" "value" "[B" ∈ ly_T) (kk : xx_X K pc' lv (av_R 97 (some (lg_V (kg K))) :: st) h) : xx_X K pc lv (av_R 98 (some (lg_S (kg K))) :: st) h := by
  subst hp
  intro H locs ls hR hS hM hl ho hs
  exact vk_getf HC.ex rfl (HC.kk.2.2.1.1 0 (by decide)).2.2.1 hS HC.ow (HC.hts _ hw) (fun _ q => q) (HC.dec hd) (kk H locs ls hR hS hM hl ho (st_1 (Or.inl (by decide)) hs))
theorem xr_tlen (HC : xx_C K own tb nL d rt) (i pc' : Nat) (hd : tb[i]? = some (pc, .arraylength, 1)) (hp : pc + 1 = pc') (kk : xx_X K pc' lv (av_I 160 :: st) h) : xx_X K pc lv (av_R 97 (some (lg_V (kg K))) :: st) h := by
  subst hp
  intro H locs ls hR hS hM hl ho hs
  exact va_tlen HC.ex rfl (HC.kk.2.2.1.1 0 (by decide)).2.2.2 hS rfl (HC.dec hd) (kk H locs ls hR hS hM hl ho (st_1 trivial hs))
theorem xr_tb (HC : xx_C K own tb nL d rt) (i pc' : Nat) {x : Int32} (hin : vp_in x 160) (hd : tb[i]? = some (pc, .baload, 1)) (hp : pc + 1 = pc') (kk : xx_X K pc' lv (av_I (ly_by.getD x.toNatClampNeg 0) :: st) h) : xx_X K pc lv (av_I x :: av_R 97 (some (lg_V (kg K))) :: st) h := by
  subst hp
  intro H locs ls hR hS hM hl ho hs
  exact va_tb HC.ex rfl (HC.kk.2.2.1.1 0 (by decide)).2.2.2 hS hin rfl (HC.dec hd) (kk H locs ls hR hS hM hl ho (st_2 trivial hs))
theorem xr_i2c (HC : xx_C K own tb nL d rt) (i pc' : Nat) {x : Int32} (hd : tb[i]? = some (pc, .i2c, 1)) (hp : pc + 1 = pc') (kk : xx_X K pc' lv (av_I (x.toUInt32 % 65536).toInt32 :: st) h) : xx_X K pc lv (av_I x :: st) h := by
  subst hp
  intro H locs ls hR hS hM hl ho hs
  exact lv_i2c HC.ex rfl (HC.dec hd) rfl (kk H locs ls hR hS hM hl ho (st_1 trivial hs))
theorem xr_aloadR (HC : xx_C K own tb nL d rt) (i pc' : Nat) {n : Fin 4} {ix j c : Nat} {r : Option Nat} (hn : (n : Nat) = ix) (hj : lv[j]? = some (ix, av_R c r)) (hd : tb[i]? = some (pc, .aload_n n, 1)) (hp : pc + 1 = pc') (kk : xx_X K pc' lv (av_R c r :: st) h) : xx_X K pc lv st h := by
  subst hp
  intro H locs ls hR hS hM hl ho hs
  cases r with
  | none => exact lv_aload_nN HC.ex rfl (HC.dec hd) hn (lv_get hl hj) (kk H locs ls hR hS hM hl ho (st_0 trivial hs))
  | some a => exact lv_aload_n HC.ex rfl (HC.dec hd) hn (lv_get hl hj) (kk H locs ls hR hS hM hl ho (st_0 (lv_okj ho hj) hs))
theorem xr_reti (HC : xx_C K own tb nL d rt) (i : Nat) {v : Int32} (hd : tb[i]? = some (pc, .ireturn, 1)) (e1 : kr K = some (av_I v)) (e2 : k1 K = h) (hn : ∀ ty, rt = some ty → narrow ty (.int v) = .int v) : xx_X K pc lv [av_I v] h := by
  intro H locs ls hR hS hM hl ho hs
  rw [← e2] at hR hM ⊢
  have r := HC.2.2.2.2.2.2.2.2.2.2.2.2.2 pc ls H locs .ireturn (HC.dec hd) (by rw [e1]; rfl) (fun ty w ht hv => by rw [e1] at hv; cases hv; exact hn ty ht) hR hS hM (fun w hv => by rw [e1] at hv; cases hv; trivial)
  rw [e1] at r
  exact r
theorem xr_retv (HC : xx_C K own tb nL d rt) (i : Nat) (hd : tb[i]? = some (pc, .return_, 1)) (e1 : kr K = none) (e2 : k1 K = h) : xx_X K pc lv [] h := by
  intro H locs ls hR hS hM hl ho hs
  rw [← e2] at hR hM ⊢
  have r := HC.2.2.2.2.2.2.2.2.2.2.2.2.2 pc ls H locs .return_ (HC.dec hd) (by rw [e1]; rfl) (fun ty w ht hv => by rw [e1] at hv; cases hv) hR hS hM (fun w hv => by rw [e1] at hv; cases hv)
  rw [e1] at r
  exact r
def y_jPc : MethodName := ⟨"jdk/internal/util/Preconditions", "checkIndex", "(IILjava/util/function/BiFunction;)I"⟩
def y_jSc : MethodName := ⟨"java/lang/String", "checkIndex", "(II)V"⟩
def y_jLc : MethodName := ⟨"java/lang/StringLatin1", "charAt", "([BI)C"⟩
def y_jIl : MethodName := ⟨"java/lang/String", "isLatin1", "()Z"⟩
def y_jCa : MethodName := ⟨"java/lang/String", "charAt", "(I)C"⟩
theorem wh_jPc : xh_mh y_jPc 3 := ⟨by decide, by decide, by decide +kernel⟩
theorem wh_jSc : xh_mh y_jSc 2 := ⟨by decide, by decide, by decide +kernel⟩
theorem wh_jLc : xh_mh y_jLc 2 := ⟨by decide, by decide, by decide +kernel⟩
theorem wh_jIl : xh_mh y_jIl 0 := ⟨by decide, by decide, by decide +kernel⟩
theorem wh_jCa : xh_mh y_jCa 1 := ⟨by decide, by decide, by decide +kernel⟩
def tb_jPc : TBL := [(0, .iload_n 0, 1), (1, .ifCond .lt 8, 3), (4, .iload_n 0, 1), (5, .iload_n 1, 1), (6, .if_icmp .lt 10, 3), (16, .iload_n 0, 1), (17, .ireturn, 1)]
theorem dt_jPc : ∀ q ∈ tb_jPc, decode prog_22_method_11_code q.1 = .ok (q.2.1, q.2.2) := by decide +kernel
def tb_jSc : TBL := [(0, .iload_n 0, 1), (1, .iload_n 1, 1), (2, .getstatic 1053, 3), (5, .invokestatic 1059, 3), (8, .pop, 1), (9, .return_, 1)]
theorem dt_jSc : ∀ q ∈ tb_jSc, decode prog_17_method_155_code q.1 = .ok (q.2.1, q.2.2) := by decide +kernel
def tb_jLc : TBL := [(0, .iload_n 1, 1), (1, .aload_n 0, 1), (2, .arraylength, 1), (3, .invokestatic 9, 3), (6, .aload_n 0, 1), (7, .iload_n 1, 1), (8, .baload, 1), (9, .sipush 255, 3), (12, .iand, 1), (13, .i2c, 1), (14, .ireturn, 1)]
theorem dt_jLc : ∀ q ∈ tb_jLc, decode prog_18_method_2_code q.1 = .ok (q.2.1, q.2.2) := by decide +kernel
def tb_jIl : TBL := [(0, .getstatic 38, 3), (3, .ifCond .eq 14, 3), (6, .aload_n 0, 1), (7, .getfield 15, 3), (10, .ifCond .ne 7, 3), (13, .iconst 1, 1), (14, .goto 4, 3), (18, .ireturn, 1)]
theorem dt_jIl : ∀ q ∈ tb_jIl, decode prog_17_method_154_code q.1 = .ok (q.2.1, q.2.2) := by decide +kernel
def tb_jCa : TBL := [(0, .aload_n 0, 1), (1, .invokevirtual 492, 3), (4, .ifCond .eq 12, 3), (7, .aload_n 0, 1), (8, .getfield 9, 3), (11, .iload_n 1, 1), (12, .invokestatic 495, 3), (15, .ireturn, 1)]
theorem dt_jCa : ∀ q ∈ tb_jCa, decode prog_17_method_56_code q.1 = .ok (q.2.1, q.2.2) := by decide +kernel
theorem c_jPc (g : LG) (l : Launch) {x n : Int32} (r : Option Nat) (h : HP) (h0 : ¬ x < 0) (h1 : x < n) : xx_M g l y_jPc prog_22_method_11_code 3 (some .int) 1 [av_I x, av_I n, av_R 96 r] h (some (av_I x)) h := by
  refine xx_Mof (by decide +kernel) tb_jPc dt_jPc trivial (by cases r <;> exact Nat.le_of_ble_eq_true rfl) (fun K HC e1 e2 e3 e4 e5 e6 => ?_)
  refine xr_sub (lv' := [(0, av_I x), (1, av_I n)]) [0, 1] rfl ?_
  refine xr_iload_n HC 0 1 (n := 0) (ix := 0) (j := 0) (x := x) rfl rfl rfl rfl ?_
  refine xr_if_lt HC 1 9 4 rfl (by decide) rfl (fun q => absurd q h0) (fun _ => ?_)
  refine xr_iload_n HC 2 5 (n := 0) (ix := 0) (j := 0) (x := x) rfl rfl rfl rfl ?_
  refine xr_iload_n HC 3 6 (n := 1) (ix := 1) (j := 1) (x := n) rfl rfl rfl rfl ?_
  refine xr_icmp_lt HC 4 16 9 rfl (by decide) rfl (fun _ => ?_) (fun q => absurd h1 q)
  refine xr_iload_n HC 5 17 (n := 0) (ix := 0) (j := 0) (x := x) rfl rfl rfl rfl ?_
  exact xr_reti HC 6 rfl e4 e5 (fun ty ht => by cases ht; rfl)
theorem c_jSc (g : LG) (l : Launch) {x n : Int32} (h : HP) (h0 : ¬ x < 0) (h1 : x < n) : xx_M g l y_jSc prog_17_method_155_code 2 none 2 [av_I x, av_I n] h none h := by
  refine xx_Mof (by decide +kernel) tb_jSc dt_jSc trivial (Nat.le_of_ble_eq_true rfl) (fun K HC e1 e2 e3 e4 e5 e6 => ?_)
  have hb : hp_le h (k1 K) := by rw [e5]; exact ⟨Nat.le_refl _, Nat.le_refl _⟩
  refine xr_sub (lv' := [(0, av_I x), (1, av_I n)]) [0, 1] rfl ?_
  refine xr_iload_n HC 0 1 (n := 0) (ix := 0) (j := 0) (x := x) rfl rfl rfl rfl ?_
  refine xr_iload_n HC 1 2 (n := 1) (ix := 1) (j := 1) (x := n) rfl rfl rfl rfl ?_
  refine xr_gsF HC 2 5 rfl rfl (ly_at 375 (by decide +kernel) rfl) (fun r => ?_)
  refine xr_callS HC 3 8 (av := [av_I x, av_I n, av_R 96 r]) (st := []) (c_jPc (kg K) (cx_l (kx K)) r h h0 h1) (hp_mo_rf h) hb rfl rfl (ly_at 377 (by decide +kernel) rfl) (ly_at 378 (by decide +kernel) rfl) (ly_at 12 (by decide +kernel) rfl) (ly_at 379 (by decide +kernel) rfl) wh_jPc (by decide) (by decide) (by decide) rfl ?_
  refine xr_pop HC 4 9 (v := av_I x) rfl rfl rfl ?_
  exact xr_retv HC 5 rfl e4 e5
theorem ly_chn (x : Int32) : narrow .char (.int (ly_ch x)) = .int (ly_ch x) := sc_nar _
theorem c_jLc (g : LG) (l : Launch) {x : Int32} (h : HP) (hin : vp_in x 160) : xx_M g l y_jLc prog_18_method_2_code 2 (some .char) 3 [av_R 97 (some (lg_V g)), av_I x] h (some (av_I (ly_ch x))) h := by
  have h0 : ¬ x < 0 := fun q => hin (Or.inl q)
  have h1 : x < 160 := by
    obtain ⟨j, hj, rfl⟩ := vp_in_of hin (by decide)
    exact nI_lt hj (by decide)
  refine xx_Mof (by decide +kernel) tb_jLc dt_jLc trivial (Nat.le_of_ble_eq_true rfl) (fun K HC e1 e2 e3 e4 e5 e6 => ?_)
  have hb : hp_le h (k1 K) := by rw [e5]; exact ⟨Nat.le_refl _, Nat.le_refl _⟩
  subst e1
  refine xr_sub (lv' := [(0, av_R 97 (some (lg_V (kg K)))), (1, av_I x)]) [0, 1] rfl ?_
  refine xr_iload_n HC 0 1 (n := 1) (ix := 1) (j := 1) (x := x) rfl rfl rfl rfl ?_
  refine xr_aload_n HC 1 2 (n := 0) (ix := 0) (j := 0) (c := 97) (x := lg_V (kg K)) rfl rfl rfl rfl ?_
  refine xr_tlen HC 2 3 rfl rfl ?_
  refine xr_callS HC 3 6 (av := [av_I x, av_I 160]) (st := []) (c_jSc (kg K) (cx_l (kx K)) h h0 h1) (hp_mo_rf h) hb rfl rfl (ly_at 372 (by decide +kernel) rfl) (ly_at 373 (by decide +kernel) rfl) (ly_at 10 (by decide +kernel) rfl) (ly_at 374 (by decide +kernel) rfl) wh_jSc (by decide) (by decide) (by decide) rfl ?_
  refine xr_aload_n HC 4 7 (n := 0) (ix := 0) (j := 0) (c := 97) (x := lg_V (kg K)) rfl rfl rfl rfl ?_
  refine xr_iload_n HC 5 8 (n := 1) (ix := 1) (j := 1) (x := x) rfl rfl rfl rfl ?_
  refine xr_tb HC 6 9 hin rfl rfl ?_
  refine xr_sipush HC 7 12 (n := 255) (255 : Int32) rfl rfl rfl ?_
  refine xr_iand HC 8 13 rfl rfl ?_
  refine xr_i2c HC 9 14 rfl rfl ?_
  have ec : ((ly_by.getD x.toNatClampNeg 0 &&& 255).toUInt32 % 65536).toInt32 = ly_ch x := sc_c2 _
  rw [ec]
  exact xr_reti HC 10 rfl e4 e5 (fun ty ht => by cases ht; exact ly_chn x)
theorem c_jIl (g : LG) (l : Launch) (h : HP) : xx_M g l y_jIl prog_17_method_154_code 1 (some .boolean) 1 [av_R 98 (some (lg_S g))] h (some (av_I 1)) h := by
  refine xx_Mof (by decide +kernel) tb_jIl dt_jIl trivial (Nat.le_of_ble_eq_true rfl) (fun K HC e1 e2 e3 e4 e5 e6 => ?_)
  subst e1
  refine xr_sub (lv' := [(0, av_R 98 (some (lg_S (kg K))))]) [0] rfl ?_
  refine xr_gsC HC 0 3 rfl rfl (ly_at 367 (by decide +kernel) rfl) ?_
  refine xr_if_eq HC 1 17 6 rfl (by decide) rfl (fun q => absurd q (by decide)) (fun _ => ?_)
  refine xr_aload_n HC 2 7 (n := 0) (ix := 0) (j := 0) (c := 98) (x := lg_S (kg K)) rfl rfl rfl rfl ?_
  refine xr_gfC HC 3 10 rfl rfl (ly_at 1860 (by decide +kernel) rfl) ?_
  refine xr_if_ne HC 4 17 13 rfl (by decide) rfl (fun q => absurd rfl q) (fun _ => ?_)
  refine xr_iconst HC 5 14 (n := 1) (1 : Int32) rfl rfl rfl ?_
  refine xr_goto HC 6 18 rfl (by decide) ?_
  exact xr_reti HC 7 rfl e4 e5 (fun ty ht => by cases ht; rfl)
theorem c_jCa (g : LG) (l : Launch) {x : Int32} (h : HP) (hin : vp_in x 160) : xx_M g l y_jCa prog_17_method_56_code 2 (some .char) 4 [av_R 98 (some (lg_S g)), av_I x] h (some (av_I (ly_ch x))) h := by
  refine xx_Mof (by decide +kernel) tb_jCa dt_jCa trivial (Nat.le_of_ble_eq_true rfl) (fun K HC e1 e2 e3 e4 e5 e6 => ?_)
  have hb : hp_le h (k1 K) := by rw [e5]; exact ⟨Nat.le_refl _, Nat.le_refl _⟩
  subst e1
  refine xr_sub (lv' := [(0, av_R 98 (some (lg_S (kg K)))), (1, av_I x)]) [0, 1] rfl ?_
  refine xr_aload_n HC 0 1 (n := 0) (ix := 0) (j := 0) (c := 98) (x := lg_S (kg K)) rfl rfl rfl rfl ?_
  refine xr_callQ HC 1 4 (av := []) (st := []) (c_jIl (kg K) (cx_l (kx K)) h) (hp_mo_rf h) hb rfl rfl (ly_at 363 (by decide +kernel) rfl) (ly_at 364 (by decide +kernel) rfl) (ly_at 365 (by decide +kernel) rfl) (ly_at 366 (by decide +kernel) rfl) (ly_at 10 (by decide +kernel) rfl) rfl wh_jIl (by decide) (by decide) (by decide) rfl ?_
  refine xr_if_eq HC 2 16 7 rfl (by decide) rfl (fun q => absurd q (by decide)) (fun _ => ?_)
  refine xr_aload_n HC 3 8 (n := 0) (ix := 0) (j := 0) (c := 98) (x := lg_S (kg K)) rfl rfl rfl rfl ?_
  refine xr_gfV HC 4 11 rfl rfl (ly_at 1861 (by decide +kernel) rfl) ?_
  refine xr_iload_n HC 5 12 (n := 1) (ix := 1) (j := 1) (x := x) rfl rfl rfl rfl ?_
  refine xr_callS HC 6 15 (av := [av_R 97 (some (lg_V (kg K))), av_I x]) (st := []) (c_jLc (kg K) (cx_l (kx K)) h hin) (hp_mo_rf h) hb rfl rfl (ly_at 369 (by decide +kernel) rfl) (ly_at 370 (by decide +kernel) rfl) (ly_at 11 (by decide +kernel) rfl) (ly_at 371 (by decide +kernel) rfl) wh_jLc (by decide) (by decide) (by decide) rfl ?_
  exact xr_reti HC 7 rfl e4 e5 (fun ty ht => by cases ht; exact ly_chn x)
theorem xr_charAt (HC : xx_C K own tb nL d rt) (i pc' : Nat) {ix : Nat} {x : Int32} (hin : vp_in x 160) (hb : hp_le h (k1 K)) (hd : tb[i]? = some (pc, .invokevirtual ix, 3)) (hp : pc + 3 = pc') (hw : Cond.methodLink own ix ⟨"java/lang/String", "charAt", "(I)C"⟩ ∈ ly_T) (hdd : 7 ≤ d) (hst : xh_rm st ≤ 8) (kk : xx_X K pc' lv (av_I (ly_ch x) :: st) h) : xx_X K pc lv (av_I x :: av_R 98 (some (lg_S (kg K))) :: st) h :=
  xr_callQ HC i pc' (av := [av_I x]) (st := st) (c_jCa (kg K) (cx_l (kx K)) h hin) (hp_mo_rf h) hb hd hp hw (ly_at 360 (by decide +kernel) rfl) (ly_at 361 (by decide +kernel) rfl) (ly_at 362 (by decide +kernel) rfl) (ly_at 10 (by decide +kernel) rfl) rfl wh_jCa (by omega) (by decide) hst rfl kk
end XC
