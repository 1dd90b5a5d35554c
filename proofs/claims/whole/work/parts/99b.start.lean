/-! THE CLAIM OUT OF ONE WALK OF THE LAW'S BODY. Your part is whole_start (and what it stands on); all else here is the same for every law, but numbers. -/
def R_law : String := "LampYardLaw"
def lw_P (b : Addr) (xs : List Int32) (args : Array Value) (s : State) : Prop := args = #[.ref b] ∧ s.IntsAt b xs ∧ xs.length ≤ 3072 ∧ (Jvm.Cond.and given_1 narrow_1).before args s = true
def lw_Q (_ : Array Value) (s : State) (o : Outcome) (t : State) : Prop := o = .returned (some (.int 1)) ∧ Framed s o t [] 600000 7302250
def lw_Z (below : List Frame) (a : Array Value) (s : State) : State → Prop := fun t => ∃ o, t.status = .running ∧ Ended t below o ∧ lw_Q a s o t
/-- the law's own end, with 1 on the stack, nothing written that was there before, its room as the claim has it -/
theorem lw_ret {p : Program} {l : Launch} {e : Env} {s : State} {m : MethodId} {below : List Frame} {meth : Method} {c : Code} {b : Nat} (hx : p.tables.exec = Jvm.exec) (hb : c.code = code) (hr : meth.sig.returnType = ret) (hlocks : meth.locks = false) {pc : Nat} {H : Heap} {ls : Array Slot} (hdg : decode code pc = .ok (.ireturn, 1)) : W p l e room_1 s m #[Value.ref b] below meth c H [] 600000 7302250 (lw_Z below #[Value.ref b] s) (F0 m pc ls [.int 1]) := by
  intro T hT X
  obtain ⟨fs, hret, hrun, hended, hW, hframe⟩ := X.leave (v := some (.int 1)) (hlocks := hlocks) (fun h => by rw [hr] at h; cases h)
  have hmeth' : T.vm.method? m = some meth := X.method'
  refine ⟨T.setFrames fs, ?_, .returned (some (.int 1)), hrun, hended, rfl, ⟨_, rfl⟩, hW, hframe⟩
  jvm_step X.here [X.here.top, hx, hb, hdg, hmeth', hr, ret, narrow_b1]
  (try refine ⟨rfl, ?_⟩); (try refine ⟨rfl, ?_⟩)
  first | (intro acts; rw [hret _ acts rfl rfl rfl]) | rw [hret _ _ rfl rfl rfl]
  exact Steps.refl _
/-- what holds at the law's entry: the machine, the code, the tables' words (any of lw_tbl by 'hts w (by decide +kernel)'), the script of L ints xs at the cell b, what the Statement gives of the start (any of its parts by flat_of_before) -/
def lw_At (p : Program) (s : State) (m : MethodId) (meth : Method) (c : Code) (b L : Nat) (xs : Nat → Int32) : Prop :=
  p.tables.exec = Jvm.exec ∧ c.code = code ∧ meth.sig.returnType = ret ∧ c.maxLocals = 4 ∧ s.vm.findClass R_law = some m.cls ∧ (∀ w ∈ lw_tbl, w.before #[Value.ref b] s = true) ∧ va_X b L xs s s.heap ∧ b < s.heap.size ∧ meth.locks = false ∧ (Jvm.Cond.and given_1 narrow_1).before #[Value.ref b] s = true
theorem ly_hts {args : Array Value} {s : State} (hts : ∀ w ∈ lw_tbl, w.before args s = true) : ∀ w ∈ ly_T, w.before args s = true := fun w hw => hts w (List.mem_filter.mp hw).1
theorem ly_tab {args : Array Value} {s : State} (hts : ∀ w ∈ lw_tbl, w.before args s = true) {w : Cond} (i : Nat) (h : tables_1[i]? = some w) : w.before args s = true := hts w (List.mem_append_right _ (List.mem_of_getElem? h))
theorem ly_arr {args : Array Value} {s : State} {ty : FieldType} (hty : (match ty with | .object _ => false | _ => true) = true) (h : (Cond.arrayClass ty).before args s = true) : ∃ cA : ClassId, ArrOfT s cA ty ∧ va_RA s cA ty := by
  obtain ⟨cA, kA, comp, h1, h2, h3⟩ := Cond.arrayClass_spec h
  refine ⟨cA, fun n z => ⟨fun k q => (by cases q), kA, h2, comp, h3⟩, ?_⟩
  cases ty <;> first | exact h1 | (cases hty)
theorem ly_tms : ∀ j, j < 160 → Cond.eq (.elem (.field (.string "LampYard$Reader" 114) "java/lang/String" "value" "[B") (.int (Int32.ofNat j))) (.int (ly_by.getD j 0)) ∈ flatC (Jvm.Cond.and given_1 narrow_1) := by
  have h : ((flatC (Jvm.Cond.and given_1 narrow_1)).drop 13).take 160 = (List.range 160).map (fun j => Cond.eq (.elem (.field (.string "LampYard$Reader" 114) "java/lang/String" "value" "[B") (.int (Int32.ofNat j))) (.int (ly_by.getD j 0))) := by decide +kernel
  intro j hj
  refine List.mem_of_mem_drop (i := 13) (List.mem_of_mem_take (i := 160) ?_)
  rw [h]
  exact List.mem_map.mpr ⟨j, List.mem_range.mpr hj, rfl⟩
set_option maxHeartbeats 4000000 in
theorem ly_start {args : Array Value} {s : State} (hts : ∀ w ∈ lw_tbl, w.before args s = true) (hgv : (Jvm.Cond.and given_1 narrow_1).before args s = true) : ∃ g : LG, lg_B g = s.heap.size ∧ ly_K g s := by
  have hs := flat_of_before _ hgv
  have hT := ly_hts hts
  have hcls : ∀ c : Nat, ∃ q : ClassId × (Nat → Nat), c < 12 → u_Kn s (ly_cn c) (ly_TT c) (ly_nf c) q.1 q.2 := by
    intro c
    by_cases hc : c < 12
    · obtain ⟨cC, iS, h⟩ := u_known (n := ly_nf c) hT (ly_in hc) (hT _ (ly_is hc))
      exact ⟨(cC, iS), fun _ => h⟩
    · exact ⟨(0, fun _ => 0), fun h => absurd h hc⟩
  obtain ⟨f, hf⟩ := Classical.axiomOfChoice hcls
  obtain ⟨cB, hB1, hB2⟩ := ly_arr (ty := .byte) rfl (hT _ ly_ca0)
  obtain ⟨cI, hI1, hI2⟩ := ly_arr (ty := .int) rfl (hT _ ly_ca1)
  obtain ⟨cJ, hJ1, hJ2⟩ := ly_arr (ty := .long) rfl (hT _ ly_ca2)
  obtain ⟨cZ, hZ1, hZ2⟩ := ly_arr (ty := .boolean) rfl (hT _ ly_ca3)
  have hov : (Cond.arrayOver (.object "LampYard$Course")).before args s = true := ly_tab hts 186 (by decide +kernel)
  obtain ⟨comp, cQ, kQ, o1, o2, o3, o4, o5⟩ := Cond.arrayOver_spec hov
  have hA : ∀ a : Nat, a < s.heap.size → ¬ (fun q => s.heap.size ≤ q) a := fun a h => Nat.not_le.mpr h
  obtain ⟨adK, adV, hS, hE⟩ := vk_Sof (args := args) (s := s) (N := 1) (tm := fun _ => .string "LampYard$Reader" 114) (len := [160]) (byt := [ly_by]) (A := fun q => s.heap.size ≤ q)
    (fun i hi => by rw [show i = 0 by omega]; decide)
    (fun i _ => hs _ (by decide +kernel))
    (fun i _ => hs _ (by decide +kernel))
    (fun i _ => hs _ (by decide +kernel))
    (fun i hi => by rw [show i = 0 by omega]; exact hs _ (by decide +kernel))
    (fun i hi j hj => by
      rw [show i = 0 by omega] at hj ⊢
      exact hs _ (ly_tms j hj))
    (fun i j hi hj hne => absurd (show i = j by omega) hne) hA
  refine ⟨((fun c => (f c).1, fun c => (f c).2), (fun k => if k = 12 then cB else if k = 13 then cI else if k = 14 then cJ else if k = 15 then cZ else cQ), s.heap.size, adK 0, adV 0), rfl, ?_, ?_, ?_, ?_, ?_, ?_⟩
  · refine ⟨fun c q hq => ?_, fun k q hk => ?_⟩
    · have hc : c < 12 := by
        have := (List.getElem?_eq_some_iff.mp hq).1
        simpa [ly_cl] using this
      rw [ly_clc hc] at hq
      cases hq
      exact hf c hc
    · have hk5 : k < 5 := (List.getElem?_eq_some_iff.mp hk).1
      rcases (show k = 0 ∨ k = 1 ∨ k = 2 ∨ k = 3 ∨ k = 4 by omega) with rfl | rfl | rfl | rfl | rfl
      · cases hk; exact ⟨hB1, hB2⟩
      · cases hk; exact ⟨hI1, hI2⟩
      · cases hk; exact ⟨hJ1, hJ2⟩
      · cases hk; exact ⟨hZ1, hZ2⟩
      · cases hk; exact ⟨fun n z => ⟨fun k q => (by cases q), kQ, o3, comp, o4⟩, kQ, comp, o3, o4, o1, o5⟩
  · exact vk_R.of (ly_tab hts 358 (by decide +kernel)) (hE 0 (by decide))
  · refine ⟨fun i hi => ?_, fun i j hi hj _ => by omega⟩
    rw [show i = 0 by omega]
    exact hS.1 0 (by decide)
  · exact va_AO.of hov
  · exact va_Zof (ly_tab hts 368 (by decide +kernel)) (ly_tab hts 10 (by decide +kernel)) (va_eqi (hs _ (by decide +kernel))) hA
  · exact va_Zqof (ly_tab hts 376 (by decide +kernel)) (ly_tab hts 12 (by decide +kernel)) (hs _ (by decide +kernel)) hA
set_option maxHeartbeats 4000000 in
theorem whole_start {p : Program} {e : Env} {s : State} {m : MethodId} {below : List Frame} {meth : Method} {c : Code} (l : Launch) (hflags : l.flags = flags0) {b L : Nat} {xs : Nat → Int32} (hL : L ≤ 3072) (C0 : lw_At p s m meth c b L xs) : W p l e room_1 s m #[Value.ref b] below meth c s.heap [] 0 0 (lw_Z below #[Value.ref b] s) (entryFrame m ([Value.ref b] : List Value).toArray 4) := by
  obtain ⟨hx, hb, hr, hml, hown, hts, hX, hbl, hlocks, hgv⟩ := id C0
  obtain ⟨g, hgB, hK⟩ := ly_start hts hgv
  obtain ⟨h1, hpure, hz0, hs0⟩ := pure_law xs L hL b s.heap.size
  have hz1 : hp_z h1 - hp_z (ly_h0 s.heap.size) ≤ 600000 := Nat.le_trans hz0 (by decide)
  have hs1 : hp_s h1 - hp_s (ly_h0 s.heap.size) ≤ 7302250 := Nat.le_trans hs0 (by decide)
  rw [lg_entry_eq]
  have hl := lv_entry ([.ref b]) (n := 4) (Nat.le_of_ble_eq_true rfl)
  generalize (lg_sl ([.ref b]) ++ List.replicate (4 - (lg_sl ([.ref b])).length) Slot.unset).toArray = ls at hl ⊢
  have HC : xx_C (g, (p, l, e, room_1, s, m, #[Value.ref b], below, meth, c, lw_Z below #[Value.ref b] s), 4, ly_h0 s.heap.size, some (av_I 1), h1, some .boolean) "LampYardLaw" tb_Lw_law 4 200 (some .boolean) := by
    refine ⟨hx, fun q hq => by show decode c.code _ = _; rw [hb]; exact dt_Lw_law q hq, hml, rfl, hown, ly_hts hts, hK, by show 200 ≤ 2048; decide, by show 64 * 200 ≤ 84000; decide, hz1, hs1, by show lg_B g ≤ s.heap.size; rw [hgB]; exact Nat.le_refl _, rfl, ?_⟩
    intro pc ls2 H locs i hdec hri hnk hR' hS' hmo hrok
    have hi : i = .ireturn := hri
    subst hi
    have hdec : decode code pc = .ok (.ireturn, 1) := by rw [← hb]; exact hdec
    refine va_forget (fun q hq => ?_) ?_
    · have hq2 : lg_B g ≤ q.base := hS'.2.2 q hq
      show s.heap.size ≤ q.base
      rw [← hgB]; exact hq2
    refine W.widen (k := 600000) (n := 7302250) hz1 hs1 ?_
    exact lw_ret hx hb hr hlocks hdec
  have r := (t_Lw_law xs L b (ly_h0 s.heap.size) (1, h1) hpure).2 _ ⟨⟨HC, fun q => by cases q⟩, hX, hbl, fun q => by have q2 : lg_B g ≤ b := q; rw [hgB] at q2; exact absurd hbl (Nat.not_lt.mpr q2)⟩ ⟨Nat.le_refl _, Nat.le_refl _⟩ ⟨rfl, rfl⟩
  have hR : hp_R g (ly_h0 s.heap.size) s.heap := by
    refine ⟨rfl, by rw [hgB]; exact Nat.le_refl _, ?_, ?_⟩
    · intro k q hq
      have : hp_L g (ly_h0 s.heap.size) = [] := by simp [hp_L, hgB, ly_h0, hp_z]
      rw [this] at hq
      simp [va_pl] at hq
    · intro a a1 a2
      rw [hgB] at a1
      exact absurd a2 (Nat.not_lt.mpr a1)
  have r2 := r s.heap [] ls hR va_S.rf (hp_mo_rf _) hl (fun q hq => by
    rw [List.mem_singleton.mp hq]; exact Or.inl (by decide)) (fun v hv => absurd hv List.not_mem_nil)
  have e1 : hp_z (ly_h0 s.heap.size) - hp_z (ly_h0 s.heap.size) = 0 := Nat.sub_self _
  have e2 : hp_s (ly_h0 s.heap.size) - hp_s (ly_h0 s.heap.size) = 0 := Nat.sub_self _
  have r3 : cx_W (p, l, e, room_1, s, m, #[Value.ref b], below, meth, c, lw_Z below #[Value.ref b] s) s.heap [] (hp_z (ly_h0 s.heap.size) - hp_z (ly_h0 s.heap.size)) (hp_s (ly_h0 s.heap.size) - hp_s (ly_h0 s.heap.size)) (F0 m 0 ls []) := r2
  rw [e1, e2] at r3
  exact r3
set_option maxHeartbeats 4000000 in
theorem lw_walk (l : Launch) (hflags : l.flags = flags0) (b : Addr) (xs : List Int32) : MetFree l x (headSpec (Jvm.Cond.code x code maxLocals ret :: tables_1) room_1) (lw_P b xs) (fun _ _ _ _ _ => True) lw_Q := by
  refine MetFree.of_bodyS (code := code) (maxLocals := maxLocals) (ret := ret) (by decide) ?_ ?_
  · intro args s m h hn
    obtain ⟨meth, c, h1, h2, h3, h4, h5, h6, -, -⟩ := Cond.code_spec hn (atoms_spec (ws := Jvm.Cond.code x code maxLocals ret :: tables_1) h _ List.mem_cons_self)
    exact ⟨meth, c, h1, h2, h3, h4, h5, h6⟩
  · intro p e s m args below meth c s₁ B hml0 hP _
    obtain ⟨rfl, hx, hbd, hgv⟩ := hP
    obtain ⟨scr, harrAt, hlist, hof, hsmall⟩ := hx
    obtain ⟨hcb, hkn, -, -⟩ := State.arrayAt?_spec harrAt
    have hown : s.vm.findClass R_law = some m.cls := findClass_of_methodNamed B.named
    have hts0 : ∀ c ∈ (Jvm.Cond.code x code maxLocals ret :: tables_1), c.before #[Value.ref b] s = true := atoms_spec (ws := Jvm.Cond.code x code maxLocals ret :: tables_1) B.pre
    have hts : ∀ w ∈ lw_tbl, w.before #[Value.ref b] s = true := k2_hts_sels lw_privs (fun w hw => hts0 w (List.mem_cons_of_mem _ hw)) lw_privs_ok
    have hml : c.maxLocals = 4 := B.maxLocals_eq (hts0 _ List.mem_cons_self)
    have X₀ : Stand p l e room_1 s m #[Value.ref b] below meth c s₁ [] 0 0 := Stand.of_body B
    have hh0 : s₁.heap = s.heap := by rw [B.state]; rfl
    have hsz : scr.slots.size = xs.length := by rw [← Array.length_toList, hlist, List.length_map]
    have hval : ∀ j : Nat, j < xs.length → scr.slots[j]? = some (.int (xs.getD j 0)) := fun j hj => by
      rw [← Array.getElem?_toList, hlist]
      simp [hj]
    have hbl : b < s.heap.size := (Array.getElem?_eq_some_iff.mp hcb).1
    have hX : va_X b xs.length (fun j => xs.getD j 0) s s.heap := ⟨scr, hcb, hof, hkn, hsz, hval⟩
    have K : W p l e room_1 s m #[Value.ref b] below meth c s₁.heap [] 0 0 (lw_Z below #[Value.ref b] s) (entryFrame m ([Value.ref b] : List Value).toArray 4) := by
      rw [hh0]
      exact whole_start l hflags hbd ⟨B.exec, B.bytes, B.returns, hml, hown, hts, hX, hbl, B.notSynchronized, hgv⟩
    obtain ⟨t, a1, o, b1, b2, b3⟩ := K s₁ rfl X₀
    exact ⟨t, o, a1, b1, b2, b3⟩
theorem lw_pre_spec {args : Array Value} {s : State} (h : (Jvm.Cond.and given_1 narrow_1).before args s = true) (hr : rest_1_c.before args s = true) : ∃ (b : Addr) (xs : List Int32), lw_P b xs args s := by
  have hs := flat_of_before _ h
  have hq := flat_of_before _ hr
  have hc : (Cond.count 1).before args s = true := hs _ (by decide +kernel)
  have harr : (Cond.arrayOf (.arg 0) .int).before args s = true := hs _ (by decide +kernel)
  have hle : (Cond.le (.length (.arg 0)) (.int 3072)).before args s = true := hs _ (by decide +kernel)
  have hlen : (Cond.isInt (.length (.arg 0))).before args s = true := hq _ (by decide +kernel)
  have hall : (Cond.all (.arg 0) (.isInt (.elem (.arg 0) (.index 0)))).before args s = true := hq _ (by decide +kernel)
  obtain ⟨b, xs, hb, hx⟩ := State.ints_of_pre rfl harr hlen hall
  have hsm : xs.length < 2 ^ 31 := hx.choose_spec.2.2.2
  have hev : (Term.length (.arg 0)).eval args s none [] s = some (.int xs.length.toInt32) := hx.length_eval hb
  have hv := Cond.le_ints hev (show (Term.int 3072).eval args s none [] s = some (.int 3072) from rfl)
  have hd : xs.length.toInt32 ≤ 3072 := by
    simpa [Cond.before, Cond.holds, hv] using hle
  have hN : xs.length ≤ 3072 := (Int32.ofNat_le_ofNat hsm (by decide)).mp (show Int32.ofNat xs.length ≤ Int32.ofNat 3072 from hd)
  exact ⟨b, xs, Cond.one_arg hc (show args[0]? = some (.ref b) from hb), hx, hN, h⟩
theorem lw_comes (l : Launch) (hflags : l.flags = flags0) : Comes l x (Jvm.Cond.code x code maxLocals ret :: tables_1) room_1 (fun tb e args s => Calls_1 tb e args s ∧ rest_1 tb e args s ∧ Pre_1 tb e args s)
    (fun _ _ args s o t => lw_Q args s o t) := by
  intro p e ha hc hk s m args below hf hfit hheap happ hpre
  obtain ⟨b, xs, hP⟩ := lw_pre_spec hpre.2.2 hpre.2.1
  obtain ⟨k, o, h1, h2, h3, hQ⟩ := lw_walk l hflags b xs p e ha hc hk s m args below hf ((Spec.applies_iff_loose hf).mp happ).1 hP trivial
  exact ⟨k, o, h1, h2, h3, hQ⟩
theorem lw_frame {s t : State} {o : Outcome} {args : Array Value} (h : Framed s o t [] 600000 7302250) :
    Framed s o t (fieldLocs frame_1_writes args s ++ arrayLocs frame_1_arrays args s ++ staticLocs frame_1_statics s) 600000 7302250 := h
theorem lw_limb (L : Cond) (hL : ∀ (args : Array Value) (s t : State), L.after args s (.returned (some (.int 1))) t = true) :
    ArmFor flags0 classFile x code maxLocals ret World_1 tables_1 room_1 Calls_1 rest_1 Pre_1
      (fun tb e a s o t => postC L tb e a s o t ∧ Framed s o t (fieldLocs frame_1_writes a s ++ arrayLocs frame_1_arrays a s ++ staticLocs frame_1_statics s) 600000 7302250) := by
  intro l hflags _ _ p e ha hc hk s m args below hf hfit hheap happ hpre
  obtain ⟨k, o, h1, h2, h3, rfl, hF⟩ := lw_comes l hflags p e ha hc hk s m args below hf hfit hheap happ hpre
  exact ⟨k, _, h1, h2, h3, hL args s _, lw_frame hF⟩
theorem i_vc : Claimed_1_1 ∧ Claimed_1_2 := ⟨lw_limb limb_1_1 (fun args s t => by simp [limb_1_1, Cond.after, Cond.holds, Cond.value]), lw_limb limb_1_2 (fun args s t => Cond.after_iff.mpr (by
  first | (rw [show limb_1_2 = Cond.eq .result (.int 1) from rfl, Cond.eq_ints (x := 1) (y := 1) rfl rfl]; simp; done) | (simp [limb_1_2, Cond.value, Term.eval]; done)))⟩

