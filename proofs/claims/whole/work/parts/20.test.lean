def tb_M_four : TBL := [(0, .bipush 24, 2), (2, .istore_n 2, 1), (3, .iload_n 2, 1), (4, .ifCond .lt 35, 3), (7, .aload_n 0, 1), (8, .getfield 7, 3), (11, .aload_n 0, 1), (12, .getfield 188, 3), (15, .iload_n 1, 1), (16, .iload_n 2, 1), (17, .ishr, 1), (18, .sipush 255, 3), (21, .iand, 1), (22, .iastore, 1), (23, .aload_n 0, 1), (24, .dup, 1), (25, .getfield 188, 3), (28, .iconst 1, 1), (29, .iadd, 1), (30, .putfield 188, 3), (33, .iinc 2 (-8), 3), (36, .goto (-33), 3), (39, .return_, 1)]
theorem dt_M_four : ∀ q ∈ tb_M_four, decode prog_14_method_3_code q.1 = .ok (q.2.1, q.2.2) := by decide +kernel
noncomputable def f_M_four_3b (v0 : Nat) (v1 : Int32) (v2 : Int32) (h : HP) : Option ((Int32 × HP) ⊕ HP) :=
  (if v2 < 0 then
  (some (.inr h))
  else
  ((hp_r h v0 0).bind fun q_1 =>
  if hp_in (hp_i h v0 1) (hp_n h q_1) = true then
  xx_l (hp_si h q_1 ((hp_i h v0 1)).toNatClampNeg ((v1 >>> (v2 &&& 31)) &&& (255 : Int32))) fun h_3 =>
  xx_l (hp_si h_3 v0 1 ((hp_i h_3 v0 1) + (1 : Int32))) fun h_4 =>
  xx_l (v2 + (-8 : Int32)) fun v2_5 =>
  some (.inl (v2_5, h_4))
  else none))
set_option maxHeartbeats 4000000 in
set_option maxRecDepth 100000 in
theorem t_M_four_3b (v0 : Nat) (v1 : Int32) (v2 : Int32) (h : HP) : xx_S (xx_D "LampYardModel" tb_M_four 3 1 none false) (xx_z2 (fun s : (Int32 × HP) => s.2) xz_v) (fun K => xx_L2 (fun s : (Int32 × HP) => xx_X K 3 [(0, av_R 11 (some v0)), (1, av_I v1), (2, av_I s.1)] [] (s.2)) (xL_v K)) 3 [(0, av_R 11 (some v0)), (1, av_I v1), (2, av_I v2)] [] h (f_M_four_3b v0 v1 v2 h) := by
  unfold f_M_four_3b
  refine xs_step (fun K HC => xr_iload_n HC.1 2 4 (n := 2) (ix := 2) (j := 2) (x := v2) rfl rfl rfl rfl) ?_
  refine xs_ite (fun K HC => xr_if_lt HC.1 3 39 7 rfl (by decide) rfl) ?_ ?_
  · exact xs_ret 22 rfl rfl (fun K q => q)
  refine xs_step (fun K HC => xr_aload_n HC.1 4 8 (n := 0) (ix := 0) (j := 0) (c := 11) (x := v0) rfl rfl rfl rfl) ?_
  refine xs_bind (fun q_1 eq_1 => ?_)
  refine xs_step (fun K HC => xr_getr HC.1 5 11 11 0 13 eq_1 rfl rfl wf_M_7 (by decide) fb_11_0 fc_11_0 fd_11_0) ?_
  refine xs_step (fun K HC => xr_aload_n HC.1 6 12 (n := 0) (ix := 0) (j := 0) (c := 11) (x := v0) rfl rfl rfl rfl) ?_
  refine xs_step (fun K HC => xr_geti HC.1 7 15 11 1 rfl rfl wf_M_188 (by decide) fb_11_1 fc_11_1) ?_
  refine xs_step (fun K HC => xr_iload_n HC.1 8 16 (n := 1) (ix := 1) (j := 1) (x := v1) rfl rfl rfl rfl) ?_
  refine xs_step (fun K HC => xr_iload_n HC.1 9 17 (n := 2) (ix := 2) (j := 2) (x := v2) rfl rfl rfl rfl) ?_
  refine xs_step (fun K HC => xr_ishr HC.1 10 18 rfl rfl) ?_
  refine xs_step (fun K HC => xr_sipush HC.1 11 21 (n := (255)) (255 : Int32) rfl rfl rfl) ?_
  refine xs_step (fun K HC => xr_iand HC.1 12 22 rfl rfl) ?_
  refine xs_chk (fun hb_2 => ?_)
  refine xs_heap (hp_mo_si _ _ _ _) (fun K HC => xr_iast HC.1 13 23 (hp_in_vp hb_2) rfl rfl) (fun h_3 => ?_)
  refine xs_step (fun K HC => xr_aload_n HC.1 14 24 (n := 0) (ix := 0) (j := 0) (c := 11) (x := v0) rfl rfl rfl rfl) ?_
  refine xs_step (fun K HC => xr_dup HC.1 15 25 rfl rfl rfl) ?_
  refine xs_step (fun K HC => xr_geti HC.1 16 28 11 1 rfl rfl wf_M_188 (by decide) fb_11_1 fc_11_1) ?_
  refine xs_step (fun K HC => xr_iconst HC.1 17 29 (n := (1)) (1 : Int32) rfl rfl rfl) ?_
  refine xs_step (fun K HC => xr_iadd HC.1 18 30 rfl rfl) ?_
  refine xs_heap (hp_mo_si _ _ _ _) (fun K HC => xr_puti HC.1 19 33 11 1 rfl rfl wf_M_188 (by decide) fb_11_1 fn_11_1 fy_11_1) (fun h_4 => ?_)
  refine xs_gen (fun v2_5 ev2_5 => ?_)
  refine xs_step (fun K HC => xr_iinc HC.1 20 36 (ix := 2) (j := 2) (n := (-8)) (x := v2) v2_5 (lv' := [(0, av_R 11 (some v0)), (1, av_I v1), (2, av_I v2_5)]) rfl (by rw [ev2_5]; rfl) rfl rfl (by decide) rfl) ?_
  refine xs_step (fun K HC => xr_goto HC.1 21 3 rfl (by decide)) ?_
  exact xs_back rfl (fun K q => q)
noncomputable def f_M_four_3 (v0 : Nat) (v1 : Int32) (v2 : Int32) (h : HP) : Option HP :=
  xx_lp (fun s : (Int32 × HP) => f_M_four_3b v0 v1 s.1 s.2) (v2, h)
theorem t_M_four_3 (v0 : Nat) (v1 : Int32) (v2 : Int32) (h : HP) : xx_S (xx_D "LampYardModel" tb_M_four 3 1 none false) xz_v (fun K => xL_v K) 3 [(0, av_R 11 (some v0)), (1, av_I v1), (2, av_I v2)] [] h (f_M_four_3 v0 v1 v2 h) :=
  xs_loop (zf := xz_v) (L := (fun K => xL_v K)) (fun s : (Int32 × HP) => [(0, av_R 11 (some v0)), (1, av_I v1), (2, av_I s.1)]) (fun s : (Int32 × HP) => s.2) (fun s => t_M_four_3b v0 v1 s.1 s.2) (v2, h)
noncomputable def f_M_four (v0 : Nat) (v1 : Int32) (h : HP) : Option HP :=
  f_M_four_3 v0 v1 (24 : Int32) h
set_option maxHeartbeats 4000000 in
set_option maxRecDepth 100000 in
theorem t_M_four (v0 : Nat) (v1 : Int32) (h : HP) : xx_S (xx_D "LampYardModel" tb_M_four 3 1 none false) xz_v (fun K => xL_v K) 0 [(0, av_R 11 (some v0)), (1, av_I v1)] [] h (f_M_four v0 v1 h) := by
  unfold f_M_four
  refine xs_step (fun K HC => xr_bipush HC.1 0 2 (n := (24)) (24 : Int32) rfl rfl rfl) ?_
  refine xs_step (fun K HC => xr_istore_n HC.1 1 3 (n := 2) (ix := 2) (lv' := [(0, av_R 11 (some v0)), (1, av_I v1), (2, av_I (24 : Int32))]) rfl rfl rfl (by decide) rfl) ?_
  exact t_M_four_3 v0 v1 (24 : Int32) h
theorem s_M_four (v0 : Nat) (v1 : Int32) (h : HP) : ∀ x, f_M_four v0 v1 h = some x → hp_mo h x ∧ ∀ g l, xx_M g l y_M_four prog_14_method_3_code 3 none 1 [av_R 11 (some v0), av_I v1] h none x :=
  xM_v (tb := tb_M_four) (b := false) (by decide +kernel) dt_M_four trivial (by decide) (fun hb => by cases hb) (t_M_four v0 v1 h)
def tb_M_feed : TBL := [(0, .aload_n 0, 1), (1, .getfield 188, 3), (4, .bipush 20, 2), (6, .iadd, 1), (7, .sipush 1400, 3), (10, .if_icmp .le 5, 3), (13, .iconst (-1), 1), (14, .ireturn, 1), (15, .aload_n 0, 1), (16, .iload_n 1, 1), (17, .invokevirtual 191, 3), (20, .aload_n 0, 1), (21, .iload_n 2, 1), (22, .invokevirtual 191, 3), (25, .aload_n 0, 1), (26, .iload_n 3, 1), (27, .invokevirtual 191, 3), (30, .aload_n 0, 1), (31, .iload 4, 2), (33, .invokevirtual 191, 3), (36, .aload_n 0, 1), (37, .iload 5, 2), (39, .invokevirtual 191, 3), (42, .aload_n 0, 1), (43, .getfield 188, 3), (46, .ireturn, 1)]
theorem dt_M_feed : ∀ q ∈ tb_M_feed, decode prog_14_method_2_code q.1 = .ok (q.2.1, q.2.2) := by decide +kernel
noncomputable def f_M_feed (v0 : Nat) (v1 : Int32) (v2 : Int32) (v3 : Int32) (v4 : Int32) (v5 : Int32) (h : HP) : Option (Int32 × HP) :=
  (if ((hp_i h v0 1) + (20 : Int32)) ≤ (1400 : Int32) then
  ((f_M_four v0 v1 h).bind fun x_1 =>
  (f_M_four v0 v2 x_1).bind fun x_2 =>
  (f_M_four v0 v3 x_2).bind fun x_3 =>
  (f_M_four v0 v4 x_3).bind fun x_4 =>
  (f_M_four v0 v5 x_4).bind fun x_5 =>
  some ((hp_i x_5 v0 1), x_5))
  else
  (some ((-1 : Int32), h)))
set_option maxHeartbeats 4000000 in
set_option maxRecDepth 100000 in
theorem t_M_feed (v0 : Nat) (v1 : Int32) (v2 : Int32) (v3 : Int32) (v4 : Int32) (v5 : Int32) (h : HP) : xx_S (xx_D "LampYardModel" tb_M_feed 6 2 (some .int) false) xz_i (fun K => xL_i K) 0 [(0, av_R 11 (some v0)), (1, av_I v1), (2, av_I v2), (3, av_I v3), (4, av_I v4), (5, av_I v5)] [] h (f_M_feed v0 v1 v2 v3 v4 v5 h) := by
  unfold f_M_feed
  refine xs_step (fun K HC => xr_aload_n HC.1 0 1 (n := 0) (ix := 0) (j := 0) (c := 11) (x := v0) rfl rfl rfl rfl) ?_
  refine xs_step (fun K HC => xr_geti HC.1 1 4 11 1 rfl rfl wf_M_188 (by decide) fb_11_1 fc_11_1) ?_
  refine xs_step (fun K HC => xr_bipush HC.1 2 6 (n := (20)) (20 : Int32) rfl rfl rfl) ?_
  refine xs_step (fun K HC => xr_iadd HC.1 3 7 rfl rfl) ?_
  refine xs_step (fun K HC => xr_sipush HC.1 4 10 (n := (1400)) (1400 : Int32) rfl rfl rfl) ?_
  refine xs_ite (fun K HC => xr_icmp_le HC.1 5 15 13 rfl (by decide) rfl) ?_ ?_
  · refine xs_step (fun K HC => xr_aload_n HC.1 8 16 (n := 0) (ix := 0) (j := 0) (c := 11) (x := v0) rfl rfl rfl rfl) ?_
    refine xs_step (fun K HC => xr_iload_n HC.1 9 17 (n := 1) (ix := 1) (j := 1) (x := v1) rfl rfl rfl rfl) ?_
    refine xs_callv (s_M_four v0 v1 h) (fun K HC x9 hM hmo hb => xr_callV HC.1 10 20 (av := [av_I v1]) (st := []) (hM (kg K) (cx_l (kx K))) hmo hb rfl rfl wm_M_191 wi_M_four ws_M_four wc_M_four rfl wh_M_four (by decide) (by decide) (by decide) (by decide) rfl) (fun x_1 => ?_)
    refine xs_step (fun K HC => xr_aload_n HC.1 11 21 (n := 0) (ix := 0) (j := 0) (c := 11) (x := v0) rfl rfl rfl rfl) ?_
    refine xs_step (fun K HC => xr_iload_n HC.1 12 22 (n := 2) (ix := 2) (j := 2) (x := v2) rfl rfl rfl rfl) ?_
    refine xs_callv (s_M_four v0 v2 x_1) (fun K HC x9 hM hmo hb => xr_callV HC.1 13 25 (av := [av_I v2]) (st := []) (hM (kg K) (cx_l (kx K))) hmo hb rfl rfl wm_M_191 wi_M_four ws_M_four wc_M_four rfl wh_M_four (by decide) (by decide) (by decide) (by decide) rfl) (fun x_2 => ?_)
    refine xs_step (fun K HC => xr_aload_n HC.1 14 26 (n := 0) (ix := 0) (j := 0) (c := 11) (x := v0) rfl rfl rfl rfl) ?_
    refine xs_step (fun K HC => xr_iload_n HC.1 15 27 (n := 3) (ix := 3) (j := 3) (x := v3) rfl rfl rfl rfl) ?_
    refine xs_callv (s_M_four v0 v3 x_2) (fun K HC x9 hM hmo hb => xr_callV HC.1 16 30 (av := [av_I v3]) (st := []) (hM (kg K) (cx_l (kx K))) hmo hb rfl rfl wm_M_191 wi_M_four ws_M_four wc_M_four rfl wh_M_four (by decide) (by decide) (by decide) (by decide) rfl) (fun x_3 => ?_)
    refine xs_step (fun K HC => xr_aload_n HC.1 17 31 (n := 0) (ix := 0) (j := 0) (c := 11) (x := v0) rfl rfl rfl rfl) ?_
    refine xs_step (fun K HC => xr_iload HC.1 18 33 (ix := 4) (j := 4) (x := v4) rfl rfl rfl) ?_
    refine xs_callv (s_M_four v0 v4 x_3) (fun K HC x9 hM hmo hb => xr_callV HC.1 19 36 (av := [av_I v4]) (st := []) (hM (kg K) (cx_l (kx K))) hmo hb rfl rfl wm_M_191 wi_M_four ws_M_four wc_M_four rfl wh_M_four (by decide) (by decide) (by decide) (by decide) rfl) (fun x_4 => ?_)
    refine xs_step (fun K HC => xr_aload_n HC.1 20 37 (n := 0) (ix := 0) (j := 0) (c := 11) (x := v0) rfl rfl rfl rfl) ?_
    refine xs_step (fun K HC => xr_iload HC.1 21 39 (ix := 5) (j := 5) (x := v5) rfl rfl rfl) ?_
    refine xs_callv (s_M_four v0 v5 x_4) (fun K HC x9 hM hmo hb => xr_callV HC.1 22 42 (av := [av_I v5]) (st := []) (hM (kg K) (cx_l (kx K))) hmo hb rfl rfl wm_M_191 wi_M_four ws_M_four wc_M_four rfl wh_M_four (by decide) (by decide) (by decide) (by decide) rfl) (fun x_5 => ?_)
    refine xs_step (fun K HC => xr_aload_n HC.1 23 43 (n := 0) (ix := 0) (j := 0) (c := 11) (x := v0) rfl rfl rfl rfl) ?_
    refine xs_step (fun K HC => xr_geti HC.1 24 46 11 1 rfl rfl wf_M_188 (by decide) fb_11_1 fc_11_1) ?_
    exact xs_reti 25 rfl rfl (fun K q => q) (fun ty ht => by cases ht; rfl)
  refine xs_step (fun K HC => xr_iconst HC.1 6 14 (n := (-1)) (-1 : Int32) rfl rfl rfl) ?_
  exact xs_reti 7 rfl rfl (fun K q => q) (fun ty ht => by cases ht; rfl)
theorem s_M_feed (v0 : Nat) (v1 : Int32) (v2 : Int32) (v3 : Int32) (v4 : Int32) (v5 : Int32) (h : HP) : ∀ x, f_M_feed v0 v1 v2 v3 v4 v5 h = some x → hp_mo h x.2 ∧ ∀ g l, xx_M g l y_M_feed prog_14_method_2_code 6 (some .int) 2 [av_R 11 (some v0), av_I v1, av_I v2, av_I v3, av_I v4, av_I v5] h (some (av_I x.1)) x.2 :=
  xM_i (tb := tb_M_feed) (b := false) (by decide +kernel) dt_M_feed (fun _ => trivial) (by decide) (fun hb => by cases hb) (t_M_feed v0 v1 v2 v3 v4 v5 h)
def tb_M_end : TBL := [(0, .iload_n 1, 1), (1, .ifCond .lt 11, 3), (4, .iload_n 1, 1), (5, .aload_n 0, 1), (6, .getfield 188, 3), (9, .if_icmp .le 5, 3), (12, .iconst (-1), 1), (13, .ireturn, 1), (14, .aload_n 0, 1), (15, .iload_n 1, 1), (16, .putfield 188, 3), (19, .iload_n 1, 1), (20, .ireturn, 1)]
theorem dt_M_end : ∀ q ∈ tb_M_end, decode prog_14_method_4_code q.1 = .ok (q.2.1, q.2.2) := by decide +kernel
noncomputable def f_M_end (v0 : Nat) (v1 : Int32) (h : HP) : Option (Int32 × HP) :=
  (if v1 < 0 then
  (some ((-1 : Int32), h))
  else
  ((if v1 ≤ (hp_i h v0 1) then
  (xx_l (hp_si h v0 1 v1) fun h_1 =>
  some (v1, h_1))
  else
  (some ((-1 : Int32), h)))))
set_option maxHeartbeats 4000000 in
set_option maxRecDepth 100000 in
theorem t_M_end (v0 : Nat) (v1 : Int32) (h : HP) : xx_S (xx_D "LampYardModel" tb_M_end 2 1 (some .int) false) xz_i (fun K => xL_i K) 0 [(0, av_R 11 (some v0)), (1, av_I v1)] [] h (f_M_end v0 v1 h) := by
  unfold f_M_end
  refine xs_step (fun K HC => xr_iload_n HC.1 0 1 (n := 1) (ix := 1) (j := 1) (x := v1) rfl rfl rfl rfl) ?_
  refine xs_ite (fun K HC => xr_if_lt HC.1 1 12 4 rfl (by decide) rfl) ?_ ?_
  · refine xs_step (fun K HC => xr_iconst HC.1 6 13 (n := (-1)) (-1 : Int32) rfl rfl rfl) ?_
    exact xs_reti 7 rfl rfl (fun K q => q) (fun ty ht => by cases ht; rfl)
  refine xs_step (fun K HC => xr_iload_n HC.1 2 5 (n := 1) (ix := 1) (j := 1) (x := v1) rfl rfl rfl rfl) ?_
  refine xs_step (fun K HC => xr_aload_n HC.1 3 6 (n := 0) (ix := 0) (j := 0) (c := 11) (x := v0) rfl rfl rfl rfl) ?_
  refine xs_step (fun K HC => xr_geti HC.1 4 9 11 1 rfl rfl wf_M_188 (by decide) fb_11_1 fc_11_1) ?_
  refine xs_ite (fun K HC => xr_icmp_le HC.1 5 14 12 rfl (by decide) rfl) ?_ ?_
  · refine xs_step (fun K HC => xr_aload_n HC.1 8 15 (n := 0) (ix := 0) (j := 0) (c := 11) (x := v0) rfl rfl rfl rfl) ?_
    refine xs_step (fun K HC => xr_iload_n HC.1 9 16 (n := 1) (ix := 1) (j := 1) (x := v1) rfl rfl rfl rfl) ?_
    refine xs_heap (hp_mo_si _ _ _ _) (fun K HC => xr_puti HC.1 10 19 11 1 rfl rfl wf_M_188 (by decide) fb_11_1 fn_11_1 fy_11_1) (fun h_1 => ?_)
    refine xs_step (fun K HC => xr_iload_n HC.1 11 20 (n := 1) (ix := 1) (j := 1) (x := v1) rfl rfl rfl rfl) ?_
    exact xs_reti 12 rfl rfl (fun K q => q) (fun ty ht => by cases ht; rfl)
  refine xs_step (fun K HC => xr_iconst HC.1 6 13 (n := (-1)) (-1 : Int32) rfl rfl rfl) ?_
  exact xs_reti 7 rfl rfl (fun K q => q) (fun ty ht => by cases ht; rfl)
theorem s_M_end (v0 : Nat) (v1 : Int32) (h : HP) : ∀ x, f_M_end v0 v1 h = some x → hp_mo h x.2 ∧ ∀ g l, xx_M g l y_M_end prog_14_method_4_code 2 (some .int) 1 [av_R 11 (some v0), av_I v1] h (some (av_I x.1)) x.2 :=
  xM_i (tb := tb_M_end) (b := false) (by decide +kernel) dt_M_end (fun _ => trivial) (by decide) (fun hb => by cases hb) (t_M_end v0 v1 h)
