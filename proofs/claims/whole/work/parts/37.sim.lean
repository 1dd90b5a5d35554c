def tb_Ro_enter : TBL := [(0, .aload_n 0, 1), (1, .dup, 1), (2, .getfield 47, 3), (5, .iconst 1, 1), (6, .iadd, 1), (7, .putfield 47, 3), (10, .aload_n 0, 1), (11, .getfield 9, 3), (14, .iload_n 1, 1), (15, .aload_n 0, 1), (16, .getfield 47, 3), (19, .iastore, 1), (20, .aload_n 0, 1), (21, .getfield 15, 3), (24, .iload_n 1, 1), (25, .aload_n 0, 1), (26, .getfield 47, 3), (29, .iastore, 1), (30, .aload_n 0, 1), (31, .getfield 21, 3), (34, .iload_n 1, 1), (35, .iconst 0, 1), (36, .iastore, 1), (37, .aload_n 0, 1), (38, .getfield 24, 3), (41, .aload_n 0, 1), (42, .getfield 40, 3), (45, .iload_n 1, 1), (46, .iastore, 1), (47, .aload_n 0, 1), (48, .dup, 1), (49, .getfield 40, 3), (52, .iconst 1, 1), (53, .iadd, 1), (54, .putfield 40, 3), (57, .aload_n 0, 1), (58, .getfield 27, 3), (61, .aload_n 0, 1), (62, .getfield 44, 3), (65, .iload_n 1, 1), (66, .iastore, 1), (67, .aload_n 0, 1), (68, .dup, 1), (69, .getfield 44, 3), (72, .iconst 1, 1), (73, .iadd, 1), (74, .putfield 44, 3), (77, .return_, 1)]
theorem dt_Ro_enter : ∀ q ∈ tb_Ro_enter, decode prog_8_method_4_code q.1 = .ok (q.2.1, q.2.2) := by decide +kernel
set_option maxHeartbeats 4000000 in
set_option maxRecDepth 100000 in
theorem t_Ro_enter (v0 : Nat) (v1 : Int32) (h : HP) : xx_S (xx_D "LampYard$Rounds" tb_Ro_enter 2 1 none false) xz_v (fun K => xL_v K) 0 [(0, av_R 6 (some v0)), (1, av_I v1)] [] h (f_Ro_enter v0 v1 h) := by
  unfold f_Ro_enter
  refine xs_step (fun K HC => xr_aload_n HC.1 0 1 (n := 0) (ix := 0) (j := 0) (c := 6) (x := v0) rfl rfl rfl rfl) ?_
  refine xs_step (fun K HC => xr_dup HC.1 1 2 rfl rfl rfl) ?_
  refine xs_step (fun K HC => xr_geti HC.1 2 5 6 9 rfl rfl wf_Ro_47 (by decide) fb_6_9 fc_6_9) ?_
  refine xs_step (fun K HC => xr_iconst HC.1 3 6 (n := (1)) (1 : Int32) rfl rfl rfl) ?_
  refine xs_step (fun K HC => xr_iadd HC.1 4 7 rfl rfl) ?_
  refine xs_heap (hp_mo_si _ _ _ _) (fun K HC => xr_puti HC.1 5 10 6 9 rfl rfl wf_Ro_47 (by decide) fb_6_9 fn_6_9 fy_6_9) (fun h_1 => ?_)
  refine xs_step (fun K HC => xr_aload_n HC.1 6 11 (n := 0) (ix := 0) (j := 0) (c := 6) (x := v0) rfl rfl rfl rfl) ?_
  refine xs_bind (fun q_2 eq_2 => ?_)
  refine xs_step (fun K HC => xr_getr HC.1 7 14 6 1 13 eq_2 rfl rfl wf_Ro_9 (by decide) fb_6_1 fc_6_1 fd_6_1) ?_
  refine xs_step (fun K HC => xr_iload_n HC.1 8 15 (n := 1) (ix := 1) (j := 1) (x := v1) rfl rfl rfl rfl) ?_
  refine xs_step (fun K HC => xr_aload_n HC.1 9 16 (n := 0) (ix := 0) (j := 0) (c := 6) (x := v0) rfl rfl rfl rfl) ?_
  refine xs_step (fun K HC => xr_geti HC.1 10 19 6 9 rfl rfl wf_Ro_47 (by decide) fb_6_9 fc_6_9) ?_
  refine xs_chk (fun hb_3 => ?_)
  refine xs_heap (hp_mo_si _ _ _ _) (fun K HC => xr_iast HC.1 11 20 (hp_in_vp hb_3) rfl rfl) (fun h_4 => ?_)
  refine xs_step (fun K HC => xr_aload_n HC.1 12 21 (n := 0) (ix := 0) (j := 0) (c := 6) (x := v0) rfl rfl rfl rfl) ?_
  refine xs_bind (fun q_5 eq_5 => ?_)
  refine xs_step (fun K HC => xr_getr HC.1 13 24 6 2 13 eq_5 rfl rfl wf_Ro_15 (by decide) fb_6_2 fc_6_2 fd_6_2) ?_
  refine xs_step (fun K HC => xr_iload_n HC.1 14 25 (n := 1) (ix := 1) (j := 1) (x := v1) rfl rfl rfl rfl) ?_
  refine xs_step (fun K HC => xr_aload_n HC.1 15 26 (n := 0) (ix := 0) (j := 0) (c := 6) (x := v0) rfl rfl rfl rfl) ?_
  refine xs_step (fun K HC => xr_geti HC.1 16 29 6 9 rfl rfl wf_Ro_47 (by decide) fb_6_9 fc_6_9) ?_
  refine xs_chk (fun hb_6 => ?_)
  refine xs_heap (hp_mo_si _ _ _ _) (fun K HC => xr_iast HC.1 17 30 (hp_in_vp hb_6) rfl rfl) (fun h_7 => ?_)
  refine xs_step (fun K HC => xr_aload_n HC.1 18 31 (n := 0) (ix := 0) (j := 0) (c := 6) (x := v0) rfl rfl rfl rfl) ?_
  refine xs_bind (fun q_8 eq_8 => ?_)
  refine xs_step (fun K HC => xr_getr HC.1 19 34 6 4 13 eq_8 rfl rfl wf_Ro_21 (by decide) fb_6_4 fc_6_4 fd_6_4) ?_
  refine xs_step (fun K HC => xr_iload_n HC.1 20 35 (n := 1) (ix := 1) (j := 1) (x := v1) rfl rfl rfl rfl) ?_
  refine xs_step (fun K HC => xr_iconst HC.1 21 36 (n := (0)) (0 : Int32) rfl rfl rfl) ?_
  refine xs_chk (fun hb_9 => ?_)
  refine xs_heap (hp_mo_si _ _ _ _) (fun K HC => xr_iast HC.1 22 37 (hp_in_vp hb_9) rfl rfl) (fun h_10 => ?_)
  refine xs_step (fun K HC => xr_aload_n HC.1 23 38 (n := 0) (ix := 0) (j := 0) (c := 6) (x := v0) rfl rfl rfl rfl) ?_
  refine xs_bind (fun q_11 eq_11 => ?_)
  refine xs_step (fun K HC => xr_getr HC.1 24 41 6 5 13 eq_11 rfl rfl wf_Ro_24 (by decide) fb_6_5 fc_6_5 fd_6_5) ?_
  refine xs_step (fun K HC => xr_aload_n HC.1 25 42 (n := 0) (ix := 0) (j := 0) (c := 6) (x := v0) rfl rfl rfl rfl) ?_
  refine xs_step (fun K HC => xr_geti HC.1 26 45 6 7 rfl rfl wf_Ro_40 (by decide) fb_6_7 fc_6_7) ?_
  refine xs_step (fun K HC => xr_iload_n HC.1 27 46 (n := 1) (ix := 1) (j := 1) (x := v1) rfl rfl rfl rfl) ?_
  refine xs_chk (fun hb_12 => ?_)
  refine xs_heap (hp_mo_si _ _ _ _) (fun K HC => xr_iast HC.1 28 47 (hp_in_vp hb_12) rfl rfl) (fun h_13 => ?_)
  refine xs_step (fun K HC => xr_aload_n HC.1 29 48 (n := 0) (ix := 0) (j := 0) (c := 6) (x := v0) rfl rfl rfl rfl) ?_
  refine xs_step (fun K HC => xr_dup HC.1 30 49 rfl rfl rfl) ?_
  refine xs_step (fun K HC => xr_geti HC.1 31 52 6 7 rfl rfl wf_Ro_40 (by decide) fb_6_7 fc_6_7) ?_
  refine xs_step (fun K HC => xr_iconst HC.1 32 53 (n := (1)) (1 : Int32) rfl rfl rfl) ?_
  refine xs_step (fun K HC => xr_iadd HC.1 33 54 rfl rfl) ?_
  refine xs_heap (hp_mo_si _ _ _ _) (fun K HC => xr_puti HC.1 34 57 6 7 rfl rfl wf_Ro_40 (by decide) fb_6_7 fn_6_7 fy_6_7) (fun h_14 => ?_)
  refine xs_step (fun K HC => xr_aload_n HC.1 35 58 (n := 0) (ix := 0) (j := 0) (c := 6) (x := v0) rfl rfl rfl rfl) ?_
  refine xs_bind (fun q_15 eq_15 => ?_)
  refine xs_step (fun K HC => xr_getr HC.1 36 61 6 6 13 eq_15 rfl rfl wf_Ro_27 (by decide) fb_6_6 fc_6_6 fd_6_6) ?_
  refine xs_step (fun K HC => xr_aload_n HC.1 37 62 (n := 0) (ix := 0) (j := 0) (c := 6) (x := v0) rfl rfl rfl rfl) ?_
  refine xs_step (fun K HC => xr_geti HC.1 38 65 6 8 rfl rfl wf_Ro_44 (by decide) fb_6_8 fc_6_8) ?_
  refine xs_step (fun K HC => xr_iload_n HC.1 39 66 (n := 1) (ix := 1) (j := 1) (x := v1) rfl rfl rfl rfl) ?_
  refine xs_chk (fun hb_16 => ?_)
  refine xs_heap (hp_mo_si _ _ _ _) (fun K HC => xr_iast HC.1 40 67 (hp_in_vp hb_16) rfl rfl) (fun h_17 => ?_)
  refine xs_step (fun K HC => xr_aload_n HC.1 41 68 (n := 0) (ix := 0) (j := 0) (c := 6) (x := v0) rfl rfl rfl rfl) ?_
  refine xs_step (fun K HC => xr_dup HC.1 42 69 rfl rfl rfl) ?_
  refine xs_step (fun K HC => xr_geti HC.1 43 72 6 8 rfl rfl wf_Ro_44 (by decide) fb_6_8 fc_6_8) ?_
  refine xs_step (fun K HC => xr_iconst HC.1 44 73 (n := (1)) (1 : Int32) rfl rfl rfl) ?_
  refine xs_step (fun K HC => xr_iadd HC.1 45 74 rfl rfl) ?_
  refine xs_heap (hp_mo_si _ _ _ _) (fun K HC => xr_puti HC.1 46 77 6 8 rfl rfl wf_Ro_44 (by decide) fb_6_8 fn_6_8 fy_6_8) (fun h_18 => ?_)
  exact xs_ret 47 rfl rfl (fun K q => q)
theorem s_Ro_enter (v0 : Nat) (v1 : Int32) (h : HP) : ∀ x, f_Ro_enter v0 v1 h = some x → hp_mo h x ∧ ∀ g l, xx_M g l y_Ro_enter prog_8_method_4_code 2 none 1 [av_R 6 (some v0), av_I v1] h none x :=
  xM_v (tb := tb_Ro_enter) (b := false) (by decide +kernel) dt_Ro_enter trivial (Nat.le_of_ble_eq_true rfl) (fun hb => by cases hb) (t_Ro_enter v0 v1 h)
def tb_Sv_nextOf : TBL := [(0, .aload_n 0, 1), (1, .getfield 32, 3), (4, .iload_n 1, 1), (5, .bipush 6, 2), (7, .imul, 1), (8, .iload_n 2, 1), (9, .iadd, 1), (10, .iaload, 1), (11, .ireturn, 1)]
theorem dt_Sv_nextOf : ∀ q ∈ tb_Sv_nextOf, decode prog_12_method_3_code q.1 = .ok (q.2.1, q.2.2) := by decide +kernel
set_option maxHeartbeats 4000000 in
set_option maxRecDepth 100000 in
theorem t_Sv_nextOf (v0 : Nat) (v1 : Int32) (v2 : Int32) (h : HP) : xx_S (xx_D "LampYard$Survey" tb_Sv_nextOf 3 1 (some .int) false) xz_i (fun K => xL_i K) 0 [(0, av_R 9 (some v0)), (1, av_I v1), (2, av_I v2)] [] h (f_Sv_nextOf v0 v1 v2 h) := by
  unfold f_Sv_nextOf
  refine xs_step (fun K HC => xr_aload_n HC.1 0 1 (n := 0) (ix := 0) (j := 0) (c := 9) (x := v0) rfl rfl rfl rfl) ?_
  refine xs_bind (fun q_1 eq_1 => ?_)
  refine xs_step (fun K HC => xr_getr HC.1 1 4 9 12 13 eq_1 rfl rfl wf_Sv_32 (by decide) fb_9_12 fc_9_12 fd_9_12) ?_
  refine xs_step (fun K HC => xr_iload_n HC.1 2 5 (n := 1) (ix := 1) (j := 1) (x := v1) rfl rfl rfl rfl) ?_
  refine xs_step (fun K HC => xr_bipush HC.1 3 7 (n := (6)) (6 : Int32) rfl rfl rfl) ?_
  refine xs_step (fun K HC => xr_imul HC.1 4 8 rfl rfl) ?_
  refine xs_step (fun K HC => xr_iload_n HC.1 5 9 (n := 2) (ix := 2) (j := 2) (x := v2) rfl rfl rfl rfl) ?_
  refine xs_step (fun K HC => xr_iadd HC.1 6 10 rfl rfl) ?_
  refine xs_chk (fun hb_2 => ?_)
  refine xs_step (fun K HC => xr_iald HC.1 7 11 (hp_in_vp hb_2) rfl rfl) ?_
  exact xs_reti 8 rfl rfl (fun K q => q) (fun ty ht => by cases ht; rfl)
theorem s_Sv_nextOf (v0 : Nat) (v1 : Int32) (v2 : Int32) (h : HP) : ∀ x, f_Sv_nextOf v0 v1 v2 h = some x → hp_mo h x.2 ∧ ∀ g l, xx_M g l y_Sv_nextOf prog_12_method_3_code 3 (some .int) 1 [av_R 9 (some v0), av_I v1, av_I v2] h (some (av_I x.1)) x.2 :=
  xM_i (tb := tb_Sv_nextOf) (b := false) (by decide +kernel) dt_Sv_nextOf (fun _ => trivial) (Nat.le_of_ble_eq_true rfl) (fun hb => by cases hb) (t_Sv_nextOf v0 v1 v2 h)
def tb_Ro_look : TBL := [(0, .iload_n 2, 1), (1, .ifCond .ge 4, 3), (4, .return_, 1), (5, .aload_n 0, 1), (6, .getfield 9, 3), (9, .iload_n 2, 1), (10, .iaload, 1), (11, .ifCond .ne 11, 3), (14, .aload_n 0, 1), (15, .iload_n 2, 1), (16, .invokevirtual 71, 3), (19, .goto 33, 3), (22, .aload_n 0, 1), (23, .getfield 18, 3), (26, .iload_n 2, 1), (27, .iaload, 1), (28, .ifCond .ne 24, 3), (31, .aload_n 0, 1), (32, .getfield 15, 3), (35, .iload_n 1, 1), (36, .aload_n 0, 1), (37, .getfield 15, 3), (40, .iload_n 1, 1), (41, .iaload, 1), (42, .aload_n 0, 1), (43, .getfield 9, 3), (46, .iload_n 2, 1), (47, .iaload, 1), (48, .invokestatic 95, 3), (51, .iastore, 1), (52, .return_, 1)]
theorem dt_Ro_look : ∀ q ∈ tb_Ro_look, decode prog_8_method_5_code q.1 = .ok (q.2.1, q.2.2) := by decide +kernel
set_option maxHeartbeats 4000000 in
set_option maxRecDepth 100000 in
theorem t_Ro_look (v0 : Nat) (v1 : Int32) (v2 : Int32) (h : HP) : xx_S (xx_D "LampYard$Rounds" tb_Ro_look 3 2 none false) xz_v (fun K => xL_v K) 0 [(0, av_R 6 (some v0)), (1, av_I v1), (2, av_I v2)] [] h (f_Ro_look v0 v1 v2 h) := by
  unfold f_Ro_look
  refine xs_step (fun K HC => xr_iload_n HC.1 0 1 (n := 2) (ix := 2) (j := 2) (x := v2) rfl rfl rfl rfl) ?_
  refine xs_ite (fun K HC => xr_if_ge HC.1 1 5 4 rfl (by decide) rfl) ?_ ?_
  · refine xs_step (fun K HC => xr_aload_n HC.1 3 6 (n := 0) (ix := 0) (j := 0) (c := 6) (x := v0) rfl rfl rfl rfl) ?_
    refine xs_bind (fun q_1 eq_1 => ?_)
    refine xs_step (fun K HC => xr_getr HC.1 4 9 6 1 13 eq_1 rfl rfl wf_Ro_9 (by decide) fb_6_1 fc_6_1 fd_6_1) ?_
    refine xs_step (fun K HC => xr_iload_n HC.1 5 10 (n := 2) (ix := 2) (j := 2) (x := v2) rfl rfl rfl rfl) ?_
    refine xs_chk (fun hb_2 => ?_)
    refine xs_step (fun K HC => xr_iald HC.1 6 11 (hp_in_vp hb_2) rfl rfl) ?_
    refine xs_ite (fun K HC a b => xr_if_ne HC.1 7 22 14 rfl (by decide) rfl b a) ?_ ?_
    · refine xs_step (fun K HC => xr_aload_n HC.1 8 15 (n := 0) (ix := 0) (j := 0) (c := 6) (x := v0) rfl rfl rfl rfl) ?_
      refine xs_step (fun K HC => xr_iload_n HC.1 9 16 (n := 2) (ix := 2) (j := 2) (x := v2) rfl rfl rfl rfl) ?_
      refine xs_callv (s_Ro_enter v0 v2 h) (fun K HC x9 hM hmo hb => xr_callV HC.1 10 19 (av := [av_I v2]) (st := []) (hM (kg K) (cx_l (kx K))) hmo hb rfl rfl wm_Ro_71 wi_Ro_enter ws_Ro_enter wc_Ro_enter rfl wh_Ro_enter (by decide) (by decide) (by decide) (Nat.le_of_ble_eq_true rfl) rfl) (fun x_3 => ?_)
      refine xs_step (fun K HC => xr_goto HC.1 11 52 rfl (by decide)) ?_
      exact xs_ret 30 rfl rfl (fun K q => q)
    refine xs_step (fun K HC => xr_aload_n HC.1 12 23 (n := 0) (ix := 0) (j := 0) (c := 6) (x := v0) rfl rfl rfl rfl) ?_
    refine xs_bind (fun q_4 eq_4 => ?_)
    refine xs_step (fun K HC => xr_getr HC.1 13 26 6 3 13 eq_4 rfl rfl wf_Ro_18 (by decide) fb_6_3 fc_6_3 fd_6_3) ?_
    refine xs_step (fun K HC => xr_iload_n HC.1 14 27 (n := 2) (ix := 2) (j := 2) (x := v2) rfl rfl rfl rfl) ?_
    refine xs_chk (fun hb_5 => ?_)
    refine xs_step (fun K HC => xr_iald HC.1 15 28 (hp_in_vp hb_5) rfl rfl) ?_
    refine xs_ite (fun K HC a b => xr_if_ne HC.1 16 52 31 rfl (by decide) rfl b a) ?_ ?_
    · refine xs_step (fun K HC => xr_aload_n HC.1 17 32 (n := 0) (ix := 0) (j := 0) (c := 6) (x := v0) rfl rfl rfl rfl) ?_
      refine xs_bind (fun q_6 eq_6 => ?_)
      refine xs_step (fun K HC => xr_getr HC.1 18 35 6 2 13 eq_6 rfl rfl wf_Ro_15 (by decide) fb_6_2 fc_6_2 fd_6_2) ?_
      refine xs_step (fun K HC => xr_iload_n HC.1 19 36 (n := 1) (ix := 1) (j := 1) (x := v1) rfl rfl rfl rfl) ?_
      refine xs_step (fun K HC => xr_aload_n HC.1 20 37 (n := 0) (ix := 0) (j := 0) (c := 6) (x := v0) rfl rfl rfl rfl) ?_
      refine xs_bind (fun q_7 eq_7 => ?_)
      refine xs_step (fun K HC => xr_getr HC.1 21 40 6 2 13 eq_7 rfl rfl wf_Ro_15 (by decide) fb_6_2 fc_6_2 fd_6_2) ?_
      refine xs_step (fun K HC => xr_iload_n HC.1 22 41 (n := 1) (ix := 1) (j := 1) (x := v1) rfl rfl rfl rfl) ?_
      refine xs_chk (fun hb_8 => ?_)
      refine xs_step (fun K HC => xr_iald HC.1 23 42 (hp_in_vp hb_8) rfl rfl) ?_
      refine xs_step (fun K HC => xr_aload_n HC.1 24 43 (n := 0) (ix := 0) (j := 0) (c := 6) (x := v0) rfl rfl rfl rfl) ?_
      refine xs_bind (fun q_9 eq_9 => ?_)
      refine xs_step (fun K HC => xr_getr HC.1 25 46 6 1 13 eq_9 rfl rfl wf_Ro_9 (by decide) fb_6_1 fc_6_1 fd_6_1) ?_
      refine xs_step (fun K HC => xr_iload_n HC.1 26 47 (n := 2) (ix := 2) (j := 2) (x := v2) rfl rfl rfl rfl) ?_
      refine xs_chk (fun hb_10 => ?_)
      refine xs_step (fun K HC => xr_iald HC.1 27 48 (hp_in_vp hb_10) rfl rfl) ?_
      refine xs_stepb (fun K HC hb => xr_min HC.1 28 51 hb rfl rfl wm_Ro_95 ly_mmin1 ly_m0 ly_mmin2 (by decide) (Nat.le_of_ble_eq_true rfl)) ?_
      refine xs_chk (fun hb_11 => ?_)
      refine xs_heap (hp_mo_si _ _ _ _) (fun K HC => xr_iast HC.1 29 52 (hp_in_vp hb_11) rfl rfl) (fun h_12 => ?_)
      exact xs_ret 30 rfl rfl (fun K q => q)
    exact xs_ret 30 rfl rfl (fun K q => q)
  exact xs_ret 2 rfl rfl (fun K q => q)
theorem s_Ro_look (v0 : Nat) (v1 : Int32) (v2 : Int32) (h : HP) : ∀ x, f_Ro_look v0 v1 v2 h = some x → hp_mo h x ∧ ∀ g l, xx_M g l y_Ro_look prog_8_method_5_code 3 none 2 [av_R 6 (some v0), av_I v1, av_I v2] h none x :=
  xM_v (tb := tb_Ro_look) (b := false) (by decide +kernel) dt_Ro_look trivial (Nat.le_of_ble_eq_true rfl) (fun hb => by cases hb) (t_Ro_look v0 v1 v2 h)
def tb_Ro_menLedWithin : TBL := [(0, .iconst 0, 1), (1, .istore_n 2, 1), (2, .iconst 0, 1), (3, .istore_n 3, 1), (4, .iload_n 3, 1), (5, .aload_n 0, 1), (6, .getfield 30, 3), (9, .getfield 75, 3), (12, .getfield 79, 3), (15, .if_icmp .ge 47, 3), (18, .aload_n 0, 1), (19, .getfield 30, 3), (22, .iload_n 1, 1), (23, .iload_n 3, 1), (24, .invokevirtual 84, 3), (27, .istore 4, 2), (29, .iload 4, 2), (31, .ifCond .lt 25, 3), (34, .aload_n 0, 1), (35, .getfield 18, 3), (38, .iload 4, 2), (40, .iaload, 1), (41, .aload_n 0, 1), (42, .getfield 18, 3), (45, .iload_n 1, 1), (46, .iaload, 1), (47, .if_icmp .ne 9, 3), (50, .iload_n 2, 1), (51, .iconst 1, 1), (52, .iload_n 3, 1), (53, .ishl, 1), (54, .ior, 1), (55, .istore_n 2, 1), (56, .iinc 3 1, 3), (59, .goto (-55), 3), (62, .iload_n 2, 1), (63, .ireturn, 1)]
theorem dt_Ro_menLedWithin : ∀ q ∈ tb_Ro_menLedWithin, decode prog_8_method_8_code q.1 = .ok (q.2.1, q.2.2) := by decide +kernel
set_option maxHeartbeats 4000000 in
set_option maxRecDepth 100000 in
theorem t_Ro_menLedWithin_56 (v0 : Nat) (v1 : Int32) (v2 : Int32) (v3 : Int32) (h : HP) : xx_S (xx_D "LampYard$Rounds" tb_Ro_menLedWithin 5 2 (some .int) false) (xx_z2 (fun s : (Int32 × Int32 × HP) => s.2.2) xz_i) (fun K => xx_L2 (fun s : (Int32 × Int32 × HP) => xx_X K 4 [(0, av_R 6 (some v0)), (1, av_I v1), (2, av_I s.1), (3, av_I s.2.1)] [] (s.2.2)) (xL_i K)) 56 [(0, av_R 6 (some v0)), (1, av_I v1), (2, av_I v2), (3, av_I v3)] [] h (f_Ro_menLedWithin_56 v0 v1 v2 v3 h) := by
  unfold f_Ro_menLedWithin_56
  refine xs_gen (fun v3_5 ev3_5 => ?_)
  refine xs_step (fun K HC => xr_iinc HC.1 33 59 (ix := 3) (j := 3) (n := (1)) (x := v3) v3_5 (lv' := [(0, av_R 6 (some v0)), (1, av_I v1), (2, av_I v2), (3, av_I v3_5)]) rfl (by rw [ev3_5]; rfl) rfl rfl (by decide) rfl) ?_
  refine xs_step (fun K HC => xr_goto HC.1 34 4 rfl (by decide)) ?_
  exact xs_back rfl (fun K q => q)
set_option maxHeartbeats 4000000 in
set_option maxRecDepth 100000 in
theorem t_Ro_menLedWithin_4b (v0 : Nat) (v1 : Int32) (v2 : Int32) (v3 : Int32) (h : HP) : xx_S (xx_D "LampYard$Rounds" tb_Ro_menLedWithin 5 2 (some .int) false) (xx_z2 (fun s : (Int32 × Int32 × HP) => s.2.2) xz_i) (fun K => xx_L2 (fun s : (Int32 × Int32 × HP) => xx_X K 4 [(0, av_R 6 (some v0)), (1, av_I v1), (2, av_I s.1), (3, av_I s.2.1)] [] (s.2.2)) (xL_i K)) 4 [(0, av_R 6 (some v0)), (1, av_I v1), (2, av_I v2), (3, av_I v3)] [] h (f_Ro_menLedWithin_4b v0 v1 v2 v3 h) := by
  unfold f_Ro_menLedWithin_4b
  refine xs_step (fun K HC => xr_iload_n HC.1 4 5 (n := 3) (ix := 3) (j := 3) (x := v3) rfl rfl rfl rfl) ?_
  refine xs_step (fun K HC => xr_aload_n HC.1 5 6 (n := 0) (ix := 0) (j := 0) (c := 6) (x := v0) rfl rfl rfl rfl) ?_
  refine xs_bind (fun q_1 eq_1 => ?_)
  refine xs_step (fun K HC => xr_getr HC.1 6 9 6 0 9 eq_1 rfl rfl wf_Ro_30 (by decide) fb_6_0 fc_6_0 fd_6_0) ?_
  refine xs_bind (fun q_2 eq_2 => ?_)
  refine xs_step (fun K HC => xr_getr HC.1 7 12 9 4 4 eq_2 rfl rfl wf_Ro_75 (by decide) fb_9_4 fc_9_4 fd_9_4) ?_
  refine xs_step (fun K HC => xr_geti HC.1 8 15 4 5 rfl rfl wf_Ro_79 (by decide) fb_4_5 fc_4_5) ?_
  refine xs_ite (fun K HC => xr_icmp_ge HC.1 9 62 18 rfl (by decide) rfl) ?_ ?_
  · refine xs_step (fun K HC => xr_iload_n HC.1 35 63 (n := 2) (ix := 2) (j := 2) (x := v2) rfl rfl rfl rfl) ?_
    exact xs_reti 36 rfl rfl (fun K q => q) (fun ty ht => by cases ht; rfl)
  refine xs_step (fun K HC => xr_aload_n HC.1 10 19 (n := 0) (ix := 0) (j := 0) (c := 6) (x := v0) rfl rfl rfl rfl) ?_
  refine xs_bind (fun q_3 eq_3 => ?_)
  refine xs_step (fun K HC => xr_getr HC.1 11 22 6 0 9 eq_3 rfl rfl wf_Ro_30 (by decide) fb_6_0 fc_6_0 fd_6_0) ?_
  refine xs_step (fun K HC => xr_iload_n HC.1 12 23 (n := 1) (ix := 1) (j := 1) (x := v1) rfl rfl rfl rfl) ?_
  refine xs_step (fun K HC => xr_iload_n HC.1 13 24 (n := 3) (ix := 3) (j := 3) (x := v3) rfl rfl rfl rfl) ?_
  refine xs_calli (s_Sv_nextOf q_3 v1 v3 h) (fun K HC x9 hM hmo hb => xr_callV HC.1 14 27 (av := [av_I v1, av_I v3]) (st := []) (hM (kg K) (cx_l (kx K))) hmo hb rfl rfl wm_Ro_84 wi_Sv_nextOf ws_Sv_nextOf wc_Sv_nextOf rfl wh_Sv_nextOf (by decide) (by decide) (by decide) (Nat.le_of_ble_eq_true rfl) rfl) (fun x_4 => ?_)
  refine xs_step (fun K HC => xr_istore HC.1 15 29 (ix := 4) (lv' := [(0, av_R 6 (some v0)), (1, av_I v1), (2, av_I v2), (3, av_I v3), (4, av_I x_4.1)]) rfl rfl (by decide) rfl) ?_
  refine xs_step (fun K HC => xr_iload HC.1 16 31 (ix := 4) (j := 4) (x := x_4.1) rfl rfl rfl) ?_
  refine xs_ite (fun K HC => xr_if_lt HC.1 17 56 34 rfl (by decide) rfl) ?_ ?_
  · refine xs_step (fun K HC => xr_sub (lv' := [(0, av_R 6 (some v0)), (1, av_I v1), (2, av_I v2), (3, av_I v3)]) [0, 1, 2, 3] rfl) ?_
    exact t_Ro_menLedWithin_56 v0 v1 v2 v3 x_4.2
  refine xs_step (fun K HC => xr_aload_n HC.1 18 35 (n := 0) (ix := 0) (j := 0) (c := 6) (x := v0) rfl rfl rfl rfl) ?_
  refine xs_bind (fun q_6 eq_6 => ?_)
  refine xs_step (fun K HC => xr_getr HC.1 19 38 6 3 13 eq_6 rfl rfl wf_Ro_18 (by decide) fb_6_3 fc_6_3 fd_6_3) ?_
  refine xs_step (fun K HC => xr_iload HC.1 20 40 (ix := 4) (j := 4) (x := x_4.1) rfl rfl rfl) ?_
  refine xs_chk (fun hb_7 => ?_)
  refine xs_step (fun K HC => xr_iald HC.1 21 41 (hp_in_vp hb_7) rfl rfl) ?_
  refine xs_step (fun K HC => xr_aload_n HC.1 22 42 (n := 0) (ix := 0) (j := 0) (c := 6) (x := v0) rfl rfl rfl rfl) ?_
  refine xs_bind (fun q_8 eq_8 => ?_)
  refine xs_step (fun K HC => xr_getr HC.1 23 45 6 3 13 eq_8 rfl rfl wf_Ro_18 (by decide) fb_6_3 fc_6_3 fd_6_3) ?_
  refine xs_step (fun K HC => xr_iload_n HC.1 24 46 (n := 1) (ix := 1) (j := 1) (x := v1) rfl rfl rfl rfl) ?_
  refine xs_chk (fun hb_9 => ?_)
  refine xs_step (fun K HC => xr_iald HC.1 25 47 (hp_in_vp hb_9) rfl rfl) ?_
  refine xs_ite (fun K HC a b => xr_icmp_ne HC.1 26 56 50 rfl (by decide) rfl b a) ?_ ?_
  · refine xs_step (fun K HC => xr_iload_n HC.1 27 51 (n := 2) (ix := 2) (j := 2) (x := v2) rfl rfl rfl rfl) ?_
    refine xs_step (fun K HC => xr_iconst HC.1 28 52 (n := (1)) (1 : Int32) rfl rfl rfl) ?_
    refine xs_step (fun K HC => xr_iload_n HC.1 29 53 (n := 3) (ix := 3) (j := 3) (x := v3) rfl rfl rfl rfl) ?_
    refine xs_step (fun K HC => xr_ishl HC.1 30 54 rfl rfl) ?_
    refine xs_step (fun K HC => xr_ior HC.1 31 55 rfl rfl) ?_
    refine xs_topi (fun v2_10 => ?_)
    refine xs_step (fun K HC => xr_istore_n HC.1 32 56 (n := 2) (ix := 2) (lv' := [(0, av_R 6 (some v0)), (1, av_I v1), (2, av_I v2_10), (3, av_I v3), (4, av_I x_4.1)]) rfl rfl rfl (by decide) rfl) ?_
    refine xs_step (fun K HC => xr_sub (lv' := [(0, av_R 6 (some v0)), (1, av_I v1), (2, av_I v2_10), (3, av_I v3)]) [0, 1, 2, 3] rfl) ?_
    exact t_Ro_menLedWithin_56 v0 v1 v2_10 v3 x_4.2
  refine xs_step (fun K HC => xr_sub (lv' := [(0, av_R 6 (some v0)), (1, av_I v1), (2, av_I v2), (3, av_I v3)]) [0, 1, 2, 3] rfl) ?_
  exact t_Ro_menLedWithin_56 v0 v1 v2 v3 x_4.2
theorem t_Ro_menLedWithin_4 (v0 : Nat) (v1 : Int32) (v2 : Int32) (v3 : Int32) (h : HP) : xx_S (xx_D "LampYard$Rounds" tb_Ro_menLedWithin 5 2 (some .int) false) xz_i (fun K => xL_i K) 4 [(0, av_R 6 (some v0)), (1, av_I v1), (2, av_I v2), (3, av_I v3)] [] h (f_Ro_menLedWithin_4 v0 v1 v2 v3 h) :=
  xs_loop (zf := xz_i) (L := (fun K => xL_i K)) (fun s : (Int32 × Int32 × HP) => [(0, av_R 6 (some v0)), (1, av_I v1), (2, av_I s.1), (3, av_I s.2.1)]) (fun s : (Int32 × Int32 × HP) => s.2.2) (fun s => t_Ro_menLedWithin_4b v0 v1 s.1 s.2.1 s.2.2) (v2, v3, h)
set_option maxHeartbeats 4000000 in
set_option maxRecDepth 100000 in
theorem t_Ro_menLedWithin (v0 : Nat) (v1 : Int32) (h : HP) : xx_S (xx_D "LampYard$Rounds" tb_Ro_menLedWithin 5 2 (some .int) false) xz_i (fun K => xL_i K) 0 [(0, av_R 6 (some v0)), (1, av_I v1)] [] h (f_Ro_menLedWithin v0 v1 h) := by
  unfold f_Ro_menLedWithin
  refine xs_step (fun K HC => xr_iconst HC.1 0 1 (n := (0)) (0 : Int32) rfl rfl rfl) ?_
  refine xs_step (fun K HC => xr_istore_n HC.1 1 2 (n := 2) (ix := 2) (lv' := [(0, av_R 6 (some v0)), (1, av_I v1), (2, av_I (0 : Int32))]) rfl rfl rfl (by decide) rfl) ?_
  refine xs_step (fun K HC => xr_iconst HC.1 2 3 (n := (0)) (0 : Int32) rfl rfl rfl) ?_
  refine xs_step (fun K HC => xr_istore_n HC.1 3 4 (n := 3) (ix := 3) (lv' := [(0, av_R 6 (some v0)), (1, av_I v1), (2, av_I (0 : Int32)), (3, av_I (0 : Int32))]) rfl rfl rfl (by decide) rfl) ?_
  exact t_Ro_menLedWithin_4 v0 v1 (0 : Int32) (0 : Int32) h
theorem s_Ro_menLedWithin (v0 : Nat) (v1 : Int32) (h : HP) : ∀ x, f_Ro_menLedWithin v0 v1 h = some x → hp_mo h x.2 ∧ ∀ g l, xx_M g l y_Ro_menLedWithin prog_8_method_8_code 5 (some .int) 2 [av_R 6 (some v0), av_I v1] h (some (av_I x.1)) x.2 :=
  xM_i (tb := tb_Ro_menLedWithin) (b := false) (by decide +kernel) dt_Ro_menLedWithin (fun _ => trivial) (Nat.le_of_ble_eq_true rfl) (fun hb => by cases hb) (t_Ro_menLedWithin v0 v1 h)
def tb_Ro_tieKnot : TBL := [(0, .aload_n 0, 1), (1, .getfield 40, 3), (4, .istore_n 2, 1), (5, .aload_n 0, 1), (6, .dup, 1), (7, .getfield 50, 3), (10, .iconst 1, 1), (11, .iadd, 1), (12, .putfield 50, 3), (15, .iconst 0, 1), (16, .istore_n 3, 1), (17, .iload_n 3, 1), (18, .sipush 5000, 3), (21, .if_icmp .ge 53, 3), (24, .aload_n 0, 1), (25, .getfield 40, 3), (28, .ifCond .le 46, 3), (31, .aload_n 0, 1), (32, .getfield 18, 3), (35, .iload_n 1, 1), (36, .iaload, 1), (37, .ifCond .ne 37, 3), (40, .aload_n 0, 1), (41, .dup, 1), (42, .getfield 40, 3), (45, .iconst 1, 1), (46, .isub, 1), (47, .putfield 40, 3), (50, .aload_n 0, 1), (51, .getfield 18, 3), (54, .aload_n 0, 1), (55, .getfield 24, 3), (58, .aload_n 0, 1), (59, .getfield 40, 3), (62, .iaload, 1), (63, .aload_n 0, 1), (64, .getfield 50, 3), (67, .iastore, 1), (68, .iinc 3 1, 3), (71, .goto (-54), 3), (74, .iconst 0, 1), (75, .istore_n 3, 1), (76, .aload_n 0, 1), (77, .getfield 40, 3), (80, .istore 4, 2), (82, .iload 4, 2), (84, .iload_n 2, 1), (85, .if_icmp .ge 23, 3), (88, .iload_n 3, 1), (89, .aload_n 0, 1), (90, .aload_n 0, 1), (91, .getfield 24, 3), (94, .iload 4, 2), (96, .iaload, 1), (97, .invokevirtual 103, 3), (100, .ior, 1), (101, .istore_n 3, 1), (102, .iinc 4 1, 3), (105, .goto (-23), 3), (108, .iload_n 3, 1), (109, .ifCond .eq 36, 3), (112, .iload_n 3, 1), (113, .iconst 1, 1), (114, .aload_n 0, 1), (115, .getfield 30, 3), (118, .getfield 75, 3), (121, .getfield 79, 3), (124, .ishl, 1), (125, .iconst 1, 1), (126, .isub, 1), (127, .if_icmp .ne 18, 3), (130, .aload_n 0, 1), (131, .dup, 1), (132, .getfield 53, 3), (135, .iload_n 2, 1), (136, .aload_n 0, 1), (137, .getfield 40, 3), (140, .isub, 1), (141, .iadd, 1), (142, .putfield 53, 3), (145, .return_, 1)]
theorem dt_Ro_tieKnot : ∀ q ∈ tb_Ro_tieKnot, decode prog_8_method_7_code q.1 = .ok (q.2.1, q.2.2) := by decide +kernel
set_option maxHeartbeats 4000000 in
set_option maxRecDepth 100000 in
theorem t_Ro_tieKnot_108 (v0 : Nat) (v2 : Int32) (v3 : Int32) (h : HP) : xx_S (xx_D "LampYard$Rounds" tb_Ro_tieKnot 5 3 none false) xz_v (fun K => xL_v K) 108 [(0, av_R 6 (some v0)), (2, av_I v2), (3, av_I v3)] [] h (f_Ro_tieKnot_108 v0 v2 v3 h) := by
  unfold f_Ro_tieKnot_108
  refine xs_step (fun K HC => xr_iload_n HC.1 59 109 (n := 3) (ix := 3) (j := 2) (x := v3) rfl rfl rfl rfl) ?_
  refine xs_ite (fun K HC => xr_if_eq HC.1 60 145 112 rfl (by decide) rfl) ?_ ?_
  · exact xs_ret 80 rfl rfl (fun K q => q)
  refine xs_step (fun K HC => xr_iload_n HC.1 61 113 (n := 3) (ix := 3) (j := 2) (x := v3) rfl rfl rfl rfl) ?_
  refine xs_step (fun K HC => xr_iconst HC.1 62 114 (n := (1)) (1 : Int32) rfl rfl rfl) ?_
  refine xs_step (fun K HC => xr_aload_n HC.1 63 115 (n := 0) (ix := 0) (j := 0) (c := 6) (x := v0) rfl rfl rfl rfl) ?_
  refine xs_bind (fun q_4 eq_4 => ?_)
  refine xs_step (fun K HC => xr_getr HC.1 64 118 6 0 9 eq_4 rfl rfl wf_Ro_30 (by decide) fb_6_0 fc_6_0 fd_6_0) ?_
  refine xs_bind (fun q_5 eq_5 => ?_)
  refine xs_step (fun K HC => xr_getr HC.1 65 121 9 4 4 eq_5 rfl rfl wf_Ro_75 (by decide) fb_9_4 fc_9_4 fd_9_4) ?_
  refine xs_step (fun K HC => xr_geti HC.1 66 124 4 5 rfl rfl wf_Ro_79 (by decide) fb_4_5 fc_4_5) ?_
  refine xs_step (fun K HC => xr_ishl HC.1 67 125 rfl rfl) ?_
  refine xs_step (fun K HC => xr_iconst HC.1 68 126 (n := (1)) (1 : Int32) rfl rfl rfl) ?_
  refine xs_step (fun K HC => xr_isub HC.1 69 127 rfl rfl) ?_
  refine xs_ite (fun K HC a b => xr_icmp_ne HC.1 70 145 130 rfl (by decide) rfl b a) ?_ ?_
  · refine xs_step (fun K HC => xr_aload_n HC.1 71 131 (n := 0) (ix := 0) (j := 0) (c := 6) (x := v0) rfl rfl rfl rfl) ?_
    refine xs_step (fun K HC => xr_dup HC.1 72 132 rfl rfl rfl) ?_
    refine xs_step (fun K HC => xr_geti HC.1 73 135 6 11 rfl rfl wf_Ro_53 (by decide) fb_6_11 fc_6_11) ?_
    refine xs_step (fun K HC => xr_iload_n HC.1 74 136 (n := 2) (ix := 2) (j := 1) (x := v2) rfl rfl rfl rfl) ?_
    refine xs_step (fun K HC => xr_aload_n HC.1 75 137 (n := 0) (ix := 0) (j := 0) (c := 6) (x := v0) rfl rfl rfl rfl) ?_
    refine xs_step (fun K HC => xr_geti HC.1 76 140 6 7 rfl rfl wf_Ro_40 (by decide) fb_6_7 fc_6_7) ?_
    refine xs_step (fun K HC => xr_isub HC.1 77 141 rfl rfl) ?_
    refine xs_step (fun K HC => xr_iadd HC.1 78 142 rfl rfl) ?_
    refine xs_heap (hp_mo_si _ _ _ _) (fun K HC => xr_puti HC.1 79 145 6 11 rfl rfl wf_Ro_53 (by decide) fb_6_11 fn_6_11 fy_6_11) (fun h_6 => ?_)
    exact xs_ret 80 rfl rfl (fun K q => q)
  exact xs_ret 80 rfl rfl (fun K q => q)
set_option maxHeartbeats 4000000 in
set_option maxRecDepth 100000 in
theorem t_Ro_tieKnot_82b (v0 : Nat) (v2 : Int32) (v3 : Int32) (v4 : Int32) (h : HP) : xx_S (xx_D "LampYard$Rounds" tb_Ro_tieKnot 5 3 none false) (xx_z2 (fun s : (Int32 × Int32 × HP) => s.2.2) xz_v) (fun K => xx_L2 (fun s : (Int32 × Int32 × HP) => xx_X K 82 [(0, av_R 6 (some v0)), (2, av_I v2), (3, av_I s.1), (4, av_I s.2.1)] [] (s.2.2)) (xL_v K)) 82 [(0, av_R 6 (some v0)), (2, av_I v2), (3, av_I v3), (4, av_I v4)] [] h (f_Ro_tieKnot_82b v0 v2 v3 v4 h) := by
  unfold f_Ro_tieKnot_82b
  refine xs_step (fun K HC => xr_iload HC.1 45 84 (ix := 4) (j := 3) (x := v4) rfl rfl rfl) ?_
  refine xs_step (fun K HC => xr_iload_n HC.1 46 85 (n := 2) (ix := 2) (j := 1) (x := v2) rfl rfl rfl rfl) ?_
  refine xs_ite (fun K HC => xr_icmp_ge HC.1 47 108 88 rfl (by decide) rfl) ?_ ?_
  · refine xs_step (fun K HC => xr_sub (lv' := [(0, av_R 6 (some v0)), (2, av_I v2), (3, av_I v3)]) [0, 1, 2] rfl) ?_
    exact xs_map (fun _ => rfl) (fun _ _ q => q) (t_Ro_tieKnot_108 v0 v2 v3 h)
  refine xs_step (fun K HC => xr_iload_n HC.1 48 89 (n := 3) (ix := 3) (j := 2) (x := v3) rfl rfl rfl rfl) ?_
  refine xs_step (fun K HC => xr_aload_n HC.1 49 90 (n := 0) (ix := 0) (j := 0) (c := 6) (x := v0) rfl rfl rfl rfl) ?_
  refine xs_step (fun K HC => xr_aload_n HC.1 50 91 (n := 0) (ix := 0) (j := 0) (c := 6) (x := v0) rfl rfl rfl rfl) ?_
  refine xs_bind (fun q_7 eq_7 => ?_)
  refine xs_step (fun K HC => xr_getr HC.1 51 94 6 5 13 eq_7 rfl rfl wf_Ro_24 (by decide) fb_6_5 fc_6_5 fd_6_5) ?_
  refine xs_step (fun K HC => xr_iload HC.1 52 96 (ix := 4) (j := 3) (x := v4) rfl rfl rfl) ?_
  refine xs_chk (fun hb_8 => ?_)
  refine xs_step (fun K HC => xr_iald HC.1 53 97 (hp_in_vp hb_8) rfl rfl) ?_
  refine xs_calli (s_Ro_menLedWithin v0 (hp_i h q_7 (v4).toNatClampNeg) h) (fun K HC x9 hM hmo hb => xr_callV HC.1 54 100 (av := [av_I (hp_i h q_7 (v4).toNatClampNeg)]) (st := [av_I v3]) (hM (kg K) (cx_l (kx K))) hmo hb rfl rfl wm_Ro_103 wi_Ro_menLedWithin ws_Ro_menLedWithin wc_Ro_menLedWithin rfl wh_Ro_menLedWithin (by decide) (by decide) (by decide) (Nat.le_of_ble_eq_true rfl) rfl) (fun x_9 => ?_)
  refine xs_step (fun K HC => xr_ior HC.1 55 101 rfl rfl) ?_
  refine xs_topi (fun v3_10 => ?_)
  refine xs_step (fun K HC => xr_istore_n HC.1 56 102 (n := 3) (ix := 3) (lv' := [(0, av_R 6 (some v0)), (2, av_I v2), (3, av_I v3_10), (4, av_I v4)]) rfl rfl rfl (by decide) rfl) ?_
  refine xs_gen (fun v4_11 ev4_11 => ?_)
  refine xs_step (fun K HC => xr_iinc HC.1 57 105 (ix := 4) (j := 3) (n := (1)) (x := v4) v4_11 (lv' := [(0, av_R 6 (some v0)), (2, av_I v2), (3, av_I v3_10), (4, av_I v4_11)]) rfl (by rw [ev4_11]; rfl) rfl rfl (by decide) rfl) ?_
  refine xs_step (fun K HC => xr_goto HC.1 58 82 rfl (by decide)) ?_
  exact xs_back rfl (fun K q => q)
theorem t_Ro_tieKnot_82 (v0 : Nat) (v2 : Int32) (v3 : Int32) (v4 : Int32) (h : HP) : xx_S (xx_D "LampYard$Rounds" tb_Ro_tieKnot 5 3 none false) xz_v (fun K => xL_v K) 82 [(0, av_R 6 (some v0)), (2, av_I v2), (3, av_I v3), (4, av_I v4)] [] h (f_Ro_tieKnot_82 v0 v2 v3 v4 h) :=
  xs_loop (zf := xz_v) (L := (fun K => xL_v K)) (fun s : (Int32 × Int32 × HP) => [(0, av_R 6 (some v0)), (2, av_I v2), (3, av_I s.1), (4, av_I s.2.1)]) (fun s : (Int32 × Int32 × HP) => s.2.2) (fun s => t_Ro_tieKnot_82b v0 v2 s.1 s.2.1 s.2.2) (v3, v4, h)
set_option maxHeartbeats 4000000 in
set_option maxRecDepth 100000 in
theorem t_Ro_tieKnot_74 (v0 : Nat) (v2 : Int32) (h : HP) : xx_S (xx_D "LampYard$Rounds" tb_Ro_tieKnot 5 3 none false) xz_v (fun K => xL_v K) 74 [(0, av_R 6 (some v0)), (2, av_I v2)] [] h (f_Ro_tieKnot_74 v0 v2 h) := by
  unfold f_Ro_tieKnot_74
  refine xs_step (fun K HC => xr_iconst HC.1 40 75 (n := (0)) (0 : Int32) rfl rfl rfl) ?_
  refine xs_step (fun K HC => xr_istore_n HC.1 41 76 (n := 3) (ix := 3) (lv' := [(0, av_R 6 (some v0)), (2, av_I v2), (3, av_I (0 : Int32))]) rfl rfl rfl (by decide) rfl) ?_
  refine xs_step (fun K HC => xr_aload_n HC.1 42 77 (n := 0) (ix := 0) (j := 0) (c := 6) (x := v0) rfl rfl rfl rfl) ?_
  refine xs_step (fun K HC => xr_geti HC.1 43 80 6 7 rfl rfl wf_Ro_40 (by decide) fb_6_7 fc_6_7) ?_
  refine xs_topi (fun v4_3 => ?_)
  refine xs_step (fun K HC => xr_istore HC.1 44 82 (ix := 4) (lv' := [(0, av_R 6 (some v0)), (2, av_I v2), (3, av_I (0 : Int32)), (4, av_I v4_3)]) rfl rfl (by decide) rfl) ?_
  exact t_Ro_tieKnot_82 v0 v2 (0 : Int32) v4_3 h
set_option maxHeartbeats 4000000 in
set_option maxRecDepth 100000 in
theorem t_Ro_tieKnot_17b (v0 : Nat) (v1 : Int32) (v2 : Int32) (v3 : Int32) (h : HP) : xx_S (xx_D "LampYard$Rounds" tb_Ro_tieKnot 5 3 none false) (xx_z2 (fun s : (Int32 × HP) => s.2) xz_v) (fun K => xx_L2 (fun s : (Int32 × HP) => xx_X K 17 [(0, av_R 6 (some v0)), (1, av_I v1), (2, av_I v2), (3, av_I s.1)] [] (s.2)) (xL_v K)) 17 [(0, av_R 6 (some v0)), (1, av_I v1), (2, av_I v2), (3, av_I v3)] [] h (f_Ro_tieKnot_17b v0 v1 v2 v3 h) := by
  unfold f_Ro_tieKnot_17b
  refine xs_step (fun K HC => xr_iload_n HC.1 11 18 (n := 3) (ix := 3) (j := 3) (x := v3) rfl rfl rfl rfl) ?_
  refine xs_step (fun K HC => xr_sipush HC.1 12 21 (n := (5000)) (5000 : Int32) rfl rfl rfl) ?_
  refine xs_ite (fun K HC => xr_icmp_ge HC.1 13 74 24 rfl (by decide) rfl) ?_ ?_
  · refine xs_step (fun K HC => xr_sub (lv' := [(0, av_R 6 (some v0)), (2, av_I v2)]) [0, 2] rfl) ?_
    exact xs_map (fun _ => rfl) (fun _ _ q => q) (t_Ro_tieKnot_74 v0 v2 h)
  refine xs_step (fun K HC => xr_aload_n HC.1 14 25 (n := 0) (ix := 0) (j := 0) (c := 6) (x := v0) rfl rfl rfl rfl) ?_
  refine xs_step (fun K HC => xr_geti HC.1 15 28 6 7 rfl rfl wf_Ro_40 (by decide) fb_6_7 fc_6_7) ?_
  refine xs_ite (fun K HC => xr_if_le HC.1 16 74 31 rfl (by decide) rfl) ?_ ?_
  · refine xs_step (fun K HC => xr_sub (lv' := [(0, av_R 6 (some v0)), (2, av_I v2)]) [0, 2] rfl) ?_
    exact xs_map (fun _ => rfl) (fun _ _ q => q) (t_Ro_tieKnot_74 v0 v2 h)
  refine xs_step (fun K HC => xr_aload_n HC.1 17 32 (n := 0) (ix := 0) (j := 0) (c := 6) (x := v0) rfl rfl rfl rfl) ?_
  refine xs_bind (fun q_12 eq_12 => ?_)
  refine xs_step (fun K HC => xr_getr HC.1 18 35 6 3 13 eq_12 rfl rfl wf_Ro_18 (by decide) fb_6_3 fc_6_3 fd_6_3) ?_
  refine xs_step (fun K HC => xr_iload_n HC.1 19 36 (n := 1) (ix := 1) (j := 1) (x := v1) rfl rfl rfl rfl) ?_
  refine xs_chk (fun hb_13 => ?_)
  refine xs_step (fun K HC => xr_iald HC.1 20 37 (hp_in_vp hb_13) rfl rfl) ?_
  refine xs_ite (fun K HC a b => xr_if_ne HC.1 21 74 40 rfl (by decide) rfl b a) ?_ ?_
  · refine xs_step (fun K HC => xr_aload_n HC.1 22 41 (n := 0) (ix := 0) (j := 0) (c := 6) (x := v0) rfl rfl rfl rfl) ?_
    refine xs_step (fun K HC => xr_dup HC.1 23 42 rfl rfl rfl) ?_
    refine xs_step (fun K HC => xr_geti HC.1 24 45 6 7 rfl rfl wf_Ro_40 (by decide) fb_6_7 fc_6_7) ?_
    refine xs_step (fun K HC => xr_iconst HC.1 25 46 (n := (1)) (1 : Int32) rfl rfl rfl) ?_
    refine xs_step (fun K HC => xr_isub HC.1 26 47 rfl rfl) ?_
    refine xs_heap (hp_mo_si _ _ _ _) (fun K HC => xr_puti HC.1 27 50 6 7 rfl rfl wf_Ro_40 (by decide) fb_6_7 fn_6_7 fy_6_7) (fun h_14 => ?_)
    refine xs_step (fun K HC => xr_aload_n HC.1 28 51 (n := 0) (ix := 0) (j := 0) (c := 6) (x := v0) rfl rfl rfl rfl) ?_
    refine xs_bind (fun q_15 eq_15 => ?_)
    refine xs_step (fun K HC => xr_getr HC.1 29 54 6 3 13 eq_15 rfl rfl wf_Ro_18 (by decide) fb_6_3 fc_6_3 fd_6_3) ?_
    refine xs_step (fun K HC => xr_aload_n HC.1 30 55 (n := 0) (ix := 0) (j := 0) (c := 6) (x := v0) rfl rfl rfl rfl) ?_
    refine xs_bind (fun q_16 eq_16 => ?_)
    refine xs_step (fun K HC => xr_getr HC.1 31 58 6 5 13 eq_16 rfl rfl wf_Ro_24 (by decide) fb_6_5 fc_6_5 fd_6_5) ?_
    refine xs_step (fun K HC => xr_aload_n HC.1 32 59 (n := 0) (ix := 0) (j := 0) (c := 6) (x := v0) rfl rfl rfl rfl) ?_
    refine xs_step (fun K HC => xr_geti HC.1 33 62 6 7 rfl rfl wf_Ro_40 (by decide) fb_6_7 fc_6_7) ?_
    refine xs_chk (fun hb_17 => ?_)
    refine xs_step (fun K HC => xr_iald HC.1 34 63 (hp_in_vp hb_17) rfl rfl) ?_
    refine xs_step (fun K HC => xr_aload_n HC.1 35 64 (n := 0) (ix := 0) (j := 0) (c := 6) (x := v0) rfl rfl rfl rfl) ?_
    refine xs_step (fun K HC => xr_geti HC.1 36 67 6 10 rfl rfl wf_Ro_50 (by decide) fb_6_10 fc_6_10) ?_
    refine xs_chk (fun hb_18 => ?_)
    refine xs_heap (hp_mo_si _ _ _ _) (fun K HC => xr_iast HC.1 37 68 (hp_in_vp hb_18) rfl rfl) (fun h_19 => ?_)
    refine xs_gen (fun v3_20 ev3_20 => ?_)
    refine xs_step (fun K HC => xr_iinc HC.1 38 71 (ix := 3) (j := 3) (n := (1)) (x := v3) v3_20 (lv' := [(0, av_R 6 (some v0)), (1, av_I v1), (2, av_I v2), (3, av_I v3_20)]) rfl (by rw [ev3_20]; rfl) rfl rfl (by decide) rfl) ?_
    refine xs_step (fun K HC => xr_goto HC.1 39 17 rfl (by decide)) ?_
    exact xs_back rfl (fun K q => q)
  refine xs_step (fun K HC => xr_sub (lv' := [(0, av_R 6 (some v0)), (2, av_I v2)]) [0, 2] rfl) ?_
  exact xs_map (fun _ => rfl) (fun _ _ q => q) (t_Ro_tieKnot_74 v0 v2 h)
theorem t_Ro_tieKnot_17 (v0 : Nat) (v1 : Int32) (v2 : Int32) (v3 : Int32) (h : HP) : xx_S (xx_D "LampYard$Rounds" tb_Ro_tieKnot 5 3 none false) xz_v (fun K => xL_v K) 17 [(0, av_R 6 (some v0)), (1, av_I v1), (2, av_I v2), (3, av_I v3)] [] h (f_Ro_tieKnot_17 v0 v1 v2 v3 h) :=
  xs_loop (zf := xz_v) (L := (fun K => xL_v K)) (fun s : (Int32 × HP) => [(0, av_R 6 (some v0)), (1, av_I v1), (2, av_I v2), (3, av_I s.1)]) (fun s : (Int32 × HP) => s.2) (fun s => t_Ro_tieKnot_17b v0 v1 v2 s.1 s.2) (v3, h)
set_option maxHeartbeats 4000000 in
set_option maxRecDepth 100000 in
theorem t_Ro_tieKnot (v0 : Nat) (v1 : Int32) (h : HP) : xx_S (xx_D "LampYard$Rounds" tb_Ro_tieKnot 5 3 none false) xz_v (fun K => xL_v K) 0 [(0, av_R 6 (some v0)), (1, av_I v1)] [] h (f_Ro_tieKnot v0 v1 h) := by
  unfold f_Ro_tieKnot
  refine xs_step (fun K HC => xr_aload_n HC.1 0 1 (n := 0) (ix := 0) (j := 0) (c := 6) (x := v0) rfl rfl rfl rfl) ?_
  refine xs_step (fun K HC => xr_geti HC.1 1 4 6 7 rfl rfl wf_Ro_40 (by decide) fb_6_7 fc_6_7) ?_
  refine xs_topi (fun v2_1 => ?_)
  refine xs_step (fun K HC => xr_istore_n HC.1 2 5 (n := 2) (ix := 2) (lv' := [(0, av_R 6 (some v0)), (1, av_I v1), (2, av_I v2_1)]) rfl rfl rfl (by decide) rfl) ?_
  refine xs_step (fun K HC => xr_aload_n HC.1 3 6 (n := 0) (ix := 0) (j := 0) (c := 6) (x := v0) rfl rfl rfl rfl) ?_
  refine xs_step (fun K HC => xr_dup HC.1 4 7 rfl rfl rfl) ?_
  refine xs_step (fun K HC => xr_geti HC.1 5 10 6 10 rfl rfl wf_Ro_50 (by decide) fb_6_10 fc_6_10) ?_
  refine xs_step (fun K HC => xr_iconst HC.1 6 11 (n := (1)) (1 : Int32) rfl rfl rfl) ?_
  refine xs_step (fun K HC => xr_iadd HC.1 7 12 rfl rfl) ?_
  refine xs_heap (hp_mo_si _ _ _ _) (fun K HC => xr_puti HC.1 8 15 6 10 rfl rfl wf_Ro_50 (by decide) fb_6_10 fn_6_10 fy_6_10) (fun h_2 => ?_)
  refine xs_step (fun K HC => xr_iconst HC.1 9 16 (n := (0)) (0 : Int32) rfl rfl rfl) ?_
  refine xs_step (fun K HC => xr_istore_n HC.1 10 17 (n := 3) (ix := 3) (lv' := [(0, av_R 6 (some v0)), (1, av_I v1), (2, av_I v2_1), (3, av_I (0 : Int32))]) rfl rfl rfl (by decide) rfl) ?_
  exact t_Ro_tieKnot_17 v0 v1 v2_1 (0 : Int32) h_2
theorem s_Ro_tieKnot (v0 : Nat) (v1 : Int32) (h : HP) : ∀ x, f_Ro_tieKnot v0 v1 h = some x → hp_mo h x ∧ ∀ g l, xx_M g l y_Ro_tieKnot prog_8_method_7_code 5 none 3 [av_R 6 (some v0), av_I v1] h none x :=
  xM_v (tb := tb_Ro_tieKnot) (b := false) (by decide +kernel) dt_Ro_tieKnot trivial (Nat.le_of_ble_eq_true rfl) (fun hb => by cases hb) (t_Ro_tieKnot v0 v1 h)
def tb_Ro_leave : TBL := [(0, .aload_n 0, 1), (1, .dup, 1), (2, .getfield 44, 3), (5, .iconst 1, 1), (6, .isub, 1), (7, .putfield 44, 3), (10, .aload_n 0, 1), (11, .getfield 44, 3), (14, .ifCond .le 36, 3), (17, .aload_n 0, 1), (18, .getfield 27, 3), (21, .aload_n 0, 1), (22, .getfield 44, 3), (25, .iconst 1, 1), (26, .isub, 1), (27, .iaload, 1), (28, .istore_n 2, 1), (29, .aload_n 0, 1), (30, .getfield 15, 3), (33, .iload_n 2, 1), (34, .aload_n 0, 1), (35, .getfield 15, 3), (38, .iload_n 2, 1), (39, .iaload, 1), (40, .aload_n 0, 1), (41, .getfield 15, 3), (44, .iload_n 1, 1), (45, .iaload, 1), (46, .invokestatic 95, 3), (49, .iastore, 1), (50, .aload_n 0, 1), (51, .getfield 15, 3), (54, .iload_n 1, 1), (55, .iaload, 1), (56, .aload_n 0, 1), (57, .getfield 9, 3), (60, .iload_n 1, 1), (61, .iaload, 1), (62, .if_icmp .ne 8, 3), (65, .aload_n 0, 1), (66, .iload_n 1, 1), (67, .invokevirtual 100, 3), (70, .return_, 1)]
theorem dt_Ro_leave : ∀ q ∈ tb_Ro_leave, decode prog_8_method_6_code q.1 = .ok (q.2.1, q.2.2) := by decide +kernel
set_option maxHeartbeats 4000000 in
set_option maxRecDepth 100000 in
theorem t_Ro_leave_50 (v0 : Nat) (v1 : Int32) (h : HP) : xx_S (xx_D "LampYard$Rounds" tb_Ro_leave 3 4 none false) xz_v (fun K => xL_v K) 50 [(0, av_R 6 (some v0)), (1, av_I v1)] [] h (f_Ro_leave_50 v0 v1 h) := by
  unfold f_Ro_leave_50
  refine xs_step (fun K HC => xr_aload_n HC.1 30 51 (n := 0) (ix := 0) (j := 0) (c := 6) (x := v0) rfl rfl rfl rfl) ?_
  refine xs_bind (fun q_2 eq_2 => ?_)
  refine xs_step (fun K HC => xr_getr HC.1 31 54 6 2 13 eq_2 rfl rfl wf_Ro_15 (by decide) fb_6_2 fc_6_2 fd_6_2) ?_
  refine xs_step (fun K HC => xr_iload_n HC.1 32 55 (n := 1) (ix := 1) (j := 1) (x := v1) rfl rfl rfl rfl) ?_
  refine xs_chk (fun hb_3 => ?_)
  refine xs_step (fun K HC => xr_iald HC.1 33 56 (hp_in_vp hb_3) rfl rfl) ?_
  refine xs_step (fun K HC => xr_aload_n HC.1 34 57 (n := 0) (ix := 0) (j := 0) (c := 6) (x := v0) rfl rfl rfl rfl) ?_
  refine xs_bind (fun q_4 eq_4 => ?_)
  refine xs_step (fun K HC => xr_getr HC.1 35 60 6 1 13 eq_4 rfl rfl wf_Ro_9 (by decide) fb_6_1 fc_6_1 fd_6_1) ?_
  refine xs_step (fun K HC => xr_iload_n HC.1 36 61 (n := 1) (ix := 1) (j := 1) (x := v1) rfl rfl rfl rfl) ?_
  refine xs_chk (fun hb_5 => ?_)
  refine xs_step (fun K HC => xr_iald HC.1 37 62 (hp_in_vp hb_5) rfl rfl) ?_
  refine xs_ite (fun K HC a b => xr_icmp_ne HC.1 38 70 65 rfl (by decide) rfl b a) ?_ ?_
  · refine xs_step (fun K HC => xr_aload_n HC.1 39 66 (n := 0) (ix := 0) (j := 0) (c := 6) (x := v0) rfl rfl rfl rfl) ?_
    refine xs_step (fun K HC => xr_iload_n HC.1 40 67 (n := 1) (ix := 1) (j := 1) (x := v1) rfl rfl rfl rfl) ?_
    refine xs_callv (s_Ro_tieKnot v0 v1 h) (fun K HC x9 hM hmo hb => xr_callV HC.1 41 70 (av := [av_I v1]) (st := []) (hM (kg K) (cx_l (kx K))) hmo hb rfl rfl wm_Ro_100 wi_Ro_tieKnot ws_Ro_tieKnot wc_Ro_tieKnot rfl wh_Ro_tieKnot (by decide) (by decide) (by decide) (Nat.le_of_ble_eq_true rfl) rfl) (fun x_6 => ?_)
    exact xs_ret 42 rfl rfl (fun K q => q)
  exact xs_ret 42 rfl rfl (fun K q => q)
set_option maxHeartbeats 4000000 in
set_option maxRecDepth 100000 in
theorem t_Ro_leave (v0 : Nat) (v1 : Int32) (h : HP) : xx_S (xx_D "LampYard$Rounds" tb_Ro_leave 3 4 none false) xz_v (fun K => xL_v K) 0 [(0, av_R 6 (some v0)), (1, av_I v1)] [] h (f_Ro_leave v0 v1 h) := by
  unfold f_Ro_leave
  refine xs_step (fun K HC => xr_aload_n HC.1 0 1 (n := 0) (ix := 0) (j := 0) (c := 6) (x := v0) rfl rfl rfl rfl) ?_
  refine xs_step (fun K HC => xr_dup HC.1 1 2 rfl rfl rfl) ?_
  refine xs_step (fun K HC => xr_geti HC.1 2 5 6 8 rfl rfl wf_Ro_44 (by decide) fb_6_8 fc_6_8) ?_
  refine xs_step (fun K HC => xr_iconst HC.1 3 6 (n := (1)) (1 : Int32) rfl rfl rfl) ?_
  refine xs_step (fun K HC => xr_isub HC.1 4 7 rfl rfl) ?_
  refine xs_heap (hp_mo_si _ _ _ _) (fun K HC => xr_puti HC.1 5 10 6 8 rfl rfl wf_Ro_44 (by decide) fb_6_8 fn_6_8 fy_6_8) (fun h_1 => ?_)
  refine xs_step (fun K HC => xr_aload_n HC.1 6 11 (n := 0) (ix := 0) (j := 0) (c := 6) (x := v0) rfl rfl rfl rfl) ?_
  refine xs_step (fun K HC => xr_geti HC.1 7 14 6 8 rfl rfl wf_Ro_44 (by decide) fb_6_8 fc_6_8) ?_
  refine xs_ite (fun K HC => xr_if_le HC.1 8 50 17 rfl (by decide) rfl) ?_ ?_
  · exact t_Ro_leave_50 v0 v1 h_1
  refine xs_step (fun K HC => xr_aload_n HC.1 9 18 (n := 0) (ix := 0) (j := 0) (c := 6) (x := v0) rfl rfl rfl rfl) ?_
  refine xs_bind (fun q_7 eq_7 => ?_)
  refine xs_step (fun K HC => xr_getr HC.1 10 21 6 6 13 eq_7 rfl rfl wf_Ro_27 (by decide) fb_6_6 fc_6_6 fd_6_6) ?_
  refine xs_step (fun K HC => xr_aload_n HC.1 11 22 (n := 0) (ix := 0) (j := 0) (c := 6) (x := v0) rfl rfl rfl rfl) ?_
  refine xs_step (fun K HC => xr_geti HC.1 12 25 6 8 rfl rfl wf_Ro_44 (by decide) fb_6_8 fc_6_8) ?_
  refine xs_step (fun K HC => xr_iconst HC.1 13 26 (n := (1)) (1 : Int32) rfl rfl rfl) ?_
  refine xs_step (fun K HC => xr_isub HC.1 14 27 rfl rfl) ?_
  refine xs_chk (fun hb_8 => ?_)
  refine xs_step (fun K HC => xr_iald HC.1 15 28 (hp_in_vp hb_8) rfl rfl) ?_
  refine xs_topi (fun v2_9 => ?_)
  refine xs_step (fun K HC => xr_istore_n HC.1 16 29 (n := 2) (ix := 2) (lv' := [(0, av_R 6 (some v0)), (1, av_I v1), (2, av_I v2_9)]) rfl rfl rfl (by decide) rfl) ?_
  refine xs_step (fun K HC => xr_aload_n HC.1 17 30 (n := 0) (ix := 0) (j := 0) (c := 6) (x := v0) rfl rfl rfl rfl) ?_
  refine xs_bind (fun q_10 eq_10 => ?_)
  refine xs_step (fun K HC => xr_getr HC.1 18 33 6 2 13 eq_10 rfl rfl wf_Ro_15 (by decide) fb_6_2 fc_6_2 fd_6_2) ?_
  refine xs_step (fun K HC => xr_iload_n HC.1 19 34 (n := 2) (ix := 2) (j := 2) (x := v2_9) rfl rfl rfl rfl) ?_
  refine xs_step (fun K HC => xr_aload_n HC.1 20 35 (n := 0) (ix := 0) (j := 0) (c := 6) (x := v0) rfl rfl rfl rfl) ?_
  refine xs_bind (fun q_11 eq_11 => ?_)
  refine xs_step (fun K HC => xr_getr HC.1 21 38 6 2 13 eq_11 rfl rfl wf_Ro_15 (by decide) fb_6_2 fc_6_2 fd_6_2) ?_
  refine xs_step (fun K HC => xr_iload_n HC.1 22 39 (n := 2) (ix := 2) (j := 2) (x := v2_9) rfl rfl rfl rfl) ?_
  refine xs_chk (fun hb_12 => ?_)
  refine xs_step (fun K HC => xr_iald HC.1 23 40 (hp_in_vp hb_12) rfl rfl) ?_
  refine xs_step (fun K HC => xr_aload_n HC.1 24 41 (n := 0) (ix := 0) (j := 0) (c := 6) (x := v0) rfl rfl rfl rfl) ?_
  refine xs_bind (fun q_13 eq_13 => ?_)
  refine xs_step (fun K HC => xr_getr HC.1 25 44 6 2 13 eq_13 rfl rfl wf_Ro_15 (by decide) fb_6_2 fc_6_2 fd_6_2) ?_
  refine xs_step (fun K HC => xr_iload_n HC.1 26 45 (n := 1) (ix := 1) (j := 1) (x := v1) rfl rfl rfl rfl) ?_
  refine xs_chk (fun hb_14 => ?_)
  refine xs_step (fun K HC => xr_iald HC.1 27 46 (hp_in_vp hb_14) rfl rfl) ?_
  refine xs_stepb (fun K HC hb => xr_min HC.1 28 49 hb rfl rfl wm_Ro_95 ly_mmin1 ly_m0 ly_mmin2 (by decide) (Nat.le_of_ble_eq_true rfl)) ?_
  refine xs_chk (fun hb_15 => ?_)
  refine xs_heap (hp_mo_si _ _ _ _) (fun K HC => xr_iast HC.1 29 50 (hp_in_vp hb_15) rfl rfl) (fun h_16 => ?_)
  refine xs_step (fun K HC => xr_sub (lv' := [(0, av_R 6 (some v0)), (1, av_I v1)]) [0, 1] rfl) ?_
  exact t_Ro_leave_50 v0 v1 h_16
theorem s_Ro_leave (v0 : Nat) (v1 : Int32) (h : HP) : ∀ x, f_Ro_leave v0 v1 h = some x → hp_mo h x ∧ ∀ g l, xx_M g l y_Ro_leave prog_8_method_6_code 3 none 4 [av_R 6 (some v0), av_I v1] h none x :=
  xM_v (tb := tb_Ro_leave) (b := false) (by decide +kernel) dt_Ro_leave trivial (Nat.le_of_ble_eq_true rfl) (fun hb => by cases hb) (t_Ro_leave v0 v1 h)
def tb_Ro_goFrom : TBL := [(0, .aload_n 0, 1), (1, .iload_n 1, 1), (2, .invokevirtual 71, 3), (5, .iconst 0, 1), (6, .istore_n 2, 1), (7, .iload_n 2, 1), (8, .ldc 74, 2), (10, .if_icmp .ge 86, 3), (13, .aload_n 0, 1), (14, .getfield 44, 3), (17, .ifCond .le 79, 3), (20, .aload_n 0, 1), (21, .getfield 27, 3), (24, .aload_n 0, 1), (25, .getfield 44, 3), (28, .iconst 1, 1), (29, .isub, 1), (30, .iaload, 1), (31, .istore_n 3, 1), (32, .aload_n 0, 1), (33, .getfield 21, 3), (36, .iload_n 3, 1), (37, .iaload, 1), (38, .aload_n 0, 1), (39, .getfield 30, 3), (42, .getfield 75, 3), (45, .getfield 79, 3), (48, .if_icmp .ge 37, 3), (51, .aload_n 0, 1), (52, .getfield 21, 3), (55, .iload_n 3, 1), (56, .dup2, 1), (57, .iaload, 1), (58, .iconst 1, 1), (59, .iadd, 1), (60, .iastore, 1), (61, .aload_n 0, 1), (62, .iload_n 3, 1), (63, .aload_n 0, 1), (64, .getfield 30, 3), (67, .iload_n 3, 1), (68, .aload_n 0, 1), (69, .getfield 21, 3), (72, .iload_n 3, 1), (73, .iaload, 1), (74, .iconst 1, 1), (75, .isub, 1), (76, .invokevirtual 84, 3), (79, .invokevirtual 88, 3), (82, .goto 8, 3), (85, .aload_n 0, 1), (86, .iload_n 3, 1), (87, .invokevirtual 92, 3), (90, .iinc 2 1, 3), (93, .goto (-86), 3), (96, .return_, 1)]
theorem dt_Ro_goFrom : ∀ q ∈ tb_Ro_goFrom, decode prog_8_method_3_code q.1 = .ok (q.2.1, q.2.2) := by decide +kernel
set_option maxHeartbeats 4000000 in
set_option maxRecDepth 100000 in
theorem t_Ro_goFrom_90 (v0 : Nat) (v2 : Int32) (h : HP) : xx_S (xx_D "LampYard$Rounds" tb_Ro_goFrom 4 5 none false) (xx_z2 (fun s : (Int32 × HP) => s.2) xz_v) (fun K => xx_L2 (fun s : (Int32 × HP) => xx_X K 7 [(0, av_R 6 (some v0)), (2, av_I s.1)] [] (s.2)) (xL_v K)) 90 [(0, av_R 6 (some v0)), (2, av_I v2)] [] h (f_Ro_goFrom_90 v0 v2 h) := by
  unfold f_Ro_goFrom_90
  refine xs_gen (fun v2_10 ev2_10 => ?_)
  refine xs_step (fun K HC => xr_iinc HC.1 53 93 (ix := 2) (j := 1) (n := (1)) (x := v2) v2_10 (lv' := [(0, av_R 6 (some v0)), (2, av_I v2_10)]) rfl (by rw [ev2_10]; rfl) rfl rfl (by decide) rfl) ?_
  refine xs_step (fun K HC => xr_goto HC.1 54 7 rfl (by decide)) ?_
  exact xs_back rfl (fun K q => q)
set_option maxHeartbeats 4000000 in
set_option maxRecDepth 100000 in
theorem t_Ro_goFrom_7b (v0 : Nat) (v2 : Int32) (h : HP) : xx_S (xx_D "LampYard$Rounds" tb_Ro_goFrom 4 5 none false) (xx_z2 (fun s : (Int32 × HP) => s.2) xz_v) (fun K => xx_L2 (fun s : (Int32 × HP) => xx_X K 7 [(0, av_R 6 (some v0)), (2, av_I s.1)] [] (s.2)) (xL_v K)) 7 [(0, av_R 6 (some v0)), (2, av_I v2)] [] h (f_Ro_goFrom_7b v0 v2 h) := by
  unfold f_Ro_goFrom_7b
  refine xs_step (fun K HC => xr_iload_n HC.1 5 8 (n := 2) (ix := 2) (j := 1) (x := v2) rfl rfl rfl rfl) ?_
  refine xs_step (fun K HC => xr_ldc HC.1 6 10 wk_Ro_74 rfl rfl) ?_
  refine xs_ite (fun K HC => xr_icmp_ge HC.1 7 96 13 rfl (by decide) rfl) ?_ ?_
  · exact xs_ret 55 rfl rfl (fun K q => q)
  refine xs_step (fun K HC => xr_aload_n HC.1 8 14 (n := 0) (ix := 0) (j := 0) (c := 6) (x := v0) rfl rfl rfl rfl) ?_
  refine xs_step (fun K HC => xr_geti HC.1 9 17 6 8 rfl rfl wf_Ro_44 (by decide) fb_6_8 fc_6_8) ?_
  refine xs_ite (fun K HC => xr_if_le HC.1 10 96 20 rfl (by decide) rfl) ?_ ?_
  · exact xs_ret 55 rfl rfl (fun K q => q)
  refine xs_step (fun K HC => xr_aload_n HC.1 11 21 (n := 0) (ix := 0) (j := 0) (c := 6) (x := v0) rfl rfl rfl rfl) ?_
  refine xs_bind (fun q_2 eq_2 => ?_)
  refine xs_step (fun K HC => xr_getr HC.1 12 24 6 6 13 eq_2 rfl rfl wf_Ro_27 (by decide) fb_6_6 fc_6_6 fd_6_6) ?_
  refine xs_step (fun K HC => xr_aload_n HC.1 13 25 (n := 0) (ix := 0) (j := 0) (c := 6) (x := v0) rfl rfl rfl rfl) ?_
  refine xs_step (fun K HC => xr_geti HC.1 14 28 6 8 rfl rfl wf_Ro_44 (by decide) fb_6_8 fc_6_8) ?_
  refine xs_step (fun K HC => xr_iconst HC.1 15 29 (n := (1)) (1 : Int32) rfl rfl rfl) ?_
  refine xs_step (fun K HC => xr_isub HC.1 16 30 rfl rfl) ?_
  refine xs_chk (fun hb_3 => ?_)
  refine xs_step (fun K HC => xr_iald HC.1 17 31 (hp_in_vp hb_3) rfl rfl) ?_
  refine xs_topi (fun v3_4 => ?_)
  refine xs_step (fun K HC => xr_istore_n HC.1 18 32 (n := 3) (ix := 3) (lv' := [(0, av_R 6 (some v0)), (2, av_I v2), (3, av_I v3_4)]) rfl rfl rfl (by decide) rfl) ?_
  refine xs_step (fun K HC => xr_aload_n HC.1 19 33 (n := 0) (ix := 0) (j := 0) (c := 6) (x := v0) rfl rfl rfl rfl) ?_
  refine xs_bind (fun q_5 eq_5 => ?_)
  refine xs_step (fun K HC => xr_getr HC.1 20 36 6 4 13 eq_5 rfl rfl wf_Ro_21 (by decide) fb_6_4 fc_6_4 fd_6_4) ?_
  refine xs_step (fun K HC => xr_iload_n HC.1 21 37 (n := 3) (ix := 3) (j := 2) (x := v3_4) rfl rfl rfl rfl) ?_
  refine xs_chk (fun hb_6 => ?_)
  refine xs_step (fun K HC => xr_iald HC.1 22 38 (hp_in_vp hb_6) rfl rfl) ?_
  refine xs_step (fun K HC => xr_aload_n HC.1 23 39 (n := 0) (ix := 0) (j := 0) (c := 6) (x := v0) rfl rfl rfl rfl) ?_
  refine xs_bind (fun q_7 eq_7 => ?_)
  refine xs_step (fun K HC => xr_getr HC.1 24 42 6 0 9 eq_7 rfl rfl wf_Ro_30 (by decide) fb_6_0 fc_6_0 fd_6_0) ?_
  refine xs_bind (fun q_8 eq_8 => ?_)
  refine xs_step (fun K HC => xr_getr HC.1 25 45 9 4 4 eq_8 rfl rfl wf_Ro_75 (by decide) fb_9_4 fc_9_4 fd_9_4) ?_
  refine xs_step (fun K HC => xr_geti HC.1 26 48 4 5 rfl rfl wf_Ro_79 (by decide) fb_4_5 fc_4_5) ?_
  refine xs_ite (fun K HC => xr_icmp_ge HC.1 27 85 51 rfl (by decide) rfl) ?_ ?_
  · refine xs_step (fun K HC => xr_aload_n HC.1 50 86 (n := 0) (ix := 0) (j := 0) (c := 6) (x := v0) rfl rfl rfl rfl) ?_
    refine xs_step (fun K HC => xr_iload_n HC.1 51 87 (n := 3) (ix := 3) (j := 2) (x := v3_4) rfl rfl rfl rfl) ?_
    refine xs_callv (s_Ro_leave v0 v3_4 h) (fun K HC x9 hM hmo hb => xr_callV HC.1 52 90 (av := [av_I v3_4]) (st := []) (hM (kg K) (cx_l (kx K))) hmo hb rfl rfl wm_Ro_92 wi_Ro_leave ws_Ro_leave wc_Ro_leave rfl wh_Ro_leave (by decide) (by decide) (by decide) (Nat.le_of_ble_eq_true rfl) rfl) (fun x_9 => ?_)
    refine xs_step (fun K HC => xr_sub (lv' := [(0, av_R 6 (some v0)), (2, av_I v2)]) [0, 1] rfl) ?_
    exact t_Ro_goFrom_90 v0 v2 x_9
  refine xs_step (fun K HC => xr_aload_n HC.1 28 52 (n := 0) (ix := 0) (j := 0) (c := 6) (x := v0) rfl rfl rfl rfl) ?_
  refine xs_bind (fun q_11 eq_11 => ?_)
  refine xs_step (fun K HC => xr_getr HC.1 29 55 6 4 13 eq_11 rfl rfl wf_Ro_21 (by decide) fb_6_4 fc_6_4 fd_6_4) ?_
  refine xs_step (fun K HC => xr_iload_n HC.1 30 56 (n := 3) (ix := 3) (j := 2) (x := v3_4) rfl rfl rfl rfl) ?_
  refine xs_step (fun K HC => xr_dup2 HC.1 31 57 rfl rfl rfl rfl) ?_
  refine xs_chk (fun hb_12 => ?_)
  refine xs_step (fun K HC => xr_iald HC.1 32 58 (hp_in_vp hb_12) rfl rfl) ?_
  refine xs_step (fun K HC => xr_iconst HC.1 33 59 (n := (1)) (1 : Int32) rfl rfl rfl) ?_
  refine xs_step (fun K HC => xr_iadd HC.1 34 60 rfl rfl) ?_
  refine xs_chk (fun hb_13 => ?_)
  refine xs_heap (hp_mo_si _ _ _ _) (fun K HC => xr_iast HC.1 35 61 (hp_in_vp hb_13) rfl rfl) (fun h_14 => ?_)
  refine xs_step (fun K HC => xr_aload_n HC.1 36 62 (n := 0) (ix := 0) (j := 0) (c := 6) (x := v0) rfl rfl rfl rfl) ?_
  refine xs_step (fun K HC => xr_iload_n HC.1 37 63 (n := 3) (ix := 3) (j := 2) (x := v3_4) rfl rfl rfl rfl) ?_
  refine xs_step (fun K HC => xr_aload_n HC.1 38 64 (n := 0) (ix := 0) (j := 0) (c := 6) (x := v0) rfl rfl rfl rfl) ?_
  refine xs_bind (fun q_15 eq_15 => ?_)
  refine xs_step (fun K HC => xr_getr HC.1 39 67 6 0 9 eq_15 rfl rfl wf_Ro_30 (by decide) fb_6_0 fc_6_0 fd_6_0) ?_
  refine xs_step (fun K HC => xr_iload_n HC.1 40 68 (n := 3) (ix := 3) (j := 2) (x := v3_4) rfl rfl rfl rfl) ?_
  refine xs_step (fun K HC => xr_aload_n HC.1 41 69 (n := 0) (ix := 0) (j := 0) (c := 6) (x := v0) rfl rfl rfl rfl) ?_
  refine xs_bind (fun q_16 eq_16 => ?_)
  refine xs_step (fun K HC => xr_getr HC.1 42 72 6 4 13 eq_16 rfl rfl wf_Ro_21 (by decide) fb_6_4 fc_6_4 fd_6_4) ?_
  refine xs_step (fun K HC => xr_iload_n HC.1 43 73 (n := 3) (ix := 3) (j := 2) (x := v3_4) rfl rfl rfl rfl) ?_
  refine xs_chk (fun hb_17 => ?_)
  refine xs_step (fun K HC => xr_iald HC.1 44 74 (hp_in_vp hb_17) rfl rfl) ?_
  refine xs_step (fun K HC => xr_iconst HC.1 45 75 (n := (1)) (1 : Int32) rfl rfl rfl) ?_
  refine xs_step (fun K HC => xr_isub HC.1 46 76 rfl rfl) ?_
  refine xs_calli (s_Sv_nextOf q_15 v3_4 ((hp_i h_14 q_16 (v3_4).toNatClampNeg) - (1 : Int32)) h_14) (fun K HC x9 hM hmo hb => xr_callV HC.1 47 79 (av := [av_I v3_4, av_I ((hp_i h_14 q_16 (v3_4).toNatClampNeg) - (1 : Int32))]) (st := [av_I v3_4, av_R 6 (some v0)]) (hM (kg K) (cx_l (kx K))) hmo hb rfl rfl wm_Ro_84 wi_Sv_nextOf ws_Sv_nextOf wc_Sv_nextOf rfl wh_Sv_nextOf (by decide) (by decide) (by decide) (Nat.le_of_ble_eq_true rfl) rfl) (fun x_18 => ?_)
  refine xs_callv (s_Ro_look v0 v3_4 x_18.1 x_18.2) (fun K HC x9 hM hmo hb => xr_callV HC.1 48 82 (av := [av_I v3_4, av_I x_18.1]) (st := []) (hM (kg K) (cx_l (kx K))) hmo hb rfl rfl wm_Ro_88 wi_Ro_look ws_Ro_look wc_Ro_look rfl wh_Ro_look (by decide) (by decide) (by decide) (Nat.le_of_ble_eq_true rfl) rfl) (fun x_19 => ?_)
  refine xs_step (fun K HC => xr_goto HC.1 49 90 rfl (by decide)) ?_
  refine xs_step (fun K HC => xr_sub (lv' := [(0, av_R 6 (some v0)), (2, av_I v2)]) [0, 1] rfl) ?_
  exact t_Ro_goFrom_90 v0 v2 x_19
theorem t_Ro_goFrom_7 (v0 : Nat) (v2 : Int32) (h : HP) : xx_S (xx_D "LampYard$Rounds" tb_Ro_goFrom 4 5 none false) xz_v (fun K => xL_v K) 7 [(0, av_R 6 (some v0)), (2, av_I v2)] [] h (f_Ro_goFrom_7 v0 v2 h) :=
  xs_loop (zf := xz_v) (L := (fun K => xL_v K)) (fun s : (Int32 × HP) => [(0, av_R 6 (some v0)), (2, av_I s.1)]) (fun s : (Int32 × HP) => s.2) (fun s => t_Ro_goFrom_7b v0 s.1 s.2) (v2, h)
set_option maxHeartbeats 4000000 in
set_option maxRecDepth 100000 in
theorem t_Ro_goFrom (v0 : Nat) (v1 : Int32) (h : HP) : xx_S (xx_D "LampYard$Rounds" tb_Ro_goFrom 4 5 none false) xz_v (fun K => xL_v K) 0 [(0, av_R 6 (some v0)), (1, av_I v1)] [] h (f_Ro_goFrom v0 v1 h) := by
  unfold f_Ro_goFrom
  refine xs_step (fun K HC => xr_aload_n HC.1 0 1 (n := 0) (ix := 0) (j := 0) (c := 6) (x := v0) rfl rfl rfl rfl) ?_
  refine xs_step (fun K HC => xr_iload_n HC.1 1 2 (n := 1) (ix := 1) (j := 1) (x := v1) rfl rfl rfl rfl) ?_
  refine xs_callv (s_Ro_enter v0 v1 h) (fun K HC x9 hM hmo hb => xr_callV HC.1 2 5 (av := [av_I v1]) (st := []) (hM (kg K) (cx_l (kx K))) hmo hb rfl rfl wm_Ro_71 wi_Ro_enter ws_Ro_enter wc_Ro_enter rfl wh_Ro_enter (by decide) (by decide) (by decide) (Nat.le_of_ble_eq_true rfl) rfl) (fun x_1 => ?_)
  refine xs_step (fun K HC => xr_iconst HC.1 3 6 (n := (0)) (0 : Int32) rfl rfl rfl) ?_
  refine xs_step (fun K HC => xr_istore_n HC.1 4 7 (n := 2) (ix := 2) (lv' := [(0, av_R 6 (some v0)), (1, av_I v1), (2, av_I (0 : Int32))]) rfl rfl rfl (by decide) rfl) ?_
  refine xs_step (fun K HC => xr_sub (lv' := [(0, av_R 6 (some v0)), (2, av_I (0 : Int32))]) [0, 2] rfl) ?_
  exact t_Ro_goFrom_7 v0 (0 : Int32) x_1
theorem s_Ro_goFrom (v0 : Nat) (v1 : Int32) (h : HP) : ∀ x, f_Ro_goFrom v0 v1 h = some x → hp_mo h x ∧ ∀ g l, xx_M g l y_Ro_goFrom prog_8_method_3_code 4 none 5 [av_R 6 (some v0), av_I v1] h none x :=
  xM_v (tb := tb_Ro_goFrom) (b := false) (by decide +kernel) dt_Ro_goFrom trivial (Nat.le_of_ble_eq_true rfl) (fun hb => by cases hb) (t_Ro_goFrom v0 v1 h)
def tb_Ro_countStates : TBL := [(0, .aload_n 0, 1), (1, .aload_n 1, 1), (2, .putfield 30, 3), (5, .aload_n 0, 1), (6, .getfield 9, 3), (9, .iconst 0, 1), (10, .invokestatic 34, 3), (13, .aload_n 0, 1), (14, .getfield 18, 3), (17, .iconst 0, 1), (18, .invokestatic 34, 3), (21, .aload_n 0, 1), (22, .iconst 0, 1), (23, .putfield 40, 3), (26, .aload_n 0, 1), (27, .iconst 0, 1), (28, .putfield 44, 3), (31, .aload_n 0, 1), (32, .iconst 0, 1), (33, .putfield 47, 3), (36, .aload_n 0, 1), (37, .iconst 0, 1), (38, .putfield 50, 3), (41, .aload_n 0, 1), (42, .iconst 0, 1), (43, .putfield 53, 3), (46, .iconst 0, 1), (47, .istore_n 2, 1), (48, .iload_n 2, 1), (49, .aload_n 0, 1), (50, .getfield 30, 3), (53, .getfield 56, 3), (56, .getfield 62, 3), (59, .if_icmp .ge 23, 3), (62, .aload_n 0, 1), (63, .getfield 9, 3), (66, .iload_n 2, 1), (67, .iaload, 1), (68, .ifCond .ne 8, 3), (71, .aload_n 0, 1), (72, .iload_n 2, 1), (73, .invokevirtual 67, 3), (76, .iinc 2 1, 3), (79, .goto (-31), 3), (82, .aload_n 0, 1), (83, .getfield 53, 3), (86, .ireturn, 1)]
theorem dt_Ro_countStates : ∀ q ∈ tb_Ro_countStates, decode prog_8_method_2_code q.1 = .ok (q.2.1, q.2.2) := by decide +kernel
set_option maxHeartbeats 4000000 in
set_option maxRecDepth 100000 in
theorem t_Ro_countStates_76 (v0 : Nat) (v2 : Int32) (h : HP) : xx_S (xx_D "LampYard$Rounds" tb_Ro_countStates 3 6 (some .int) false) (xx_z2 (fun s : (Int32 × HP) => s.2) xz_i) (fun K => xx_L2 (fun s : (Int32 × HP) => xx_X K 48 [(0, av_R 6 (some v0)), (2, av_I s.1)] [] (s.2)) (xL_i K)) 76 [(0, av_R 6 (some v0)), (2, av_I v2)] [] h (f_Ro_countStates_76 v0 v2 h) := by
  unfold f_Ro_countStates_76
  refine xs_gen (fun v2_16 ev2_16 => ?_)
  refine xs_step (fun K HC => xr_iinc HC.1 42 79 (ix := 2) (j := 1) (n := (1)) (x := v2) v2_16 (lv' := [(0, av_R 6 (some v0)), (2, av_I v2_16)]) rfl (by rw [ev2_16]; rfl) rfl rfl (by decide) rfl) ?_
  refine xs_step (fun K HC => xr_goto HC.1 43 48 rfl (by decide)) ?_
  exact xs_back rfl (fun K q => q)
set_option maxHeartbeats 4000000 in
set_option maxRecDepth 100000 in
theorem t_Ro_countStates_48b (v0 : Nat) (v2 : Int32) (h : HP) : xx_S (xx_D "LampYard$Rounds" tb_Ro_countStates 3 6 (some .int) false) (xx_z2 (fun s : (Int32 × HP) => s.2) xz_i) (fun K => xx_L2 (fun s : (Int32 × HP) => xx_X K 48 [(0, av_R 6 (some v0)), (2, av_I s.1)] [] (s.2)) (xL_i K)) 48 [(0, av_R 6 (some v0)), (2, av_I v2)] [] h (f_Ro_countStates_48b v0 v2 h) := by
  unfold f_Ro_countStates_48b
  refine xs_step (fun K HC => xr_iload_n HC.1 28 49 (n := 2) (ix := 2) (j := 1) (x := v2) rfl rfl rfl rfl) ?_
  refine xs_step (fun K HC => xr_aload_n HC.1 29 50 (n := 0) (ix := 0) (j := 0) (c := 6) (x := v0) rfl rfl rfl rfl) ?_
  refine xs_bind (fun q_11 eq_11 => ?_)
  refine xs_step (fun K HC => xr_getr HC.1 30 53 6 0 9 eq_11 rfl rfl wf_Ro_30 (by decide) fb_6_0 fc_6_0 fd_6_0) ?_
  refine xs_bind (fun q_12 eq_12 => ?_)
  refine xs_step (fun K HC => xr_getr HC.1 31 56 9 1 7 eq_12 rfl rfl wf_Ro_56 (by decide) fb_9_1 fc_9_1 fd_9_1) ?_
  refine xs_step (fun K HC => xr_geti HC.1 32 59 7 0 rfl rfl wf_Ro_62 (by decide) fb_7_0 fc_7_0) ?_
  refine xs_ite (fun K HC => xr_icmp_ge HC.1 33 82 62 rfl (by decide) rfl) ?_ ?_
  · refine xs_step (fun K HC => xr_aload_n HC.1 44 83 (n := 0) (ix := 0) (j := 0) (c := 6) (x := v0) rfl rfl rfl rfl) ?_
    refine xs_step (fun K HC => xr_geti HC.1 45 86 6 11 rfl rfl wf_Ro_53 (by decide) fb_6_11 fc_6_11) ?_
    exact xs_reti 46 rfl rfl (fun K q => q) (fun ty ht => by cases ht; rfl)
  refine xs_step (fun K HC => xr_aload_n HC.1 34 63 (n := 0) (ix := 0) (j := 0) (c := 6) (x := v0) rfl rfl rfl rfl) ?_
  refine xs_bind (fun q_13 eq_13 => ?_)
  refine xs_step (fun K HC => xr_getr HC.1 35 66 6 1 13 eq_13 rfl rfl wf_Ro_9 (by decide) fb_6_1 fc_6_1 fd_6_1) ?_
  refine xs_step (fun K HC => xr_iload_n HC.1 36 67 (n := 2) (ix := 2) (j := 1) (x := v2) rfl rfl rfl rfl) ?_
  refine xs_chk (fun hb_14 => ?_)
  refine xs_step (fun K HC => xr_iald HC.1 37 68 (hp_in_vp hb_14) rfl rfl) ?_
  refine xs_ite (fun K HC a b => xr_if_ne HC.1 38 76 71 rfl (by decide) rfl b a) ?_ ?_
  · refine xs_step (fun K HC => xr_aload_n HC.1 39 72 (n := 0) (ix := 0) (j := 0) (c := 6) (x := v0) rfl rfl rfl rfl) ?_
    refine xs_step (fun K HC => xr_iload_n HC.1 40 73 (n := 2) (ix := 2) (j := 1) (x := v2) rfl rfl rfl rfl) ?_
    refine xs_callv (s_Ro_goFrom v0 v2 h) (fun K HC x9 hM hmo hb => xr_callV HC.1 41 76 (av := [av_I v2]) (st := []) (hM (kg K) (cx_l (kx K))) hmo hb rfl rfl wm_Ro_67 wi_Ro_goFrom ws_Ro_goFrom wc_Ro_goFrom rfl wh_Ro_goFrom (by decide) (by decide) (by decide) (Nat.le_of_ble_eq_true rfl) rfl) (fun x_15 => ?_)
    exact t_Ro_countStates_76 v0 v2 x_15
  exact t_Ro_countStates_76 v0 v2 h
theorem t_Ro_countStates_48 (v0 : Nat) (v2 : Int32) (h : HP) : xx_S (xx_D "LampYard$Rounds" tb_Ro_countStates 3 6 (some .int) false) xz_i (fun K => xL_i K) 48 [(0, av_R 6 (some v0)), (2, av_I v2)] [] h (f_Ro_countStates_48 v0 v2 h) :=
  xs_loop (zf := xz_i) (L := (fun K => xL_i K)) (fun s : (Int32 × HP) => [(0, av_R 6 (some v0)), (2, av_I s.1)]) (fun s : (Int32 × HP) => s.2) (fun s => t_Ro_countStates_48b v0 s.1 s.2) (v2, h)
set_option maxHeartbeats 4000000 in
set_option maxRecDepth 100000 in
theorem t_Ro_countStates (v0 : Nat) (v1 : Nat) (h : HP) : xx_S (xx_D "LampYard$Rounds" tb_Ro_countStates 3 6 (some .int) false) xz_i (fun K => xL_i K) 0 [(0, av_R 6 (some v0)), (1, av_R 9 (some v1))] [] h (f_Ro_countStates v0 v1 h) := by
  unfold f_Ro_countStates
  refine xs_step (fun K HC => xr_aload_n HC.1 0 1 (n := 0) (ix := 0) (j := 0) (c := 6) (x := v0) rfl rfl rfl rfl) ?_
  refine xs_step (fun K HC => xr_aload_n HC.1 1 2 (n := 1) (ix := 1) (j := 1) (c := 9) (x := v1) rfl rfl rfl rfl) ?_
  refine xs_heap (hp_mo_sr _ _ _ _) (fun K HC => xr_putr HC.1 2 5 6 0 9 rfl rfl wf_Ro_30 (by decide) fb_6_0 (Or.inl fn_6_0) fc_6_0 fd_6_0 (by decide)) (fun h_1 => ?_)
  refine xs_step (fun K HC => xr_aload_n HC.1 3 6 (n := 0) (ix := 0) (j := 0) (c := 6) (x := v0) rfl rfl rfl rfl) ?_
  refine xs_bind (fun q_2 eq_2 => ?_)
  refine xs_step (fun K HC => xr_getr HC.1 4 9 6 1 13 eq_2 rfl rfl wf_Ro_9 (by decide) fb_6_1 fc_6_1 fd_6_1) ?_
  refine xs_step (fun K HC => xr_iconst HC.1 5 10 (n := (0)) (0 : Int32) rfl rfl rfl) ?_
  refine xs_callv (s_Ar_fillI q_2 (0 : Int32) h_1) (fun K HC x9 hM hmo hb => xr_callS HC.1 6 13 (av := [av_R 13 (some q_2), av_I (0 : Int32)]) (st := []) (hM (kg K) (cx_l (kx K))) hmo hb rfl rfl wm_Ro_34 wt_Ar_fillI wn_Ar_fillI wc_Ar_fillI wh_Ar_fillI (by decide) (by decide) (Nat.le_of_ble_eq_true rfl) rfl) (fun x_3 => ?_)
  refine xs_step (fun K HC => xr_aload_n HC.1 7 14 (n := 0) (ix := 0) (j := 0) (c := 6) (x := v0) rfl rfl rfl rfl) ?_
  refine xs_bind (fun q_4 eq_4 => ?_)
  refine xs_step (fun K HC => xr_getr HC.1 8 17 6 3 13 eq_4 rfl rfl wf_Ro_18 (by decide) fb_6_3 fc_6_3 fd_6_3) ?_
  refine xs_step (fun K HC => xr_iconst HC.1 9 18 (n := (0)) (0 : Int32) rfl rfl rfl) ?_
  refine xs_callv (s_Ar_fillI q_4 (0 : Int32) x_3) (fun K HC x9 hM hmo hb => xr_callS HC.1 10 21 (av := [av_R 13 (some q_4), av_I (0 : Int32)]) (st := []) (hM (kg K) (cx_l (kx K))) hmo hb rfl rfl wm_Ro_34 wt_Ar_fillI wn_Ar_fillI wc_Ar_fillI wh_Ar_fillI (by decide) (by decide) (Nat.le_of_ble_eq_true rfl) rfl) (fun x_5 => ?_)
  refine xs_step (fun K HC => xr_aload_n HC.1 11 22 (n := 0) (ix := 0) (j := 0) (c := 6) (x := v0) rfl rfl rfl rfl) ?_
  refine xs_step (fun K HC => xr_iconst HC.1 12 23 (n := (0)) (0 : Int32) rfl rfl rfl) ?_
  refine xs_heap (hp_mo_si _ _ _ _) (fun K HC => xr_puti HC.1 13 26 6 7 rfl rfl wf_Ro_40 (by decide) fb_6_7 fn_6_7 fy_6_7) (fun h_6 => ?_)
  refine xs_step (fun K HC => xr_aload_n HC.1 14 27 (n := 0) (ix := 0) (j := 0) (c := 6) (x := v0) rfl rfl rfl rfl) ?_
  refine xs_step (fun K HC => xr_iconst HC.1 15 28 (n := (0)) (0 : Int32) rfl rfl rfl) ?_
  refine xs_heap (hp_mo_si _ _ _ _) (fun K HC => xr_puti HC.1 16 31 6 8 rfl rfl wf_Ro_44 (by decide) fb_6_8 fn_6_8 fy_6_8) (fun h_7 => ?_)
  refine xs_step (fun K HC => xr_aload_n HC.1 17 32 (n := 0) (ix := 0) (j := 0) (c := 6) (x := v0) rfl rfl rfl rfl) ?_
  refine xs_step (fun K HC => xr_iconst HC.1 18 33 (n := (0)) (0 : Int32) rfl rfl rfl) ?_
  refine xs_heap (hp_mo_si _ _ _ _) (fun K HC => xr_puti HC.1 19 36 6 9 rfl rfl wf_Ro_47 (by decide) fb_6_9 fn_6_9 fy_6_9) (fun h_8 => ?_)
  refine xs_step (fun K HC => xr_aload_n HC.1 20 37 (n := 0) (ix := 0) (j := 0) (c := 6) (x := v0) rfl rfl rfl rfl) ?_
  refine xs_step (fun K HC => xr_iconst HC.1 21 38 (n := (0)) (0 : Int32) rfl rfl rfl) ?_
  refine xs_heap (hp_mo_si _ _ _ _) (fun K HC => xr_puti HC.1 22 41 6 10 rfl rfl wf_Ro_50 (by decide) fb_6_10 fn_6_10 fy_6_10) (fun h_9 => ?_)
  refine xs_step (fun K HC => xr_aload_n HC.1 23 42 (n := 0) (ix := 0) (j := 0) (c := 6) (x := v0) rfl rfl rfl rfl) ?_
  refine xs_step (fun K HC => xr_iconst HC.1 24 43 (n := (0)) (0 : Int32) rfl rfl rfl) ?_
  refine xs_heap (hp_mo_si _ _ _ _) (fun K HC => xr_puti HC.1 25 46 6 11 rfl rfl wf_Ro_53 (by decide) fb_6_11 fn_6_11 fy_6_11) (fun h_10 => ?_)
  refine xs_step (fun K HC => xr_iconst HC.1 26 47 (n := (0)) (0 : Int32) rfl rfl rfl) ?_
  refine xs_step (fun K HC => xr_istore_n HC.1 27 48 (n := 2) (ix := 2) (lv' := [(0, av_R 6 (some v0)), (1, av_R 9 (some v1)), (2, av_I (0 : Int32))]) rfl rfl rfl (by decide) rfl) ?_
  refine xs_step (fun K HC => xr_sub (lv' := [(0, av_R 6 (some v0)), (2, av_I (0 : Int32))]) [0, 2] rfl) ?_
  exact t_Ro_countStates_48 v0 (0 : Int32) h_10
theorem s_Ro_countStates (v0 : Nat) (v1 : Nat) (h : HP) : ∀ x, f_Ro_countStates v0 v1 h = some x → hp_mo h x.2 ∧ ∀ g l, xx_M g l y_Ro_countStates prog_8_method_2_code 3 (some .int) 6 [av_R 6 (some v0), av_R 9 (some v1)] h (some (av_I x.1)) x.2 :=
  xM_i (tb := tb_Ro_countStates) (b := false) (by decide +kernel) dt_Ro_countStates (fun _ => trivial) (Nat.le_of_ble_eq_true rfl) (fun hb => by cases hb) (t_Ro_countStates v0 v1 h)
def tb_Sv_statesInRounds : TBL := [(0, .aload_n 0, 1), (1, .getfield 94, 3), (4, .ifnonnull 14, 3), (7, .aload_n 0, 1), (8, .new 98, 3), (11, .dup, 1), (12, .invokespecial 100, 3), (15, .putfield 94, 3), (18, .aload_n 0, 1), (19, .getfield 82, 3), (22, .iconst (-1), 1), (23, .if_icmp .ne 15, 3), (26, .aload_n 0, 1), (27, .aload_n 0, 1), (28, .getfield 94, 3), (31, .aload_n 0, 1), (32, .invokevirtual 101, 3), (35, .putfield 82, 3), (38, .aload_n 0, 1), (39, .getfield 82, 3), (42, .ireturn, 1)]
theorem dt_Sv_statesInRounds : ∀ q ∈ tb_Sv_statesInRounds, decode prog_12_method_4_code q.1 = .ok (q.2.1, q.2.2) := by decide +kernel
set_option maxHeartbeats 4000000 in
set_option maxRecDepth 100000 in
theorem t_Sv_statesInRounds_18 (v0 : Nat) (h : HP) : xx_S (xx_D "LampYard$Survey" tb_Sv_statesInRounds 1 7 (some .int) false) xz_i (fun K => xL_i K) 18 [(0, av_R 9 (some v0))] [] h (f_Sv_statesInRounds_18 v0 h) := by
  unfold f_Sv_statesInRounds_18
  refine xs_step (fun K HC => xr_aload_n HC.1 8 19 (n := 0) (ix := 0) (j := 0) (c := 9) (x := v0) rfl rfl rfl rfl) ?_
  refine xs_step (fun K HC => xr_geti HC.1 9 22 9 15 rfl rfl wf_Sv_82 (by decide) fb_9_15 fc_9_15) ?_
  refine xs_step (fun K HC => xr_iconst HC.1 10 23 (n := (-1)) (-1 : Int32) rfl rfl rfl) ?_
  refine xs_ite (fun K HC a b => xr_icmp_ne HC.1 11 38 26 rfl (by decide) rfl b a) ?_ ?_
  · refine xs_step (fun K HC => xr_aload_n HC.1 12 27 (n := 0) (ix := 0) (j := 0) (c := 9) (x := v0) rfl rfl rfl rfl) ?_
    refine xs_step (fun K HC => xr_aload_n HC.1 13 28 (n := 0) (ix := 0) (j := 0) (c := 9) (x := v0) rfl rfl rfl rfl) ?_
    refine xs_bind (fun q_5 eq_5 => ?_)
    refine xs_step (fun K HC => xr_getr HC.1 14 31 9 14 6 eq_5 rfl rfl wf_Sv_94 (by decide) fb_9_14 fc_9_14 fd_9_14) ?_
    refine xs_step (fun K HC => xr_aload_n HC.1 15 32 (n := 0) (ix := 0) (j := 0) (c := 9) (x := v0) rfl rfl rfl rfl) ?_
    refine xs_calli (s_Ro_countStates q_5 v0 h) (fun K HC x9 hM hmo hb => xr_callV HC.1 16 35 (av := [av_R 9 (some v0)]) (st := [av_R 9 (some v0)]) (hM (kg K) (cx_l (kx K))) hmo hb rfl rfl wm_Sv_101 wi_Ro_countStates ws_Ro_countStates wc_Ro_countStates rfl wh_Ro_countStates (by decide) (by decide) (by decide) (Nat.le_of_ble_eq_true rfl) rfl) (fun x_6 => ?_)
    refine xs_heap (hp_mo_si _ _ _ _) (fun K HC => xr_puti HC.1 17 38 9 15 rfl rfl wf_Sv_82 (by decide) fb_9_15 fn_9_15 fy_9_15) (fun h_7 => ?_)
    refine xs_step (fun K HC => xr_aload_n HC.1 18 39 (n := 0) (ix := 0) (j := 0) (c := 9) (x := v0) rfl rfl rfl rfl) ?_
    refine xs_step (fun K HC => xr_geti HC.1 19 42 9 15 rfl rfl wf_Sv_82 (by decide) fb_9_15 fc_9_15) ?_
    exact xs_reti 20 rfl rfl (fun K q => q) (fun ty ht => by cases ht; rfl)
  refine xs_step (fun K HC => xr_aload_n HC.1 18 39 (n := 0) (ix := 0) (j := 0) (c := 9) (x := v0) rfl rfl rfl rfl) ?_
  refine xs_step (fun K HC => xr_geti HC.1 19 42 9 15 rfl rfl wf_Sv_82 (by decide) fb_9_15 fc_9_15) ?_
  exact xs_reti 20 rfl rfl (fun K q => q) (fun ty ht => by cases ht; rfl)
set_option maxHeartbeats 4000000 in
set_option maxRecDepth 100000 in
theorem t_Sv_statesInRounds (v0 : Nat) (h : HP) : xx_S (xx_D "LampYard$Survey" tb_Sv_statesInRounds 1 7 (some .int) false) xz_i (fun K => xL_i K) 0 [(0, av_R 9 (some v0))] [] h (f_Sv_statesInRounds v0 h) := by
  unfold f_Sv_statesInRounds
  refine xs_step (fun K HC => xr_aload_n HC.1 0 1 (n := 0) (ix := 0) (j := 0) (c := 9) (x := v0) rfl rfl rfl rfl) ?_
  refine xs_step (fun K HC => xr_getq HC.1 1 4 9 14 6 rfl rfl wf_Sv_94 (by decide) fb_9_14 fc_9_14 fd_9_14) ?_
  refine xs_ite (fun K HC a b => xr_ifnonnull HC.1 2 18 7 rfl (by decide) rfl b a) ?_ ?_
  · refine xs_step (fun K HC => xr_aload_n HC.1 3 8 (n := 0) (ix := 0) (j := 0) (c := 9) (x := v0) rfl rfl rfl rfl) ?_
    refine xs_new (fun K HC hb => xr_new HC.1 4 11 6 hb rfl rfl wc_Sv_98 (by decide)) (fun q_1 h_2 => ?_)
    refine xs_step (fun K HC => xr_dup HC.1 5 12 rfl rfl rfl) ?_
    refine xs_callv (s_Ro_new q_1 h_2) (fun K HC x9 hM hmo hb => xr_callI HC.1 6 15 (av := []) (st := [av_R 6 (some q_1), av_R 9 (some v0)]) (hM (kg K) (cx_l (kx K))) hmo hb rfl rfl wm_Sv_100 wi_Ro_new wn_Ro_new wc_Ro_new rfl wh_Ro_new (by decide) (by decide) (Nat.le_of_ble_eq_true rfl) rfl) (fun x_3 => ?_)
    refine xs_heap (hp_mo_sr _ _ _ _) (fun K HC => xr_putr HC.1 7 18 9 14 6 rfl rfl wf_Sv_94 (by decide) fb_9_14 (Or.inl fn_9_14) fc_9_14 fd_9_14 (by decide)) (fun h_4 => ?_)
    exact t_Sv_statesInRounds_18 v0 h_4
  exact t_Sv_statesInRounds_18 v0 h
theorem s_Sv_statesInRounds (v0 : Nat) (h : HP) : ∀ x, f_Sv_statesInRounds v0 h = some x → hp_mo h x.2 ∧ ∀ g l, xx_M g l y_Sv_statesInRounds prog_12_method_4_code 1 (some .int) 7 [av_R 9 (some v0)] h (some (av_I x.1)) x.2 :=
  xM_i (tb := tb_Sv_statesInRounds) (b := false) (by decide +kernel) dt_Sv_statesInRounds (fun _ => trivial) (Nat.le_of_ble_eq_true rfl) (fun hb => by cases hb) (t_Sv_statesInRounds v0 h)
def tb_X_ends : TBL := [(0, .aload_n 0, 1), (1, .invokevirtual 130, 3), (4, .astore_n 1, 1), (5, .aload_n 1, 1), (6, .getfield 134, 3), (9, .ifCond .eq 6, 3), (12, .bipush (-2), 2), (14, .ireturn, 1), (15, .aload_n 1, 1), (16, .invokevirtual 166, 3), (19, .ifCond .ne 7, 3), (22, .iconst 1, 1), (23, .goto 4, 3), (26, .iconst 0, 1), (27, .ireturn, 1)]
theorem dt_X_ends : ∀ q ∈ tb_X_ends, decode prog_1_method_16_code q.1 = .ok (q.2.1, q.2.2) := by decide +kernel
set_option maxHeartbeats 4000000 in
set_option maxRecDepth 100000 in
theorem t_X_ends (v0 : Nat) (h : HP) : xx_S (xx_D "LampYard" tb_X_ends 2 8 (some .int) false) xz_i (fun K => xL_i K) 0 [(0, av_R 10 (some v0))] [] h (f_X_ends v0 h) := by
  unfold f_X_ends
  refine xs_step (fun K HC => xr_aload_n HC.1 0 1 (n := 0) (ix := 0) (j := 0) (c := 10) (x := v0) rfl rfl rfl rfl) ?_
  refine xs_callr 9 (s_X_surveyOfPlan v0 h) (fun K HC x9 hM hmo hb => xr_callV HC.1 1 4 (av := []) (st := []) (hM (kg K) (cx_l (kx K))) hmo hb rfl rfl wm_X_130 wi_X_surveyOfPlan ws_X_surveyOfPlan wc_X_surveyOfPlan rfl wh_X_surveyOfPlan (by decide) (by decide) (by decide) (Nat.le_of_ble_eq_true rfl) rfl) (fun x_1 => ?_)
  refine xs_step (fun K HC => xr_astore_n HC.1 2 5 (n := 1) (ix := 1) (lv' := [(0, av_R 10 (some v0)), (1, av_R 9 (some x_1.1))]) rfl rfl rfl (by decide) rfl) ?_
  refine xs_step (fun K HC => xr_aload_n HC.1 3 6 (n := 1) (ix := 1) (j := 1) (c := 9) (x := x_1.1) rfl rfl rfl rfl) ?_
  refine xs_step (fun K HC => xr_geti HC.1 4 9 9 5 rfl rfl wf_X_134 (by decide) fb_9_5 fc_9_5) ?_
  refine xs_ite (fun K HC => xr_if_eq HC.1 5 15 12 rfl (by decide) rfl) ?_ ?_
  · refine xs_step (fun K HC => xr_aload_n HC.1 8 16 (n := 1) (ix := 1) (j := 1) (c := 9) (x := x_1.1) rfl rfl rfl rfl) ?_
    refine xs_calli (s_Sv_statesInRounds x_1.1 x_1.2) (fun K HC x9 hM hmo hb => xr_callV HC.1 9 19 (av := []) (st := []) (hM (kg K) (cx_l (kx K))) hmo hb rfl rfl wm_X_166 wi_Sv_statesInRounds ws_Sv_statesInRounds wc_Sv_statesInRounds rfl wh_Sv_statesInRounds (by decide) (by decide) (by decide) (Nat.le_of_ble_eq_true rfl) rfl) (fun x_2 => ?_)
    refine xs_ite (fun K HC a b => xr_if_ne HC.1 10 26 22 rfl (by decide) rfl b a) ?_ ?_
    · refine xs_step (fun K HC => xr_iconst HC.1 11 23 (n := (1)) (1 : Int32) rfl rfl rfl) ?_
      refine xs_step (fun K HC => xr_goto HC.1 12 27 rfl (by decide)) ?_
      exact xs_reti 14 rfl rfl (fun K q => q) (fun ty ht => by cases ht; rfl)
    refine xs_step (fun K HC => xr_iconst HC.1 13 27 (n := (0)) (0 : Int32) rfl rfl rfl) ?_
    exact xs_reti 14 rfl rfl (fun K q => q) (fun ty ht => by cases ht; rfl)
  refine xs_step (fun K HC => xr_bipush HC.1 6 14 (n := (-2)) (-2 : Int32) rfl rfl rfl) ?_
  exact xs_reti 7 rfl rfl (fun K q => q) (fun ty ht => by cases ht; rfl)
theorem s_X_ends (v0 : Nat) (h : HP) : ∀ x, f_X_ends v0 h = some x → hp_mo h x.2 ∧ ∀ g l, xx_M g l y_X_ends prog_1_method_16_code 2 (some .int) 8 [av_R 10 (some v0)] h (some (av_I x.1)) x.2 :=
  xM_i (tb := tb_X_ends) (b := false) (by decide +kernel) dt_X_ends (fun _ => trivial) (Nat.le_of_ble_eq_true rfl) (fun hb => by cases hb) (t_X_ends v0 h)
def tb_X_endless : TBL := [(0, .aload_n 0, 1), (1, .invokevirtual 130, 3), (4, .astore_n 1, 1), (5, .aload_n 1, 1), (6, .getfield 134, 3), (9, .ifCond .eq 8, 3), (12, .bipush (-2), 2), (14, .goto 7, 3), (17, .aload_n 1, 1), (18, .invokevirtual 166, 3), (21, .ireturn, 1)]
theorem dt_X_endless : ∀ q ∈ tb_X_endless, decode prog_1_method_17_code q.1 = .ok (q.2.1, q.2.2) := by decide +kernel
set_option maxHeartbeats 4000000 in
set_option maxRecDepth 100000 in
theorem t_X_endless (v0 : Nat) (h : HP) : xx_S (xx_D "LampYard" tb_X_endless 2 8 (some .int) false) xz_i (fun K => xL_i K) 0 [(0, av_R 10 (some v0))] [] h (f_X_endless v0 h) := by
  unfold f_X_endless
  refine xs_step (fun K HC => xr_aload_n HC.1 0 1 (n := 0) (ix := 0) (j := 0) (c := 10) (x := v0) rfl rfl rfl rfl) ?_
  refine xs_callr 9 (s_X_surveyOfPlan v0 h) (fun K HC x9 hM hmo hb => xr_callV HC.1 1 4 (av := []) (st := []) (hM (kg K) (cx_l (kx K))) hmo hb rfl rfl wm_X_130 wi_X_surveyOfPlan ws_X_surveyOfPlan wc_X_surveyOfPlan rfl wh_X_surveyOfPlan (by decide) (by decide) (by decide) (Nat.le_of_ble_eq_true rfl) rfl) (fun x_1 => ?_)
  refine xs_step (fun K HC => xr_astore_n HC.1 2 5 (n := 1) (ix := 1) (lv' := [(0, av_R 10 (some v0)), (1, av_R 9 (some x_1.1))]) rfl rfl rfl (by decide) rfl) ?_
  refine xs_step (fun K HC => xr_aload_n HC.1 3 6 (n := 1) (ix := 1) (j := 1) (c := 9) (x := x_1.1) rfl rfl rfl rfl) ?_
  refine xs_step (fun K HC => xr_geti HC.1 4 9 9 5 rfl rfl wf_X_134 (by decide) fb_9_5 fc_9_5) ?_
  refine xs_ite (fun K HC => xr_if_eq HC.1 5 17 12 rfl (by decide) rfl) ?_ ?_
  · refine xs_step (fun K HC => xr_aload_n HC.1 8 18 (n := 1) (ix := 1) (j := 1) (c := 9) (x := x_1.1) rfl rfl rfl rfl) ?_
    refine xs_calli (s_Sv_statesInRounds x_1.1 x_1.2) (fun K HC x9 hM hmo hb => xr_callV HC.1 9 21 (av := []) (st := []) (hM (kg K) (cx_l (kx K))) hmo hb rfl rfl wm_X_166 wi_Sv_statesInRounds ws_Sv_statesInRounds wc_Sv_statesInRounds rfl wh_Sv_statesInRounds (by decide) (by decide) (by decide) (Nat.le_of_ble_eq_true rfl) rfl) (fun x_2 => ?_)
    exact xs_reti 10 rfl rfl (fun K q => q) (fun ty ht => by cases ht; rfl)
  refine xs_step (fun K HC => xr_bipush HC.1 6 14 (n := (-2)) (-2 : Int32) rfl rfl rfl) ?_
  refine xs_step (fun K HC => xr_goto HC.1 7 21 rfl (by decide)) ?_
  exact xs_reti 10 rfl rfl (fun K q => q) (fun ty ht => by cases ht; rfl)
theorem s_X_endless (v0 : Nat) (h : HP) : ∀ x, f_X_endless v0 h = some x → hp_mo h x.2 ∧ ∀ g l, xx_M g l y_X_endless prog_1_method_17_code 2 (some .int) 8 [av_R 10 (some v0)] h (some (av_I x.1)) x.2 :=
  xM_i (tb := tb_X_endless) (b := false) (by decide +kernel) dt_X_endless (fun _ => trivial) (Nat.le_of_ble_eq_true rfl) (fun hb => by cases hb) (t_X_endless v0 h)
def tb_X_idle : TBL := [(0, .aload_n 0, 1), (1, .invokevirtual 130, 3), (4, .astore_n 1, 1), (5, .aload_n 1, 1), (6, .getfield 134, 3), (9, .ifCond .eq 8, 3), (12, .bipush (-2), 2), (14, .goto 7, 3), (17, .aload_n 1, 1), (18, .getfield 170, 3), (21, .ireturn, 1)]
theorem dt_X_idle : ∀ q ∈ tb_X_idle, decode prog_1_method_18_code q.1 = .ok (q.2.1, q.2.2) := by decide +kernel
set_option maxHeartbeats 4000000 in
set_option maxRecDepth 100000 in
theorem t_X_idle (v0 : Nat) (h : HP) : xx_S (xx_D "LampYard" tb_X_idle 2 8 (some .int) false) xz_i (fun K => xL_i K) 0 [(0, av_R 10 (some v0))] [] h (f_X_idle v0 h) := by
  unfold f_X_idle
  refine xs_step (fun K HC => xr_aload_n HC.1 0 1 (n := 0) (ix := 0) (j := 0) (c := 10) (x := v0) rfl rfl rfl rfl) ?_
  refine xs_callr 9 (s_X_surveyOfPlan v0 h) (fun K HC x9 hM hmo hb => xr_callV HC.1 1 4 (av := []) (st := []) (hM (kg K) (cx_l (kx K))) hmo hb rfl rfl wm_X_130 wi_X_surveyOfPlan ws_X_surveyOfPlan wc_X_surveyOfPlan rfl wh_X_surveyOfPlan (by decide) (by decide) (by decide) (Nat.le_of_ble_eq_true rfl) rfl) (fun x_1 => ?_)
  refine xs_step (fun K HC => xr_astore_n HC.1 2 5 (n := 1) (ix := 1) (lv' := [(0, av_R 10 (some v0)), (1, av_R 9 (some x_1.1))]) rfl rfl rfl (by decide) rfl) ?_
  refine xs_step (fun K HC => xr_aload_n HC.1 3 6 (n := 1) (ix := 1) (j := 1) (c := 9) (x := x_1.1) rfl rfl rfl rfl) ?_
  refine xs_step (fun K HC => xr_geti HC.1 4 9 9 5 rfl rfl wf_X_134 (by decide) fb_9_5 fc_9_5) ?_
  refine xs_ite (fun K HC => xr_if_eq HC.1 5 17 12 rfl (by decide) rfl) ?_ ?_
  · refine xs_step (fun K HC => xr_aload_n HC.1 8 18 (n := 1) (ix := 1) (j := 1) (c := 9) (x := x_1.1) rfl rfl rfl rfl) ?_
    refine xs_step (fun K HC => xr_geti HC.1 9 21 9 11 rfl rfl wf_X_170 (by decide) fb_9_11 fc_9_11) ?_
    exact xs_reti 10 rfl rfl (fun K q => q) (fun ty ht => by cases ht; rfl)
  refine xs_step (fun K HC => xr_bipush HC.1 6 14 (n := (-2)) (-2 : Int32) rfl rfl rfl) ?_
  refine xs_step (fun K HC => xr_goto HC.1 7 21 rfl (by decide)) ?_
  exact xs_reti 10 rfl rfl (fun K q => q) (fun ty ht => by cases ht; rfl)
theorem s_X_idle (v0 : Nat) (h : HP) : ∀ x, f_X_idle v0 h = some x → hp_mo h x.2 ∧ ∀ g l, xx_M g l y_X_idle prog_1_method_18_code 2 (some .int) 8 [av_R 10 (some v0)] h (some (av_I x.1)) x.2 :=
  xM_i (tb := tb_X_idle) (b := false) (by decide +kernel) dt_X_idle (fun _ => trivial) (Nat.le_of_ble_eq_true rfl) (fun hb => by cases hb) (t_X_idle v0 h)
def tb_X_most : TBL := [(0, .aload_n 0, 1), (1, .getfield 23, 3), (4, .iload_n 1, 1), (5, .invokevirtual 80, 3), (8, .ifCond .ne 5, 3), (11, .iconst (-1), 1), (12, .ireturn, 1), (13, .aload_n 0, 1), (14, .invokevirtual 130, 3), (17, .astore_n 2, 1), (18, .aload_n 2, 1), (19, .getfield 134, 3), (22, .ifCond .eq 8, 3), (25, .bipush (-2), 2), (27, .goto 9, 3), (30, .aload_n 2, 1), (31, .getfield 173, 3), (34, .iload_n 1, 1), (35, .iaload, 1), (36, .ireturn, 1)]
theorem dt_X_most : ∀ q ∈ tb_X_most, decode prog_1_method_19_code q.1 = .ok (q.2.1, q.2.2) := by decide +kernel
set_option maxHeartbeats 4000000 in
set_option maxRecDepth 100000 in
theorem t_X_most (v0 : Nat) (v1 : Int32) (h : HP) : xx_S (xx_D "LampYard" tb_X_most 3 8 (some .int) false) xz_i (fun K => xL_i K) 0 [(0, av_R 10 (some v0)), (1, av_I v1)] [] h (f_X_most v0 v1 h) := by
  unfold f_X_most
  refine xs_step (fun K HC => xr_aload_n HC.1 0 1 (n := 0) (ix := 0) (j := 0) (c := 10) (x := v0) rfl rfl rfl rfl) ?_
  refine xs_bind (fun q_1 eq_1 => ?_)
  refine xs_step (fun K HC => xr_getr HC.1 1 4 10 3 4 eq_1 rfl rfl wf_X_23 (by decide) fb_10_3 fc_10_3 fd_10_3) ?_
  refine xs_step (fun K HC => xr_iload_n HC.1 2 5 (n := 1) (ix := 1) (j := 1) (x := v1) rfl rfl rfl rfl) ?_
  refine xs_calli (s_Pl_hasMan q_1 v1 h) (fun K HC x9 hM hmo hb => xr_callV HC.1 3 8 (av := [av_I v1]) (st := []) (hM (kg K) (cx_l (kx K))) hmo hb rfl rfl wm_X_80 wi_Pl_hasMan ws_Pl_hasMan wc_Pl_hasMan rfl wh_Pl_hasMan (by decide) (by decide) (by decide) (Nat.le_of_ble_eq_true rfl) rfl) (fun x_2 => ?_)
  refine xs_ite (fun K HC a b => xr_if_ne HC.1 4 13 11 rfl (by decide) rfl b a) ?_ ?_
  · refine xs_step (fun K HC => xr_iconst HC.1 5 12 (n := (-1)) (-1 : Int32) rfl rfl rfl) ?_
    exact xs_reti 6 rfl rfl (fun K q => q) (fun ty ht => by cases ht; rfl)
  refine xs_step (fun K HC => xr_aload_n HC.1 7 14 (n := 0) (ix := 0) (j := 0) (c := 10) (x := v0) rfl rfl rfl rfl) ?_
  refine xs_callr 9 (s_X_surveyOfPlan v0 x_2.2) (fun K HC x9 hM hmo hb => xr_callV HC.1 8 17 (av := []) (st := []) (hM (kg K) (cx_l (kx K))) hmo hb rfl rfl wm_X_130 wi_X_surveyOfPlan ws_X_surveyOfPlan wc_X_surveyOfPlan rfl wh_X_surveyOfPlan (by decide) (by decide) (by decide) (Nat.le_of_ble_eq_true rfl) rfl) (fun x_3 => ?_)
  refine xs_step (fun K HC => xr_astore_n HC.1 9 18 (n := 2) (ix := 2) (lv' := [(0, av_R 10 (some v0)), (1, av_I v1), (2, av_R 9 (some x_3.1))]) rfl rfl rfl (by decide) rfl) ?_
  refine xs_step (fun K HC => xr_aload_n HC.1 10 19 (n := 2) (ix := 2) (j := 2) (c := 9) (x := x_3.1) rfl rfl rfl rfl) ?_
  refine xs_step (fun K HC => xr_geti HC.1 11 22 9 5 rfl rfl wf_X_134 (by decide) fb_9_5 fc_9_5) ?_
  refine xs_ite (fun K HC => xr_if_eq HC.1 12 30 25 rfl (by decide) rfl) ?_ ?_
  · refine xs_step (fun K HC => xr_aload_n HC.1 15 31 (n := 2) (ix := 2) (j := 2) (c := 9) (x := x_3.1) rfl rfl rfl rfl) ?_
    refine xs_bind (fun q_4 eq_4 => ?_)
    refine xs_step (fun K HC => xr_getr HC.1 16 34 9 3 13 eq_4 rfl rfl wf_X_173 (by decide) fb_9_3 fc_9_3 fd_9_3) ?_
    refine xs_step (fun K HC => xr_iload_n HC.1 17 35 (n := 1) (ix := 1) (j := 1) (x := v1) rfl rfl rfl rfl) ?_
    refine xs_chk (fun hb_5 => ?_)
    refine xs_step (fun K HC => xr_iald HC.1 18 36 (hp_in_vp hb_5) rfl rfl) ?_
    exact xs_reti 19 rfl rfl (fun K q => q) (fun ty ht => by cases ht; rfl)
  refine xs_step (fun K HC => xr_bipush HC.1 13 27 (n := (-2)) (-2 : Int32) rfl rfl rfl) ?_
  refine xs_step (fun K HC => xr_goto HC.1 14 36 rfl (by decide)) ?_
  exact xs_reti 19 rfl rfl (fun K q => q) (fun ty ht => by cases ht; rfl)
theorem s_X_most (v0 : Nat) (v1 : Int32) (h : HP) : ∀ x, f_X_most v0 v1 h = some x → hp_mo h x.2 ∧ ∀ g l, xx_M g l y_X_most prog_1_method_19_code 3 (some .int) 8 [av_R 10 (some v0), av_I v1] h (some (av_I x.1)) x.2 :=
  xM_i (tb := tb_X_most) (b := false) (by decide +kernel) dt_X_most (fun _ => trivial) (Nat.le_of_ble_eq_true rfl) (fun hb => by cases hb) (t_X_most v0 v1 h)
def tb_Fa_new : TBL := [(0, .aload_n 0, 1), (1, .invokespecial 3, 3), (4, .aload_n 0, 1), (5, .iconst 3, 1), (6, .newarray .int, 2), (8, .putfield 11, 3), (11, .aload_n 0, 1), (12, .new 15, 3), (15, .dup, 1), (16, .invokespecial 17, 3), (19, .putfield 18, 3), (22, .aload_n 0, 1), (23, .invokevirtual 22, 3), (26, .return_, 1)]
theorem dt_Fa_new : ∀ q ∈ tb_Fa_new, decode prog_4_method_1_code q.1 = .ok (q.2.1, q.2.2) := by decide +kernel
set_option maxHeartbeats 4000000 in
set_option maxRecDepth 100000 in
theorem t_Fa_new (v0 : Nat) (h : HP) : xx_S (xx_D "LampYard$Faults" tb_Fa_new 1 3 none true) xz_v (fun K => xL_v K) 0 [(0, av_R 2 (some v0))] [] h (f_Fa_new v0 h) := by
  unfold f_Fa_new
  refine xs_step (fun K HC => xr_aload_n HC.1 0 1 (n := 0) (ix := 0) (j := 0) (c := 2) (x := v0) rfl rfl rfl rfl) ?_
  refine xs_step (fun K HC => xr_obj HC.1 1 4 rfl rfl wm_Fa_3 (by decide) (Nat.le_of_ble_eq_true rfl)) ?_
  refine xs_step (fun K HC => xr_aload_n HC.1 2 5 (n := 0) (ix := 0) (j := 0) (c := 2) (x := v0) rfl rfl rfl rfl) ?_
  refine xs_step (fun K HC => xr_iconst HC.1 3 6 (n := (3)) (3 : Int32) rfl rfl rfl) ?_
  refine xs_new (fun K HC hb => xr_newI HC.1 4 8 3 hb rfl rfl (by decide) rfl (Nat.le_of_ble_eq_true rfl)) (fun q_1 h_2 => ?_)
  refine xs_heap (hp_mo_sr _ _ _ _) (fun K HC => xr_putr HC.1 5 11 2 0 13 rfl rfl wf_Fa_11 (by decide) fb_2_0 (Or.inr ⟨fn_2_0, HC.2 rfl, rfl⟩) fc_2_0 fd_2_0 (by decide)) (fun h_3 => ?_)
  refine xs_step (fun K HC => xr_aload_n HC.1 6 12 (n := 0) (ix := 0) (j := 0) (c := 2) (x := v0) rfl rfl rfl rfl) ?_
  refine xs_new (fun K HC hb => xr_new HC.1 7 15 7 hb rfl rfl wc_Fa_15 (by decide)) (fun q_4 h_5 => ?_)
  refine xs_step (fun K HC => xr_dup HC.1 8 16 rfl rfl rfl) ?_
  refine xs_callv (s_Ss_new q_4 h_5) (fun K HC x9 hM hmo hb => xr_callI HC.1 9 19 (av := []) (st := [av_R 7 (some q_4), av_R 2 (some v0)]) (hM (kg K) (cx_l (kx K))) hmo hb rfl rfl wm_Fa_17 wi_Ss_new wn_Ss_new wc_Ss_new rfl wh_Ss_new (by decide) (by decide) (Nat.le_of_ble_eq_true rfl) rfl) (fun x_6 => ?_)
  refine xs_heap (hp_mo_sr _ _ _ _) (fun K HC => xr_putr HC.1 10 22 2 1 7 rfl rfl wf_Fa_18 (by decide) fb_2_1 (Or.inr ⟨fn_2_1, HC.2 rfl, rfl⟩) fc_2_1 fd_2_1 (by decide)) (fun h_7 => ?_)
  refine xs_step (fun K HC => xr_aload_n HC.1 11 23 (n := 0) (ix := 0) (j := 0) (c := 2) (x := v0) rfl rfl rfl rfl) ?_
  refine xs_callv (s_Fa_clear v0 h_7) (fun K HC x9 hM hmo hb => xr_callV HC.1 12 26 (av := []) (st := []) (hM (kg K) (cx_l (kx K))) hmo hb rfl rfl wm_Fa_22 wi_Fa_clear ws_Fa_clear wc_Fa_clear rfl wh_Fa_clear (by decide) (by decide) (by decide) (Nat.le_of_ble_eq_true rfl) rfl) (fun x_8 => ?_)
  exact xs_ret 13 rfl rfl (fun K q => q)
theorem s_Fa_new (v0 : Nat) (h : HP) : ∀ x, f_Fa_new v0 h = some x → hp_mo h x ∧ ∀ g l, xx_M g l y_Fa_new prog_4_method_1_code 1 none 3 [av_R 2 (some v0)] h none x :=
  xM_v (tb := tb_Fa_new) (b := true) (by decide +kernel) dt_Fa_new trivial (Nat.le_of_ble_eq_true rfl) (fun hb => rfl) (t_Fa_new v0 h)
def tb_Fa_putBehind : TBL := [(0, .aload_n 0, 1), (1, .getfield 18, 3), (4, .lload_n 1, 1), (5, .invokevirtual 92, 3), (8, .iconst (-1), 1), (9, .if_icmp .ne 8, 3), (12, .aload_n 0, 1), (13, .iconst 1, 1), (14, .putfield 47, 3), (17, .return_, 1)]
theorem dt_Fa_putBehind : ∀ q ∈ tb_Fa_putBehind, decode prog_4_method_6_code q.1 = .ok (q.2.1, q.2.2) := by decide +kernel
set_option maxHeartbeats 4000000 in
set_option maxRecDepth 100000 in
theorem t_Fa_putBehind (v0 : Nat) (v1 : Int64) (h : HP) : xx_S (xx_D "LampYard$Faults" tb_Fa_putBehind 3 3 none false) xz_v (fun K => xL_v K) 0 [(0, av_R 2 (some v0)), (1, av_L v1)] [] h (f_Fa_putBehind v0 v1 h) := by
  unfold f_Fa_putBehind
  refine xs_step (fun K HC => xr_aload_n HC.1 0 1 (n := 0) (ix := 0) (j := 0) (c := 2) (x := v0) rfl rfl rfl rfl) ?_
  refine xs_bind (fun q_1 eq_1 => ?_)
  refine xs_step (fun K HC => xr_getr HC.1 1 4 2 1 7 eq_1 rfl rfl wf_Fa_18 (by decide) fb_2_1 fc_2_1 fd_2_1) ?_
  refine xs_step (fun K HC => xr_lload_n HC.1 2 5 (n := 1) (ix := 1) (j := 1) (x := v1) rfl rfl rfl rfl) ?_
  refine xs_calli (s_Ss_numberOf q_1 v1 h) (fun K HC x9 hM hmo hb => xr_callV HC.1 3 8 (av := [av_L v1]) (st := []) (hM (kg K) (cx_l (kx K))) hmo hb rfl rfl wm_Fa_92 wi_Ss_numberOf ws_Ss_numberOf wc_Ss_numberOf rfl wh_Ss_numberOf (by decide) (by decide) (by decide) (Nat.le_of_ble_eq_true rfl) rfl) (fun x_2 => ?_)
  refine xs_step (fun K HC => xr_iconst HC.1 4 9 (n := (-1)) (-1 : Int32) rfl rfl rfl) ?_
  refine xs_ite (fun K HC a b => xr_icmp_ne HC.1 5 17 12 rfl (by decide) rfl b a) ?_ ?_
  · refine xs_step (fun K HC => xr_aload_n HC.1 6 13 (n := 0) (ix := 0) (j := 0) (c := 2) (x := v0) rfl rfl rfl rfl) ?_
    refine xs_step (fun K HC => xr_iconst HC.1 7 14 (n := (1)) (1 : Int32) rfl rfl rfl) ?_
    refine xs_heap (hp_mo_si _ _ _ _) (fun K HC => xr_putz HC.1 8 17 2 2 (Or.inr rfl) rfl rfl wf_Fa_47 (by decide) fb_2_2 fn_2_2 fy_2_2) (fun h_3 => ?_)
    exact xs_ret 9 rfl rfl (fun K q => q)
  exact xs_ret 9 rfl rfl (fun K q => q)
theorem s_Fa_putBehind (v0 : Nat) (v1 : Int64) (h : HP) : ∀ x, f_Fa_putBehind v0 v1 h = some x → hp_mo h x ∧ ∀ g l, xx_M g l y_Fa_putBehind prog_4_method_6_code 3 none 3 [av_R 2 (some v0), av_L v1] h none x :=
  xM_v (tb := tb_Fa_putBehind) (b := false) (by decide +kernel) dt_Fa_putBehind trivial (Nat.le_of_ble_eq_true rfl) (fun hb => by cases hb) (t_Fa_putBehind v0 v1 h)
