def tb_M_readRule : TBL := [(0, .aload_n 0, 1), (1, .invokevirtual 277, 3), (4, .aload_n 0, 1), (5, .invokevirtual 342, 3), (8, .ifCond .ne 11, 3), (11, .aload_n 0, 1), (12, .iconst 2, 1), (13, .invokevirtual 274, 3), (16, .goto 19, 3), (19, .aload_n 0, 1), (20, .aload_n 0, 1), (21, .getfield 207, 3), (24, .invokevirtual 345, 3), (27, .ifCond .ge 8, 3), (30, .aload_n 0, 1), (31, .iconst 5, 1), (32, .invokevirtual 274, 3), (35, .aload_n 0, 1), (36, .getfield 227, 3), (39, .ifCond .le 4, 3), (42, .return_, 1), (43, .aload_n 0, 1), (44, .getfield 27, 3), (47, .aload_n 0, 1), (48, .getfield 327, 3), (51, .aload_n 0, 1), (52, .aload_n 0, 1), (53, .getfield 207, 3), (56, .invokevirtual 345, 3), (59, .iastore, 1), (60, .aload_n 0, 1), (61, .invokevirtual 277, 3), (64, .aload_n 0, 1), (65, .ldc2_w 252, 3), (68, .invokevirtual 280, 3), (71, .aload_n 0, 1), (72, .iconst 0, 1), (73, .invokevirtual 356, 3), (76, .aload_n 0, 1), (77, .ldc2_w 254, 3), (80, .invokevirtual 280, 3), (83, .aload_n 0, 1), (84, .iconst 1, 1), (85, .invokevirtual 356, 3), (88, .aload_n 0, 1), (89, .ldc2_w 256, 3), (92, .invokevirtual 280, 3), (95, .aload_n 0, 1), (96, .iconst 2, 1), (97, .invokevirtual 356, 3), (100, .aload_n 0, 1), (101, .getfield 227, 3), (104, .ifCond .le 4, 3), (107, .return_, 1), (108, .aload_n 0, 1), (109, .getfield 39, 3), (112, .aload_n 0, 1), (113, .getfield 327, 3), (116, .aload_n 0, 1), (117, .ldc2_w 258, 3), (120, .invokevirtual 270, 3), (123, .bastore, 1), (124, .aload_n 0, 1), (125, .ldc2_w 258, 3), (128, .invokevirtual 270, 3), (131, .ifCond .eq 7, 3), (134, .aload_n 0, 1), (135, .invokevirtual 277, 3), (138, .aload_n 0, 1), (139, .dup, 1), (140, .getfield 327, 3), (143, .iconst 1, 1), (144, .iadd, 1), (145, .putfield 327, 3), (148, .aload_n 0, 1), (149, .getfield 55, 3), (152, .iconst 3, 1), (153, .aload_n 0, 1), (154, .getfield 327, 3), (157, .imul, 1), (158, .aload_n 0, 1), (159, .getfield 288, 3), (162, .iastore, 1), (163, .return_, 1)]
theorem dt_M_readRule : ∀ q ∈ tb_M_readRule, decode prog_14_method_30_code q.1 = .ok (q.2.1, q.2.2) := by decide +kernel
set_option maxHeartbeats 4000000 in
set_option maxRecDepth 100000 in
theorem t_M_readRule_138 (v0 : Nat) (h : HP) : xx_S (xx_D "LampYardModel" tb_M_readRule 1 6 none false) xz_v (fun K => xL_v K) 138 [(0, av_R 11 (some v0))] [] h (f_M_readRule_138 v0 h) := by
  unfold f_M_readRule_138
  refine xs_step (fun K HC => xr_aload_n HC.1 68 139 (n := 0) (ix := 0) (j := 0) (c := 11) (x := v0) rfl rfl rfl rfl) ?_
  refine xs_step (fun K HC => xr_dup HC.1 69 140 rfl rfl rfl) ?_
  refine xs_step (fun K HC => xr_geti HC.1 70 143 11 26 rfl rfl wf_M_327 (by decide) fb_11_26 fc_11_26) ?_
  refine xs_step (fun K HC => xr_iconst HC.1 71 144 (n := (1)) (1 : Int32) rfl rfl rfl) ?_
  refine xs_step (fun K HC => xr_iadd HC.1 72 145 rfl rfl) ?_
  refine xs_heap (hp_mo_si _ _ _ _) (fun K HC => xr_puti HC.1 73 148 11 26 rfl rfl wf_M_327 (by decide) fb_11_26 fn_11_26 fy_11_26) (fun h_20 => ?_)
  refine xs_step (fun K HC => xr_aload_n HC.1 74 149 (n := 0) (ix := 0) (j := 0) (c := 11) (x := v0) rfl rfl rfl rfl) ?_
  refine xs_bind (fun q_21 eq_21 => ?_)
  refine xs_step (fun K HC => xr_getr HC.1 75 152 11 38 13 eq_21 rfl rfl wf_M_55 (by decide) fb_11_38 fc_11_38 fd_11_38) ?_
  refine xs_step (fun K HC => xr_iconst HC.1 76 153 (n := (3)) (3 : Int32) rfl rfl rfl) ?_
  refine xs_step (fun K HC => xr_aload_n HC.1 77 154 (n := 0) (ix := 0) (j := 0) (c := 11) (x := v0) rfl rfl rfl rfl) ?_
  refine xs_step (fun K HC => xr_geti HC.1 78 157 11 26 rfl rfl wf_M_327 (by decide) fb_11_26 fc_11_26) ?_
  refine xs_step (fun K HC => xr_imul HC.1 79 158 rfl rfl) ?_
  refine xs_step (fun K HC => xr_aload_n HC.1 80 159 (n := 0) (ix := 0) (j := 0) (c := 11) (x := v0) rfl rfl rfl rfl) ?_
  refine xs_step (fun K HC => xr_geti HC.1 81 162 11 44 rfl rfl wf_M_288 (by decide) fb_11_44 fc_11_44) ?_
  refine xs_chk (fun hb_22 => ?_)
  refine xs_heap (hp_mo_si _ _ _ _) (fun K HC => xr_iast HC.1 82 163 (hp_in_vp hb_22) rfl rfl) (fun h_23 => ?_)
  exact xs_ret 83 rfl rfl (fun K q => q)
set_option maxHeartbeats 4000000 in
set_option maxRecDepth 100000 in
theorem t_M_readRule_35 (v0 : Nat) (h : HP) : xx_S (xx_D "LampYardModel" tb_M_readRule 1 6 none false) xz_v (fun K => xL_v K) 35 [(0, av_R 11 (some v0))] [] h (f_M_readRule_35 v0 h) := by
  unfold f_M_readRule_35
  refine xs_step (fun K HC => xr_aload_n HC.1 17 36 (n := 0) (ix := 0) (j := 0) (c := 11) (x := v0) rfl rfl rfl rfl) ?_
  refine xs_step (fun K HC => xr_geti HC.1 18 39 11 2 rfl rfl wf_M_227 (by decide) fb_11_2 fc_11_2) ?_
  refine xs_ite (fun K HC => xr_if_le HC.1 19 43 42 rfl (by decide) rfl) ?_ ?_
  · refine xs_step (fun K HC => xr_aload_n HC.1 21 44 (n := 0) (ix := 0) (j := 0) (c := 11) (x := v0) rfl rfl rfl rfl) ?_
    refine xs_bind (fun q_4 eq_4 => ?_)
    refine xs_step (fun K HC => xr_getr HC.1 22 47 11 13 13 eq_4 rfl rfl wf_M_27 (by decide) fb_11_13 fc_11_13 fd_11_13) ?_
    refine xs_step (fun K HC => xr_aload_n HC.1 23 48 (n := 0) (ix := 0) (j := 0) (c := 11) (x := v0) rfl rfl rfl rfl) ?_
    refine xs_step (fun K HC => xr_geti HC.1 24 51 11 26 rfl rfl wf_M_327 (by decide) fb_11_26 fc_11_26) ?_
    refine xs_step (fun K HC => xr_aload_n HC.1 25 52 (n := 0) (ix := 0) (j := 0) (c := 11) (x := v0) rfl rfl rfl rfl) ?_
    refine xs_step (fun K HC => xr_aload_n HC.1 26 53 (n := 0) (ix := 0) (j := 0) (c := 11) (x := v0) rfl rfl rfl rfl) ?_
    refine xs_step (fun K HC => xr_getl HC.1 27 56 11 9 rfl rfl wf_M_207 (by decide) fb_11_9 fc_11_9) ?_
    refine xs_calli (s_M_roleNumber v0 (hp_l h v0 9) h) (fun K HC x9 hM hmo hb => xr_callV HC.1 28 59 (av := [av_L (hp_l h v0 9)]) (st := [av_I (hp_i h v0 26), av_R 13 (some q_4)]) (hM (kg K) (cx_l (kx K))) hmo hb rfl rfl wm_M_345 wi_M_roleNumber ws_M_roleNumber wc_M_roleNumber rfl wh_M_roleNumber (by decide) (by decide) (by decide) (Nat.le_of_ble_eq_true rfl) rfl) (fun x_5 => ?_)
    refine xs_chk (fun hb_6 => ?_)
    refine xs_heap (hp_mo_si _ _ _ _) (fun K HC => xr_iast HC.1 29 60 (hp_in_vp hb_6) rfl rfl) (fun h_7 => ?_)
    refine xs_step (fun K HC => xr_aload_n HC.1 30 61 (n := 0) (ix := 0) (j := 0) (c := 11) (x := v0) rfl rfl rfl rfl) ?_
    refine xs_callv (s_M_token v0 h_7) (fun K HC x9 hM hmo hb => xr_callV HC.1 31 64 (av := []) (st := []) (hM (kg K) (cx_l (kx K))) hmo hb rfl rfl wm_M_277 wi_M_token ws_M_token wc_M_token rfl wh_M_token (by decide) (by decide) (by decide) (Nat.le_of_ble_eq_true rfl) rfl) (fun x_8 => ?_)
    refine xs_step (fun K HC => xr_aload_n HC.1 32 65 (n := 0) (ix := 0) (j := 0) (c := 11) (x := v0) rfl rfl rfl rfl) ?_
    refine xs_step (fun K HC => xr_ldc2 HC.1 33 68 wk_M_252 rfl rfl) ?_
    refine xs_callv (s_M_want v0 (2003330414 : Int64) x_8) (fun K HC x9 hM hmo hb => xr_callV HC.1 34 71 (av := [av_L (2003330414 : Int64)]) (st := []) (hM (kg K) (cx_l (kx K))) hmo hb rfl rfl wm_M_280 wi_M_want ws_M_want wc_M_want rfl wh_M_want (by decide) (by decide) (by decide) (Nat.le_of_ble_eq_true rfl) rfl) (fun x_9 => ?_)
    refine xs_step (fun K HC => xr_aload_n HC.1 35 72 (n := 0) (ix := 0) (j := 0) (c := 11) (x := v0) rfl rfl rfl rfl) ?_
    refine xs_step (fun K HC => xr_iconst HC.1 36 73 (n := (0)) (0 : Int32) rfl rfl rfl) ?_
    refine xs_callv (s_M_readPart v0 (0 : Int32) x_9) (fun K HC x9 hM hmo hb => xr_callV HC.1 37 76 (av := [av_I (0 : Int32)]) (st := []) (hM (kg K) (cx_l (kx K))) hmo hb rfl rfl wm_M_356 wi_M_readPart ws_M_readPart wc_M_readPart rfl wh_M_readPart (by decide) (by decide) (by decide) (Nat.le_of_ble_eq_true rfl) rfl) (fun x_10 => ?_)
    refine xs_step (fun K HC => xr_aload_n HC.1 38 77 (n := 0) (ix := 0) (j := 0) (c := 11) (x := v0) rfl rfl rfl rfl) ?_
    refine xs_step (fun K HC => xr_ldc2 HC.1 39 80 wk_M_254 rfl rfl) ?_
    refine xs_callv (s_M_want v0 (7562612 : Int64) x_10) (fun K HC x9 hM hmo hb => xr_callV HC.1 40 83 (av := [av_L (7562612 : Int64)]) (st := []) (hM (kg K) (cx_l (kx K))) hmo hb rfl rfl wm_M_280 wi_M_want ws_M_want wc_M_want rfl wh_M_want (by decide) (by decide) (by decide) (Nat.le_of_ble_eq_true rfl) rfl) (fun x_11 => ?_)
    refine xs_step (fun K HC => xr_aload_n HC.1 41 84 (n := 0) (ix := 0) (j := 0) (c := 11) (x := v0) rfl rfl rfl rfl) ?_
    refine xs_step (fun K HC => xr_iconst HC.1 42 85 (n := (1)) (1 : Int32) rfl rfl rfl) ?_
    refine xs_callv (s_M_readPart v0 (1 : Int32) x_11) (fun K HC x9 hM hmo hb => xr_callV HC.1 43 88 (av := [av_I (1 : Int32)]) (st := []) (hM (kg K) (cx_l (kx K))) hmo hb rfl rfl wm_M_356 wi_M_readPart ws_M_readPart wc_M_readPart rfl wh_M_readPart (by decide) (by decide) (by decide) (Nat.le_of_ble_eq_true rfl) rfl) (fun x_12 => ?_)
    refine xs_step (fun K HC => xr_aload_n HC.1 44 89 (n := 0) (ix := 0) (j := 0) (c := 11) (x := v0) rfl rfl rfl rfl) ?_
    refine xs_step (fun K HC => xr_ldc2 HC.1 45 92 wk_M_256 rfl rfl) ?_
    refine xs_callv (s_M_want v0 (1752132708 : Int64) x_12) (fun K HC x9 hM hmo hb => xr_callV HC.1 46 95 (av := [av_L (1752132708 : Int64)]) (st := []) (hM (kg K) (cx_l (kx K))) hmo hb rfl rfl wm_M_280 wi_M_want ws_M_want wc_M_want rfl wh_M_want (by decide) (by decide) (by decide) (Nat.le_of_ble_eq_true rfl) rfl) (fun x_13 => ?_)
    refine xs_step (fun K HC => xr_aload_n HC.1 47 96 (n := 0) (ix := 0) (j := 0) (c := 11) (x := v0) rfl rfl rfl rfl) ?_
    refine xs_step (fun K HC => xr_iconst HC.1 48 97 (n := (2)) (2 : Int32) rfl rfl rfl) ?_
    refine xs_callv (s_M_readPart v0 (2 : Int32) x_13) (fun K HC x9 hM hmo hb => xr_callV HC.1 49 100 (av := [av_I (2 : Int32)]) (st := []) (hM (kg K) (cx_l (kx K))) hmo hb rfl rfl wm_M_356 wi_M_readPart ws_M_readPart wc_M_readPart rfl wh_M_readPart (by decide) (by decide) (by decide) (Nat.le_of_ble_eq_true rfl) rfl) (fun x_14 => ?_)
    refine xs_step (fun K HC => xr_aload_n HC.1 50 101 (n := 0) (ix := 0) (j := 0) (c := 11) (x := v0) rfl rfl rfl rfl) ?_
    refine xs_step (fun K HC => xr_geti HC.1 51 104 11 2 rfl rfl wf_M_227 (by decide) fb_11_2 fc_11_2) ?_
    refine xs_ite (fun K HC => xr_if_le HC.1 52 108 107 rfl (by decide) rfl) ?_ ?_
    · refine xs_step (fun K HC => xr_aload_n HC.1 54 109 (n := 0) (ix := 0) (j := 0) (c := 11) (x := v0) rfl rfl rfl rfl) ?_
      refine xs_bind (fun q_15 eq_15 => ?_)
      refine xs_step (fun K HC => xr_getr HC.1 55 112 11 17 15 eq_15 rfl rfl wf_M_39 (by decide) fb_11_17 fc_11_17 fd_11_17) ?_
      refine xs_step (fun K HC => xr_aload_n HC.1 56 113 (n := 0) (ix := 0) (j := 0) (c := 11) (x := v0) rfl rfl rfl rfl) ?_
      refine xs_step (fun K HC => xr_geti HC.1 57 116 11 26 rfl rfl wf_M_327 (by decide) fb_11_26 fc_11_26) ?_
      refine xs_step (fun K HC => xr_aload_n HC.1 58 117 (n := 0) (ix := 0) (j := 0) (c := 11) (x := v0) rfl rfl rfl rfl) ?_
      refine xs_step (fun K HC => xr_ldc2 HC.1 59 120 wk_M_258 rfl rfl) ?_
      refine xs_calli (s_M_isWord v0 (7561593 : Int64) x_14) (fun K HC x9 hM hmo hb => xr_callV HC.1 60 123 (av := [av_L (7561593 : Int64)]) (st := [av_I (hp_i x_14 v0 26), av_R 15 (some q_15)]) (hM (kg K) (cx_l (kx K))) hmo hb rfl rfl wm_M_270 wi_M_isWord ws_M_isWord wc_M_isWord rfl wh_M_isWord (by decide) (by decide) (by decide) (Nat.le_of_ble_eq_true rfl) rfl) (fun x_16 => ?_)
      refine xs_chk (fun hb_17 => ?_)
      refine xs_heap (hp_mo_si _ _ _ _) (fun K HC => xr_zast HC.1 61 124 (hp_in_vp hb_17) rfl rfl) (fun h_18 => ?_)
      refine xs_step (fun K HC => xr_aload_n HC.1 62 125 (n := 0) (ix := 0) (j := 0) (c := 11) (x := v0) rfl rfl rfl rfl) ?_
      refine xs_step (fun K HC => xr_ldc2 HC.1 63 128 wk_M_258 rfl rfl) ?_
      refine xs_calli (s_M_isWord v0 (7561593 : Int64) h_18) (fun K HC x9 hM hmo hb => xr_callV HC.1 64 131 (av := [av_L (7561593 : Int64)]) (st := []) (hM (kg K) (cx_l (kx K))) hmo hb rfl rfl wm_M_270 wi_M_isWord ws_M_isWord wc_M_isWord rfl wh_M_isWord (by decide) (by decide) (by decide) (Nat.le_of_ble_eq_true rfl) rfl) (fun x_19 => ?_)
      refine xs_ite (fun K HC => xr_if_eq HC.1 65 138 134 rfl (by decide) rfl) ?_ ?_
      · exact t_M_readRule_138 v0 x_19.2
      refine xs_step (fun K HC => xr_aload_n HC.1 66 135 (n := 0) (ix := 0) (j := 0) (c := 11) (x := v0) rfl rfl rfl rfl) ?_
      refine xs_callv (s_M_token v0 x_19.2) (fun K HC x9 hM hmo hb => xr_callV HC.1 67 138 (av := []) (st := []) (hM (kg K) (cx_l (kx K))) hmo hb rfl rfl wm_M_277 wi_M_token ws_M_token wc_M_token rfl wh_M_token (by decide) (by decide) (by decide) (Nat.le_of_ble_eq_true rfl) rfl) (fun x_24 => ?_)
      exact t_M_readRule_138 v0 x_24
    exact xs_ret 53 rfl rfl (fun K q => q)
  exact xs_ret 20 rfl rfl (fun K q => q)
set_option maxHeartbeats 4000000 in
set_option maxRecDepth 100000 in
theorem t_M_readRule (v0 : Nat) (h : HP) : xx_S (xx_D "LampYardModel" tb_M_readRule 1 6 none false) xz_v (fun K => xL_v K) 0 [(0, av_R 11 (some v0))] [] h (f_M_readRule v0 h) := by
  unfold f_M_readRule
  refine xs_step (fun K HC => xr_aload_n HC.1 0 1 (n := 0) (ix := 0) (j := 0) (c := 11) (x := v0) rfl rfl rfl rfl) ?_
  refine xs_callv (s_M_token v0 h) (fun K HC x9 hM hmo hb => xr_callV HC.1 1 4 (av := []) (st := []) (hM (kg K) (cx_l (kx K))) hmo hb rfl rfl wm_M_277 wi_M_token ws_M_token wc_M_token rfl wh_M_token (by decide) (by decide) (by decide) (Nat.le_of_ble_eq_true rfl) rfl) (fun x_1 => ?_)
  refine xs_step (fun K HC => xr_aload_n HC.1 2 5 (n := 0) (ix := 0) (j := 0) (c := 11) (x := v0) rfl rfl rfl rfl) ?_
  refine xs_calli (s_M_isName v0 x_1) (fun K HC x9 hM hmo hb => xr_callV HC.1 3 8 (av := []) (st := []) (hM (kg K) (cx_l (kx K))) hmo hb rfl rfl wm_M_342 wi_M_isName ws_M_isName wc_M_isName rfl wh_M_isName (by decide) (by decide) (by decide) (Nat.le_of_ble_eq_true rfl) rfl) (fun x_2 => ?_)
  refine xs_ite (fun K HC a b => xr_if_ne HC.1 4 19 11 rfl (by decide) rfl b a) ?_ ?_
  · refine xs_step (fun K HC => xr_aload_n HC.1 5 12 (n := 0) (ix := 0) (j := 0) (c := 11) (x := v0) rfl rfl rfl rfl) ?_
    refine xs_step (fun K HC => xr_iconst HC.1 6 13 (n := (2)) (2 : Int32) rfl rfl rfl) ?_
    refine xs_callv (s_M_wrong v0 (2 : Int32) x_2.2) (fun K HC x9 hM hmo hb => xr_callV HC.1 7 16 (av := [av_I (2 : Int32)]) (st := []) (hM (kg K) (cx_l (kx K))) hmo hb rfl rfl wm_M_274 wi_M_wrong ws_M_wrong wc_M_wrong rfl wh_M_wrong (by decide) (by decide) (by decide) (Nat.le_of_ble_eq_true rfl) rfl) (fun x_3 => ?_)
    refine xs_step (fun K HC => xr_goto HC.1 8 35 rfl (by decide)) ?_
    exact t_M_readRule_35 v0 x_3
  refine xs_step (fun K HC => xr_aload_n HC.1 9 20 (n := 0) (ix := 0) (j := 0) (c := 11) (x := v0) rfl rfl rfl rfl) ?_
  refine xs_step (fun K HC => xr_aload_n HC.1 10 21 (n := 0) (ix := 0) (j := 0) (c := 11) (x := v0) rfl rfl rfl rfl) ?_
  refine xs_step (fun K HC => xr_getl HC.1 11 24 11 9 rfl rfl wf_M_207 (by decide) fb_11_9 fc_11_9) ?_
  refine xs_calli (s_M_roleNumber v0 (hp_l x_2.2 v0 9) x_2.2) (fun K HC x9 hM hmo hb => xr_callV HC.1 12 27 (av := [av_L (hp_l x_2.2 v0 9)]) (st := []) (hM (kg K) (cx_l (kx K))) hmo hb rfl rfl wm_M_345 wi_M_roleNumber ws_M_roleNumber wc_M_roleNumber rfl wh_M_roleNumber (by decide) (by decide) (by decide) (Nat.le_of_ble_eq_true rfl) rfl) (fun x_25 => ?_)
  refine xs_ite (fun K HC => xr_if_ge HC.1 13 35 30 rfl (by decide) rfl) ?_ ?_
  · exact t_M_readRule_35 v0 x_25.2
  refine xs_step (fun K HC => xr_aload_n HC.1 14 31 (n := 0) (ix := 0) (j := 0) (c := 11) (x := v0) rfl rfl rfl rfl) ?_
  refine xs_step (fun K HC => xr_iconst HC.1 15 32 (n := (5)) (5 : Int32) rfl rfl rfl) ?_
  refine xs_callv (s_M_wrong v0 (5 : Int32) x_25.2) (fun K HC x9 hM hmo hb => xr_callV HC.1 16 35 (av := [av_I (5 : Int32)]) (st := []) (hM (kg K) (cx_l (kx K))) hmo hb rfl rfl wm_M_274 wi_M_wrong ws_M_wrong wc_M_wrong rfl wh_M_wrong (by decide) (by decide) (by decide) (Nat.le_of_ble_eq_true rfl) rfl) (fun x_26 => ?_)
  exact t_M_readRule_35 v0 x_26
theorem s_M_readRule (v0 : Nat) (h : HP) : ∀ x, f_M_readRule v0 h = some x → hp_mo h x ∧ ∀ g l, xx_M g l y_M_readRule prog_14_method_30_code 1 none 6 [av_R 11 (some v0)] h none x :=
  xM_v (tb := tb_M_readRule) (b := false) (by decide +kernel) dt_M_readRule trivial (Nat.le_of_ble_eq_true rfl) (fun hb => by cases hb) (t_M_readRule v0 h)
def tb_M_readStart : TBL := [(0, .aload_n 0, 1), (1, .invokevirtual 277, 3), (4, .aload_n 0, 1), (5, .ldc2_w 238, 3), (8, .invokevirtual 270, 3), (11, .ifCond .ne 28, 3), (14, .aload_n 0, 1), (15, .ldc2_w 240, 3), (18, .invokevirtual 270, 3), (21, .ifCond .ne 18, 3), (24, .aload_n 0, 1), (25, .ldc2_w 242, 3), (28, .invokevirtual 270, 3), (31, .ifCond .ne 8, 3), (34, .aload_n 0, 1), (35, .iconst 2, 1), (36, .invokevirtual 274, 3), (39, .aload_n 0, 1), (40, .aload_n 0, 1), (41, .ldc2_w 240, 3), (44, .invokevirtual 270, 3), (47, .ifCond .eq 7, 3), (50, .iconst 1, 1), (51, .goto 18, 3), (54, .aload_n 0, 1), (55, .ldc2_w 242, 3), (58, .invokevirtual 270, 3), (61, .ifCond .eq 7, 3), (64, .iconst 2, 1), (65, .goto 4, 3), (68, .iconst 0, 1), (69, .putfield 359, 3), (72, .aload_n 0, 1), (73, .getfield 227, 3), (76, .ifCond .ne 7, 3), (79, .aload_n 0, 1), (80, .invokevirtual 277, 3), (83, .return_, 1)]
theorem dt_M_readStart : ∀ q ∈ tb_M_readStart, decode prog_14_method_31_code q.1 = .ok (q.2.1, q.2.2) := by decide +kernel
set_option maxHeartbeats 4000000 in
set_option maxRecDepth 100000 in
theorem t_M_readStart_69 (v0 : Nat) (s0 : Int32) (s1 : Nat) (h : HP) : xx_S (xx_D "LampYardModel" tb_M_readStart 1 3 none false) xz_v (fun K => xL_v K) 69 [(0, av_R 11 (some v0))] [av_I s0, av_R 11 (some s1)] h (f_M_readStart_69 v0 s0 s1 h) := by
  unfold f_M_readStart_69
  refine xs_heap (hp_mo_si _ _ _ _) (fun K HC => xr_puti HC.1 31 72 11 23 rfl rfl wf_M_359 (by decide) fb_11_23 fn_11_23 fy_11_23) (fun h_8 => ?_)
  refine xs_step (fun K HC => xr_aload_n HC.1 32 73 (n := 0) (ix := 0) (j := 0) (c := 11) (x := v0) rfl rfl rfl rfl) ?_
  refine xs_step (fun K HC => xr_geti HC.1 33 76 11 2 rfl rfl wf_M_227 (by decide) fb_11_2 fc_11_2) ?_
  refine xs_ite (fun K HC a b => xr_if_ne HC.1 34 83 79 rfl (by decide) rfl b a) ?_ ?_
  · refine xs_step (fun K HC => xr_aload_n HC.1 35 80 (n := 0) (ix := 0) (j := 0) (c := 11) (x := v0) rfl rfl rfl rfl) ?_
    refine xs_callv (s_M_token v0 h_8) (fun K HC x9 hM hmo hb => xr_callV HC.1 36 83 (av := []) (st := []) (hM (kg K) (cx_l (kx K))) hmo hb rfl rfl wm_M_277 wi_M_token ws_M_token wc_M_token rfl wh_M_token (by decide) (by decide) (by decide) (Nat.le_of_ble_eq_true rfl) rfl) (fun x_9 => ?_)
    exact xs_ret 37 rfl rfl (fun K q => q)
  exact xs_ret 37 rfl rfl (fun K q => q)
set_option maxHeartbeats 4000000 in
set_option maxRecDepth 100000 in
theorem t_M_readStart_39 (v0 : Nat) (h : HP) : xx_S (xx_D "LampYardModel" tb_M_readStart 1 3 none false) xz_v (fun K => xL_v K) 39 [(0, av_R 11 (some v0))] [] h (f_M_readStart_39 v0 h) := by
  unfold f_M_readStart_39
  refine xs_step (fun K HC => xr_aload_n HC.1 17 40 (n := 0) (ix := 0) (j := 0) (c := 11) (x := v0) rfl rfl rfl rfl) ?_
  refine xs_step (fun K HC => xr_aload_n HC.1 18 41 (n := 0) (ix := 0) (j := 0) (c := 11) (x := v0) rfl rfl rfl rfl) ?_
  refine xs_step (fun K HC => xr_ldc2 HC.1 19 44 wk_M_240 rfl rfl) ?_
  refine xs_calli (s_M_isWord v0 (28526 : Int64) h) (fun K HC x9 hM hmo hb => xr_callV HC.1 20 47 (av := [av_L (28526 : Int64)]) (st := [av_R 11 (some v0)]) (hM (kg K) (cx_l (kx K))) hmo hb rfl rfl wm_M_270 wi_M_isWord ws_M_isWord wc_M_isWord rfl wh_M_isWord (by decide) (by decide) (by decide) (Nat.le_of_ble_eq_true rfl) rfl) (fun x_6 => ?_)
  refine xs_ite (fun K HC => xr_if_eq HC.1 21 54 50 rfl (by decide) rfl) ?_ ?_
  · refine xs_step (fun K HC => xr_aload_n HC.1 24 55 (n := 0) (ix := 0) (j := 0) (c := 11) (x := v0) rfl rfl rfl rfl) ?_
    refine xs_step (fun K HC => xr_ldc2 HC.1 25 58 wk_M_242 rfl rfl) ?_
    refine xs_calli (s_M_isWord v0 (6385273 : Int64) x_6.2) (fun K HC x9 hM hmo hb => xr_callV HC.1 26 61 (av := [av_L (6385273 : Int64)]) (st := [av_R 11 (some v0)]) (hM (kg K) (cx_l (kx K))) hmo hb rfl rfl wm_M_270 wi_M_isWord ws_M_isWord wc_M_isWord rfl wh_M_isWord (by decide) (by decide) (by decide) (Nat.le_of_ble_eq_true rfl) rfl) (fun x_7 => ?_)
    refine xs_ite (fun K HC => xr_if_eq HC.1 27 68 64 rfl (by decide) rfl) ?_ ?_
    · refine xs_step (fun K HC => xr_iconst HC.1 30 69 (n := (0)) (0 : Int32) rfl rfl rfl) ?_
      exact t_M_readStart_69 v0 (0 : Int32) v0 x_7.2
    refine xs_step (fun K HC => xr_iconst HC.1 28 65 (n := (2)) (2 : Int32) rfl rfl rfl) ?_
    refine xs_step (fun K HC => xr_goto HC.1 29 69 rfl (by decide)) ?_
    exact t_M_readStart_69 v0 (2 : Int32) v0 x_7.2
  refine xs_step (fun K HC => xr_iconst HC.1 22 51 (n := (1)) (1 : Int32) rfl rfl rfl) ?_
  refine xs_step (fun K HC => xr_goto HC.1 23 69 rfl (by decide)) ?_
  exact t_M_readStart_69 v0 (1 : Int32) v0 x_6.2
set_option maxHeartbeats 4000000 in
set_option maxRecDepth 100000 in
theorem t_M_readStart (v0 : Nat) (h : HP) : xx_S (xx_D "LampYardModel" tb_M_readStart 1 3 none false) xz_v (fun K => xL_v K) 0 [(0, av_R 11 (some v0))] [] h (f_M_readStart v0 h) := by
  unfold f_M_readStart
  refine xs_step (fun K HC => xr_aload_n HC.1 0 1 (n := 0) (ix := 0) (j := 0) (c := 11) (x := v0) rfl rfl rfl rfl) ?_
  refine xs_callv (s_M_token v0 h) (fun K HC x9 hM hmo hb => xr_callV HC.1 1 4 (av := []) (st := []) (hM (kg K) (cx_l (kx K))) hmo hb rfl rfl wm_M_277 wi_M_token ws_M_token wc_M_token rfl wh_M_token (by decide) (by decide) (by decide) (Nat.le_of_ble_eq_true rfl) rfl) (fun x_1 => ?_)
  refine xs_step (fun K HC => xr_aload_n HC.1 2 5 (n := 0) (ix := 0) (j := 0) (c := 11) (x := v0) rfl rfl rfl rfl) ?_
  refine xs_step (fun K HC => xr_ldc2 HC.1 3 8 wk_M_238 rfl rfl) ?_
  refine xs_calli (s_M_isWord v0 (7300710 : Int64) x_1) (fun K HC x9 hM hmo hb => xr_callV HC.1 4 11 (av := [av_L (7300710 : Int64)]) (st := []) (hM (kg K) (cx_l (kx K))) hmo hb rfl rfl wm_M_270 wi_M_isWord ws_M_isWord wc_M_isWord rfl wh_M_isWord (by decide) (by decide) (by decide) (Nat.le_of_ble_eq_true rfl) rfl) (fun x_2 => ?_)
  refine xs_ite (fun K HC a b => xr_if_ne HC.1 5 39 14 rfl (by decide) rfl b a) ?_ ?_
  · refine xs_step (fun K HC => xr_aload_n HC.1 6 15 (n := 0) (ix := 0) (j := 0) (c := 11) (x := v0) rfl rfl rfl rfl) ?_
    refine xs_step (fun K HC => xr_ldc2 HC.1 7 18 wk_M_240 rfl rfl) ?_
    refine xs_calli (s_M_isWord v0 (28526 : Int64) x_2.2) (fun K HC x9 hM hmo hb => xr_callV HC.1 8 21 (av := [av_L (28526 : Int64)]) (st := []) (hM (kg K) (cx_l (kx K))) hmo hb rfl rfl wm_M_270 wi_M_isWord ws_M_isWord wc_M_isWord rfl wh_M_isWord (by decide) (by decide) (by decide) (Nat.le_of_ble_eq_true rfl) rfl) (fun x_3 => ?_)
    refine xs_ite (fun K HC a b => xr_if_ne HC.1 9 39 24 rfl (by decide) rfl b a) ?_ ?_
    · refine xs_step (fun K HC => xr_aload_n HC.1 10 25 (n := 0) (ix := 0) (j := 0) (c := 11) (x := v0) rfl rfl rfl rfl) ?_
      refine xs_step (fun K HC => xr_ldc2 HC.1 11 28 wk_M_242 rfl rfl) ?_
      refine xs_calli (s_M_isWord v0 (6385273 : Int64) x_3.2) (fun K HC x9 hM hmo hb => xr_callV HC.1 12 31 (av := [av_L (6385273 : Int64)]) (st := []) (hM (kg K) (cx_l (kx K))) hmo hb rfl rfl wm_M_270 wi_M_isWord ws_M_isWord wc_M_isWord rfl wh_M_isWord (by decide) (by decide) (by decide) (Nat.le_of_ble_eq_true rfl) rfl) (fun x_4 => ?_)
      refine xs_ite (fun K HC a b => xr_if_ne HC.1 13 39 34 rfl (by decide) rfl b a) ?_ ?_
      · refine xs_step (fun K HC => xr_aload_n HC.1 14 35 (n := 0) (ix := 0) (j := 0) (c := 11) (x := v0) rfl rfl rfl rfl) ?_
        refine xs_step (fun K HC => xr_iconst HC.1 15 36 (n := (2)) (2 : Int32) rfl rfl rfl) ?_
        refine xs_callv (s_M_wrong v0 (2 : Int32) x_4.2) (fun K HC x9 hM hmo hb => xr_callV HC.1 16 39 (av := [av_I (2 : Int32)]) (st := []) (hM (kg K) (cx_l (kx K))) hmo hb rfl rfl wm_M_274 wi_M_wrong ws_M_wrong wc_M_wrong rfl wh_M_wrong (by decide) (by decide) (by decide) (Nat.le_of_ble_eq_true rfl) rfl) (fun x_5 => ?_)
        exact t_M_readStart_39 v0 x_5
      exact t_M_readStart_39 v0 x_4.2
    exact t_M_readStart_39 v0 x_3.2
  exact t_M_readStart_39 v0 x_2.2
theorem s_M_readStart (v0 : Nat) (h : HP) : ∀ x, f_M_readStart v0 h = some x → hp_mo h x ∧ ∀ g l, xx_M g l y_M_readStart prog_14_method_31_code 1 none 3 [av_R 11 (some v0)] h none x :=
  xM_v (tb := tb_M_readStart) (b := false) (by decide +kernel) dt_M_readStart trivial (Nat.le_of_ble_eq_true rfl) (fun hb => by cases hb) (t_M_readStart v0 h)
def tb_M_lineOf : TBL := [(0, .aload_n 0, 1), (1, .ldc2_w 230, 3), (4, .invokevirtual 270, 3), (7, .ifCond .eq 7, 3), (10, .iconst 0, 1), (11, .goto 46, 3), (14, .aload_n 0, 1), (15, .ldc2_w 232, 3), (18, .invokevirtual 270, 3), (21, .ifCond .eq 7, 3), (24, .iconst 1, 1), (25, .goto 32, 3), (28, .aload_n 0, 1), (29, .ldc2_w 234, 3), (32, .invokevirtual 270, 3), (35, .ifCond .eq 7, 3), (38, .iconst 2, 1), (39, .goto 18, 3), (42, .aload_n 0, 1), (43, .ldc2_w 236, 3), (46, .invokevirtual 270, 3), (49, .ifCond .eq 7, 3), (52, .iconst 3, 1), (53, .goto 4, 3), (56, .iconst (-1), 1), (57, .istore_n 1, 1), (58, .iload_n 1, 1), (59, .ifCond .lt 12, 3), (62, .aload_n 0, 1), (63, .getfield 46, 3), (66, .iload_n 1, 1), (67, .baload, 1), (68, .ifCond .eq 7, 3), (71, .iconst (-1), 1), (72, .goto 4, 3), (75, .iload_n 1, 1), (76, .ireturn, 1)]
theorem dt_M_lineOf : ∀ q ∈ tb_M_lineOf, decode prog_14_method_32_code q.1 = .ok (q.2.1, q.2.2) := by decide +kernel
set_option maxHeartbeats 4000000 in
set_option maxRecDepth 100000 in
theorem t_M_lineOf_57 (v0 : Nat) (s0 : Int32) (h : HP) : xx_S (xx_D "LampYardModel" tb_M_lineOf 2 2 (some .int) false) xz_i (fun K => xL_i K) 57 [(0, av_R 11 (some v0))] [av_I s0] h (f_M_lineOf_57 v0 s0 h) := by
  unfold f_M_lineOf_57
  refine xs_step (fun K HC => xr_istore_n HC.1 25 58 (n := 1) (ix := 1) (lv' := [(0, av_R 11 (some v0)), (1, av_I s0)]) rfl rfl rfl (by decide) rfl) ?_
  refine xs_step (fun K HC => xr_iload_n HC.1 26 59 (n := 1) (ix := 1) (j := 1) (x := s0) rfl rfl rfl rfl) ?_
  refine xs_ite (fun K HC => xr_if_lt HC.1 27 71 62 rfl (by decide) rfl) ?_ ?_
  · refine xs_step (fun K HC => xr_iconst HC.1 33 72 (n := (-1)) (-1 : Int32) rfl rfl rfl) ?_
    refine xs_step (fun K HC => xr_goto HC.1 34 76 rfl (by decide)) ?_
    exact xs_reti 36 rfl rfl (fun K q => q) (fun ty ht => by cases ht; rfl)
  refine xs_step (fun K HC => xr_aload_n HC.1 28 63 (n := 0) (ix := 0) (j := 0) (c := 11) (x := v0) rfl rfl rfl rfl) ?_
  refine xs_bind (fun q_5 eq_5 => ?_)
  refine xs_step (fun K HC => xr_getr HC.1 29 66 11 19 15 eq_5 rfl rfl wf_M_46 (by decide) fb_11_19 fc_11_19 fd_11_19) ?_
  refine xs_step (fun K HC => xr_iload_n HC.1 30 67 (n := 1) (ix := 1) (j := 1) (x := s0) rfl rfl rfl rfl) ?_
  refine xs_chk (fun hb_6 => ?_)
  refine xs_step (fun K HC => xr_zald HC.1 31 68 (hp_in_vp hb_6) rfl rfl) ?_
  refine xs_ite (fun K HC => xr_if_eq HC.1 32 75 71 rfl (by decide) rfl) ?_ ?_
  · refine xs_step (fun K HC => xr_iload_n HC.1 35 76 (n := 1) (ix := 1) (j := 1) (x := s0) rfl rfl rfl rfl) ?_
    exact xs_reti 36 rfl rfl (fun K q => q) (fun ty ht => by cases ht; rfl)
  refine xs_step (fun K HC => xr_iconst HC.1 33 72 (n := (-1)) (-1 : Int32) rfl rfl rfl) ?_
  refine xs_step (fun K HC => xr_goto HC.1 34 76 rfl (by decide)) ?_
  exact xs_reti 36 rfl rfl (fun K q => q) (fun ty ht => by cases ht; rfl)
set_option maxHeartbeats 4000000 in
set_option maxRecDepth 100000 in
theorem t_M_lineOf (v0 : Nat) (h : HP) : xx_S (xx_D "LampYardModel" tb_M_lineOf 2 2 (some .int) false) xz_i (fun K => xL_i K) 0 [(0, av_R 11 (some v0))] [] h (f_M_lineOf v0 h) := by
  unfold f_M_lineOf
  refine xs_step (fun K HC => xr_aload_n HC.1 0 1 (n := 0) (ix := 0) (j := 0) (c := 11) (x := v0) rfl rfl rfl rfl) ?_
  refine xs_step (fun K HC => xr_ldc2 HC.1 1 4 wk_M_230 rfl rfl) ?_
  refine xs_calli (s_M_isWord v0 (465491030131 : Int64) h) (fun K HC x9 hM hmo hb => xr_callV HC.1 2 7 (av := [av_L (465491030131 : Int64)]) (st := []) (hM (kg K) (cx_l (kx K))) hmo hb rfl rfl wm_M_270 wi_M_isWord ws_M_isWord wc_M_isWord rfl wh_M_isWord (by decide) (by decide) (by decide) (Nat.le_of_ble_eq_true rfl) rfl) (fun x_1 => ?_)
  refine xs_ite (fun K HC => xr_if_eq HC.1 3 14 10 rfl (by decide) rfl) ?_ ?_
  · refine xs_step (fun K HC => xr_aload_n HC.1 6 15 (n := 0) (ix := 0) (j := 0) (c := 11) (x := v0) rfl rfl rfl rfl) ?_
    refine xs_step (fun K HC => xr_ldc2 HC.1 7 18 wk_M_232 rfl rfl) ?_
    refine xs_calli (s_M_isWord v0 (427238321253 : Int64) x_1.2) (fun K HC x9 hM hmo hb => xr_callV HC.1 8 21 (av := [av_L (427238321253 : Int64)]) (st := []) (hM (kg K) (cx_l (kx K))) hmo hb rfl rfl wm_M_270 wi_M_isWord ws_M_isWord wc_M_isWord rfl wh_M_isWord (by decide) (by decide) (by decide) (Nat.le_of_ble_eq_true rfl) rfl) (fun x_2 => ?_)
    refine xs_ite (fun K HC => xr_if_eq HC.1 9 28 24 rfl (by decide) rfl) ?_ ?_
    · refine xs_step (fun K HC => xr_aload_n HC.1 12 29 (n := 0) (ix := 0) (j := 0) (c := 11) (x := v0) rfl rfl rfl rfl) ?_
      refine xs_step (fun K HC => xr_ldc2 HC.1 13 32 wk_M_234 rfl rfl) ?_
      refine xs_calli (s_M_isWord v0 (439720963187 : Int64) x_2.2) (fun K HC x9 hM hmo hb => xr_callV HC.1 14 35 (av := [av_L (439720963187 : Int64)]) (st := []) (hM (kg K) (cx_l (kx K))) hmo hb rfl rfl wm_M_270 wi_M_isWord ws_M_isWord wc_M_isWord rfl wh_M_isWord (by decide) (by decide) (by decide) (Nat.le_of_ble_eq_true rfl) rfl) (fun x_3 => ?_)
      refine xs_ite (fun K HC => xr_if_eq HC.1 15 42 38 rfl (by decide) rfl) ?_ ?_
      · refine xs_step (fun K HC => xr_aload_n HC.1 18 43 (n := 0) (ix := 0) (j := 0) (c := 11) (x := v0) rfl rfl rfl rfl) ?_
        refine xs_step (fun K HC => xr_ldc2 HC.1 19 46 wk_M_236 rfl rfl) ?_
        refine xs_calli (s_M_isWord v0 (495873782388 : Int64) x_3.2) (fun K HC x9 hM hmo hb => xr_callV HC.1 20 49 (av := [av_L (495873782388 : Int64)]) (st := []) (hM (kg K) (cx_l (kx K))) hmo hb rfl rfl wm_M_270 wi_M_isWord ws_M_isWord wc_M_isWord rfl wh_M_isWord (by decide) (by decide) (by decide) (Nat.le_of_ble_eq_true rfl) rfl) (fun x_4 => ?_)
        refine xs_ite (fun K HC => xr_if_eq HC.1 21 56 52 rfl (by decide) rfl) ?_ ?_
        · refine xs_step (fun K HC => xr_iconst HC.1 24 57 (n := (-1)) (-1 : Int32) rfl rfl rfl) ?_
          exact t_M_lineOf_57 v0 (-1 : Int32) x_4.2
        refine xs_step (fun K HC => xr_iconst HC.1 22 53 (n := (3)) (3 : Int32) rfl rfl rfl) ?_
        refine xs_step (fun K HC => xr_goto HC.1 23 57 rfl (by decide)) ?_
        exact t_M_lineOf_57 v0 (3 : Int32) x_4.2
      refine xs_step (fun K HC => xr_iconst HC.1 16 39 (n := (2)) (2 : Int32) rfl rfl rfl) ?_
      refine xs_step (fun K HC => xr_goto HC.1 17 57 rfl (by decide)) ?_
      exact t_M_lineOf_57 v0 (2 : Int32) x_3.2
    refine xs_step (fun K HC => xr_iconst HC.1 10 25 (n := (1)) (1 : Int32) rfl rfl rfl) ?_
    refine xs_step (fun K HC => xr_goto HC.1 11 57 rfl (by decide)) ?_
    exact t_M_lineOf_57 v0 (1 : Int32) x_2.2
  refine xs_step (fun K HC => xr_iconst HC.1 4 11 (n := (0)) (0 : Int32) rfl rfl rfl) ?_
  refine xs_step (fun K HC => xr_goto HC.1 5 57 rfl (by decide)) ?_
  exact t_M_lineOf_57 v0 (0 : Int32) x_1.2
theorem s_M_lineOf (v0 : Nat) (h : HP) : ∀ x, f_M_lineOf v0 h = some x → hp_mo h x.2 ∧ ∀ g l, xx_M g l y_M_lineOf prog_14_method_32_code 2 (some .int) 2 [av_R 11 (some v0)] h (some (av_I x.1)) x.2 :=
  xM_i (tb := tb_M_lineOf) (b := false) (by decide +kernel) dt_M_lineOf (fun _ => trivial) (Nat.le_of_ble_eq_true rfl) (fun hb => by cases hb) (t_M_lineOf v0 h)
def tb_M_readLine : TBL := [(0, .aload_n 0, 1), (1, .invokevirtual 362, 3), (4, .istore_n 1, 1), (5, .iload_n 1, 1), (6, .ifCond .lt 10, 3), (9, .aload_n 0, 1), (10, .getfield 46, 3), (13, .iload_n 1, 1), (14, .iconst 1, 1), (15, .bastore, 1), (16, .iload_n 1, 1), (17, .ifCond .lt 12, 3), (20, .iload_n 1, 1), (21, .iconst 3, 1), (22, .if_icmp .ge 7, 3), (25, .aload_n 0, 1), (26, .invokevirtual 277, 3), (29, .iload_n 1, 1), (30, .ifCond .ne 16, 3), (33, .aload_n 0, 1), (34, .aload_n 0, 1), (35, .iconst 1, 1), (36, .iconst 2, 1), (37, .invokevirtual 284, 3), (40, .putfield 365, 3), (43, .goto 109, 3), (46, .iload_n 1, 1), (47, .iconst 1, 1), (48, .if_icmp .ne 17, 3), (51, .aload_n 0, 1), (52, .aload_n 0, 1), (53, .iconst 1, 1), (54, .bipush 12, 2), (56, .invokevirtual 284, 3), (59, .putfield 368, 3), (62, .goto 90, 3), (65, .iload_n 1, 1), (66, .iconst 2, 1), (67, .if_icmp .ne 17, 3), (70, .aload_n 0, 1), (71, .aload_n 0, 1), (72, .iconst 0, 1), (73, .bipush 11, 2), (75, .invokevirtual 284, 3), (78, .putfield 371, 3), (81, .goto 71, 3), (84, .iload_n 1, 1), (85, .iconst 3, 1), (86, .if_icmp .ne 10, 3), (89, .aload_n 0, 1), (90, .invokevirtual 374, 3), (93, .goto 59, 3), (96, .aload_n 0, 1), (97, .ldc2_w 244, 3), (100, .invokevirtual 270, 3), (103, .ifCond .eq 18, 3), (106, .aload_n 0, 1), (107, .getfield 339, 3), (110, .iconst 4, 1), (111, .if_icmp .ge 10, 3), (114, .aload_n 0, 1), (115, .invokevirtual 377, 3), (118, .goto 34, 3), (121, .aload_n 0, 1), (122, .ldc2_w 250, 3), (125, .invokevirtual 270, 3), (128, .ifCond .eq 19, 3), (131, .aload_n 0, 1), (132, .getfield 327, 3), (135, .bipush 16, 2), (137, .if_icmp .ge 10, 3), (140, .aload_n 0, 1), (141, .invokevirtual 380, 3), (144, .goto 8, 3), (147, .aload_n 0, 1), (148, .iconst 2, 1), (149, .invokevirtual 274, 3), (152, .aload_n 0, 1), (153, .getfield 227, 3), (156, .ifCond .ne 17, 3), (159, .aload_n 0, 1), (160, .getfield 214, 3), (163, .bipush 59, 2), (165, .if_icmp .eq 8, 3), (168, .aload_n 0, 1), (169, .iconst 2, 1), (170, .invokevirtual 274, 3), (173, .aload_n 0, 1), (174, .getfield 227, 3), (177, .ifCond .ne 7, 3), (180, .aload_n 0, 1), (181, .invokevirtual 277, 3), (184, .return_, 1)]
theorem dt_M_readLine : ∀ q ∈ tb_M_readLine, decode prog_14_method_33_code q.1 = .ok (q.2.1, q.2.2) := by decide +kernel
set_option maxHeartbeats 4000000 in
set_option maxRecDepth 100000 in
theorem t_M_readLine_173 (v0 : Nat) (h : HP) : xx_S (xx_D "LampYardModel" tb_M_readLine 2 7 none false) xz_v (fun K => xL_v K) 173 [(0, av_R 11 (some v0))] [] h (f_M_readLine_173 v0 h) := by
  unfold f_M_readLine_173
  refine xs_step (fun K HC => xr_aload_n HC.1 87 174 (n := 0) (ix := 0) (j := 0) (c := 11) (x := v0) rfl rfl rfl rfl) ?_
  refine xs_step (fun K HC => xr_geti HC.1 88 177 11 2 rfl rfl wf_M_227 (by decide) fb_11_2 fc_11_2) ?_
  refine xs_ite (fun K HC a b => xr_if_ne HC.1 89 184 180 rfl (by decide) rfl b a) ?_ ?_
  · refine xs_step (fun K HC => xr_aload_n HC.1 90 181 (n := 0) (ix := 0) (j := 0) (c := 11) (x := v0) rfl rfl rfl rfl) ?_
    refine xs_callv (s_M_token v0 h) (fun K HC x9 hM hmo hb => xr_callV HC.1 91 184 (av := []) (st := []) (hM (kg K) (cx_l (kx K))) hmo hb rfl rfl wm_M_277 wi_M_token ws_M_token wc_M_token rfl wh_M_token (by decide) (by decide) (by decide) (Nat.le_of_ble_eq_true rfl) rfl) (fun x_4 => ?_)
    exact xs_ret 92 rfl rfl (fun K q => q)
  exact xs_ret 92 rfl rfl (fun K q => q)
set_option maxHeartbeats 4000000 in
set_option maxRecDepth 100000 in
theorem t_M_readLine_152 (v0 : Nat) (h : HP) : xx_S (xx_D "LampYardModel" tb_M_readLine 2 7 none false) xz_v (fun K => xL_v K) 152 [(0, av_R 11 (some v0))] [] h (f_M_readLine_152 v0 h) := by
  unfold f_M_readLine_152
  refine xs_step (fun K HC => xr_aload_n HC.1 77 153 (n := 0) (ix := 0) (j := 0) (c := 11) (x := v0) rfl rfl rfl rfl) ?_
  refine xs_step (fun K HC => xr_geti HC.1 78 156 11 2 rfl rfl wf_M_227 (by decide) fb_11_2 fc_11_2) ?_
  refine xs_ite (fun K HC a b => xr_if_ne HC.1 79 173 159 rfl (by decide) rfl b a) ?_ ?_
  · refine xs_step (fun K HC => xr_aload_n HC.1 80 160 (n := 0) (ix := 0) (j := 0) (c := 11) (x := v0) rfl rfl rfl rfl) ?_
    refine xs_step (fun K HC => xr_geti HC.1 81 163 11 6 rfl rfl wf_M_214 (by decide) fb_11_6 fc_11_6) ?_
    refine xs_step (fun K HC => xr_bipush HC.1 82 165 (n := (59)) (59 : Int32) rfl rfl rfl) ?_
    refine xs_ite (fun K HC => xr_icmp_eq HC.1 83 173 168 rfl (by decide) rfl) ?_ ?_
    · exact t_M_readLine_173 v0 h
    refine xs_step (fun K HC => xr_aload_n HC.1 84 169 (n := 0) (ix := 0) (j := 0) (c := 11) (x := v0) rfl rfl rfl rfl) ?_
    refine xs_step (fun K HC => xr_iconst HC.1 85 170 (n := (2)) (2 : Int32) rfl rfl rfl) ?_
    refine xs_callv (s_M_wrong v0 (2 : Int32) h) (fun K HC x9 hM hmo hb => xr_callV HC.1 86 173 (av := [av_I (2 : Int32)]) (st := []) (hM (kg K) (cx_l (kx K))) hmo hb rfl rfl wm_M_274 wi_M_wrong ws_M_wrong wc_M_wrong rfl wh_M_wrong (by decide) (by decide) (by decide) (Nat.le_of_ble_eq_true rfl) rfl) (fun x_5 => ?_)
    exact t_M_readLine_173 v0 x_5
  exact t_M_readLine_173 v0 h
set_option maxHeartbeats 4000000 in
set_option maxRecDepth 100000 in
theorem t_M_readLine_147 (v0 : Nat) (h : HP) : xx_S (xx_D "LampYardModel" tb_M_readLine 2 7 none false) xz_v (fun K => xL_v K) 147 [(0, av_R 11 (some v0))] [] h (f_M_readLine_147 v0 h) := by
  unfold f_M_readLine_147
  refine xs_step (fun K HC => xr_aload_n HC.1 74 148 (n := 0) (ix := 0) (j := 0) (c := 11) (x := v0) rfl rfl rfl rfl) ?_
  refine xs_step (fun K HC => xr_iconst HC.1 75 149 (n := (2)) (2 : Int32) rfl rfl rfl) ?_
  refine xs_callv (s_M_wrong v0 (2 : Int32) h) (fun K HC x9 hM hmo hb => xr_callV HC.1 76 152 (av := [av_I (2 : Int32)]) (st := []) (hM (kg K) (cx_l (kx K))) hmo hb rfl rfl wm_M_274 wi_M_wrong ws_M_wrong wc_M_wrong rfl wh_M_wrong (by decide) (by decide) (by decide) (Nat.le_of_ble_eq_true rfl) rfl) (fun x_13 => ?_)
  exact t_M_readLine_152 v0 x_13
set_option maxHeartbeats 4000000 in
set_option maxRecDepth 100000 in
theorem t_M_readLine_121 (v0 : Nat) (h : HP) : xx_S (xx_D "LampYardModel" tb_M_readLine 2 7 none false) xz_v (fun K => xL_v K) 121 [(0, av_R 11 (some v0))] [] h (f_M_readLine_121 v0 h) := by
  unfold f_M_readLine_121
  refine xs_step (fun K HC => xr_aload_n HC.1 63 122 (n := 0) (ix := 0) (j := 0) (c := 11) (x := v0) rfl rfl rfl rfl) ?_
  refine xs_step (fun K HC => xr_ldc2 HC.1 64 125 wk_M_250 rfl rfl) ?_
  refine xs_calli (s_M_isWord v0 (1920298085 : Int64) h) (fun K HC x9 hM hmo hb => xr_callV HC.1 65 128 (av := [av_L (1920298085 : Int64)]) (st := []) (hM (kg K) (cx_l (kx K))) hmo hb rfl rfl wm_M_270 wi_M_isWord ws_M_isWord wc_M_isWord rfl wh_M_isWord (by decide) (by decide) (by decide) (Nat.le_of_ble_eq_true rfl) rfl) (fun x_12 => ?_)
  refine xs_ite (fun K HC => xr_if_eq HC.1 66 147 131 rfl (by decide) rfl) ?_ ?_
  · exact t_M_readLine_147 v0 x_12.2
  refine xs_step (fun K HC => xr_aload_n HC.1 67 132 (n := 0) (ix := 0) (j := 0) (c := 11) (x := v0) rfl rfl rfl rfl) ?_
  refine xs_step (fun K HC => xr_geti HC.1 68 135 11 26 rfl rfl wf_M_327 (by decide) fb_11_26 fc_11_26) ?_
  refine xs_step (fun K HC => xr_bipush HC.1 69 137 (n := (16)) (16 : Int32) rfl rfl rfl) ?_
  refine xs_ite (fun K HC => xr_icmp_ge HC.1 70 147 140 rfl (by decide) rfl) ?_ ?_
  · exact t_M_readLine_147 v0 x_12.2
  refine xs_step (fun K HC => xr_aload_n HC.1 71 141 (n := 0) (ix := 0) (j := 0) (c := 11) (x := v0) rfl rfl rfl rfl) ?_
  refine xs_callv (s_M_readRule v0 x_12.2) (fun K HC x9 hM hmo hb => xr_callV HC.1 72 144 (av := []) (st := []) (hM (kg K) (cx_l (kx K))) hmo hb rfl rfl wm_M_380 wi_M_readRule ws_M_readRule wc_M_readRule rfl wh_M_readRule (by decide) (by decide) (by decide) (Nat.le_of_ble_eq_true rfl) rfl) (fun x_14 => ?_)
  refine xs_step (fun K HC => xr_goto HC.1 73 152 rfl (by decide)) ?_
  exact t_M_readLine_152 v0 x_14
set_option maxHeartbeats 4000000 in
set_option maxRecDepth 100000 in
theorem t_M_readLine_29 (v0 : Nat) (v1 : Int32) (h : HP) : xx_S (xx_D "LampYardModel" tb_M_readLine 2 7 none false) xz_v (fun K => xL_v K) 29 [(0, av_R 11 (some v0)), (1, av_I v1)] [] h (f_M_readLine_29 v0 v1 h) := by
  unfold f_M_readLine_29
  refine xs_step (fun K HC => xr_iload_n HC.1 17 30 (n := 1) (ix := 1) (j := 1) (x := v1) rfl rfl rfl rfl) ?_
  refine xs_ite (fun K HC a b => xr_if_ne HC.1 18 46 33 rfl (by decide) rfl b a) ?_ ?_
  · refine xs_step (fun K HC => xr_aload_n HC.1 19 34 (n := 0) (ix := 0) (j := 0) (c := 11) (x := v0) rfl rfl rfl rfl) ?_
    refine xs_step (fun K HC => xr_aload_n HC.1 20 35 (n := 0) (ix := 0) (j := 0) (c := 11) (x := v0) rfl rfl rfl rfl) ?_
    refine xs_step (fun K HC => xr_iconst HC.1 21 36 (n := (1)) (1 : Int32) rfl rfl rfl) ?_
    refine xs_step (fun K HC => xr_iconst HC.1 22 37 (n := (2)) (2 : Int32) rfl rfl rfl) ?_
    refine xs_calli (s_M_toldNumber v0 (1 : Int32) (2 : Int32) h) (fun K HC x9 hM hmo hb => xr_callV HC.1 23 40 (av := [av_I (1 : Int32), av_I (2 : Int32)]) (st := [av_R 11 (some v0)]) (hM (kg K) (cx_l (kx K))) hmo hb rfl rfl wm_M_284 wi_M_toldNumber ws_M_toldNumber wc_M_toldNumber rfl wh_M_toldNumber (by decide) (by decide) (by decide) (Nat.le_of_ble_eq_true rfl) rfl) (fun x_2 => ?_)
    refine xs_heap (hp_mo_si _ _ _ _) (fun K HC => xr_puti HC.1 24 43 11 20 rfl rfl wf_M_365 (by decide) fb_11_20 fn_11_20 fy_11_20) (fun h_3 => ?_)
    refine xs_step (fun K HC => xr_goto HC.1 25 152 rfl (by decide)) ?_
    refine xs_step (fun K HC => xr_sub (lv' := [(0, av_R 11 (some v0))]) [0] rfl) ?_
    exact t_M_readLine_152 v0 h_3
  refine xs_step (fun K HC => xr_iload_n HC.1 26 47 (n := 1) (ix := 1) (j := 1) (x := v1) rfl rfl rfl rfl) ?_
  refine xs_step (fun K HC => xr_iconst HC.1 27 48 (n := (1)) (1 : Int32) rfl rfl rfl) ?_
  refine xs_ite (fun K HC a b => xr_icmp_ne HC.1 28 65 51 rfl (by decide) rfl b a) ?_ ?_
  · refine xs_step (fun K HC => xr_aload_n HC.1 29 52 (n := 0) (ix := 0) (j := 0) (c := 11) (x := v0) rfl rfl rfl rfl) ?_
    refine xs_step (fun K HC => xr_aload_n HC.1 30 53 (n := 0) (ix := 0) (j := 0) (c := 11) (x := v0) rfl rfl rfl rfl) ?_
    refine xs_step (fun K HC => xr_iconst HC.1 31 54 (n := (1)) (1 : Int32) rfl rfl rfl) ?_
    refine xs_step (fun K HC => xr_bipush HC.1 32 56 (n := (12)) (12 : Int32) rfl rfl rfl) ?_
    refine xs_calli (s_M_toldNumber v0 (1 : Int32) (12 : Int32) h) (fun K HC x9 hM hmo hb => xr_callV HC.1 33 59 (av := [av_I (1 : Int32), av_I (12 : Int32)]) (st := [av_R 11 (some v0)]) (hM (kg K) (cx_l (kx K))) hmo hb rfl rfl wm_M_284 wi_M_toldNumber ws_M_toldNumber wc_M_toldNumber rfl wh_M_toldNumber (by decide) (by decide) (by decide) (Nat.le_of_ble_eq_true rfl) rfl) (fun x_6 => ?_)
    refine xs_heap (hp_mo_si _ _ _ _) (fun K HC => xr_puti HC.1 34 62 11 21 rfl rfl wf_M_368 (by decide) fb_11_21 fn_11_21 fy_11_21) (fun h_7 => ?_)
    refine xs_step (fun K HC => xr_goto HC.1 35 152 rfl (by decide)) ?_
    refine xs_step (fun K HC => xr_sub (lv' := [(0, av_R 11 (some v0))]) [0] rfl) ?_
    exact t_M_readLine_152 v0 h_7
  refine xs_step (fun K HC => xr_iload_n HC.1 36 66 (n := 1) (ix := 1) (j := 1) (x := v1) rfl rfl rfl rfl) ?_
  refine xs_step (fun K HC => xr_iconst HC.1 37 67 (n := (2)) (2 : Int32) rfl rfl rfl) ?_
  refine xs_ite (fun K HC a b => xr_icmp_ne HC.1 38 84 70 rfl (by decide) rfl b a) ?_ ?_
  · refine xs_step (fun K HC => xr_aload_n HC.1 39 71 (n := 0) (ix := 0) (j := 0) (c := 11) (x := v0) rfl rfl rfl rfl) ?_
    refine xs_step (fun K HC => xr_aload_n HC.1 40 72 (n := 0) (ix := 0) (j := 0) (c := 11) (x := v0) rfl rfl rfl rfl) ?_
    refine xs_step (fun K HC => xr_iconst HC.1 41 73 (n := (0)) (0 : Int32) rfl rfl rfl) ?_
    refine xs_step (fun K HC => xr_bipush HC.1 42 75 (n := (11)) (11 : Int32) rfl rfl rfl) ?_
    refine xs_calli (s_M_toldNumber v0 (0 : Int32) (11 : Int32) h) (fun K HC x9 hM hmo hb => xr_callV HC.1 43 78 (av := [av_I (0 : Int32), av_I (11 : Int32)]) (st := [av_R 11 (some v0)]) (hM (kg K) (cx_l (kx K))) hmo hb rfl rfl wm_M_284 wi_M_toldNumber ws_M_toldNumber wc_M_toldNumber rfl wh_M_toldNumber (by decide) (by decide) (by decide) (Nat.le_of_ble_eq_true rfl) rfl) (fun x_8 => ?_)
    refine xs_heap (hp_mo_si _ _ _ _) (fun K HC => xr_puti HC.1 44 81 11 22 rfl rfl wf_M_371 (by decide) fb_11_22 fn_11_22 fy_11_22) (fun h_9 => ?_)
    refine xs_step (fun K HC => xr_goto HC.1 45 152 rfl (by decide)) ?_
    refine xs_step (fun K HC => xr_sub (lv' := [(0, av_R 11 (some v0))]) [0] rfl) ?_
    exact t_M_readLine_152 v0 h_9
  refine xs_step (fun K HC => xr_iload_n HC.1 46 85 (n := 1) (ix := 1) (j := 1) (x := v1) rfl rfl rfl rfl) ?_
  refine xs_step (fun K HC => xr_iconst HC.1 47 86 (n := (3)) (3 : Int32) rfl rfl rfl) ?_
  refine xs_ite (fun K HC a b => xr_icmp_ne HC.1 48 96 89 rfl (by decide) rfl b a) ?_ ?_
  · refine xs_step (fun K HC => xr_aload_n HC.1 49 90 (n := 0) (ix := 0) (j := 0) (c := 11) (x := v0) rfl rfl rfl rfl) ?_
    refine xs_callv (s_M_readStart v0 h) (fun K HC x9 hM hmo hb => xr_callV HC.1 50 93 (av := []) (st := []) (hM (kg K) (cx_l (kx K))) hmo hb rfl rfl wm_M_374 wi_M_readStart ws_M_readStart wc_M_readStart rfl wh_M_readStart (by decide) (by decide) (by decide) (Nat.le_of_ble_eq_true rfl) rfl) (fun x_10 => ?_)
    refine xs_step (fun K HC => xr_goto HC.1 51 152 rfl (by decide)) ?_
    refine xs_step (fun K HC => xr_sub (lv' := [(0, av_R 11 (some v0))]) [0] rfl) ?_
    exact t_M_readLine_152 v0 x_10
  refine xs_step (fun K HC => xr_aload_n HC.1 52 97 (n := 0) (ix := 0) (j := 0) (c := 11) (x := v0) rfl rfl rfl rfl) ?_
  refine xs_step (fun K HC => xr_ldc2 HC.1 53 100 wk_M_244 rfl rfl) ?_
  refine xs_calli (s_M_isWord v0 (1919904869 : Int64) h) (fun K HC x9 hM hmo hb => xr_callV HC.1 54 103 (av := [av_L (1919904869 : Int64)]) (st := []) (hM (kg K) (cx_l (kx K))) hmo hb rfl rfl wm_M_270 wi_M_isWord ws_M_isWord wc_M_isWord rfl wh_M_isWord (by decide) (by decide) (by decide) (Nat.le_of_ble_eq_true rfl) rfl) (fun x_11 => ?_)
  refine xs_ite (fun K HC => xr_if_eq HC.1 55 121 106 rfl (by decide) rfl) ?_ ?_
  · refine xs_step (fun K HC => xr_sub (lv' := [(0, av_R 11 (some v0))]) [0] rfl) ?_
    exact t_M_readLine_121 v0 x_11.2
  refine xs_step (fun K HC => xr_aload_n HC.1 56 107 (n := 0) (ix := 0) (j := 0) (c := 11) (x := v0) rfl rfl rfl rfl) ?_
  refine xs_step (fun K HC => xr_geti HC.1 57 110 11 24 rfl rfl wf_M_339 (by decide) fb_11_24 fc_11_24) ?_
  refine xs_step (fun K HC => xr_iconst HC.1 58 111 (n := (4)) (4 : Int32) rfl rfl rfl) ?_
  refine xs_ite (fun K HC => xr_icmp_ge HC.1 59 121 114 rfl (by decide) rfl) ?_ ?_
  · refine xs_step (fun K HC => xr_sub (lv' := [(0, av_R 11 (some v0))]) [0] rfl) ?_
    exact t_M_readLine_121 v0 x_11.2
  refine xs_step (fun K HC => xr_aload_n HC.1 60 115 (n := 0) (ix := 0) (j := 0) (c := 11) (x := v0) rfl rfl rfl rfl) ?_
  refine xs_callv (s_M_readRole v0 x_11.2) (fun K HC x9 hM hmo hb => xr_callV HC.1 61 118 (av := []) (st := []) (hM (kg K) (cx_l (kx K))) hmo hb rfl rfl wm_M_377 wi_M_readRole ws_M_readRole wc_M_readRole rfl wh_M_readRole (by decide) (by decide) (by decide) (Nat.le_of_ble_eq_true rfl) rfl) (fun x_15 => ?_)
  refine xs_step (fun K HC => xr_goto HC.1 62 152 rfl (by decide)) ?_
  refine xs_step (fun K HC => xr_sub (lv' := [(0, av_R 11 (some v0))]) [0] rfl) ?_
  exact t_M_readLine_152 v0 x_15
set_option maxHeartbeats 4000000 in
set_option maxRecDepth 100000 in
theorem t_M_readLine_16 (v0 : Nat) (v1 : Int32) (h : HP) : xx_S (xx_D "LampYardModel" tb_M_readLine 2 7 none false) xz_v (fun K => xL_v K) 16 [(0, av_R 11 (some v0)), (1, av_I v1)] [] h (f_M_readLine_16 v0 v1 h) := by
  unfold f_M_readLine_16
  refine xs_step (fun K HC => xr_iload_n HC.1 10 17 (n := 1) (ix := 1) (j := 1) (x := v1) rfl rfl rfl rfl) ?_
  refine xs_ite (fun K HC => xr_if_lt HC.1 11 29 20 rfl (by decide) rfl) ?_ ?_
  · exact t_M_readLine_29 v0 v1 h
  refine xs_step (fun K HC => xr_iload_n HC.1 12 21 (n := 1) (ix := 1) (j := 1) (x := v1) rfl rfl rfl rfl) ?_
  refine xs_step (fun K HC => xr_iconst HC.1 13 22 (n := (3)) (3 : Int32) rfl rfl rfl) ?_
  refine xs_ite (fun K HC => xr_icmp_ge HC.1 14 29 25 rfl (by decide) rfl) ?_ ?_
  · exact t_M_readLine_29 v0 v1 h
  refine xs_step (fun K HC => xr_aload_n HC.1 15 26 (n := 0) (ix := 0) (j := 0) (c := 11) (x := v0) rfl rfl rfl rfl) ?_
  refine xs_callv (s_M_token v0 h) (fun K HC x9 hM hmo hb => xr_callV HC.1 16 29 (av := []) (st := []) (hM (kg K) (cx_l (kx K))) hmo hb rfl rfl wm_M_277 wi_M_token ws_M_token wc_M_token rfl wh_M_token (by decide) (by decide) (by decide) (Nat.le_of_ble_eq_true rfl) rfl) (fun x_16 => ?_)
  exact t_M_readLine_29 v0 v1 x_16
set_option maxHeartbeats 4000000 in
set_option maxRecDepth 100000 in
theorem t_M_readLine (v0 : Nat) (h : HP) : xx_S (xx_D "LampYardModel" tb_M_readLine 2 7 none false) xz_v (fun K => xL_v K) 0 [(0, av_R 11 (some v0))] [] h (f_M_readLine v0 h) := by
  unfold f_M_readLine
  refine xs_step (fun K HC => xr_aload_n HC.1 0 1 (n := 0) (ix := 0) (j := 0) (c := 11) (x := v0) rfl rfl rfl rfl) ?_
  refine xs_calli (s_M_lineOf v0 h) (fun K HC x9 hM hmo hb => xr_callV HC.1 1 4 (av := []) (st := []) (hM (kg K) (cx_l (kx K))) hmo hb rfl rfl wm_M_362 wi_M_lineOf ws_M_lineOf wc_M_lineOf rfl wh_M_lineOf (by decide) (by decide) (by decide) (Nat.le_of_ble_eq_true rfl) rfl) (fun x_1 => ?_)
  refine xs_step (fun K HC => xr_istore_n HC.1 2 5 (n := 1) (ix := 1) (lv' := [(0, av_R 11 (some v0)), (1, av_I x_1.1)]) rfl rfl rfl (by decide) rfl) ?_
  refine xs_step (fun K HC => xr_iload_n HC.1 3 6 (n := 1) (ix := 1) (j := 1) (x := x_1.1) rfl rfl rfl rfl) ?_
  refine xs_ite (fun K HC => xr_if_lt HC.1 4 16 9 rfl (by decide) rfl) ?_ ?_
  · exact t_M_readLine_16 v0 x_1.1 x_1.2
  refine xs_step (fun K HC => xr_aload_n HC.1 5 10 (n := 0) (ix := 0) (j := 0) (c := 11) (x := v0) rfl rfl rfl rfl) ?_
  refine xs_bind (fun q_17 eq_17 => ?_)
  refine xs_step (fun K HC => xr_getr HC.1 6 13 11 19 15 eq_17 rfl rfl wf_M_46 (by decide) fb_11_19 fc_11_19 fd_11_19) ?_
  refine xs_step (fun K HC => xr_iload_n HC.1 7 14 (n := 1) (ix := 1) (j := 1) (x := x_1.1) rfl rfl rfl rfl) ?_
  refine xs_step (fun K HC => xr_iconst HC.1 8 15 (n := (1)) (1 : Int32) rfl rfl rfl) ?_
  refine xs_chk (fun hb_18 => ?_)
  refine xs_heap (hp_mo_si _ _ _ _) (fun K HC => xr_zast HC.1 9 16 (hp_in_vp hb_18) rfl rfl) (fun h_19 => ?_)
  exact t_M_readLine_16 v0 x_1.1 h_19
theorem s_M_readLine (v0 : Nat) (h : HP) : ∀ x, f_M_readLine v0 h = some x → hp_mo h x ∧ ∀ g l, xx_M g l y_M_readLine prog_14_method_33_code 2 none 7 [av_R 11 (some v0)] h none x :=
  xM_v (tb := tb_M_readLine) (b := false) (by decide +kernel) dt_M_readLine trivial (Nat.le_of_ble_eq_true rfl) (fun hb => by cases hb) (t_M_readLine v0 h)
