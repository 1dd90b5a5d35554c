def tb_M_said : TBL := [(0, .aload_n 0, 1), (1, .getfield 401, 3), (4, .ifCond .eq 46, 3), (7, .aload_n 0, 1), (8, .iload_n 1, 1), (9, .invokevirtual 457, 3), (12, .ifCond .eq 38, 3), (15, .aload_n 0, 1), (16, .iload_n 1, 1), (17, .invokevirtual 506, 3), (20, .ifCond .eq 30, 3), (23, .iload_n 2, 1), (24, .ifCond .lt 26, 3), (27, .iload_n 2, 1), (28, .bipush 12, 2), (30, .if_icmp .gt 20, 3), (33, .iload_n 3, 1), (34, .ifCond .lt 16, 3), (37, .iload_n 3, 1), (38, .iconst 1, 1), (39, .if_icmp .gt 11, 3), (42, .iload 4, 2), (44, .invokestatic 558, 3), (47, .ifCond .ne 7, 3), (50, .ldc2_w 561, 3), (53, .lreturn, 1), (54, .aload_n 0, 1), (55, .iconst (-1), 1), (56, .invokevirtual 521, 3), (59, .ifCond .ne 7, 3), (62, .ldc2_w 563, 3), (65, .lreturn, 1), (66, .iconst 0, 1), (67, .istore 5, 2), (69, .iload 5, 2), (71, .aload_n 0, 1), (72, .getfield 489, 3), (75, .if_icmp .ge 17, 3), (78, .aload_n 0, 1), (79, .getfield 127, 3), (82, .iload 5, 2), (84, .lconst 0, 1), (85, .lastore, 1), (86, .iinc 5 1, 3), (89, .goto (-20), 3), (92, .aload_n 0, 1), (93, .getfield 127, 3), (96, .aload_n 0, 1), (97, .iload_n 1, 1), (98, .invokevirtual 534, 3), (101, .lconst 1, 1), (102, .lastore, 1), (103, .lconst 1, 1), (104, .lstore 5, 2), (106, .lconst 0, 1), (107, .lstore 7, 2), (109, .iconst 0, 1), (110, .istore 9, 2), (112, .iload 9, 2), (114, .iload_n 2, 1), (115, .if_icmp .ge 202, 3), (118, .lload 5, 2), (120, .aload_n 0, 1), (121, .getfield 401, 3), (124, .i2l, 1), (125, .lmul, 1), (126, .lstore 5, 2), (128, .lload 7, 2), (130, .aload_n 0, 1), (131, .getfield 401, 3), (134, .i2l, 1), (135, .lmul, 1), (136, .lstore 7, 2), (138, .iconst 0, 1), (139, .istore 10, 2), (141, .iload 10, 2), (143, .aload_n 0, 1), (144, .getfield 489, 3), (147, .if_icmp .ge 17, 3), (150, .aload_n 0, 1), (151, .getfield 130, 3), (154, .iload 10, 2), (156, .lconst 0, 1), (157, .lastore, 1), (158, .iinc 10 1, 3), (161, .goto (-20), 3), (164, .iconst 0, 1), (165, .istore 10, 2), (167, .iload 10, 2), (169, .aload_n 0, 1), (170, .getfield 489, 3), (173, .if_icmp .ge 106, 3), (176, .iconst 0, 1), (177, .istore 11, 2), (179, .iload 11, 2), (181, .aload_n 0, 1), (182, .getfield 401, 3), (185, .if_icmp .ge 88, 3), (188, .aload_n 0, 1), (189, .getfield 127, 3), (192, .iload 10, 2), (194, .laload, 1), (195, .lconst 0, 1), (196, .lcmp, 1), (197, .ifCond .le 76, 3), (200, .aload_n 0, 1), (201, .getfield 100, 3), (204, .bipush 6, 2), (206, .iload 10, 2), (208, .imul, 1), (209, .iload 11, 2), (211, .iadd, 1), (212, .iaload, 1), (213, .istore 12, 2), (215, .iload 12, 2), (217, .ifCond .lt 23, 3), (220, .aload_n 0, 1), (221, .getfield 130, 3), (224, .iload 12, 2), (226, .dup2, 1), (227, .laload, 1), (228, .aload_n 0, 1), (229, .getfield 127, 3), (232, .iload 10, 2), (234, .laload, 1), (235, .ladd, 1), (236, .lastore, 1), (237, .goto 30, 3), (240, .lload 7, 2), (242, .iload_n 3, 1), (243, .ifCond .eq 10, 3), (246, .iload 12, 2), (248, .bipush (-3), 2), (250, .if_icmp .ne 13, 3), (253, .aload_n 0, 1), (254, .getfield 127, 3), (257, .iload 10, 2), (259, .laload, 1), (260, .goto 4, 3), (263, .lconst 0, 1), (264, .ladd, 1), (265, .lstore 7, 2), (267, .iinc 11 1, 3), (270, .goto (-91), 3), (273, .iinc 10 1, 3), (276, .goto (-109), 3), (279, .iconst 0, 1), (280, .istore 10, 2), (282, .iload 10, 2), (284, .aload_n 0, 1), (285, .getfield 489, 3), (288, .if_icmp .ge 23, 3), (291, .aload_n 0, 1), (292, .getfield 127, 3), (295, .iload 10, 2), (297, .aload_n 0, 1), (298, .getfield 130, 3), (301, .iload 10, 2), (303, .laload, 1), (304, .lastore, 1), (305, .iinc 10 1, 3), (308, .goto (-26), 3), (311, .iinc 9 1, 3), (314, .goto (-202), 3), (317, .lload 7, 2), (319, .lload 5, 2), (321, .iload 4, 2), (323, .invokestatic 565, 3), (326, .lreturn, 1)]
theorem dt_M_said : ∀ q ∈ tb_M_said, decode prog_14_method_87_code q.1 = .ok (q.2.1, q.2.2) := by decide +kernel
set_option maxHeartbeats 4000000 in
set_option maxRecDepth 100000 in
theorem t_M_said_317 (v4 : Int32) (v5 : Int64) (v7 : Int64) (h : HP) : xx_S (xx_D "LampYardModel" tb_M_said 13 8 (some .long) false) xz_l (fun K => xL_l K) 317 [(4, av_I v4), (5, av_L v5), (7, av_L v7)] [] h (f_M_said_317 v4 v5 v7 h) := by
  unfold f_M_said_317
  refine xs_step (fun K HC => xr_lload HC.1 164 319 (ix := 7) (j := 2) (x := v7) rfl rfl rfl) ?_
  refine xs_step (fun K HC => xr_lload HC.1 165 321 (ix := 5) (j := 1) (x := v5) rfl rfl rfl) ?_
  refine xs_step (fun K HC => xr_iload HC.1 166 323 (ix := 4) (j := 0) (x := v4) rfl rfl rfl) ?_
  refine xs_calll (s_M_partOf v7 v5 v4 h) (fun K HC x9 hM hmo hb => xr_callS HC.1 167 326 (av := [av_L v7, av_L v5, av_I v4]) (st := []) (hM (kg K) (cx_l (kx K))) hmo hb rfl rfl wm_M_565 wt_M_partOf wn_M_partOf wc_M_partOf wh_M_partOf (by decide) (by decide) (Nat.le_of_ble_eq_true rfl) rfl) (fun x_9 => ?_)
  exact xs_retl 168 rfl rfl (fun K q => q)
set_option maxHeartbeats 4000000 in
set_option maxRecDepth 100000 in
theorem t_M_said_311 (v0 : Nat) (v2 : Int32) (v3 : Int32) (v4 : Int32) (v5 : Int64) (v7 : Int64) (v9 : Int32) (h : HP) : xx_S (xx_D "LampYardModel" tb_M_said 13 8 (some .long) false) (xx_z2 (fun s : (Int64 × Int64 × Int32 × HP) => s.2.2.2) xz_l) (fun K => xx_L2 (fun s : (Int64 × Int64 × Int32 × HP) => xx_X K 112 [(0, av_R 11 (some v0)), (2, av_I v2), (3, av_I v3), (4, av_I v4), (5, av_L s.1), (7, av_L s.2.1), (9, av_I s.2.2.1)] [] (s.2.2.2)) (xL_l K)) 311 [(0, av_R 11 (some v0)), (2, av_I v2), (3, av_I v3), (4, av_I v4), (5, av_L v5), (7, av_L v7), (9, av_I v9)] [] h (f_M_said_311 v0 v2 v3 v4 v5 v7 v9 h) := by
  unfold f_M_said_311
  refine xs_gen (fun v9_12 ev9_12 => ?_)
  refine xs_step (fun K HC => xr_iinc HC.1 162 314 (ix := 9) (j := 6) (n := (1)) (x := v9) v9_12 (lv' := [(0, av_R 11 (some v0)), (2, av_I v2), (3, av_I v3), (4, av_I v4), (5, av_L v5), (7, av_L v7), (9, av_I v9_12)]) rfl (by rw [ev9_12]; rfl) rfl rfl (by decide) rfl) ?_
  refine xs_step (fun K HC => xr_goto HC.1 163 112 rfl (by decide)) ?_
  exact xs_back rfl (fun K q => q)
set_option maxHeartbeats 4000000 in
set_option maxRecDepth 100000 in
theorem t_M_said_282b (v0 : Nat) (v2 : Int32) (v3 : Int32) (v4 : Int32) (v5 : Int64) (v7 : Int64) (v9 : Int32) (v10 : Int32) (h : HP) : xx_S (xx_D "LampYardModel" tb_M_said 13 8 (some .long) false) (xx_z2 (fun s : (Int32 × HP) => s.2) (xx_z2 (fun s : (Int64 × Int64 × Int32 × HP) => s.2.2.2) xz_l)) (fun K => xx_L2 (fun s : (Int32 × HP) => xx_X K 282 [(0, av_R 11 (some v0)), (2, av_I v2), (3, av_I v3), (4, av_I v4), (5, av_L v5), (7, av_L v7), (9, av_I v9), (10, av_I s.1)] [] (s.2)) (xx_L2 (fun s : (Int64 × Int64 × Int32 × HP) => xx_X K 112 [(0, av_R 11 (some v0)), (2, av_I v2), (3, av_I v3), (4, av_I v4), (5, av_L s.1), (7, av_L s.2.1), (9, av_I s.2.2.1)] [] (s.2.2.2)) (xL_l K))) 282 [(0, av_R 11 (some v0)), (2, av_I v2), (3, av_I v3), (4, av_I v4), (5, av_L v5), (7, av_L v7), (9, av_I v9), (10, av_I v10)] [] h (f_M_said_282b v0 v2 v3 v4 v5 v7 v9 v10 h) := by
  unfold f_M_said_282b
  refine xs_step (fun K HC => xr_iload HC.1 148 284 (ix := 10) (j := 7) (x := v10) rfl rfl rfl) ?_
  refine xs_step (fun K HC => xr_aload_n HC.1 149 285 (n := 0) (ix := 0) (j := 0) (c := 11) (x := v0) rfl rfl rfl rfl) ?_
  refine xs_step (fun K HC => xr_geti HC.1 150 288 11 65 rfl rfl wf_M_489 (by decide) fb_11_65 fc_11_65) ?_
  refine xs_ite (fun K HC => xr_icmp_ge HC.1 151 311 291 rfl (by decide) rfl) ?_ ?_
  · refine xs_step (fun K HC => xr_sub (lv' := [(0, av_R 11 (some v0)), (2, av_I v2), (3, av_I v3), (4, av_I v4), (5, av_L v5), (7, av_L v7), (9, av_I v9)]) [0, 1, 2, 3, 4, 5, 6] rfl) ?_
    exact xs_map (fun _ => rfl) (fun _ _ q => q) (t_M_said_311 v0 v2 v3 v4 v5 v7 v9 h)
  refine xs_step (fun K HC => xr_aload_n HC.1 152 292 (n := 0) (ix := 0) (j := 0) (c := 11) (x := v0) rfl rfl rfl rfl) ?_
  refine xs_bind (fun q_13 eq_13 => ?_)
  refine xs_step (fun K HC => xr_getr HC.1 153 295 11 76 14 eq_13 rfl rfl wf_M_127 (by decide) fb_11_76 fc_11_76 fd_11_76) ?_
  refine xs_step (fun K HC => xr_iload HC.1 154 297 (ix := 10) (j := 7) (x := v10) rfl rfl rfl) ?_
  refine xs_step (fun K HC => xr_aload_n HC.1 155 298 (n := 0) (ix := 0) (j := 0) (c := 11) (x := v0) rfl rfl rfl rfl) ?_
  refine xs_bind (fun q_14 eq_14 => ?_)
  refine xs_step (fun K HC => xr_getr HC.1 156 301 11 77 14 eq_14 rfl rfl wf_M_130 (by decide) fb_11_77 fc_11_77 fd_11_77) ?_
  refine xs_step (fun K HC => xr_iload HC.1 157 303 (ix := 10) (j := 7) (x := v10) rfl rfl rfl) ?_
  refine xs_chk (fun hb_15 => ?_)
  refine xs_step (fun K HC => xr_lald HC.1 158 304 (hp_in_vp hb_15) rfl rfl) ?_
  refine xs_chk (fun hb_16 => ?_)
  refine xs_heap (hp_mo_sl _ _ _ _) (fun K HC => xr_last HC.1 159 305 (hp_in_vp hb_16) rfl rfl) (fun h_17 => ?_)
  refine xs_gen (fun v10_18 ev10_18 => ?_)
  refine xs_step (fun K HC => xr_iinc HC.1 160 308 (ix := 10) (j := 7) (n := (1)) (x := v10) v10_18 (lv' := [(0, av_R 11 (some v0)), (2, av_I v2), (3, av_I v3), (4, av_I v4), (5, av_L v5), (7, av_L v7), (9, av_I v9), (10, av_I v10_18)]) rfl (by rw [ev10_18]; rfl) rfl rfl (by decide) rfl) ?_
  refine xs_step (fun K HC => xr_goto HC.1 161 282 rfl (by decide)) ?_
  exact xs_back rfl (fun K q => q)
theorem t_M_said_282 (v0 : Nat) (v2 : Int32) (v3 : Int32) (v4 : Int32) (v5 : Int64) (v7 : Int64) (v9 : Int32) (v10 : Int32) (h : HP) : xx_S (xx_D "LampYardModel" tb_M_said 13 8 (some .long) false) (xx_z2 (fun s : (Int64 × Int64 × Int32 × HP) => s.2.2.2) xz_l) (fun K => xx_L2 (fun s : (Int64 × Int64 × Int32 × HP) => xx_X K 112 [(0, av_R 11 (some v0)), (2, av_I v2), (3, av_I v3), (4, av_I v4), (5, av_L s.1), (7, av_L s.2.1), (9, av_I s.2.2.1)] [] (s.2.2.2)) (xL_l K)) 282 [(0, av_R 11 (some v0)), (2, av_I v2), (3, av_I v3), (4, av_I v4), (5, av_L v5), (7, av_L v7), (9, av_I v9), (10, av_I v10)] [] h (f_M_said_282 v0 v2 v3 v4 v5 v7 v9 v10 h) :=
  xs_loop (zf := (xx_z2 (fun s : (Int64 × Int64 × Int32 × HP) => s.2.2.2) xz_l)) (L := (fun K => xx_L2 (fun s : (Int64 × Int64 × Int32 × HP) => xx_X K 112 [(0, av_R 11 (some v0)), (2, av_I v2), (3, av_I v3), (4, av_I v4), (5, av_L s.1), (7, av_L s.2.1), (9, av_I s.2.2.1)] [] (s.2.2.2)) (xL_l K))) (fun s : (Int32 × HP) => [(0, av_R 11 (some v0)), (2, av_I v2), (3, av_I v3), (4, av_I v4), (5, av_L v5), (7, av_L v7), (9, av_I v9), (10, av_I s.1)]) (fun s : (Int32 × HP) => s.2) (fun s => t_M_said_282b v0 v2 v3 v4 v5 v7 v9 s.1 s.2) (v10, h)
set_option maxHeartbeats 4000000 in
set_option maxRecDepth 100000 in
theorem t_M_said_279 (v0 : Nat) (v2 : Int32) (v3 : Int32) (v4 : Int32) (v5 : Int64) (v7 : Int64) (v9 : Int32) (h : HP) : xx_S (xx_D "LampYardModel" tb_M_said 13 8 (some .long) false) (xx_z2 (fun s : (Int64 × Int64 × Int32 × HP) => s.2.2.2) xz_l) (fun K => xx_L2 (fun s : (Int64 × Int64 × Int32 × HP) => xx_X K 112 [(0, av_R 11 (some v0)), (2, av_I v2), (3, av_I v3), (4, av_I v4), (5, av_L s.1), (7, av_L s.2.1), (9, av_I s.2.2.1)] [] (s.2.2.2)) (xL_l K)) 279 [(0, av_R 11 (some v0)), (2, av_I v2), (3, av_I v3), (4, av_I v4), (5, av_L v5), (7, av_L v7), (9, av_I v9)] [] h (f_M_said_279 v0 v2 v3 v4 v5 v7 v9 h) := by
  unfold f_M_said_279
  refine xs_step (fun K HC => xr_iconst HC.1 146 280 (n := (0)) (0 : Int32) rfl rfl rfl) ?_
  refine xs_step (fun K HC => xr_istore HC.1 147 282 (ix := 10) (lv' := [(0, av_R 11 (some v0)), (2, av_I v2), (3, av_I v3), (4, av_I v4), (5, av_L v5), (7, av_L v7), (9, av_I v9), (10, av_I (0 : Int32))]) rfl rfl (by decide) rfl) ?_
  exact t_M_said_282 v0 v2 v3 v4 v5 v7 v9 (0 : Int32) h
set_option maxHeartbeats 4000000 in
set_option maxRecDepth 100000 in
theorem t_M_said_273 (v0 : Nat) (v2 : Int32) (v3 : Int32) (v4 : Int32) (v5 : Int64) (v7 : Int64) (v9 : Int32) (v10 : Int32) (h : HP) : xx_S (xx_D "LampYardModel" tb_M_said 13 8 (some .long) false) (xx_z2 (fun s : (Int64 × Int32 × HP) => s.2.2) (xx_z2 (fun s : (Int64 × Int64 × Int32 × HP) => s.2.2.2) xz_l)) (fun K => xx_L2 (fun s : (Int64 × Int32 × HP) => xx_X K 167 [(0, av_R 11 (some v0)), (2, av_I v2), (3, av_I v3), (4, av_I v4), (5, av_L v5), (7, av_L s.1), (9, av_I v9), (10, av_I s.2.1)] [] (s.2.2)) (xx_L2 (fun s : (Int64 × Int64 × Int32 × HP) => xx_X K 112 [(0, av_R 11 (some v0)), (2, av_I v2), (3, av_I v3), (4, av_I v4), (5, av_L s.1), (7, av_L s.2.1), (9, av_I s.2.2.1)] [] (s.2.2.2)) (xL_l K))) 273 [(0, av_R 11 (some v0)), (2, av_I v2), (3, av_I v3), (4, av_I v4), (5, av_L v5), (7, av_L v7), (9, av_I v9), (10, av_I v10)] [] h (f_M_said_273 v0 v2 v3 v4 v5 v7 v9 v10 h) := by
  unfold f_M_said_273
  refine xs_gen (fun v10_19 ev10_19 => ?_)
  refine xs_step (fun K HC => xr_iinc HC.1 144 276 (ix := 10) (j := 7) (n := (1)) (x := v10) v10_19 (lv' := [(0, av_R 11 (some v0)), (2, av_I v2), (3, av_I v3), (4, av_I v4), (5, av_L v5), (7, av_L v7), (9, av_I v9), (10, av_I v10_19)]) rfl (by rw [ev10_19]; rfl) rfl rfl (by decide) rfl) ?_
  refine xs_step (fun K HC => xr_goto HC.1 145 167 rfl (by decide)) ?_
  exact xs_back rfl (fun K q => q)
set_option maxHeartbeats 4000000 in
set_option maxRecDepth 100000 in
theorem t_M_said_267 (v0 : Nat) (v2 : Int32) (v3 : Int32) (v4 : Int32) (v5 : Int64) (v7 : Int64) (v9 : Int32) (v10 : Int32) (v11 : Int32) (h : HP) : xx_S (xx_D "LampYardModel" tb_M_said 13 8 (some .long) false) (xx_z2 (fun s : (Int64 × Int32 × HP) => s.2.2) (xx_z2 (fun s : (Int64 × Int32 × HP) => s.2.2) (xx_z2 (fun s : (Int64 × Int64 × Int32 × HP) => s.2.2.2) xz_l))) (fun K => xx_L2 (fun s : (Int64 × Int32 × HP) => xx_X K 179 [(0, av_R 11 (some v0)), (2, av_I v2), (3, av_I v3), (4, av_I v4), (5, av_L v5), (7, av_L s.1), (9, av_I v9), (10, av_I v10), (11, av_I s.2.1)] [] (s.2.2)) (xx_L2 (fun s : (Int64 × Int32 × HP) => xx_X K 167 [(0, av_R 11 (some v0)), (2, av_I v2), (3, av_I v3), (4, av_I v4), (5, av_L v5), (7, av_L s.1), (9, av_I v9), (10, av_I s.2.1)] [] (s.2.2)) (xx_L2 (fun s : (Int64 × Int64 × Int32 × HP) => xx_X K 112 [(0, av_R 11 (some v0)), (2, av_I v2), (3, av_I v3), (4, av_I v4), (5, av_L s.1), (7, av_L s.2.1), (9, av_I s.2.2.1)] [] (s.2.2.2)) (xL_l K)))) 267 [(0, av_R 11 (some v0)), (2, av_I v2), (3, av_I v3), (4, av_I v4), (5, av_L v5), (7, av_L v7), (9, av_I v9), (10, av_I v10), (11, av_I v11)] [] h (f_M_said_267 v0 v2 v3 v4 v5 v7 v9 v10 v11 h) := by
  unfold f_M_said_267
  refine xs_gen (fun v11_28 ev11_28 => ?_)
  refine xs_step (fun K HC => xr_iinc HC.1 142 270 (ix := 11) (j := 8) (n := (1)) (x := v11) v11_28 (lv' := [(0, av_R 11 (some v0)), (2, av_I v2), (3, av_I v3), (4, av_I v4), (5, av_L v5), (7, av_L v7), (9, av_I v9), (10, av_I v10), (11, av_I v11_28)]) rfl (by rw [ev11_28]; rfl) rfl rfl (by decide) rfl) ?_
  refine xs_step (fun K HC => xr_goto HC.1 143 179 rfl (by decide)) ?_
  exact xs_back rfl (fun K q => q)
set_option maxHeartbeats 4000000 in
set_option maxRecDepth 100000 in
theorem t_M_said_264 (v0 : Nat) (v2 : Int32) (v3 : Int32) (v4 : Int32) (v5 : Int64) (v9 : Int32) (v10 : Int32) (v11 : Int32) (s0 : Int64) (s1 : Int64) (h : HP) : xx_S (xx_D "LampYardModel" tb_M_said 13 8 (some .long) false) (xx_z2 (fun s : (Int64 × Int32 × HP) => s.2.2) (xx_z2 (fun s : (Int64 × Int32 × HP) => s.2.2) (xx_z2 (fun s : (Int64 × Int64 × Int32 × HP) => s.2.2.2) xz_l))) (fun K => xx_L2 (fun s : (Int64 × Int32 × HP) => xx_X K 179 [(0, av_R 11 (some v0)), (2, av_I v2), (3, av_I v3), (4, av_I v4), (5, av_L v5), (7, av_L s.1), (9, av_I v9), (10, av_I v10), (11, av_I s.2.1)] [] (s.2.2)) (xx_L2 (fun s : (Int64 × Int32 × HP) => xx_X K 167 [(0, av_R 11 (some v0)), (2, av_I v2), (3, av_I v3), (4, av_I v4), (5, av_L v5), (7, av_L s.1), (9, av_I v9), (10, av_I s.2.1)] [] (s.2.2)) (xx_L2 (fun s : (Int64 × Int64 × Int32 × HP) => xx_X K 112 [(0, av_R 11 (some v0)), (2, av_I v2), (3, av_I v3), (4, av_I v4), (5, av_L s.1), (7, av_L s.2.1), (9, av_I s.2.2.1)] [] (s.2.2.2)) (xL_l K)))) 264 [(0, av_R 11 (some v0)), (2, av_I v2), (3, av_I v3), (4, av_I v4), (5, av_L v5), (9, av_I v9), (10, av_I v10), (11, av_I v11)] [av_L s0, av_L s1] h (f_M_said_264 v0 v2 v3 v4 v5 v9 v10 v11 s0 s1 h) := by
  unfold f_M_said_264
  refine xs_step (fun K HC => xr_ladd HC.1 140 265 rfl rfl) ?_
  refine xs_topl (fun v7_27 => ?_)
  refine xs_step (fun K HC => xr_lstore HC.1 141 267 (ix := 7) (lv' := [(0, av_R 11 (some v0)), (2, av_I v2), (3, av_I v3), (4, av_I v4), (5, av_L v5), (7, av_L v7_27), (9, av_I v9), (10, av_I v10), (11, av_I v11)]) rfl rfl (by decide) rfl) ?_
  exact t_M_said_267 v0 v2 v3 v4 v5 v7_27 v9 v10 v11 h
set_option maxHeartbeats 4000000 in
set_option maxRecDepth 100000 in
theorem t_M_said_253 (v0 : Nat) (v2 : Int32) (v3 : Int32) (v4 : Int32) (v5 : Int64) (v9 : Int32) (v10 : Int32) (v11 : Int32) (s0 : Int64) (h : HP) : xx_S (xx_D "LampYardModel" tb_M_said 13 8 (some .long) false) (xx_z2 (fun s : (Int64 × Int32 × HP) => s.2.2) (xx_z2 (fun s : (Int64 × Int32 × HP) => s.2.2) (xx_z2 (fun s : (Int64 × Int64 × Int32 × HP) => s.2.2.2) xz_l))) (fun K => xx_L2 (fun s : (Int64 × Int32 × HP) => xx_X K 179 [(0, av_R 11 (some v0)), (2, av_I v2), (3, av_I v3), (4, av_I v4), (5, av_L v5), (7, av_L s.1), (9, av_I v9), (10, av_I v10), (11, av_I s.2.1)] [] (s.2.2)) (xx_L2 (fun s : (Int64 × Int32 × HP) => xx_X K 167 [(0, av_R 11 (some v0)), (2, av_I v2), (3, av_I v3), (4, av_I v4), (5, av_L v5), (7, av_L s.1), (9, av_I v9), (10, av_I s.2.1)] [] (s.2.2)) (xx_L2 (fun s : (Int64 × Int64 × Int32 × HP) => xx_X K 112 [(0, av_R 11 (some v0)), (2, av_I v2), (3, av_I v3), (4, av_I v4), (5, av_L s.1), (7, av_L s.2.1), (9, av_I s.2.2.1)] [] (s.2.2.2)) (xL_l K)))) 253 [(0, av_R 11 (some v0)), (2, av_I v2), (3, av_I v3), (4, av_I v4), (5, av_L v5), (9, av_I v9), (10, av_I v10), (11, av_I v11)] [av_L s0] h (f_M_said_253 v0 v2 v3 v4 v5 v9 v10 v11 s0 h) := by
  unfold f_M_said_253
  refine xs_step (fun K HC => xr_aload_n HC.1 134 254 (n := 0) (ix := 0) (j := 0) (c := 11) (x := v0) rfl rfl rfl rfl) ?_
  refine xs_bind (fun q_25 eq_25 => ?_)
  refine xs_step (fun K HC => xr_getr HC.1 135 257 11 76 14 eq_25 rfl rfl wf_M_127 (by decide) fb_11_76 fc_11_76 fd_11_76) ?_
  refine xs_step (fun K HC => xr_iload HC.1 136 259 (ix := 10) (j := 6) (x := v10) rfl rfl rfl) ?_
  refine xs_chk (fun hb_26 => ?_)
  refine xs_step (fun K HC => xr_lald HC.1 137 260 (hp_in_vp hb_26) rfl rfl) ?_
  refine xs_step (fun K HC => xr_goto HC.1 138 264 rfl (by decide)) ?_
  exact t_M_said_264 v0 v2 v3 v4 v5 v9 v10 v11 (hp_l h q_25 (v10).toNatClampNeg) s0 h
set_option maxHeartbeats 4000000 in
set_option maxRecDepth 100000 in
theorem t_M_said_179b (v0 : Nat) (v2 : Int32) (v3 : Int32) (v4 : Int32) (v5 : Int64) (v9 : Int32) (v10 : Int32) (v7 : Int64) (v11 : Int32) (h : HP) : xx_S (xx_D "LampYardModel" tb_M_said 13 8 (some .long) false) (xx_z2 (fun s : (Int64 × Int32 × HP) => s.2.2) (xx_z2 (fun s : (Int64 × Int32 × HP) => s.2.2) (xx_z2 (fun s : (Int64 × Int64 × Int32 × HP) => s.2.2.2) xz_l))) (fun K => xx_L2 (fun s : (Int64 × Int32 × HP) => xx_X K 179 [(0, av_R 11 (some v0)), (2, av_I v2), (3, av_I v3), (4, av_I v4), (5, av_L v5), (7, av_L s.1), (9, av_I v9), (10, av_I v10), (11, av_I s.2.1)] [] (s.2.2)) (xx_L2 (fun s : (Int64 × Int32 × HP) => xx_X K 167 [(0, av_R 11 (some v0)), (2, av_I v2), (3, av_I v3), (4, av_I v4), (5, av_L v5), (7, av_L s.1), (9, av_I v9), (10, av_I s.2.1)] [] (s.2.2)) (xx_L2 (fun s : (Int64 × Int64 × Int32 × HP) => xx_X K 112 [(0, av_R 11 (some v0)), (2, av_I v2), (3, av_I v3), (4, av_I v4), (5, av_L s.1), (7, av_L s.2.1), (9, av_I s.2.2.1)] [] (s.2.2.2)) (xL_l K)))) 179 [(0, av_R 11 (some v0)), (2, av_I v2), (3, av_I v3), (4, av_I v4), (5, av_L v5), (7, av_L v7), (9, av_I v9), (10, av_I v10), (11, av_I v11)] [] h (f_M_said_179b v0 v2 v3 v4 v5 v9 v10 v7 v11 h) := by
  unfold f_M_said_179b
  refine xs_step (fun K HC => xr_iload HC.1 94 181 (ix := 11) (j := 8) (x := v11) rfl rfl rfl) ?_
  refine xs_step (fun K HC => xr_aload_n HC.1 95 182 (n := 0) (ix := 0) (j := 0) (c := 11) (x := v0) rfl rfl rfl rfl) ?_
  refine xs_step (fun K HC => xr_geti HC.1 96 185 11 33 rfl rfl wf_M_401 (by decide) fb_11_33 fc_11_33) ?_
  refine xs_ite (fun K HC => xr_icmp_ge HC.1 97 273 188 rfl (by decide) rfl) ?_ ?_
  · refine xs_step (fun K HC => xr_sub (lv' := [(0, av_R 11 (some v0)), (2, av_I v2), (3, av_I v3), (4, av_I v4), (5, av_L v5), (7, av_L v7), (9, av_I v9), (10, av_I v10)]) [0, 1, 2, 3, 4, 5, 6, 7] rfl) ?_
    exact xs_map (fun _ => rfl) (fun _ _ q => q) (t_M_said_273 v0 v2 v3 v4 v5 v7 v9 v10 h)
  refine xs_step (fun K HC => xr_aload_n HC.1 98 189 (n := 0) (ix := 0) (j := 0) (c := 11) (x := v0) rfl rfl rfl rfl) ?_
  refine xs_bind (fun q_20 eq_20 => ?_)
  refine xs_step (fun K HC => xr_getr HC.1 99 192 11 76 14 eq_20 rfl rfl wf_M_127 (by decide) fb_11_76 fc_11_76 fd_11_76) ?_
  refine xs_step (fun K HC => xr_iload HC.1 100 194 (ix := 10) (j := 7) (x := v10) rfl rfl rfl) ?_
  refine xs_chk (fun hb_21 => ?_)
  refine xs_step (fun K HC => xr_lald HC.1 101 195 (hp_in_vp hb_21) rfl rfl) ?_
  refine xs_step (fun K HC => xr_lconst HC.1 102 196 (n := 0) (0 : Int64) rfl rfl rfl) ?_
  refine xs_step (fun K HC => xr_lcmp HC.1 103 197 rfl rfl) ?_
  refine xs_ite (fun K HC => xr_if_le HC.1 104 273 200 rfl (by decide) rfl) ?_ ?_
  · refine xs_step (fun K HC => xr_sub (lv' := [(0, av_R 11 (some v0)), (2, av_I v2), (3, av_I v3), (4, av_I v4), (5, av_L v5), (7, av_L v7), (9, av_I v9), (10, av_I v10)]) [0, 1, 2, 3, 4, 5, 6, 7] rfl) ?_
    exact xs_map (fun _ => rfl) (fun _ _ q => q) (t_M_said_273 v0 v2 v3 v4 v5 v7 v9 v10 h)
  refine xs_step (fun K HC => xr_aload_n HC.1 105 201 (n := 0) (ix := 0) (j := 0) (c := 11) (x := v0) rfl rfl rfl rfl) ?_
  refine xs_bind (fun q_22 eq_22 => ?_)
  refine xs_step (fun K HC => xr_getr HC.1 106 204 11 64 13 eq_22 rfl rfl wf_M_100 (by decide) fb_11_64 fc_11_64 fd_11_64) ?_
  refine xs_step (fun K HC => xr_bipush HC.1 107 206 (n := (6)) (6 : Int32) rfl rfl rfl) ?_
  refine xs_step (fun K HC => xr_iload HC.1 108 208 (ix := 10) (j := 7) (x := v10) rfl rfl rfl) ?_
  refine xs_step (fun K HC => xr_imul HC.1 109 209 rfl rfl) ?_
  refine xs_step (fun K HC => xr_iload HC.1 110 211 (ix := 11) (j := 8) (x := v11) rfl rfl rfl) ?_
  refine xs_step (fun K HC => xr_iadd HC.1 111 212 rfl rfl) ?_
  refine xs_chk (fun hb_23 => ?_)
  refine xs_step (fun K HC => xr_iald HC.1 112 213 (hp_in_vp hb_23) rfl rfl) ?_
  refine xs_topi (fun v12_24 => ?_)
  refine xs_step (fun K HC => xr_istore HC.1 113 215 (ix := 12) (lv' := [(0, av_R 11 (some v0)), (2, av_I v2), (3, av_I v3), (4, av_I v4), (5, av_L v5), (7, av_L v7), (9, av_I v9), (10, av_I v10), (11, av_I v11), (12, av_I v12_24)]) rfl rfl (by decide) rfl) ?_
  refine xs_step (fun K HC => xr_iload HC.1 114 217 (ix := 12) (j := 9) (x := v12_24) rfl rfl rfl) ?_
  refine xs_ite (fun K HC => xr_if_lt HC.1 115 240 220 rfl (by decide) rfl) ?_ ?_
  · refine xs_step (fun K HC => xr_lload HC.1 128 242 (ix := 7) (j := 5) (x := v7) rfl rfl rfl) ?_
    refine xs_step (fun K HC => xr_iload_n HC.1 129 243 (n := 3) (ix := 3) (j := 2) (x := v3) rfl rfl rfl rfl) ?_
    refine xs_ite (fun K HC => xr_if_eq HC.1 130 253 246 rfl (by decide) rfl) ?_ ?_
    · refine xs_step (fun K HC => xr_sub (lv' := [(0, av_R 11 (some v0)), (2, av_I v2), (3, av_I v3), (4, av_I v4), (5, av_L v5), (9, av_I v9), (10, av_I v10), (11, av_I v11)]) [0, 1, 2, 3, 4, 6, 7, 8] rfl) ?_
      exact t_M_said_253 v0 v2 v3 v4 v5 v9 v10 v11 v7 h
    refine xs_step (fun K HC => xr_iload HC.1 131 248 (ix := 12) (j := 9) (x := v12_24) rfl rfl rfl) ?_
    refine xs_step (fun K HC => xr_bipush HC.1 132 250 (n := (-3)) (-3 : Int32) rfl rfl rfl) ?_
    refine xs_ite (fun K HC a b => xr_icmp_ne HC.1 133 263 253 rfl (by decide) rfl b a) ?_ ?_
    · refine xs_step (fun K HC => xr_sub (lv' := [(0, av_R 11 (some v0)), (2, av_I v2), (3, av_I v3), (4, av_I v4), (5, av_L v5), (9, av_I v9), (10, av_I v10), (11, av_I v11)]) [0, 1, 2, 3, 4, 6, 7, 8] rfl) ?_
      exact t_M_said_253 v0 v2 v3 v4 v5 v9 v10 v11 v7 h
    refine xs_step (fun K HC => xr_lconst HC.1 139 264 (n := 0) (0 : Int64) rfl rfl rfl) ?_
    refine xs_step (fun K HC => xr_sub (lv' := [(0, av_R 11 (some v0)), (2, av_I v2), (3, av_I v3), (4, av_I v4), (5, av_L v5), (9, av_I v9), (10, av_I v10), (11, av_I v11)]) [0, 1, 2, 3, 4, 6, 7, 8] rfl) ?_
    exact t_M_said_264 v0 v2 v3 v4 v5 v9 v10 v11 (0 : Int64) v7 h
  refine xs_step (fun K HC => xr_aload_n HC.1 116 221 (n := 0) (ix := 0) (j := 0) (c := 11) (x := v0) rfl rfl rfl rfl) ?_
  refine xs_bind (fun q_29 eq_29 => ?_)
  refine xs_step (fun K HC => xr_getr HC.1 117 224 11 77 14 eq_29 rfl rfl wf_M_130 (by decide) fb_11_77 fc_11_77 fd_11_77) ?_
  refine xs_step (fun K HC => xr_iload HC.1 118 226 (ix := 12) (j := 9) (x := v12_24) rfl rfl rfl) ?_
  refine xs_step (fun K HC => xr_dup2 HC.1 119 227 rfl rfl rfl rfl) ?_
  refine xs_chk (fun hb_30 => ?_)
  refine xs_step (fun K HC => xr_lald HC.1 120 228 (hp_in_vp hb_30) rfl rfl) ?_
  refine xs_step (fun K HC => xr_aload_n HC.1 121 229 (n := 0) (ix := 0) (j := 0) (c := 11) (x := v0) rfl rfl rfl rfl) ?_
  refine xs_bind (fun q_31 eq_31 => ?_)
  refine xs_step (fun K HC => xr_getr HC.1 122 232 11 76 14 eq_31 rfl rfl wf_M_127 (by decide) fb_11_76 fc_11_76 fd_11_76) ?_
  refine xs_step (fun K HC => xr_iload HC.1 123 234 (ix := 10) (j := 7) (x := v10) rfl rfl rfl) ?_
  refine xs_chk (fun hb_32 => ?_)
  refine xs_step (fun K HC => xr_lald HC.1 124 235 (hp_in_vp hb_32) rfl rfl) ?_
  refine xs_step (fun K HC => xr_ladd HC.1 125 236 rfl rfl) ?_
  refine xs_chk (fun hb_33 => ?_)
  refine xs_heap (hp_mo_sl _ _ _ _) (fun K HC => xr_last HC.1 126 237 (hp_in_vp hb_33) rfl rfl) (fun h_34 => ?_)
  refine xs_step (fun K HC => xr_goto HC.1 127 267 rfl (by decide)) ?_
  refine xs_step (fun K HC => xr_sub (lv' := [(0, av_R 11 (some v0)), (2, av_I v2), (3, av_I v3), (4, av_I v4), (5, av_L v5), (7, av_L v7), (9, av_I v9), (10, av_I v10), (11, av_I v11)]) [0, 1, 2, 3, 4, 5, 6, 7, 8] rfl) ?_
  exact t_M_said_267 v0 v2 v3 v4 v5 v7 v9 v10 v11 h_34
theorem t_M_said_179 (v0 : Nat) (v2 : Int32) (v3 : Int32) (v4 : Int32) (v5 : Int64) (v9 : Int32) (v10 : Int32) (v7 : Int64) (v11 : Int32) (h : HP) : xx_S (xx_D "LampYardModel" tb_M_said 13 8 (some .long) false) (xx_z2 (fun s : (Int64 × Int32 × HP) => s.2.2) (xx_z2 (fun s : (Int64 × Int64 × Int32 × HP) => s.2.2.2) xz_l)) (fun K => xx_L2 (fun s : (Int64 × Int32 × HP) => xx_X K 167 [(0, av_R 11 (some v0)), (2, av_I v2), (3, av_I v3), (4, av_I v4), (5, av_L v5), (7, av_L s.1), (9, av_I v9), (10, av_I s.2.1)] [] (s.2.2)) (xx_L2 (fun s : (Int64 × Int64 × Int32 × HP) => xx_X K 112 [(0, av_R 11 (some v0)), (2, av_I v2), (3, av_I v3), (4, av_I v4), (5, av_L s.1), (7, av_L s.2.1), (9, av_I s.2.2.1)] [] (s.2.2.2)) (xL_l K))) 179 [(0, av_R 11 (some v0)), (2, av_I v2), (3, av_I v3), (4, av_I v4), (5, av_L v5), (7, av_L v7), (9, av_I v9), (10, av_I v10), (11, av_I v11)] [] h (f_M_said_179 v0 v2 v3 v4 v5 v9 v10 v7 v11 h) :=
  xs_loop (zf := (xx_z2 (fun s : (Int64 × Int32 × HP) => s.2.2) (xx_z2 (fun s : (Int64 × Int64 × Int32 × HP) => s.2.2.2) xz_l))) (L := (fun K => xx_L2 (fun s : (Int64 × Int32 × HP) => xx_X K 167 [(0, av_R 11 (some v0)), (2, av_I v2), (3, av_I v3), (4, av_I v4), (5, av_L v5), (7, av_L s.1), (9, av_I v9), (10, av_I s.2.1)] [] (s.2.2)) (xx_L2 (fun s : (Int64 × Int64 × Int32 × HP) => xx_X K 112 [(0, av_R 11 (some v0)), (2, av_I v2), (3, av_I v3), (4, av_I v4), (5, av_L s.1), (7, av_L s.2.1), (9, av_I s.2.2.1)] [] (s.2.2.2)) (xL_l K)))) (fun s : (Int64 × Int32 × HP) => [(0, av_R 11 (some v0)), (2, av_I v2), (3, av_I v3), (4, av_I v4), (5, av_L v5), (7, av_L s.1), (9, av_I v9), (10, av_I v10), (11, av_I s.2.1)]) (fun s : (Int64 × Int32 × HP) => s.2.2) (fun s => t_M_said_179b v0 v2 v3 v4 v5 v9 v10 s.1 s.2.1 s.2.2) (v7, v11, h)
set_option maxHeartbeats 4000000 in
set_option maxRecDepth 100000 in
theorem t_M_said_167b (v0 : Nat) (v2 : Int32) (v3 : Int32) (v4 : Int32) (v5 : Int64) (v9 : Int32) (v7 : Int64) (v10 : Int32) (h : HP) : xx_S (xx_D "LampYardModel" tb_M_said 13 8 (some .long) false) (xx_z2 (fun s : (Int64 × Int32 × HP) => s.2.2) (xx_z2 (fun s : (Int64 × Int64 × Int32 × HP) => s.2.2.2) xz_l)) (fun K => xx_L2 (fun s : (Int64 × Int32 × HP) => xx_X K 167 [(0, av_R 11 (some v0)), (2, av_I v2), (3, av_I v3), (4, av_I v4), (5, av_L v5), (7, av_L s.1), (9, av_I v9), (10, av_I s.2.1)] [] (s.2.2)) (xx_L2 (fun s : (Int64 × Int64 × Int32 × HP) => xx_X K 112 [(0, av_R 11 (some v0)), (2, av_I v2), (3, av_I v3), (4, av_I v4), (5, av_L s.1), (7, av_L s.2.1), (9, av_I s.2.2.1)] [] (s.2.2.2)) (xL_l K))) 167 [(0, av_R 11 (some v0)), (2, av_I v2), (3, av_I v3), (4, av_I v4), (5, av_L v5), (7, av_L v7), (9, av_I v9), (10, av_I v10)] [] h (f_M_said_167b v0 v2 v3 v4 v5 v9 v7 v10 h) := by
  unfold f_M_said_167b
  refine xs_step (fun K HC => xr_iload HC.1 88 169 (ix := 10) (j := 7) (x := v10) rfl rfl rfl) ?_
  refine xs_step (fun K HC => xr_aload_n HC.1 89 170 (n := 0) (ix := 0) (j := 0) (c := 11) (x := v0) rfl rfl rfl rfl) ?_
  refine xs_step (fun K HC => xr_geti HC.1 90 173 11 65 rfl rfl wf_M_489 (by decide) fb_11_65 fc_11_65) ?_
  refine xs_ite (fun K HC => xr_icmp_ge HC.1 91 279 176 rfl (by decide) rfl) ?_ ?_
  · refine xs_step (fun K HC => xr_sub (lv' := [(0, av_R 11 (some v0)), (2, av_I v2), (3, av_I v3), (4, av_I v4), (5, av_L v5), (7, av_L v7), (9, av_I v9)]) [0, 1, 2, 3, 4, 5, 6] rfl) ?_
    exact xs_map (fun _ => rfl) (fun _ _ q => q) (t_M_said_279 v0 v2 v3 v4 v5 v7 v9 h)
  refine xs_step (fun K HC => xr_iconst HC.1 92 177 (n := (0)) (0 : Int32) rfl rfl rfl) ?_
  refine xs_step (fun K HC => xr_istore HC.1 93 179 (ix := 11) (lv' := [(0, av_R 11 (some v0)), (2, av_I v2), (3, av_I v3), (4, av_I v4), (5, av_L v5), (7, av_L v7), (9, av_I v9), (10, av_I v10), (11, av_I (0 : Int32))]) rfl rfl (by decide) rfl) ?_
  exact t_M_said_179 v0 v2 v3 v4 v5 v9 v10 v7 (0 : Int32) h
theorem t_M_said_167 (v0 : Nat) (v2 : Int32) (v3 : Int32) (v4 : Int32) (v5 : Int64) (v9 : Int32) (v7 : Int64) (v10 : Int32) (h : HP) : xx_S (xx_D "LampYardModel" tb_M_said 13 8 (some .long) false) (xx_z2 (fun s : (Int64 × Int64 × Int32 × HP) => s.2.2.2) xz_l) (fun K => xx_L2 (fun s : (Int64 × Int64 × Int32 × HP) => xx_X K 112 [(0, av_R 11 (some v0)), (2, av_I v2), (3, av_I v3), (4, av_I v4), (5, av_L s.1), (7, av_L s.2.1), (9, av_I s.2.2.1)] [] (s.2.2.2)) (xL_l K)) 167 [(0, av_R 11 (some v0)), (2, av_I v2), (3, av_I v3), (4, av_I v4), (5, av_L v5), (7, av_L v7), (9, av_I v9), (10, av_I v10)] [] h (f_M_said_167 v0 v2 v3 v4 v5 v9 v7 v10 h) :=
  xs_loop (zf := (xx_z2 (fun s : (Int64 × Int64 × Int32 × HP) => s.2.2.2) xz_l)) (L := (fun K => xx_L2 (fun s : (Int64 × Int64 × Int32 × HP) => xx_X K 112 [(0, av_R 11 (some v0)), (2, av_I v2), (3, av_I v3), (4, av_I v4), (5, av_L s.1), (7, av_L s.2.1), (9, av_I s.2.2.1)] [] (s.2.2.2)) (xL_l K))) (fun s : (Int64 × Int32 × HP) => [(0, av_R 11 (some v0)), (2, av_I v2), (3, av_I v3), (4, av_I v4), (5, av_L v5), (7, av_L s.1), (9, av_I v9), (10, av_I s.2.1)]) (fun s : (Int64 × Int32 × HP) => s.2.2) (fun s => t_M_said_167b v0 v2 v3 v4 v5 v9 s.1 s.2.1 s.2.2) (v7, v10, h)
set_option maxHeartbeats 4000000 in
set_option maxRecDepth 100000 in
theorem t_M_said_164 (v0 : Nat) (v2 : Int32) (v3 : Int32) (v4 : Int32) (v5 : Int64) (v7 : Int64) (v9 : Int32) (h : HP) : xx_S (xx_D "LampYardModel" tb_M_said 13 8 (some .long) false) (xx_z2 (fun s : (Int64 × Int64 × Int32 × HP) => s.2.2.2) xz_l) (fun K => xx_L2 (fun s : (Int64 × Int64 × Int32 × HP) => xx_X K 112 [(0, av_R 11 (some v0)), (2, av_I v2), (3, av_I v3), (4, av_I v4), (5, av_L s.1), (7, av_L s.2.1), (9, av_I s.2.2.1)] [] (s.2.2.2)) (xL_l K)) 164 [(0, av_R 11 (some v0)), (2, av_I v2), (3, av_I v3), (4, av_I v4), (5, av_L v5), (7, av_L v7), (9, av_I v9)] [] h (f_M_said_164 v0 v2 v3 v4 v5 v7 v9 h) := by
  unfold f_M_said_164
  refine xs_step (fun K HC => xr_iconst HC.1 86 165 (n := (0)) (0 : Int32) rfl rfl rfl) ?_
  refine xs_step (fun K HC => xr_istore HC.1 87 167 (ix := 10) (lv' := [(0, av_R 11 (some v0)), (2, av_I v2), (3, av_I v3), (4, av_I v4), (5, av_L v5), (7, av_L v7), (9, av_I v9), (10, av_I (0 : Int32))]) rfl rfl (by decide) rfl) ?_
  exact t_M_said_167 v0 v2 v3 v4 v5 v9 v7 (0 : Int32) h
set_option maxHeartbeats 4000000 in
set_option maxRecDepth 100000 in
theorem t_M_said_141b (v0 : Nat) (v2 : Int32) (v3 : Int32) (v4 : Int32) (v5 : Int64) (v7 : Int64) (v9 : Int32) (v10 : Int32) (h : HP) : xx_S (xx_D "LampYardModel" tb_M_said 13 8 (some .long) false) (xx_z2 (fun s : (Int32 × HP) => s.2) (xx_z2 (fun s : (Int64 × Int64 × Int32 × HP) => s.2.2.2) xz_l)) (fun K => xx_L2 (fun s : (Int32 × HP) => xx_X K 141 [(0, av_R 11 (some v0)), (2, av_I v2), (3, av_I v3), (4, av_I v4), (5, av_L v5), (7, av_L v7), (9, av_I v9), (10, av_I s.1)] [] (s.2)) (xx_L2 (fun s : (Int64 × Int64 × Int32 × HP) => xx_X K 112 [(0, av_R 11 (some v0)), (2, av_I v2), (3, av_I v3), (4, av_I v4), (5, av_L s.1), (7, av_L s.2.1), (9, av_I s.2.2.1)] [] (s.2.2.2)) (xL_l K))) 141 [(0, av_R 11 (some v0)), (2, av_I v2), (3, av_I v3), (4, av_I v4), (5, av_L v5), (7, av_L v7), (9, av_I v9), (10, av_I v10)] [] h (f_M_said_141b v0 v2 v3 v4 v5 v7 v9 v10 h) := by
  unfold f_M_said_141b
  refine xs_step (fun K HC => xr_iload HC.1 75 143 (ix := 10) (j := 7) (x := v10) rfl rfl rfl) ?_
  refine xs_step (fun K HC => xr_aload_n HC.1 76 144 (n := 0) (ix := 0) (j := 0) (c := 11) (x := v0) rfl rfl rfl rfl) ?_
  refine xs_step (fun K HC => xr_geti HC.1 77 147 11 65 rfl rfl wf_M_489 (by decide) fb_11_65 fc_11_65) ?_
  refine xs_ite (fun K HC => xr_icmp_ge HC.1 78 164 150 rfl (by decide) rfl) ?_ ?_
  · refine xs_step (fun K HC => xr_sub (lv' := [(0, av_R 11 (some v0)), (2, av_I v2), (3, av_I v3), (4, av_I v4), (5, av_L v5), (7, av_L v7), (9, av_I v9)]) [0, 1, 2, 3, 4, 5, 6] rfl) ?_
    exact xs_map (fun _ => rfl) (fun _ _ q => q) (t_M_said_164 v0 v2 v3 v4 v5 v7 v9 h)
  refine xs_step (fun K HC => xr_aload_n HC.1 79 151 (n := 0) (ix := 0) (j := 0) (c := 11) (x := v0) rfl rfl rfl rfl) ?_
  refine xs_bind (fun q_35 eq_35 => ?_)
  refine xs_step (fun K HC => xr_getr HC.1 80 154 11 77 14 eq_35 rfl rfl wf_M_130 (by decide) fb_11_77 fc_11_77 fd_11_77) ?_
  refine xs_step (fun K HC => xr_iload HC.1 81 156 (ix := 10) (j := 7) (x := v10) rfl rfl rfl) ?_
  refine xs_step (fun K HC => xr_lconst HC.1 82 157 (n := 0) (0 : Int64) rfl rfl rfl) ?_
  refine xs_chk (fun hb_36 => ?_)
  refine xs_heap (hp_mo_sl _ _ _ _) (fun K HC => xr_last HC.1 83 158 (hp_in_vp hb_36) rfl rfl) (fun h_37 => ?_)
  refine xs_gen (fun v10_38 ev10_38 => ?_)
  refine xs_step (fun K HC => xr_iinc HC.1 84 161 (ix := 10) (j := 7) (n := (1)) (x := v10) v10_38 (lv' := [(0, av_R 11 (some v0)), (2, av_I v2), (3, av_I v3), (4, av_I v4), (5, av_L v5), (7, av_L v7), (9, av_I v9), (10, av_I v10_38)]) rfl (by rw [ev10_38]; rfl) rfl rfl (by decide) rfl) ?_
  refine xs_step (fun K HC => xr_goto HC.1 85 141 rfl (by decide)) ?_
  exact xs_back rfl (fun K q => q)
theorem t_M_said_141 (v0 : Nat) (v2 : Int32) (v3 : Int32) (v4 : Int32) (v5 : Int64) (v7 : Int64) (v9 : Int32) (v10 : Int32) (h : HP) : xx_S (xx_D "LampYardModel" tb_M_said 13 8 (some .long) false) (xx_z2 (fun s : (Int64 × Int64 × Int32 × HP) => s.2.2.2) xz_l) (fun K => xx_L2 (fun s : (Int64 × Int64 × Int32 × HP) => xx_X K 112 [(0, av_R 11 (some v0)), (2, av_I v2), (3, av_I v3), (4, av_I v4), (5, av_L s.1), (7, av_L s.2.1), (9, av_I s.2.2.1)] [] (s.2.2.2)) (xL_l K)) 141 [(0, av_R 11 (some v0)), (2, av_I v2), (3, av_I v3), (4, av_I v4), (5, av_L v5), (7, av_L v7), (9, av_I v9), (10, av_I v10)] [] h (f_M_said_141 v0 v2 v3 v4 v5 v7 v9 v10 h) :=
  xs_loop (zf := (xx_z2 (fun s : (Int64 × Int64 × Int32 × HP) => s.2.2.2) xz_l)) (L := (fun K => xx_L2 (fun s : (Int64 × Int64 × Int32 × HP) => xx_X K 112 [(0, av_R 11 (some v0)), (2, av_I v2), (3, av_I v3), (4, av_I v4), (5, av_L s.1), (7, av_L s.2.1), (9, av_I s.2.2.1)] [] (s.2.2.2)) (xL_l K))) (fun s : (Int32 × HP) => [(0, av_R 11 (some v0)), (2, av_I v2), (3, av_I v3), (4, av_I v4), (5, av_L v5), (7, av_L v7), (9, av_I v9), (10, av_I s.1)]) (fun s : (Int32 × HP) => s.2) (fun s => t_M_said_141b v0 v2 v3 v4 v5 v7 v9 s.1 s.2) (v10, h)
set_option maxHeartbeats 4000000 in
set_option maxRecDepth 100000 in
theorem t_M_said_112b (v0 : Nat) (v2 : Int32) (v3 : Int32) (v4 : Int32) (v5 : Int64) (v7 : Int64) (v9 : Int32) (h : HP) : xx_S (xx_D "LampYardModel" tb_M_said 13 8 (some .long) false) (xx_z2 (fun s : (Int64 × Int64 × Int32 × HP) => s.2.2.2) xz_l) (fun K => xx_L2 (fun s : (Int64 × Int64 × Int32 × HP) => xx_X K 112 [(0, av_R 11 (some v0)), (2, av_I v2), (3, av_I v3), (4, av_I v4), (5, av_L s.1), (7, av_L s.2.1), (9, av_I s.2.2.1)] [] (s.2.2.2)) (xL_l K)) 112 [(0, av_R 11 (some v0)), (2, av_I v2), (3, av_I v3), (4, av_I v4), (5, av_L v5), (7, av_L v7), (9, av_I v9)] [] h (f_M_said_112b v0 v2 v3 v4 v5 v7 v9 h) := by
  unfold f_M_said_112b
  refine xs_step (fun K HC => xr_iload HC.1 58 114 (ix := 9) (j := 6) (x := v9) rfl rfl rfl) ?_
  refine xs_step (fun K HC => xr_iload_n HC.1 59 115 (n := 2) (ix := 2) (j := 1) (x := v2) rfl rfl rfl rfl) ?_
  refine xs_ite (fun K HC => xr_icmp_ge HC.1 60 317 118 rfl (by decide) rfl) ?_ ?_
  · refine xs_step (fun K HC => xr_sub (lv' := [(4, av_I v4), (5, av_L v5), (7, av_L v7)]) [3, 4, 5] rfl) ?_
    exact xs_map (fun _ => rfl) (fun _ _ q => q) (t_M_said_317 v4 v5 v7 h)
  refine xs_step (fun K HC => xr_lload HC.1 61 120 (ix := 5) (j := 4) (x := v5) rfl rfl rfl) ?_
  refine xs_step (fun K HC => xr_aload_n HC.1 62 121 (n := 0) (ix := 0) (j := 0) (c := 11) (x := v0) rfl rfl rfl rfl) ?_
  refine xs_step (fun K HC => xr_geti HC.1 63 124 11 33 rfl rfl wf_M_401 (by decide) fb_11_33 fc_11_33) ?_
  refine xs_step (fun K HC => xr_i2l HC.1 64 125 rfl rfl) ?_
  refine xs_step (fun K HC => xr_lmul HC.1 65 126 rfl rfl) ?_
  refine xs_topl (fun v5_10 => ?_)
  refine xs_step (fun K HC => xr_lstore HC.1 66 128 (ix := 5) (lv' := [(0, av_R 11 (some v0)), (2, av_I v2), (3, av_I v3), (4, av_I v4), (5, av_L v5_10), (7, av_L v7), (9, av_I v9)]) rfl rfl (by decide) rfl) ?_
  refine xs_step (fun K HC => xr_lload HC.1 67 130 (ix := 7) (j := 5) (x := v7) rfl rfl rfl) ?_
  refine xs_step (fun K HC => xr_aload_n HC.1 68 131 (n := 0) (ix := 0) (j := 0) (c := 11) (x := v0) rfl rfl rfl rfl) ?_
  refine xs_step (fun K HC => xr_geti HC.1 69 134 11 33 rfl rfl wf_M_401 (by decide) fb_11_33 fc_11_33) ?_
  refine xs_step (fun K HC => xr_i2l HC.1 70 135 rfl rfl) ?_
  refine xs_step (fun K HC => xr_lmul HC.1 71 136 rfl rfl) ?_
  refine xs_topl (fun v7_11 => ?_)
  refine xs_step (fun K HC => xr_lstore HC.1 72 138 (ix := 7) (lv' := [(0, av_R 11 (some v0)), (2, av_I v2), (3, av_I v3), (4, av_I v4), (5, av_L v5_10), (7, av_L v7_11), (9, av_I v9)]) rfl rfl (by decide) rfl) ?_
  refine xs_step (fun K HC => xr_iconst HC.1 73 139 (n := (0)) (0 : Int32) rfl rfl rfl) ?_
  refine xs_step (fun K HC => xr_istore HC.1 74 141 (ix := 10) (lv' := [(0, av_R 11 (some v0)), (2, av_I v2), (3, av_I v3), (4, av_I v4), (5, av_L v5_10), (7, av_L v7_11), (9, av_I v9), (10, av_I (0 : Int32))]) rfl rfl (by decide) rfl) ?_
  exact t_M_said_141 v0 v2 v3 v4 v5_10 v7_11 v9 (0 : Int32) h
theorem t_M_said_112 (v0 : Nat) (v2 : Int32) (v3 : Int32) (v4 : Int32) (v5 : Int64) (v7 : Int64) (v9 : Int32) (h : HP) : xx_S (xx_D "LampYardModel" tb_M_said 13 8 (some .long) false) xz_l (fun K => xL_l K) 112 [(0, av_R 11 (some v0)), (2, av_I v2), (3, av_I v3), (4, av_I v4), (5, av_L v5), (7, av_L v7), (9, av_I v9)] [] h (f_M_said_112 v0 v2 v3 v4 v5 v7 v9 h) :=
  xs_loop (zf := xz_l) (L := (fun K => xL_l K)) (fun s : (Int64 × Int64 × Int32 × HP) => [(0, av_R 11 (some v0)), (2, av_I v2), (3, av_I v3), (4, av_I v4), (5, av_L s.1), (7, av_L s.2.1), (9, av_I s.2.2.1)]) (fun s : (Int64 × Int64 × Int32 × HP) => s.2.2.2) (fun s => t_M_said_112b v0 v2 v3 v4 s.1 s.2.1 s.2.2.1 s.2.2.2) (v5, v7, v9, h)
set_option maxHeartbeats 4000000 in
set_option maxRecDepth 100000 in
theorem t_M_said_92 (v0 : Nat) (v1 : Int32) (v2 : Int32) (v3 : Int32) (v4 : Int32) (h : HP) : xx_S (xx_D "LampYardModel" tb_M_said 13 8 (some .long) false) xz_l (fun K => xL_l K) 92 [(0, av_R 11 (some v0)), (1, av_I v1), (2, av_I v2), (3, av_I v3), (4, av_I v4)] [] h (f_M_said_92 v0 v1 v2 v3 v4 h) := by
  unfold f_M_said_92
  refine xs_step (fun K HC => xr_aload_n HC.1 45 93 (n := 0) (ix := 0) (j := 0) (c := 11) (x := v0) rfl rfl rfl rfl) ?_
  refine xs_bind (fun q_5 eq_5 => ?_)
  refine xs_step (fun K HC => xr_getr HC.1 46 96 11 76 14 eq_5 rfl rfl wf_M_127 (by decide) fb_11_76 fc_11_76 fd_11_76) ?_
  refine xs_step (fun K HC => xr_aload_n HC.1 47 97 (n := 0) (ix := 0) (j := 0) (c := 11) (x := v0) rfl rfl rfl rfl) ?_
  refine xs_step (fun K HC => xr_iload_n HC.1 48 98 (n := 1) (ix := 1) (j := 1) (x := v1) rfl rfl rfl rfl) ?_
  refine xs_calli (s_M_startNumber v0 v1 h) (fun K HC x9 hM hmo hb => xr_callV HC.1 49 101 (av := [av_I v1]) (st := [av_R 14 (some q_5)]) (hM (kg K) (cx_l (kx K))) hmo hb rfl rfl wm_M_534 wi_M_startNumber ws_M_startNumber wc_M_startNumber rfl wh_M_startNumber (by decide) (by decide) (by decide) (Nat.le_of_ble_eq_true rfl) rfl) (fun x_6 => ?_)
  refine xs_step (fun K HC => xr_lconst HC.1 50 102 (n := 1) (1 : Int64) rfl rfl rfl) ?_
  refine xs_chk (fun hb_7 => ?_)
  refine xs_heap (hp_mo_sl _ _ _ _) (fun K HC => xr_last HC.1 51 103 (hp_in_vp hb_7) rfl rfl) (fun h_8 => ?_)
  refine xs_step (fun K HC => xr_lconst HC.1 52 104 (n := 1) (1 : Int64) rfl rfl rfl) ?_
  refine xs_step (fun K HC => xr_lstore HC.1 53 106 (ix := 5) (lv' := [(0, av_R 11 (some v0)), (1, av_I v1), (2, av_I v2), (3, av_I v3), (4, av_I v4), (5, av_L (1 : Int64))]) rfl rfl (by decide) rfl) ?_
  refine xs_step (fun K HC => xr_lconst HC.1 54 107 (n := 0) (0 : Int64) rfl rfl rfl) ?_
  refine xs_step (fun K HC => xr_lstore HC.1 55 109 (ix := 7) (lv' := [(0, av_R 11 (some v0)), (1, av_I v1), (2, av_I v2), (3, av_I v3), (4, av_I v4), (5, av_L (1 : Int64)), (7, av_L (0 : Int64))]) rfl rfl (by decide) rfl) ?_
  refine xs_step (fun K HC => xr_iconst HC.1 56 110 (n := (0)) (0 : Int32) rfl rfl rfl) ?_
  refine xs_step (fun K HC => xr_istore HC.1 57 112 (ix := 9) (lv' := [(0, av_R 11 (some v0)), (1, av_I v1), (2, av_I v2), (3, av_I v3), (4, av_I v4), (5, av_L (1 : Int64)), (7, av_L (0 : Int64)), (9, av_I (0 : Int32))]) rfl rfl (by decide) rfl) ?_
  refine xs_step (fun K HC => xr_sub (lv' := [(0, av_R 11 (some v0)), (2, av_I v2), (3, av_I v3), (4, av_I v4), (5, av_L (1 : Int64)), (7, av_L (0 : Int64)), (9, av_I (0 : Int32))]) [0, 2, 3, 4, 5, 6, 7] rfl) ?_
  exact t_M_said_112 v0 v2 v3 v4 (1 : Int64) (0 : Int64) (0 : Int32) h_8
set_option maxHeartbeats 4000000 in
set_option maxRecDepth 100000 in
theorem t_M_said_69b (v0 : Nat) (v1 : Int32) (v2 : Int32) (v3 : Int32) (v4 : Int32) (v5 : Int32) (h : HP) : xx_S (xx_D "LampYardModel" tb_M_said 13 8 (some .long) false) (xx_z2 (fun s : (Int32 × HP) => s.2) xz_l) (fun K => xx_L2 (fun s : (Int32 × HP) => xx_X K 69 [(0, av_R 11 (some v0)), (1, av_I v1), (2, av_I v2), (3, av_I v3), (4, av_I v4), (5, av_I s.1)] [] (s.2)) (xL_l K)) 69 [(0, av_R 11 (some v0)), (1, av_I v1), (2, av_I v2), (3, av_I v3), (4, av_I v4), (5, av_I v5)] [] h (f_M_said_69b v0 v1 v2 v3 v4 v5 h) := by
  unfold f_M_said_69b
  refine xs_step (fun K HC => xr_iload HC.1 34 71 (ix := 5) (j := 5) (x := v5) rfl rfl rfl) ?_
  refine xs_step (fun K HC => xr_aload_n HC.1 35 72 (n := 0) (ix := 0) (j := 0) (c := 11) (x := v0) rfl rfl rfl rfl) ?_
  refine xs_step (fun K HC => xr_geti HC.1 36 75 11 65 rfl rfl wf_M_489 (by decide) fb_11_65 fc_11_65) ?_
  refine xs_ite (fun K HC => xr_icmp_ge HC.1 37 92 78 rfl (by decide) rfl) ?_ ?_
  · refine xs_step (fun K HC => xr_sub (lv' := [(0, av_R 11 (some v0)), (1, av_I v1), (2, av_I v2), (3, av_I v3), (4, av_I v4)]) [0, 1, 2, 3, 4] rfl) ?_
    exact xs_map (fun _ => rfl) (fun _ _ q => q) (t_M_said_92 v0 v1 v2 v3 v4 h)
  refine xs_step (fun K HC => xr_aload_n HC.1 38 79 (n := 0) (ix := 0) (j := 0) (c := 11) (x := v0) rfl rfl rfl rfl) ?_
  refine xs_bind (fun q_39 eq_39 => ?_)
  refine xs_step (fun K HC => xr_getr HC.1 39 82 11 76 14 eq_39 rfl rfl wf_M_127 (by decide) fb_11_76 fc_11_76 fd_11_76) ?_
  refine xs_step (fun K HC => xr_iload HC.1 40 84 (ix := 5) (j := 5) (x := v5) rfl rfl rfl) ?_
  refine xs_step (fun K HC => xr_lconst HC.1 41 85 (n := 0) (0 : Int64) rfl rfl rfl) ?_
  refine xs_chk (fun hb_40 => ?_)
  refine xs_heap (hp_mo_sl _ _ _ _) (fun K HC => xr_last HC.1 42 86 (hp_in_vp hb_40) rfl rfl) (fun h_41 => ?_)
  refine xs_gen (fun v5_42 ev5_42 => ?_)
  refine xs_step (fun K HC => xr_iinc HC.1 43 89 (ix := 5) (j := 5) (n := (1)) (x := v5) v5_42 (lv' := [(0, av_R 11 (some v0)), (1, av_I v1), (2, av_I v2), (3, av_I v3), (4, av_I v4), (5, av_I v5_42)]) rfl (by rw [ev5_42]; rfl) rfl rfl (by decide) rfl) ?_
  refine xs_step (fun K HC => xr_goto HC.1 44 69 rfl (by decide)) ?_
  exact xs_back rfl (fun K q => q)
theorem t_M_said_69 (v0 : Nat) (v1 : Int32) (v2 : Int32) (v3 : Int32) (v4 : Int32) (v5 : Int32) (h : HP) : xx_S (xx_D "LampYardModel" tb_M_said 13 8 (some .long) false) xz_l (fun K => xL_l K) 69 [(0, av_R 11 (some v0)), (1, av_I v1), (2, av_I v2), (3, av_I v3), (4, av_I v4), (5, av_I v5)] [] h (f_M_said_69 v0 v1 v2 v3 v4 v5 h) :=
  xs_loop (zf := xz_l) (L := (fun K => xL_l K)) (fun s : (Int32 × HP) => [(0, av_R 11 (some v0)), (1, av_I v1), (2, av_I v2), (3, av_I v3), (4, av_I v4), (5, av_I s.1)]) (fun s : (Int32 × HP) => s.2) (fun s => t_M_said_69b v0 v1 v2 v3 v4 s.1 s.2) (v5, h)
set_option maxHeartbeats 4000000 in
set_option maxRecDepth 100000 in
theorem t_M_said (v0 : Nat) (v1 : Int32) (v2 : Int32) (v3 : Int32) (v4 : Int32) (h : HP) : xx_S (xx_D "LampYardModel" tb_M_said 13 8 (some .long) false) xz_l (fun K => xL_l K) 0 [(0, av_R 11 (some v0)), (1, av_I v1), (2, av_I v2), (3, av_I v3), (4, av_I v4)] [] h (f_M_said v0 v1 v2 v3 v4 h) := by
  unfold f_M_said
  refine xs_step (fun K HC => xr_aload_n HC.1 0 1 (n := 0) (ix := 0) (j := 0) (c := 11) (x := v0) rfl rfl rfl rfl) ?_
  refine xs_step (fun K HC => xr_geti HC.1 1 4 11 33 rfl rfl wf_M_401 (by decide) fb_11_33 fc_11_33) ?_
  refine xs_ite (fun K HC => xr_if_eq HC.1 2 50 7 rfl (by decide) rfl) ?_ ?_
  · refine xs_step (fun K HC => xr_ldc2 HC.1 24 53 wk_M_561 rfl rfl) ?_
    exact xs_retl 25 rfl rfl (fun K q => q)
  refine xs_step (fun K HC => xr_aload_n HC.1 3 8 (n := 0) (ix := 0) (j := 0) (c := 11) (x := v0) rfl rfl rfl rfl) ?_
  refine xs_step (fun K HC => xr_iload_n HC.1 4 9 (n := 1) (ix := 1) (j := 1) (x := v1) rfl rfl rfl rfl) ?_
  refine xs_calli (s_M_isLight v0 v1 h) (fun K HC x9 hM hmo hb => xr_callV HC.1 5 12 (av := [av_I v1]) (st := []) (hM (kg K) (cx_l (kx K))) hmo hb rfl rfl wm_M_457 wi_M_isLight ws_M_isLight wc_M_isLight rfl wh_M_isLight (by decide) (by decide) (by decide) (Nat.le_of_ble_eq_true rfl) rfl) (fun x_1 => ?_)
  refine xs_ite (fun K HC => xr_if_eq HC.1 6 50 15 rfl (by decide) rfl) ?_ ?_
  · refine xs_step (fun K HC => xr_ldc2 HC.1 24 53 wk_M_561 rfl rfl) ?_
    exact xs_retl 25 rfl rfl (fun K q => q)
  refine xs_step (fun K HC => xr_aload_n HC.1 7 16 (n := 0) (ix := 0) (j := 0) (c := 11) (x := v0) rfl rfl rfl rfl) ?_
  refine xs_step (fun K HC => xr_iload_n HC.1 8 17 (n := 1) (ix := 1) (j := 1) (x := v1) rfl rfl rfl rfl) ?_
  refine xs_calli (s_M_isStart v0 v1 x_1.2) (fun K HC x9 hM hmo hb => xr_callV HC.1 9 20 (av := [av_I v1]) (st := []) (hM (kg K) (cx_l (kx K))) hmo hb rfl rfl wm_M_506 wi_M_isStart ws_M_isStart wc_M_isStart rfl wh_M_isStart (by decide) (by decide) (by decide) (Nat.le_of_ble_eq_true rfl) rfl) (fun x_2 => ?_)
  refine xs_ite (fun K HC => xr_if_eq HC.1 10 50 23 rfl (by decide) rfl) ?_ ?_
  · refine xs_step (fun K HC => xr_ldc2 HC.1 24 53 wk_M_561 rfl rfl) ?_
    exact xs_retl 25 rfl rfl (fun K q => q)
  refine xs_step (fun K HC => xr_iload_n HC.1 11 24 (n := 2) (ix := 2) (j := 2) (x := v2) rfl rfl rfl rfl) ?_
  refine xs_ite (fun K HC => xr_if_lt HC.1 12 50 27 rfl (by decide) rfl) ?_ ?_
  · refine xs_step (fun K HC => xr_ldc2 HC.1 24 53 wk_M_561 rfl rfl) ?_
    exact xs_retl 25 rfl rfl (fun K q => q)
  refine xs_step (fun K HC => xr_iload_n HC.1 13 28 (n := 2) (ix := 2) (j := 2) (x := v2) rfl rfl rfl rfl) ?_
  refine xs_step (fun K HC => xr_bipush HC.1 14 30 (n := (12)) (12 : Int32) rfl rfl rfl) ?_
  refine xs_ite (fun K HC => xr_icmp_gt HC.1 15 50 33 rfl (by decide) rfl) ?_ ?_
  · refine xs_step (fun K HC => xr_ldc2 HC.1 24 53 wk_M_561 rfl rfl) ?_
    exact xs_retl 25 rfl rfl (fun K q => q)
  refine xs_step (fun K HC => xr_iload_n HC.1 16 34 (n := 3) (ix := 3) (j := 3) (x := v3) rfl rfl rfl rfl) ?_
  refine xs_ite (fun K HC => xr_if_lt HC.1 17 50 37 rfl (by decide) rfl) ?_ ?_
  · refine xs_step (fun K HC => xr_ldc2 HC.1 24 53 wk_M_561 rfl rfl) ?_
    exact xs_retl 25 rfl rfl (fun K q => q)
  refine xs_step (fun K HC => xr_iload_n HC.1 18 38 (n := 3) (ix := 3) (j := 3) (x := v3) rfl rfl rfl rfl) ?_
  refine xs_step (fun K HC => xr_iconst HC.1 19 39 (n := (1)) (1 : Int32) rfl rfl rfl) ?_
  refine xs_ite (fun K HC => xr_icmp_gt HC.1 20 50 42 rfl (by decide) rfl) ?_ ?_
  · refine xs_step (fun K HC => xr_ldc2 HC.1 24 53 wk_M_561 rfl rfl) ?_
    exact xs_retl 25 rfl rfl (fun K q => q)
  refine xs_step (fun K HC => xr_iload HC.1 21 44 (ix := 4) (j := 4) (x := v4) rfl rfl rfl) ?_
  refine xs_calli (s_M_isPart v4 x_2.2) (fun K HC x9 hM hmo hb => xr_callS HC.1 22 47 (av := [av_I v4]) (st := []) (hM (kg K) (cx_l (kx K))) hmo hb rfl rfl wm_M_558 wt_M_isPart wn_M_isPart wc_M_isPart wh_M_isPart (by decide) (by decide) (Nat.le_of_ble_eq_true rfl) rfl) (fun x_3 => ?_)
  refine xs_ite (fun K HC a b => xr_if_ne HC.1 23 54 50 rfl (by decide) rfl b a) ?_ ?_
  · refine xs_step (fun K HC => xr_ldc2 HC.1 24 53 wk_M_561 rfl rfl) ?_
    exact xs_retl 25 rfl rfl (fun K q => q)
  refine xs_step (fun K HC => xr_aload_n HC.1 26 55 (n := 0) (ix := 0) (j := 0) (c := 11) (x := v0) rfl rfl rfl rfl) ?_
  refine xs_step (fun K HC => xr_iconst HC.1 27 56 (n := (-1)) (-1 : Int32) rfl rfl rfl) ?_
  refine xs_calli (s_M_layPlan v0 (-1 : Int32) x_3.2) (fun K HC x9 hM hmo hb => xr_callV HC.1 28 59 (av := [av_I (-1 : Int32)]) (st := []) (hM (kg K) (cx_l (kx K))) hmo hb rfl rfl wm_M_521 wi_M_layPlan ws_M_layPlan wc_M_layPlan rfl wh_M_layPlan (by decide) (by decide) (by decide) (Nat.le_of_ble_eq_true rfl) rfl) (fun x_4 => ?_)
  refine xs_ite (fun K HC a b => xr_if_ne HC.1 29 66 62 rfl (by decide) rfl b a) ?_ ?_
  · refine xs_step (fun K HC => xr_ldc2 HC.1 30 65 wk_M_563 rfl rfl) ?_
    exact xs_retl 31 rfl rfl (fun K q => q)
  refine xs_step (fun K HC => xr_iconst HC.1 32 67 (n := (0)) (0 : Int32) rfl rfl rfl) ?_
  refine xs_step (fun K HC => xr_istore HC.1 33 69 (ix := 5) (lv' := [(0, av_R 11 (some v0)), (1, av_I v1), (2, av_I v2), (3, av_I v3), (4, av_I v4), (5, av_I (0 : Int32))]) rfl rfl (by decide) rfl) ?_
  exact t_M_said_69 v0 v1 v2 v3 v4 (0 : Int32) x_4.2
theorem s_M_said (v0 : Nat) (v1 : Int32) (v2 : Int32) (v3 : Int32) (v4 : Int32) (h : HP) : ∀ x, f_M_said v0 v1 v2 v3 v4 h = some x → hp_mo h x.2 ∧ ∀ g l, xx_M g l y_M_said prog_14_method_87_code 13 (some .long) 8 [av_R 11 (some v0), av_I v1, av_I v2, av_I v3, av_I v4] h (some (av_L x.1)) x.2 :=
  xM_l (tb := tb_M_said) (b := false) (by decide +kernel) dt_M_said (fun _ => trivial) (Nat.le_of_ble_eq_true rfl) (fun hb => by cases hb) (t_M_said v0 v1 v2 v3 v4 h)
def tb_M_layRows : TBL := [(0, .iconst 0, 1), (1, .istore_n 3, 1), (2, .iload_n 3, 1), (3, .bipush 8, 2), (5, .if_icmp .ge 24, 3), (8, .aload_n 0, 1), (9, .getfield 133, 3), (12, .iload_n 3, 1), (13, .iload_n 3, 1), (14, .ifCond .ne 7, 3), (17, .lconst 1, 1), (18, .goto 4, 3), (21, .lconst 0, 1), (22, .lastore, 1), (23, .iinc 3 1, 3), (26, .goto (-24), 3), (29, .lconst 1, 1), (30, .lstore_n 3, 1), (31, .iconst 0, 1), (32, .istore 5, 2), (34, .iload 5, 2), (36, .iload_n 2, 1), (37, .if_icmp .ge 71, 3), (40, .iload_n 1, 1), (41, .istore 6, 2), (43, .iload 6, 2), (45, .ifCond .le 45, 3), (48, .aload_n 0, 1), (49, .getfield 133, 3), (52, .iload 6, 2), (54, .aload_n 0, 1), (55, .getfield 133, 3), (58, .iload 6, 2), (60, .laload, 1), (61, .iload 6, 2), (63, .i2l, 1), (64, .lmul, 1), (65, .aload_n 0, 1), (66, .getfield 133, 3), (69, .iload 6, 2), (71, .iconst 1, 1), (72, .isub, 1), (73, .laload, 1), (74, .iload_n 1, 1), (75, .iload 6, 2), (77, .isub, 1), (78, .iconst 1, 1), (79, .iadd, 1), (80, .i2l, 1), (81, .lmul, 1), (82, .ladd, 1), (83, .lastore, 1), (84, .iinc 6 (-1), 3), (87, .goto (-44), 3), (90, .aload_n 0, 1), (91, .getfield 133, 3), (94, .iconst 0, 1), (95, .lconst 0, 1), (96, .lastore, 1), (97, .lload_n 3, 1), (98, .iload_n 1, 1), (99, .i2l, 1), (100, .lmul, 1), (101, .lstore_n 3, 1), (102, .iinc 5 1, 3), (105, .goto (-71), 3), (108, .lload_n 3, 1), (109, .lreturn, 1)]
theorem dt_M_layRows : ∀ q ∈ tb_M_layRows, decode prog_14_method_88_code q.1 = .ok (q.2.1, q.2.2) := by decide +kernel
set_option maxHeartbeats 4000000 in
set_option maxRecDepth 100000 in
theorem t_M_layRows_90 (v0 : Nat) (v1 : Int32) (v2 : Int32) (v3 : Int64) (v5 : Int32) (h : HP) : xx_S (xx_D "LampYardModel" tb_M_layRows 7 1 (some .long) false) (xx_z2 (fun s : (Int64 × Int32 × HP) => s.2.2) xz_l) (fun K => xx_L2 (fun s : (Int64 × Int32 × HP) => xx_X K 34 [(0, av_R 11 (some v0)), (1, av_I v1), (2, av_I v2), (3, av_L s.1), (5, av_I s.2.1)] [] (s.2.2)) (xL_l K)) 90 [(0, av_R 11 (some v0)), (1, av_I v1), (2, av_I v2), (3, av_L v3), (5, av_I v5)] [] h (f_M_layRows_90 v0 v1 v2 v3 v5 h) := by
  unfold f_M_layRows_90
  refine xs_step (fun K HC => xr_aload_n HC.1 54 91 (n := 0) (ix := 0) (j := 0) (c := 11) (x := v0) rfl rfl rfl rfl) ?_
  refine xs_bind (fun q_1 eq_1 => ?_)
  refine xs_step (fun K HC => xr_getr HC.1 55 94 11 78 14 eq_1 rfl rfl wf_M_133 (by decide) fb_11_78 fc_11_78 fd_11_78) ?_
  refine xs_step (fun K HC => xr_iconst HC.1 56 95 (n := (0)) (0 : Int32) rfl rfl rfl) ?_
  refine xs_step (fun K HC => xr_lconst HC.1 57 96 (n := 0) (0 : Int64) rfl rfl rfl) ?_
  refine xs_chk (fun hb_2 => ?_)
  refine xs_heap (hp_mo_sl _ _ _ _) (fun K HC => xr_last HC.1 58 97 (hp_in_vp hb_2) rfl rfl) (fun h_3 => ?_)
  refine xs_step (fun K HC => xr_lload_n HC.1 59 98 (n := 3) (ix := 3) (j := 3) (x := v3) rfl rfl rfl rfl) ?_
  refine xs_step (fun K HC => xr_iload_n HC.1 60 99 (n := 1) (ix := 1) (j := 1) (x := v1) rfl rfl rfl rfl) ?_
  refine xs_step (fun K HC => xr_i2l HC.1 61 100 rfl rfl) ?_
  refine xs_step (fun K HC => xr_lmul HC.1 62 101 rfl rfl) ?_
  refine xs_topl (fun v3_4 => ?_)
  refine xs_step (fun K HC => xr_lstore_n HC.1 63 102 (n := 3) (ix := 3) (lv' := [(0, av_R 11 (some v0)), (1, av_I v1), (2, av_I v2), (3, av_L v3_4), (5, av_I v5)]) rfl rfl rfl (by decide) rfl) ?_
  refine xs_gen (fun v5_5 ev5_5 => ?_)
  refine xs_step (fun K HC => xr_iinc HC.1 64 105 (ix := 5) (j := 4) (n := (1)) (x := v5) v5_5 (lv' := [(0, av_R 11 (some v0)), (1, av_I v1), (2, av_I v2), (3, av_L v3_4), (5, av_I v5_5)]) rfl (by rw [ev5_5]; rfl) rfl rfl (by decide) rfl) ?_
  refine xs_step (fun K HC => xr_goto HC.1 65 34 rfl (by decide)) ?_
  exact xs_back rfl (fun K q => q)
set_option maxHeartbeats 4000000 in
set_option maxRecDepth 100000 in
theorem t_M_layRows_43b (v0 : Nat) (v1 : Int32) (v2 : Int32) (v3 : Int64) (v5 : Int32) (v6 : Int32) (h : HP) : xx_S (xx_D "LampYardModel" tb_M_layRows 7 1 (some .long) false) (xx_z2 (fun s : (Int32 × HP) => s.2) (xx_z2 (fun s : (Int64 × Int32 × HP) => s.2.2) xz_l)) (fun K => xx_L2 (fun s : (Int32 × HP) => xx_X K 43 [(0, av_R 11 (some v0)), (1, av_I v1), (2, av_I v2), (3, av_L v3), (5, av_I v5), (6, av_I s.1)] [] (s.2)) (xx_L2 (fun s : (Int64 × Int32 × HP) => xx_X K 34 [(0, av_R 11 (some v0)), (1, av_I v1), (2, av_I v2), (3, av_L s.1), (5, av_I s.2.1)] [] (s.2.2)) (xL_l K))) 43 [(0, av_R 11 (some v0)), (1, av_I v1), (2, av_I v2), (3, av_L v3), (5, av_I v5), (6, av_I v6)] [] h (f_M_layRows_43b v0 v1 v2 v3 v5 v6 h) := by
  unfold f_M_layRows_43b
  refine xs_step (fun K HC => xr_iload HC.1 25 45 (ix := 6) (j := 5) (x := v6) rfl rfl rfl) ?_
  refine xs_ite (fun K HC => xr_if_le HC.1 26 90 48 rfl (by decide) rfl) ?_ ?_
  · refine xs_step (fun K HC => xr_sub (lv' := [(0, av_R 11 (some v0)), (1, av_I v1), (2, av_I v2), (3, av_L v3), (5, av_I v5)]) [0, 1, 2, 3, 4] rfl) ?_
    exact xs_map (fun _ => rfl) (fun _ _ q => q) (t_M_layRows_90 v0 v1 v2 v3 v5 h)
  refine xs_step (fun K HC => xr_aload_n HC.1 27 49 (n := 0) (ix := 0) (j := 0) (c := 11) (x := v0) rfl rfl rfl rfl) ?_
  refine xs_bind (fun q_6 eq_6 => ?_)
  refine xs_step (fun K HC => xr_getr HC.1 28 52 11 78 14 eq_6 rfl rfl wf_M_133 (by decide) fb_11_78 fc_11_78 fd_11_78) ?_
  refine xs_step (fun K HC => xr_iload HC.1 29 54 (ix := 6) (j := 5) (x := v6) rfl rfl rfl) ?_
  refine xs_step (fun K HC => xr_aload_n HC.1 30 55 (n := 0) (ix := 0) (j := 0) (c := 11) (x := v0) rfl rfl rfl rfl) ?_
  refine xs_bind (fun q_7 eq_7 => ?_)
  refine xs_step (fun K HC => xr_getr HC.1 31 58 11 78 14 eq_7 rfl rfl wf_M_133 (by decide) fb_11_78 fc_11_78 fd_11_78) ?_
  refine xs_step (fun K HC => xr_iload HC.1 32 60 (ix := 6) (j := 5) (x := v6) rfl rfl rfl) ?_
  refine xs_chk (fun hb_8 => ?_)
  refine xs_step (fun K HC => xr_lald HC.1 33 61 (hp_in_vp hb_8) rfl rfl) ?_
  refine xs_step (fun K HC => xr_iload HC.1 34 63 (ix := 6) (j := 5) (x := v6) rfl rfl rfl) ?_
  refine xs_step (fun K HC => xr_i2l HC.1 35 64 rfl rfl) ?_
  refine xs_step (fun K HC => xr_lmul HC.1 36 65 rfl rfl) ?_
  refine xs_step (fun K HC => xr_aload_n HC.1 37 66 (n := 0) (ix := 0) (j := 0) (c := 11) (x := v0) rfl rfl rfl rfl) ?_
  refine xs_bind (fun q_9 eq_9 => ?_)
  refine xs_step (fun K HC => xr_getr HC.1 38 69 11 78 14 eq_9 rfl rfl wf_M_133 (by decide) fb_11_78 fc_11_78 fd_11_78) ?_
  refine xs_step (fun K HC => xr_iload HC.1 39 71 (ix := 6) (j := 5) (x := v6) rfl rfl rfl) ?_
  refine xs_step (fun K HC => xr_iconst HC.1 40 72 (n := (1)) (1 : Int32) rfl rfl rfl) ?_
  refine xs_step (fun K HC => xr_isub HC.1 41 73 rfl rfl) ?_
  refine xs_chk (fun hb_10 => ?_)
  refine xs_step (fun K HC => xr_lald HC.1 42 74 (hp_in_vp hb_10) rfl rfl) ?_
  refine xs_step (fun K HC => xr_iload_n HC.1 43 75 (n := 1) (ix := 1) (j := 1) (x := v1) rfl rfl rfl rfl) ?_
  refine xs_step (fun K HC => xr_iload HC.1 44 77 (ix := 6) (j := 5) (x := v6) rfl rfl rfl) ?_
  refine xs_step (fun K HC => xr_isub HC.1 45 78 rfl rfl) ?_
  refine xs_step (fun K HC => xr_iconst HC.1 46 79 (n := (1)) (1 : Int32) rfl rfl rfl) ?_
  refine xs_step (fun K HC => xr_iadd HC.1 47 80 rfl rfl) ?_
  refine xs_step (fun K HC => xr_i2l HC.1 48 81 rfl rfl) ?_
  refine xs_step (fun K HC => xr_lmul HC.1 49 82 rfl rfl) ?_
  refine xs_step (fun K HC => xr_ladd HC.1 50 83 rfl rfl) ?_
  refine xs_chk (fun hb_11 => ?_)
  refine xs_heap (hp_mo_sl _ _ _ _) (fun K HC => xr_last HC.1 51 84 (hp_in_vp hb_11) rfl rfl) (fun h_12 => ?_)
  refine xs_gen (fun v6_13 ev6_13 => ?_)
  refine xs_step (fun K HC => xr_iinc HC.1 52 87 (ix := 6) (j := 5) (n := (-1)) (x := v6) v6_13 (lv' := [(0, av_R 11 (some v0)), (1, av_I v1), (2, av_I v2), (3, av_L v3), (5, av_I v5), (6, av_I v6_13)]) rfl (by rw [ev6_13]; rfl) rfl rfl (by decide) rfl) ?_
  refine xs_step (fun K HC => xr_goto HC.1 53 43 rfl (by decide)) ?_
  exact xs_back rfl (fun K q => q)
theorem t_M_layRows_43 (v0 : Nat) (v1 : Int32) (v2 : Int32) (v3 : Int64) (v5 : Int32) (v6 : Int32) (h : HP) : xx_S (xx_D "LampYardModel" tb_M_layRows 7 1 (some .long) false) (xx_z2 (fun s : (Int64 × Int32 × HP) => s.2.2) xz_l) (fun K => xx_L2 (fun s : (Int64 × Int32 × HP) => xx_X K 34 [(0, av_R 11 (some v0)), (1, av_I v1), (2, av_I v2), (3, av_L s.1), (5, av_I s.2.1)] [] (s.2.2)) (xL_l K)) 43 [(0, av_R 11 (some v0)), (1, av_I v1), (2, av_I v2), (3, av_L v3), (5, av_I v5), (6, av_I v6)] [] h (f_M_layRows_43 v0 v1 v2 v3 v5 v6 h) :=
  xs_loop (zf := (xx_z2 (fun s : (Int64 × Int32 × HP) => s.2.2) xz_l)) (L := (fun K => xx_L2 (fun s : (Int64 × Int32 × HP) => xx_X K 34 [(0, av_R 11 (some v0)), (1, av_I v1), (2, av_I v2), (3, av_L s.1), (5, av_I s.2.1)] [] (s.2.2)) (xL_l K))) (fun s : (Int32 × HP) => [(0, av_R 11 (some v0)), (1, av_I v1), (2, av_I v2), (3, av_L v3), (5, av_I v5), (6, av_I s.1)]) (fun s : (Int32 × HP) => s.2) (fun s => t_M_layRows_43b v0 v1 v2 v3 v5 s.1 s.2) (v6, h)
set_option maxHeartbeats 4000000 in
set_option maxRecDepth 100000 in
theorem t_M_layRows_34b (v0 : Nat) (v1 : Int32) (v2 : Int32) (v3 : Int64) (v5 : Int32) (h : HP) : xx_S (xx_D "LampYardModel" tb_M_layRows 7 1 (some .long) false) (xx_z2 (fun s : (Int64 × Int32 × HP) => s.2.2) xz_l) (fun K => xx_L2 (fun s : (Int64 × Int32 × HP) => xx_X K 34 [(0, av_R 11 (some v0)), (1, av_I v1), (2, av_I v2), (3, av_L s.1), (5, av_I s.2.1)] [] (s.2.2)) (xL_l K)) 34 [(0, av_R 11 (some v0)), (1, av_I v1), (2, av_I v2), (3, av_L v3), (5, av_I v5)] [] h (f_M_layRows_34b v0 v1 v2 v3 v5 h) := by
  unfold f_M_layRows_34b
  refine xs_step (fun K HC => xr_iload HC.1 20 36 (ix := 5) (j := 4) (x := v5) rfl rfl rfl) ?_
  refine xs_step (fun K HC => xr_iload_n HC.1 21 37 (n := 2) (ix := 2) (j := 2) (x := v2) rfl rfl rfl rfl) ?_
  refine xs_ite (fun K HC => xr_icmp_ge HC.1 22 108 40 rfl (by decide) rfl) ?_ ?_
  · refine xs_step (fun K HC => xr_lload_n HC.1 66 109 (n := 3) (ix := 3) (j := 3) (x := v3) rfl rfl rfl rfl) ?_
    exact xs_retl 67 rfl rfl (fun K q => q)
  refine xs_step (fun K HC => xr_iload_n HC.1 23 41 (n := 1) (ix := 1) (j := 1) (x := v1) rfl rfl rfl rfl) ?_
  refine xs_step (fun K HC => xr_istore HC.1 24 43 (ix := 6) (lv' := [(0, av_R 11 (some v0)), (1, av_I v1), (2, av_I v2), (3, av_L v3), (5, av_I v5), (6, av_I v1)]) rfl rfl (by decide) rfl) ?_
  exact t_M_layRows_43 v0 v1 v2 v3 v5 v1 h
theorem t_M_layRows_34 (v0 : Nat) (v1 : Int32) (v2 : Int32) (v3 : Int64) (v5 : Int32) (h : HP) : xx_S (xx_D "LampYardModel" tb_M_layRows 7 1 (some .long) false) xz_l (fun K => xL_l K) 34 [(0, av_R 11 (some v0)), (1, av_I v1), (2, av_I v2), (3, av_L v3), (5, av_I v5)] [] h (f_M_layRows_34 v0 v1 v2 v3 v5 h) :=
  xs_loop (zf := xz_l) (L := (fun K => xL_l K)) (fun s : (Int64 × Int32 × HP) => [(0, av_R 11 (some v0)), (1, av_I v1), (2, av_I v2), (3, av_L s.1), (5, av_I s.2.1)]) (fun s : (Int64 × Int32 × HP) => s.2.2) (fun s => t_M_layRows_34b v0 v1 v2 s.1 s.2.1 s.2.2) (v3, v5, h)
set_option maxHeartbeats 4000000 in
set_option maxRecDepth 100000 in
theorem t_M_layRows_29 (v0 : Nat) (v1 : Int32) (v2 : Int32) (h : HP) : xx_S (xx_D "LampYardModel" tb_M_layRows 7 1 (some .long) false) xz_l (fun K => xL_l K) 29 [(0, av_R 11 (some v0)), (1, av_I v1), (2, av_I v2)] [] h (f_M_layRows_29 v0 v1 v2 h) := by
  unfold f_M_layRows_29
  refine xs_step (fun K HC => xr_lconst HC.1 16 30 (n := 1) (1 : Int64) rfl rfl rfl) ?_
  refine xs_step (fun K HC => xr_lstore_n HC.1 17 31 (n := 3) (ix := 3) (lv' := [(0, av_R 11 (some v0)), (1, av_I v1), (2, av_I v2), (3, av_L (1 : Int64))]) rfl rfl rfl (by decide) rfl) ?_
  refine xs_step (fun K HC => xr_iconst HC.1 18 32 (n := (0)) (0 : Int32) rfl rfl rfl) ?_
  refine xs_step (fun K HC => xr_istore HC.1 19 34 (ix := 5) (lv' := [(0, av_R 11 (some v0)), (1, av_I v1), (2, av_I v2), (3, av_L (1 : Int64)), (5, av_I (0 : Int32))]) rfl rfl (by decide) rfl) ?_
  exact t_M_layRows_34 v0 v1 v2 (1 : Int64) (0 : Int32) h
set_option maxHeartbeats 4000000 in
set_option maxRecDepth 100000 in
theorem t_M_layRows_22 (v0 : Nat) (v1 : Int32) (v2 : Int32) (v3 : Int32) (s0 : Int64) (s1 : Int32) (s2 : Nat) (h : HP) : xx_S (xx_D "LampYardModel" tb_M_layRows 7 1 (some .long) false) (xx_z2 (fun s : (Int32 × HP) => s.2) xz_l) (fun K => xx_L2 (fun s : (Int32 × HP) => xx_X K 2 [(0, av_R 11 (some v0)), (1, av_I v1), (2, av_I v2), (3, av_I s.1)] [] (s.2)) (xL_l K)) 22 [(0, av_R 11 (some v0)), (1, av_I v1), (2, av_I v2), (3, av_I v3)] [av_L s0, av_I s1, av_R 14 (some s2)] h (f_M_layRows_22 v0 v1 v2 v3 s0 s1 s2 h) := by
  unfold f_M_layRows_22
  refine xs_chk (fun hb_15 => ?_)
  refine xs_heap (hp_mo_sl _ _ _ _) (fun K HC => xr_last HC.1 13 23 (hp_in_vp hb_15) rfl rfl) (fun h_16 => ?_)
  refine xs_gen (fun v3_17 ev3_17 => ?_)
  refine xs_step (fun K HC => xr_iinc HC.1 14 26 (ix := 3) (j := 3) (n := (1)) (x := v3) v3_17 (lv' := [(0, av_R 11 (some v0)), (1, av_I v1), (2, av_I v2), (3, av_I v3_17)]) rfl (by rw [ev3_17]; rfl) rfl rfl (by decide) rfl) ?_
  refine xs_step (fun K HC => xr_goto HC.1 15 2 rfl (by decide)) ?_
  exact xs_back rfl (fun K q => q)
set_option maxHeartbeats 4000000 in
set_option maxRecDepth 100000 in
theorem t_M_layRows_2b (v0 : Nat) (v1 : Int32) (v2 : Int32) (v3 : Int32) (h : HP) : xx_S (xx_D "LampYardModel" tb_M_layRows 7 1 (some .long) false) (xx_z2 (fun s : (Int32 × HP) => s.2) xz_l) (fun K => xx_L2 (fun s : (Int32 × HP) => xx_X K 2 [(0, av_R 11 (some v0)), (1, av_I v1), (2, av_I v2), (3, av_I s.1)] [] (s.2)) (xL_l K)) 2 [(0, av_R 11 (some v0)), (1, av_I v1), (2, av_I v2), (3, av_I v3)] [] h (f_M_layRows_2b v0 v1 v2 v3 h) := by
  unfold f_M_layRows_2b
  refine xs_step (fun K HC => xr_iload_n HC.1 2 3 (n := 3) (ix := 3) (j := 3) (x := v3) rfl rfl rfl rfl) ?_
  refine xs_step (fun K HC => xr_bipush HC.1 3 5 (n := (8)) (8 : Int32) rfl rfl rfl) ?_
  refine xs_ite (fun K HC => xr_icmp_ge HC.1 4 29 8 rfl (by decide) rfl) ?_ ?_
  · refine xs_step (fun K HC => xr_sub (lv' := [(0, av_R 11 (some v0)), (1, av_I v1), (2, av_I v2)]) [0, 1, 2] rfl) ?_
    exact xs_map (fun _ => rfl) (fun _ _ q => q) (t_M_layRows_29 v0 v1 v2 h)
  refine xs_step (fun K HC => xr_aload_n HC.1 5 9 (n := 0) (ix := 0) (j := 0) (c := 11) (x := v0) rfl rfl rfl rfl) ?_
  refine xs_bind (fun q_14 eq_14 => ?_)
  refine xs_step (fun K HC => xr_getr HC.1 6 12 11 78 14 eq_14 rfl rfl wf_M_133 (by decide) fb_11_78 fc_11_78 fd_11_78) ?_
  refine xs_step (fun K HC => xr_iload_n HC.1 7 13 (n := 3) (ix := 3) (j := 3) (x := v3) rfl rfl rfl rfl) ?_
  refine xs_step (fun K HC => xr_iload_n HC.1 8 14 (n := 3) (ix := 3) (j := 3) (x := v3) rfl rfl rfl rfl) ?_
  refine xs_ite (fun K HC a b => xr_if_ne HC.1 9 21 17 rfl (by decide) rfl b a) ?_ ?_
  · refine xs_step (fun K HC => xr_lconst HC.1 10 18 (n := 1) (1 : Int64) rfl rfl rfl) ?_
    refine xs_step (fun K HC => xr_goto HC.1 11 22 rfl (by decide)) ?_
    exact t_M_layRows_22 v0 v1 v2 v3 (1 : Int64) v3 q_14 h
  refine xs_step (fun K HC => xr_lconst HC.1 12 22 (n := 0) (0 : Int64) rfl rfl rfl) ?_
  exact t_M_layRows_22 v0 v1 v2 v3 (0 : Int64) v3 q_14 h
theorem t_M_layRows_2 (v0 : Nat) (v1 : Int32) (v2 : Int32) (v3 : Int32) (h : HP) : xx_S (xx_D "LampYardModel" tb_M_layRows 7 1 (some .long) false) xz_l (fun K => xL_l K) 2 [(0, av_R 11 (some v0)), (1, av_I v1), (2, av_I v2), (3, av_I v3)] [] h (f_M_layRows_2 v0 v1 v2 v3 h) :=
  xs_loop (zf := xz_l) (L := (fun K => xL_l K)) (fun s : (Int32 × HP) => [(0, av_R 11 (some v0)), (1, av_I v1), (2, av_I v2), (3, av_I s.1)]) (fun s : (Int32 × HP) => s.2) (fun s => t_M_layRows_2b v0 v1 v2 s.1 s.2) (v3, h)
set_option maxHeartbeats 4000000 in
set_option maxRecDepth 100000 in
theorem t_M_layRows (v0 : Nat) (v1 : Int32) (v2 : Int32) (h : HP) : xx_S (xx_D "LampYardModel" tb_M_layRows 7 1 (some .long) false) xz_l (fun K => xL_l K) 0 [(0, av_R 11 (some v0)), (1, av_I v1), (2, av_I v2)] [] h (f_M_layRows v0 v1 v2 h) := by
  unfold f_M_layRows
  refine xs_step (fun K HC => xr_iconst HC.1 0 1 (n := (0)) (0 : Int32) rfl rfl rfl) ?_
  refine xs_step (fun K HC => xr_istore_n HC.1 1 2 (n := 3) (ix := 3) (lv' := [(0, av_R 11 (some v0)), (1, av_I v1), (2, av_I v2), (3, av_I (0 : Int32))]) rfl rfl rfl (by decide) rfl) ?_
  exact t_M_layRows_2 v0 v1 v2 (0 : Int32) h
theorem s_M_layRows (v0 : Nat) (v1 : Int32) (v2 : Int32) (h : HP) : ∀ x, f_M_layRows v0 v1 v2 h = some x → hp_mo h x.2 ∧ ∀ g l, xx_M g l y_M_layRows prog_14_method_88_code 7 (some .long) 1 [av_R 11 (some v0), av_I v1, av_I v2] h (some (av_L x.1)) x.2 :=
  xM_l (tb := tb_M_layRows) (b := false) (by decide +kernel) dt_M_layRows (fun _ => trivial) (Nat.le_of_ble_eq_true rfl) (fun hb => by cases hb) (t_M_layRows v0 v1 v2 h)
def tb_M_isMany : TBL := [(0, .iload_n 0, 1), (1, .iconst 1, 1), (2, .if_icmp .lt 13, 3), (5, .iload_n 0, 1), (6, .bipush 6, 2), (8, .if_icmp .gt 7, 3), (11, .iconst 1, 1), (12, .goto 4, 3), (15, .iconst 0, 1), (16, .ireturn, 1)]
theorem dt_M_isMany : ∀ q ∈ tb_M_isMany, decode prog_14_method_89_code q.1 = .ok (q.2.1, q.2.2) := by decide +kernel
set_option maxHeartbeats 4000000 in
set_option maxRecDepth 100000 in
theorem t_M_isMany (v0 : Int32) (h : HP) : xx_S (xx_D "LampYardModel" tb_M_isMany 1 1 (some .boolean) false) xz_i (fun K => xL_i K) 0 [(0, av_I v0)] [] h (f_M_isMany v0 h) := by
  unfold f_M_isMany
  refine xs_step (fun K HC => xr_iload_n HC.1 0 1 (n := 0) (ix := 0) (j := 0) (x := v0) rfl rfl rfl rfl) ?_
  refine xs_step (fun K HC => xr_iconst HC.1 1 2 (n := (1)) (1 : Int32) rfl rfl rfl) ?_
  refine xs_ite (fun K HC => xr_icmp_lt HC.1 2 15 5 rfl (by decide) rfl) ?_ ?_
  · refine xs_step (fun K HC => xr_iconst HC.1 8 16 (n := (0)) (0 : Int32) rfl rfl rfl) ?_
    exact xs_reti 9 rfl rfl (fun K q => q) (fun ty ht => by cases ht; rfl)
  refine xs_step (fun K HC => xr_iload_n HC.1 3 6 (n := 0) (ix := 0) (j := 0) (x := v0) rfl rfl rfl rfl) ?_
  refine xs_step (fun K HC => xr_bipush HC.1 4 8 (n := (6)) (6 : Int32) rfl rfl rfl) ?_
  refine xs_ite (fun K HC => xr_icmp_gt HC.1 5 15 11 rfl (by decide) rfl) ?_ ?_
  · refine xs_step (fun K HC => xr_iconst HC.1 8 16 (n := (0)) (0 : Int32) rfl rfl rfl) ?_
    exact xs_reti 9 rfl rfl (fun K q => q) (fun ty ht => by cases ht; rfl)
  refine xs_step (fun K HC => xr_iconst HC.1 6 12 (n := (1)) (1 : Int32) rfl rfl rfl) ?_
  refine xs_step (fun K HC => xr_goto HC.1 7 16 rfl (by decide)) ?_
  exact xs_reti 9 rfl rfl (fun K q => q) (fun ty ht => by cases ht; rfl)
theorem s_M_isMany (v0 : Int32) (h : HP) : ∀ x, f_M_isMany v0 h = some x → hp_mo h x.2 ∧ ∀ g l, xx_M g l y_M_isMany prog_14_method_89_code 1 (some .boolean) 1 [av_I v0] h (some (av_I x.1)) x.2 :=
  xM_i (tb := tb_M_isMany) (b := false) (by decide +kernel) dt_M_isMany (fun _ => trivial) (Nat.le_of_ble_eq_true rfl) (fun hb => by cases hb) (t_M_isMany v0 h)
def tb_M_all : TBL := [(0, .iload_n 1, 1), (1, .invokestatic 569, 3), (4, .ifCond .eq 20, 3), (7, .iload_n 2, 1), (8, .ifCond .lt 16, 3), (11, .iload_n 2, 1), (12, .bipush 20, 2), (14, .if_icmp .gt 10, 3), (17, .iload_n 3, 1), (18, .invokestatic 558, 3), (21, .ifCond .ne 7, 3), (24, .ldc2_w 561, 3), (27, .lreturn, 1), (28, .aload_n 0, 1), (29, .iload_n 1, 1), (30, .iload_n 2, 1), (31, .invokevirtual 572, 3), (34, .lstore 4, 2), (36, .aload_n 0, 1), (37, .getfield 133, 3), (40, .iload_n 1, 1), (41, .laload, 1), (42, .lload 4, 2), (44, .iload_n 3, 1), (45, .invokestatic 565, 3), (48, .lreturn, 1)]
theorem dt_M_all : ∀ q ∈ tb_M_all, decode prog_14_method_90_code q.1 = .ok (q.2.1, q.2.2) := by decide +kernel
set_option maxHeartbeats 4000000 in
set_option maxRecDepth 100000 in
theorem t_M_all (v0 : Nat) (v1 : Int32) (v2 : Int32) (v3 : Int32) (h : HP) : xx_S (xx_D "LampYardModel" tb_M_all 6 3 (some .long) false) xz_l (fun K => xL_l K) 0 [(0, av_R 11 (some v0)), (1, av_I v1), (2, av_I v2), (3, av_I v3)] [] h (f_M_all v0 v1 v2 v3 h) := by
  unfold f_M_all
  refine xs_step (fun K HC => xr_iload_n HC.1 0 1 (n := 1) (ix := 1) (j := 1) (x := v1) rfl rfl rfl rfl) ?_
  refine xs_calli (s_M_isMany v1 h) (fun K HC x9 hM hmo hb => xr_callS HC.1 1 4 (av := [av_I v1]) (st := []) (hM (kg K) (cx_l (kx K))) hmo hb rfl rfl wm_M_569 wt_M_isMany wn_M_isMany wc_M_isMany wh_M_isMany (by decide) (by decide) (Nat.le_of_ble_eq_true rfl) rfl) (fun x_1 => ?_)
  refine xs_ite (fun K HC => xr_if_eq HC.1 2 24 7 rfl (by decide) rfl) ?_ ?_
  · refine xs_step (fun K HC => xr_ldc2 HC.1 11 27 wk_M_561 rfl rfl) ?_
    exact xs_retl 12 rfl rfl (fun K q => q)
  refine xs_step (fun K HC => xr_iload_n HC.1 3 8 (n := 2) (ix := 2) (j := 2) (x := v2) rfl rfl rfl rfl) ?_
  refine xs_ite (fun K HC => xr_if_lt HC.1 4 24 11 rfl (by decide) rfl) ?_ ?_
  · refine xs_step (fun K HC => xr_ldc2 HC.1 11 27 wk_M_561 rfl rfl) ?_
    exact xs_retl 12 rfl rfl (fun K q => q)
  refine xs_step (fun K HC => xr_iload_n HC.1 5 12 (n := 2) (ix := 2) (j := 2) (x := v2) rfl rfl rfl rfl) ?_
  refine xs_step (fun K HC => xr_bipush HC.1 6 14 (n := (20)) (20 : Int32) rfl rfl rfl) ?_
  refine xs_ite (fun K HC => xr_icmp_gt HC.1 7 24 17 rfl (by decide) rfl) ?_ ?_
  · refine xs_step (fun K HC => xr_ldc2 HC.1 11 27 wk_M_561 rfl rfl) ?_
    exact xs_retl 12 rfl rfl (fun K q => q)
  refine xs_step (fun K HC => xr_iload_n HC.1 8 18 (n := 3) (ix := 3) (j := 3) (x := v3) rfl rfl rfl rfl) ?_
  refine xs_calli (s_M_isPart v3 x_1.2) (fun K HC x9 hM hmo hb => xr_callS HC.1 9 21 (av := [av_I v3]) (st := []) (hM (kg K) (cx_l (kx K))) hmo hb rfl rfl wm_M_558 wt_M_isPart wn_M_isPart wc_M_isPart wh_M_isPart (by decide) (by decide) (Nat.le_of_ble_eq_true rfl) rfl) (fun x_2 => ?_)
  refine xs_ite (fun K HC a b => xr_if_ne HC.1 10 28 24 rfl (by decide) rfl b a) ?_ ?_
  · refine xs_step (fun K HC => xr_ldc2 HC.1 11 27 wk_M_561 rfl rfl) ?_
    exact xs_retl 12 rfl rfl (fun K q => q)
  refine xs_step (fun K HC => xr_aload_n HC.1 13 29 (n := 0) (ix := 0) (j := 0) (c := 11) (x := v0) rfl rfl rfl rfl) ?_
  refine xs_step (fun K HC => xr_iload_n HC.1 14 30 (n := 1) (ix := 1) (j := 1) (x := v1) rfl rfl rfl rfl) ?_
  refine xs_step (fun K HC => xr_iload_n HC.1 15 31 (n := 2) (ix := 2) (j := 2) (x := v2) rfl rfl rfl rfl) ?_
  refine xs_calll (s_M_layRows v0 v1 v2 x_2.2) (fun K HC x9 hM hmo hb => xr_callV HC.1 16 34 (av := [av_I v1, av_I v2]) (st := []) (hM (kg K) (cx_l (kx K))) hmo hb rfl rfl wm_M_572 wi_M_layRows ws_M_layRows wc_M_layRows rfl wh_M_layRows (by decide) (by decide) (by decide) (Nat.le_of_ble_eq_true rfl) rfl) (fun x_3 => ?_)
  refine xs_step (fun K HC => xr_lstore HC.1 17 36 (ix := 4) (lv' := [(0, av_R 11 (some v0)), (1, av_I v1), (2, av_I v2), (3, av_I v3), (4, av_L x_3.1)]) rfl rfl (by decide) rfl) ?_
  refine xs_step (fun K HC => xr_aload_n HC.1 18 37 (n := 0) (ix := 0) (j := 0) (c := 11) (x := v0) rfl rfl rfl rfl) ?_
  refine xs_bind (fun q_4 eq_4 => ?_)
  refine xs_step (fun K HC => xr_getr HC.1 19 40 11 78 14 eq_4 rfl rfl wf_M_133 (by decide) fb_11_78 fc_11_78 fd_11_78) ?_
  refine xs_step (fun K HC => xr_iload_n HC.1 20 41 (n := 1) (ix := 1) (j := 1) (x := v1) rfl rfl rfl rfl) ?_
  refine xs_chk (fun hb_5 => ?_)
  refine xs_step (fun K HC => xr_lald HC.1 21 42 (hp_in_vp hb_5) rfl rfl) ?_
  refine xs_step (fun K HC => xr_lload HC.1 22 44 (ix := 4) (j := 4) (x := x_3.1) rfl rfl rfl) ?_
  refine xs_step (fun K HC => xr_iload_n HC.1 23 45 (n := 3) (ix := 3) (j := 3) (x := v3) rfl rfl rfl rfl) ?_
  refine xs_calll (s_M_partOf (hp_l x_3.2 q_4 (v1).toNatClampNeg) x_3.1 v3 x_3.2) (fun K HC x9 hM hmo hb => xr_callS HC.1 24 48 (av := [av_L (hp_l x_3.2 q_4 (v1).toNatClampNeg), av_L x_3.1, av_I v3]) (st := []) (hM (kg K) (cx_l (kx K))) hmo hb rfl rfl wm_M_565 wt_M_partOf wn_M_partOf wc_M_partOf wh_M_partOf (by decide) (by decide) (Nat.le_of_ble_eq_true rfl) rfl) (fun x_6 => ?_)
  exact xs_retl 25 rfl rfl (fun K q => q)
theorem s_M_all (v0 : Nat) (v1 : Int32) (v2 : Int32) (v3 : Int32) (h : HP) : ∀ x, f_M_all v0 v1 v2 v3 h = some x → hp_mo h x.2 ∧ ∀ g l, xx_M g l y_M_all prog_14_method_90_code 6 (some .long) 3 [av_R 11 (some v0), av_I v1, av_I v2, av_I v3] h (some (av_L x.1)) x.2 :=
  xM_l (tb := tb_M_all) (b := false) (by decide +kernel) dt_M_all (fun _ => trivial) (Nat.le_of_ble_eq_true rfl) (fun hb => by cases hb) (t_M_all v0 v1 v2 v3 h)
def tb_M_guess : TBL := [(0, .iload_n 1, 1), (1, .invokestatic 569, 3), (4, .ifCond .eq 14, 3), (7, .iload_n 2, 1), (8, .ifCond .lt 10, 3), (11, .iload_n 2, 1), (12, .sipush 1000, 3), (15, .if_icmp .le 5, 3), (18, .iconst (-1), 1), (19, .ireturn, 1), (20, .iconst 0, 1), (21, .istore_n 3, 1), (22, .iload_n 3, 1), (23, .bipush 20, 2), (25, .if_icmp .gt 41, 3), (28, .aload_n 0, 1), (29, .iload_n 1, 1), (30, .iload_n 3, 1), (31, .invokevirtual 572, 3), (34, .lstore 4, 2), (36, .lload 4, 2), (38, .aload_n 0, 1), (39, .getfield 133, 3), (42, .iload_n 1, 1), (43, .laload, 1), (44, .lsub, 1), (45, .ldc2_w 576, 3), (48, .lmul, 1), (49, .iload_n 2, 1), (50, .i2l, 1), (51, .lload 4, 2), (53, .lmul, 1), (54, .lcmp, 1), (55, .ifCond .gt 5, 3), (58, .iload_n 3, 1), (59, .ireturn, 1), (60, .iinc 3 1, 3), (63, .goto (-41), 3), (66, .iconst (-1), 1), (67, .ireturn, 1)]
theorem dt_M_guess : ∀ q ∈ tb_M_guess, decode prog_14_method_91_code q.1 = .ok (q.2.1, q.2.2) := by decide +kernel
set_option maxHeartbeats 4000000 in
set_option maxRecDepth 100000 in
theorem t_M_guess_22b (v0 : Nat) (v1 : Int32) (v2 : Int32) (v3 : Int32) (h : HP) : xx_S (xx_D "LampYardModel" tb_M_guess 6 2 (some .int) false) (xx_z2 (fun s : (Int32 × HP) => s.2) xz_i) (fun K => xx_L2 (fun s : (Int32 × HP) => xx_X K 22 [(0, av_R 11 (some v0)), (1, av_I v1), (2, av_I v2), (3, av_I s.1)] [] (s.2)) (xL_i K)) 22 [(0, av_R 11 (some v0)), (1, av_I v1), (2, av_I v2), (3, av_I v3)] [] h (f_M_guess_22b v0 v1 v2 v3 h) := by
  unfold f_M_guess_22b
  refine xs_step (fun K HC => xr_iload_n HC.1 12 23 (n := 3) (ix := 3) (j := 3) (x := v3) rfl rfl rfl rfl) ?_
  refine xs_step (fun K HC => xr_bipush HC.1 13 25 (n := (20)) (20 : Int32) rfl rfl rfl) ?_
  refine xs_ite (fun K HC => xr_icmp_gt HC.1 14 66 28 rfl (by decide) rfl) ?_ ?_
  · refine xs_step (fun K HC => xr_iconst HC.1 38 67 (n := (-1)) (-1 : Int32) rfl rfl rfl) ?_
    exact xs_reti 39 rfl rfl (fun K q => q) (fun ty ht => by cases ht; rfl)
  refine xs_step (fun K HC => xr_aload_n HC.1 15 29 (n := 0) (ix := 0) (j := 0) (c := 11) (x := v0) rfl rfl rfl rfl) ?_
  refine xs_step (fun K HC => xr_iload_n HC.1 16 30 (n := 1) (ix := 1) (j := 1) (x := v1) rfl rfl rfl rfl) ?_
  refine xs_step (fun K HC => xr_iload_n HC.1 17 31 (n := 3) (ix := 3) (j := 3) (x := v3) rfl rfl rfl rfl) ?_
  refine xs_calll (s_M_layRows v0 v1 v3 h) (fun K HC x9 hM hmo hb => xr_callV HC.1 18 34 (av := [av_I v1, av_I v3]) (st := []) (hM (kg K) (cx_l (kx K))) hmo hb rfl rfl wm_M_572 wi_M_layRows ws_M_layRows wc_M_layRows rfl wh_M_layRows (by decide) (by decide) (by decide) (Nat.le_of_ble_eq_true rfl) rfl) (fun x_2 => ?_)
  refine xs_step (fun K HC => xr_lstore HC.1 19 36 (ix := 4) (lv' := [(0, av_R 11 (some v0)), (1, av_I v1), (2, av_I v2), (3, av_I v3), (4, av_L x_2.1)]) rfl rfl (by decide) rfl) ?_
  refine xs_step (fun K HC => xr_lload HC.1 20 38 (ix := 4) (j := 4) (x := x_2.1) rfl rfl rfl) ?_
  refine xs_step (fun K HC => xr_aload_n HC.1 21 39 (n := 0) (ix := 0) (j := 0) (c := 11) (x := v0) rfl rfl rfl rfl) ?_
  refine xs_bind (fun q_3 eq_3 => ?_)
  refine xs_step (fun K HC => xr_getr HC.1 22 42 11 78 14 eq_3 rfl rfl wf_M_133 (by decide) fb_11_78 fc_11_78 fd_11_78) ?_
  refine xs_step (fun K HC => xr_iload_n HC.1 23 43 (n := 1) (ix := 1) (j := 1) (x := v1) rfl rfl rfl rfl) ?_
  refine xs_chk (fun hb_4 => ?_)
  refine xs_step (fun K HC => xr_lald HC.1 24 44 (hp_in_vp hb_4) rfl rfl) ?_
  refine xs_step (fun K HC => xr_lsub HC.1 25 45 rfl rfl) ?_
  refine xs_step (fun K HC => xr_ldc2 HC.1 26 48 wk_M_576 rfl rfl) ?_
  refine xs_step (fun K HC => xr_lmul HC.1 27 49 rfl rfl) ?_
  refine xs_step (fun K HC => xr_iload_n HC.1 28 50 (n := 2) (ix := 2) (j := 2) (x := v2) rfl rfl rfl rfl) ?_
  refine xs_step (fun K HC => xr_i2l HC.1 29 51 rfl rfl) ?_
  refine xs_step (fun K HC => xr_lload HC.1 30 53 (ix := 4) (j := 4) (x := x_2.1) rfl rfl rfl) ?_
  refine xs_step (fun K HC => xr_lmul HC.1 31 54 rfl rfl) ?_
  refine xs_step (fun K HC => xr_lcmp HC.1 32 55 rfl rfl) ?_
  refine xs_ite (fun K HC => xr_if_gt HC.1 33 60 58 rfl (by decide) rfl) ?_ ?_
  · refine xs_gen (fun v3_5 ev3_5 => ?_)
    refine xs_step (fun K HC => xr_iinc HC.1 36 63 (ix := 3) (j := 3) (n := (1)) (x := v3) v3_5 (lv' := [(0, av_R 11 (some v0)), (1, av_I v1), (2, av_I v2), (3, av_I v3_5), (4, av_L x_2.1)]) rfl (by rw [ev3_5]; rfl) rfl rfl (by decide) rfl) ?_
    refine xs_step (fun K HC => xr_goto HC.1 37 22 rfl (by decide)) ?_
    refine xs_step (fun K HC => xr_sub (lv' := [(0, av_R 11 (some v0)), (1, av_I v1), (2, av_I v2), (3, av_I v3_5)]) [0, 1, 2, 3] rfl) ?_
    exact xs_back rfl (fun K q => q)
  refine xs_step (fun K HC => xr_iload_n HC.1 34 59 (n := 3) (ix := 3) (j := 3) (x := v3) rfl rfl rfl rfl) ?_
  exact xs_reti 35 rfl rfl (fun K q => q) (fun ty ht => by cases ht; rfl)
theorem t_M_guess_22 (v0 : Nat) (v1 : Int32) (v2 : Int32) (v3 : Int32) (h : HP) : xx_S (xx_D "LampYardModel" tb_M_guess 6 2 (some .int) false) xz_i (fun K => xL_i K) 22 [(0, av_R 11 (some v0)), (1, av_I v1), (2, av_I v2), (3, av_I v3)] [] h (f_M_guess_22 v0 v1 v2 v3 h) :=
  xs_loop (zf := xz_i) (L := (fun K => xL_i K)) (fun s : (Int32 × HP) => [(0, av_R 11 (some v0)), (1, av_I v1), (2, av_I v2), (3, av_I s.1)]) (fun s : (Int32 × HP) => s.2) (fun s => t_M_guess_22b v0 v1 v2 s.1 s.2) (v3, h)
set_option maxHeartbeats 4000000 in
set_option maxRecDepth 100000 in
theorem t_M_guess (v0 : Nat) (v1 : Int32) (v2 : Int32) (h : HP) : xx_S (xx_D "LampYardModel" tb_M_guess 6 2 (some .int) false) xz_i (fun K => xL_i K) 0 [(0, av_R 11 (some v0)), (1, av_I v1), (2, av_I v2)] [] h (f_M_guess v0 v1 v2 h) := by
  unfold f_M_guess
  refine xs_step (fun K HC => xr_iload_n HC.1 0 1 (n := 1) (ix := 1) (j := 1) (x := v1) rfl rfl rfl rfl) ?_
  refine xs_calli (s_M_isMany v1 h) (fun K HC x9 hM hmo hb => xr_callS HC.1 1 4 (av := [av_I v1]) (st := []) (hM (kg K) (cx_l (kx K))) hmo hb rfl rfl wm_M_569 wt_M_isMany wn_M_isMany wc_M_isMany wh_M_isMany (by decide) (by decide) (Nat.le_of_ble_eq_true rfl) rfl) (fun x_1 => ?_)
  refine xs_ite (fun K HC => xr_if_eq HC.1 2 18 7 rfl (by decide) rfl) ?_ ?_
  · refine xs_step (fun K HC => xr_iconst HC.1 8 19 (n := (-1)) (-1 : Int32) rfl rfl rfl) ?_
    exact xs_reti 9 rfl rfl (fun K q => q) (fun ty ht => by cases ht; rfl)
  refine xs_step (fun K HC => xr_iload_n HC.1 3 8 (n := 2) (ix := 2) (j := 2) (x := v2) rfl rfl rfl rfl) ?_
  refine xs_ite (fun K HC => xr_if_lt HC.1 4 18 11 rfl (by decide) rfl) ?_ ?_
  · refine xs_step (fun K HC => xr_iconst HC.1 8 19 (n := (-1)) (-1 : Int32) rfl rfl rfl) ?_
    exact xs_reti 9 rfl rfl (fun K q => q) (fun ty ht => by cases ht; rfl)
  refine xs_step (fun K HC => xr_iload_n HC.1 5 12 (n := 2) (ix := 2) (j := 2) (x := v2) rfl rfl rfl rfl) ?_
  refine xs_step (fun K HC => xr_sipush HC.1 6 15 (n := (1000)) (1000 : Int32) rfl rfl rfl) ?_
  refine xs_ite (fun K HC => xr_icmp_le HC.1 7 20 18 rfl (by decide) rfl) ?_ ?_
  · refine xs_step (fun K HC => xr_iconst HC.1 10 21 (n := (0)) (0 : Int32) rfl rfl rfl) ?_
    refine xs_step (fun K HC => xr_istore_n HC.1 11 22 (n := 3) (ix := 3) (lv' := [(0, av_R 11 (some v0)), (1, av_I v1), (2, av_I v2), (3, av_I (0 : Int32))]) rfl rfl rfl (by decide) rfl) ?_
    exact t_M_guess_22 v0 v1 v2 (0 : Int32) x_1.2
  refine xs_step (fun K HC => xr_iconst HC.1 8 19 (n := (-1)) (-1 : Int32) rfl rfl rfl) ?_
  exact xs_reti 9 rfl rfl (fun K q => q) (fun ty ht => by cases ht; rfl)
theorem s_M_guess (v0 : Nat) (v1 : Int32) (v2 : Int32) (h : HP) : ∀ x, f_M_guess v0 v1 v2 h = some x → hp_mo h x.2 ∧ ∀ g l, xx_M g l y_M_guess prog_14_method_91_code 6 (some .int) 2 [av_R 11 (some v0), av_I v1, av_I v2] h (some (av_I x.1)) x.2 :=
  xM_i (tb := tb_M_guess) (b := false) (by decide +kernel) dt_M_guess (fun _ => trivial) (Nat.le_of_ble_eq_true rfl) (fun hb => by cases hb) (t_M_guess v0 v1 v2 h)
def tb_M_mean : TBL := [(0, .iload_n 1, 1), (1, .invokestatic 569, 3), (4, .ifCond .eq 10, 3), (7, .iload_n 2, 1), (8, .invokestatic 558, 3), (11, .ifCond .ne 7, 3), (14, .ldc2_w 561, 3), (17, .lreturn, 1), (18, .lconst 0, 1), (19, .lstore_n 3, 1), (20, .iconst 1, 1), (21, .istore 5, 2), (23, .iload 5, 2), (25, .iload_n 1, 1), (26, .if_icmp .gt 22, 3), (29, .lload_n 3, 1), (30, .ldc2_w 578, 3), (33, .iload_n 1, 1), (34, .i2l, 1), (35, .lmul, 1), (36, .iload 5, 2), (38, .i2l, 1), (39, .ldiv, 1), (40, .ladd, 1), (41, .lstore_n 3, 1), (42, .iinc 5 1, 3), (45, .goto (-22), 3), (48, .lload_n 3, 1), (49, .ldc2_w 578, 3), (52, .iload_n 2, 1), (53, .invokestatic 565, 3), (56, .lreturn, 1)]
theorem dt_M_mean : ∀ q ∈ tb_M_mean, decode prog_14_method_92_code q.1 = .ok (q.2.1, q.2.2) := by decide +kernel
set_option maxHeartbeats 4000000 in
set_option maxRecDepth 100000 in
theorem t_M_mean_48 (v2 : Int32) (v3 : Int64) (h : HP) : xx_S (xx_D "LampYardModel" tb_M_mean 6 3 (some .long) false) xz_l (fun K => xL_l K) 48 [(2, av_I v2), (3, av_L v3)] [] h (f_M_mean_48 v2 v3 h) := by
  unfold f_M_mean_48
  refine xs_step (fun K HC => xr_lload_n HC.1 27 49 (n := 3) (ix := 3) (j := 1) (x := v3) rfl rfl rfl rfl) ?_
  refine xs_step (fun K HC => xr_ldc2 HC.1 28 52 wk_M_578 rfl rfl) ?_
  refine xs_step (fun K HC => xr_iload_n HC.1 29 53 (n := 2) (ix := 2) (j := 0) (x := v2) rfl rfl rfl rfl) ?_
  refine xs_calll (s_M_partOf v3 (60 : Int64) v2 h) (fun K HC x9 hM hmo hb => xr_callS HC.1 30 56 (av := [av_L v3, av_L (60 : Int64), av_I v2]) (st := []) (hM (kg K) (cx_l (kx K))) hmo hb rfl rfl wm_M_565 wt_M_partOf wn_M_partOf wc_M_partOf wh_M_partOf (by decide) (by decide) (Nat.le_of_ble_eq_true rfl) rfl) (fun x_3 => ?_)
  exact xs_retl 31 rfl rfl (fun K q => q)
set_option maxHeartbeats 4000000 in
set_option maxRecDepth 100000 in
theorem t_M_mean_23b (v1 : Int32) (v2 : Int32) (v3 : Int64) (v5 : Int32) (h : HP) : xx_S (xx_D "LampYardModel" tb_M_mean 6 3 (some .long) false) (xx_z2 (fun s : (Int64 × Int32 × HP) => s.2.2) xz_l) (fun K => xx_L2 (fun s : (Int64 × Int32 × HP) => xx_X K 23 [(1, av_I v1), (2, av_I v2), (3, av_L s.1), (5, av_I s.2.1)] [] (s.2.2)) (xL_l K)) 23 [(1, av_I v1), (2, av_I v2), (3, av_L v3), (5, av_I v5)] [] h (f_M_mean_23b v1 v2 v3 v5 h) := by
  unfold f_M_mean_23b
  refine xs_step (fun K HC => xr_iload HC.1 12 25 (ix := 5) (j := 3) (x := v5) rfl rfl rfl) ?_
  refine xs_step (fun K HC => xr_iload_n HC.1 13 26 (n := 1) (ix := 1) (j := 0) (x := v1) rfl rfl rfl rfl) ?_
  refine xs_ite (fun K HC => xr_icmp_gt HC.1 14 48 29 rfl (by decide) rfl) ?_ ?_
  · refine xs_step (fun K HC => xr_sub (lv' := [(2, av_I v2), (3, av_L v3)]) [1, 2] rfl) ?_
    exact xs_map (fun _ => rfl) (fun _ _ q => q) (t_M_mean_48 v2 v3 h)
  refine xs_step (fun K HC => xr_lload_n HC.1 15 30 (n := 3) (ix := 3) (j := 2) (x := v3) rfl rfl rfl rfl) ?_
  refine xs_step (fun K HC => xr_ldc2 HC.1 16 33 wk_M_578 rfl rfl) ?_
  refine xs_step (fun K HC => xr_iload_n HC.1 17 34 (n := 1) (ix := 1) (j := 0) (x := v1) rfl rfl rfl rfl) ?_
  refine xs_step (fun K HC => xr_i2l HC.1 18 35 rfl rfl) ?_
  refine xs_step (fun K HC => xr_lmul HC.1 19 36 rfl rfl) ?_
  refine xs_step (fun K HC => xr_iload HC.1 20 38 (ix := 5) (j := 3) (x := v5) rfl rfl rfl) ?_
  refine xs_step (fun K HC => xr_i2l HC.1 21 39 rfl rfl) ?_
  refine xs_chk (fun hn_4 => ?_)
  refine xs_step (fun K HC => xr_ldiv HC.1 22 40 hn_4 rfl rfl) ?_
  refine xs_step (fun K HC => xr_ladd HC.1 23 41 rfl rfl) ?_
  refine xs_topl (fun v3_5 => ?_)
  refine xs_step (fun K HC => xr_lstore_n HC.1 24 42 (n := 3) (ix := 3) (lv' := [(1, av_I v1), (2, av_I v2), (3, av_L v3_5), (5, av_I v5)]) rfl rfl rfl (by decide) rfl) ?_
  refine xs_gen (fun v5_6 ev5_6 => ?_)
  refine xs_step (fun K HC => xr_iinc HC.1 25 45 (ix := 5) (j := 3) (n := (1)) (x := v5) v5_6 (lv' := [(1, av_I v1), (2, av_I v2), (3, av_L v3_5), (5, av_I v5_6)]) rfl (by rw [ev5_6]; rfl) rfl rfl (by decide) rfl) ?_
  refine xs_step (fun K HC => xr_goto HC.1 26 23 rfl (by decide)) ?_
  exact xs_back rfl (fun K q => q)
theorem t_M_mean_23 (v1 : Int32) (v2 : Int32) (v3 : Int64) (v5 : Int32) (h : HP) : xx_S (xx_D "LampYardModel" tb_M_mean 6 3 (some .long) false) xz_l (fun K => xL_l K) 23 [(1, av_I v1), (2, av_I v2), (3, av_L v3), (5, av_I v5)] [] h (f_M_mean_23 v1 v2 v3 v5 h) :=
  xs_loop (zf := xz_l) (L := (fun K => xL_l K)) (fun s : (Int64 × Int32 × HP) => [(1, av_I v1), (2, av_I v2), (3, av_L s.1), (5, av_I s.2.1)]) (fun s : (Int64 × Int32 × HP) => s.2.2) (fun s => t_M_mean_23b v1 v2 s.1 s.2.1 s.2.2) (v3, v5, h)
set_option maxHeartbeats 4000000 in
set_option maxRecDepth 100000 in
theorem t_M_mean (v0 : Nat) (v1 : Int32) (v2 : Int32) (h : HP) : xx_S (xx_D "LampYardModel" tb_M_mean 6 3 (some .long) false) xz_l (fun K => xL_l K) 0 [(0, av_R 11 (some v0)), (1, av_I v1), (2, av_I v2)] [] h (f_M_mean v0 v1 v2 h) := by
  unfold f_M_mean
  refine xs_step (fun K HC => xr_iload_n HC.1 0 1 (n := 1) (ix := 1) (j := 1) (x := v1) rfl rfl rfl rfl) ?_
  refine xs_calli (s_M_isMany v1 h) (fun K HC x9 hM hmo hb => xr_callS HC.1 1 4 (av := [av_I v1]) (st := []) (hM (kg K) (cx_l (kx K))) hmo hb rfl rfl wm_M_569 wt_M_isMany wn_M_isMany wc_M_isMany wh_M_isMany (by decide) (by decide) (Nat.le_of_ble_eq_true rfl) rfl) (fun x_1 => ?_)
  refine xs_ite (fun K HC => xr_if_eq HC.1 2 14 7 rfl (by decide) rfl) ?_ ?_
  · refine xs_step (fun K HC => xr_ldc2 HC.1 6 17 wk_M_561 rfl rfl) ?_
    exact xs_retl 7 rfl rfl (fun K q => q)
  refine xs_step (fun K HC => xr_iload_n HC.1 3 8 (n := 2) (ix := 2) (j := 2) (x := v2) rfl rfl rfl rfl) ?_
  refine xs_calli (s_M_isPart v2 x_1.2) (fun K HC x9 hM hmo hb => xr_callS HC.1 4 11 (av := [av_I v2]) (st := []) (hM (kg K) (cx_l (kx K))) hmo hb rfl rfl wm_M_558 wt_M_isPart wn_M_isPart wc_M_isPart wh_M_isPart (by decide) (by decide) (Nat.le_of_ble_eq_true rfl) rfl) (fun x_2 => ?_)
  refine xs_ite (fun K HC a b => xr_if_ne HC.1 5 18 14 rfl (by decide) rfl b a) ?_ ?_
  · refine xs_step (fun K HC => xr_ldc2 HC.1 6 17 wk_M_561 rfl rfl) ?_
    exact xs_retl 7 rfl rfl (fun K q => q)
  refine xs_step (fun K HC => xr_lconst HC.1 8 19 (n := 0) (0 : Int64) rfl rfl rfl) ?_
  refine xs_step (fun K HC => xr_lstore_n HC.1 9 20 (n := 3) (ix := 3) (lv' := [(0, av_R 11 (some v0)), (1, av_I v1), (2, av_I v2), (3, av_L (0 : Int64))]) rfl rfl rfl (by decide) rfl) ?_
  refine xs_step (fun K HC => xr_iconst HC.1 10 21 (n := (1)) (1 : Int32) rfl rfl rfl) ?_
  refine xs_step (fun K HC => xr_istore HC.1 11 23 (ix := 5) (lv' := [(0, av_R 11 (some v0)), (1, av_I v1), (2, av_I v2), (3, av_L (0 : Int64)), (5, av_I (1 : Int32))]) rfl rfl (by decide) rfl) ?_
  refine xs_step (fun K HC => xr_sub (lv' := [(1, av_I v1), (2, av_I v2), (3, av_L (0 : Int64)), (5, av_I (1 : Int32))]) [1, 2, 3, 4] rfl) ?_
  exact t_M_mean_23 v1 v2 (0 : Int64) (1 : Int32) x_2.2
theorem s_M_mean (v0 : Nat) (v1 : Int32) (v2 : Int32) (h : HP) : ∀ x, f_M_mean v0 v1 v2 h = some x → hp_mo h x.2 ∧ ∀ g l, xx_M g l y_M_mean prog_14_method_92_code 6 (some .long) 3 [av_R 11 (some v0), av_I v1, av_I v2] h (some (av_L x.1)) x.2 :=
  xM_l (tb := tb_M_mean) (b := false) (by decide +kernel) dt_M_mean (fun _ => trivial) (Nat.le_of_ble_eq_true rfl) (fun hb => by cases hb) (t_M_mean v0 v1 v2 h)
