def tb_Ch_countWays : TBL := [(0, .aload_n 0, 1), (1, .getfield 22, 3), (4, .lconst 0, 1), (5, .invokestatic 32, 3), (8, .aload_n 0, 1), (9, .getfield 25, 3), (12, .lconst 0, 1), (13, .invokestatic 32, 3), (16, .aload_n 1, 1), (17, .getfield 38, 3), (20, .aload_n 1, 1), (21, .getfield 44, 3), (24, .iload_n 2, 1), (25, .invokevirtual 48, 3), (28, .invokevirtual 54, 3), (31, .istore_n 3, 1), (32, .iload_n 3, 1), (33, .iconst (-1), 1), (34, .if_icmp .eq 10, 3), (37, .aload_n 0, 1), (38, .getfield 22, 3), (41, .iload_n 3, 1), (42, .lconst 1, 1), (43, .lastore, 1), (44, .aload_n 0, 1), (45, .getfield 15, 3), (48, .iload_n 2, 1), (49, .bipush 13, 2), (51, .imul, 1), (52, .lconst 0, 1), (53, .lastore, 1), (54, .aload_n 0, 1), (55, .getfield 19, 3), (58, .iload_n 2, 1), (59, .bipush 13, 2), (61, .imul, 1), (62, .lconst 0, 1), (63, .lastore, 1), (64, .iconst 1, 1), (65, .istore 4, 2), (67, .iload 4, 2), (69, .bipush 13, 2), (71, .if_icmp .ge 95, 3), (74, .iload_n 2, 1), (75, .bipush 13, 2), (77, .imul, 1), (78, .iload 4, 2), (80, .iadd, 1), (81, .istore 5, 2), (83, .aload_n 0, 1), (84, .getfield 15, 3), (87, .iload 5, 2), (89, .aload_n 0, 1), (90, .getfield 15, 3), (93, .iload 5, 2), (95, .iconst 1, 1), (96, .isub, 1), (97, .laload, 1), (98, .aload_n 1, 1), (99, .getfield 44, 3), (102, .getfield 60, 3), (105, .i2l, 1), (106, .lmul, 1), (107, .lastore, 1), (108, .aload_n 0, 1), (109, .getfield 19, 3), (112, .iload 5, 2), (114, .aload_n 0, 1), (115, .getfield 19, 3), (118, .iload 5, 2), (120, .iconst 1, 1), (121, .isub, 1), (122, .laload, 1), (123, .aload_n 1, 1), (124, .getfield 44, 3), (127, .getfield 60, 3), (130, .i2l, 1), (131, .lmul, 1), (132, .lastore, 1), (133, .aload_n 0, 1), (134, .aload_n 1, 1), (135, .iload 5, 2), (137, .invokevirtual 64, 3), (140, .aload_n 0, 1), (141, .getfield 22, 3), (144, .astore 6, 2), (146, .aload_n 0, 1), (147, .aload_n 0, 1), (148, .getfield 25, 3), (151, .putfield 22, 3), (154, .aload_n 0, 1), (155, .aload 6, 2), (157, .putfield 25, 3), (160, .iinc 4 1, 3), (163, .goto (-96), 3), (166, .return_, 1)]
theorem dt_Ch_countWays : ∀ q ∈ tb_Ch_countWays, decode prog_2_method_4_code q.1 = .ok (q.2.1, q.2.2) := by decide +kernel
set_option maxHeartbeats 4000000 in
set_option maxRecDepth 100000 in
theorem t_Ch_countWays_67b (v0 : Nat) (v1 : Nat) (v2 : Int32) (v4 : Int32) (h : HP) : xx_S (xx_D "LampYard$Chance" tb_Ch_countWays 7 4 none false) (xx_z2 (fun s : (Int32 × HP) => s.2) xz_v) (fun K => xx_L2 (fun s : (Int32 × HP) => xx_X K 67 [(0, av_R 0 (some v0)), (1, av_R 9 (some v1)), (2, av_I v2), (4, av_I s.1)] [] (s.2)) (xL_v K)) 67 [(0, av_R 0 (some v0)), (1, av_R 9 (some v1)), (2, av_I v2), (4, av_I v4)] [] h (f_Ch_countWays_67b v0 v1 v2 v4 h) := by
  unfold f_Ch_countWays_67b
  refine xs_step (fun K HC => xr_iload HC.1 40 69 (ix := 4) (j := 3) (x := v4) rfl rfl rfl) ?_
  refine xs_step (fun K HC => xr_bipush HC.1 41 71 (n := (13)) (13 : Int32) rfl rfl rfl) ?_
  refine xs_ite (fun K HC => xr_icmp_ge HC.1 42 166 74 rfl (by decide) rfl) ?_ ?_
  · exact xs_ret 95 rfl rfl (fun K q => q)
  refine xs_step (fun K HC => xr_iload_n HC.1 43 75 (n := 2) (ix := 2) (j := 2) (x := v2) rfl rfl rfl rfl) ?_
  refine xs_step (fun K HC => xr_bipush HC.1 44 77 (n := (13)) (13 : Int32) rfl rfl rfl) ?_
  refine xs_step (fun K HC => xr_imul HC.1 45 78 rfl rfl) ?_
  refine xs_step (fun K HC => xr_iload HC.1 46 80 (ix := 4) (j := 3) (x := v4) rfl rfl rfl) ?_
  refine xs_step (fun K HC => xr_iadd HC.1 47 81 rfl rfl) ?_
  refine xs_topi (fun v5_15 => ?_)
  refine xs_step (fun K HC => xr_istore HC.1 48 83 (ix := 5) (lv' := [(0, av_R 0 (some v0)), (1, av_R 9 (some v1)), (2, av_I v2), (4, av_I v4), (5, av_I v5_15)]) rfl rfl (by decide) rfl) ?_
  refine xs_step (fun K HC => xr_aload_n HC.1 49 84 (n := 0) (ix := 0) (j := 0) (c := 0) (x := v0) rfl rfl rfl rfl) ?_
  refine xs_bind (fun q_16 eq_16 => ?_)
  refine xs_step (fun K HC => xr_getr HC.1 50 87 0 1 14 eq_16 rfl rfl wf_Ch_15 (by decide) fb_0_1 fc_0_1 fd_0_1) ?_
  refine xs_step (fun K HC => xr_iload HC.1 51 89 (ix := 5) (j := 4) (x := v5_15) rfl rfl rfl) ?_
  refine xs_step (fun K HC => xr_aload_n HC.1 52 90 (n := 0) (ix := 0) (j := 0) (c := 0) (x := v0) rfl rfl rfl rfl) ?_
  refine xs_bind (fun q_17 eq_17 => ?_)
  refine xs_step (fun K HC => xr_getr HC.1 53 93 0 1 14 eq_17 rfl rfl wf_Ch_15 (by decide) fb_0_1 fc_0_1 fd_0_1) ?_
  refine xs_step (fun K HC => xr_iload HC.1 54 95 (ix := 5) (j := 4) (x := v5_15) rfl rfl rfl) ?_
  refine xs_step (fun K HC => xr_iconst HC.1 55 96 (n := (1)) (1 : Int32) rfl rfl rfl) ?_
  refine xs_step (fun K HC => xr_isub HC.1 56 97 rfl rfl) ?_
  refine xs_chk (fun hb_18 => ?_)
  refine xs_step (fun K HC => xr_lald HC.1 57 98 (hp_in_vp hb_18) rfl rfl) ?_
  refine xs_step (fun K HC => xr_aload_n HC.1 58 99 (n := 1) (ix := 1) (j := 1) (c := 9) (x := v1) rfl rfl rfl rfl) ?_
  refine xs_bind (fun q_19 eq_19 => ?_)
  refine xs_step (fun K HC => xr_getr HC.1 59 102 9 4 4 eq_19 rfl rfl wf_Ch_44 (by decide) fb_9_4 fc_9_4 fd_9_4) ?_
  refine xs_step (fun K HC => xr_geti HC.1 60 105 4 5 rfl rfl wf_Ch_60 (by decide) fb_4_5 fc_4_5) ?_
  refine xs_step (fun K HC => xr_i2l HC.1 61 106 rfl rfl) ?_
  refine xs_step (fun K HC => xr_lmul HC.1 62 107 rfl rfl) ?_
  refine xs_chk (fun hb_20 => ?_)
  refine xs_heap (hp_mo_sl _ _ _ _) (fun K HC => xr_last HC.1 63 108 (hp_in_vp hb_20) rfl rfl) (fun h_21 => ?_)
  refine xs_step (fun K HC => xr_aload_n HC.1 64 109 (n := 0) (ix := 0) (j := 0) (c := 0) (x := v0) rfl rfl rfl rfl) ?_
  refine xs_bind (fun q_22 eq_22 => ?_)
  refine xs_step (fun K HC => xr_getr HC.1 65 112 0 2 14 eq_22 rfl rfl wf_Ch_19 (by decide) fb_0_2 fc_0_2 fd_0_2) ?_
  refine xs_step (fun K HC => xr_iload HC.1 66 114 (ix := 5) (j := 4) (x := v5_15) rfl rfl rfl) ?_
  refine xs_step (fun K HC => xr_aload_n HC.1 67 115 (n := 0) (ix := 0) (j := 0) (c := 0) (x := v0) rfl rfl rfl rfl) ?_
  refine xs_bind (fun q_23 eq_23 => ?_)
  refine xs_step (fun K HC => xr_getr HC.1 68 118 0 2 14 eq_23 rfl rfl wf_Ch_19 (by decide) fb_0_2 fc_0_2 fd_0_2) ?_
  refine xs_step (fun K HC => xr_iload HC.1 69 120 (ix := 5) (j := 4) (x := v5_15) rfl rfl rfl) ?_
  refine xs_step (fun K HC => xr_iconst HC.1 70 121 (n := (1)) (1 : Int32) rfl rfl rfl) ?_
  refine xs_step (fun K HC => xr_isub HC.1 71 122 rfl rfl) ?_
  refine xs_chk (fun hb_24 => ?_)
  refine xs_step (fun K HC => xr_lald HC.1 72 123 (hp_in_vp hb_24) rfl rfl) ?_
  refine xs_step (fun K HC => xr_aload_n HC.1 73 124 (n := 1) (ix := 1) (j := 1) (c := 9) (x := v1) rfl rfl rfl rfl) ?_
  refine xs_bind (fun q_25 eq_25 => ?_)
  refine xs_step (fun K HC => xr_getr HC.1 74 127 9 4 4 eq_25 rfl rfl wf_Ch_44 (by decide) fb_9_4 fc_9_4 fd_9_4) ?_
  refine xs_step (fun K HC => xr_geti HC.1 75 130 4 5 rfl rfl wf_Ch_60 (by decide) fb_4_5 fc_4_5) ?_
  refine xs_step (fun K HC => xr_i2l HC.1 76 131 rfl rfl) ?_
  refine xs_step (fun K HC => xr_lmul HC.1 77 132 rfl rfl) ?_
  refine xs_chk (fun hb_26 => ?_)
  refine xs_heap (hp_mo_sl _ _ _ _) (fun K HC => xr_last HC.1 78 133 (hp_in_vp hb_26) rfl rfl) (fun h_27 => ?_)
  refine xs_step (fun K HC => xr_aload_n HC.1 79 134 (n := 0) (ix := 0) (j := 0) (c := 0) (x := v0) rfl rfl rfl rfl) ?_
  refine xs_step (fun K HC => xr_aload_n HC.1 80 135 (n := 1) (ix := 1) (j := 1) (c := 9) (x := v1) rfl rfl rfl rfl) ?_
  refine xs_step (fun K HC => xr_iload HC.1 81 137 (ix := 5) (j := 4) (x := v5_15) rfl rfl rfl) ?_
  refine xs_callv (s_Ch_goOneDay v0 v1 v5_15 h_27) (fun K HC x9 hM hmo hb => xr_callV HC.1 82 140 (av := [av_R 9 (some v1), av_I v5_15]) (st := []) (hM (kg K) (cx_l (kx K))) hmo hb rfl rfl wm_Ch_64 wi_Ch_goOneDay ws_Ch_goOneDay wc_Ch_goOneDay rfl wh_Ch_goOneDay (by decide) (by decide) (by decide) (Nat.le_of_ble_eq_true rfl) rfl) (fun x_28 => ?_)
  refine xs_step (fun K HC => xr_aload_n HC.1 83 141 (n := 0) (ix := 0) (j := 0) (c := 0) (x := v0) rfl rfl rfl rfl) ?_
  refine xs_bind (fun q_29 eq_29 => ?_)
  refine xs_step (fun K HC => xr_getr HC.1 84 144 0 3 14 eq_29 rfl rfl wf_Ch_22 (by decide) fb_0_3 fc_0_3 fd_0_3) ?_
  refine xs_step (fun K HC => xr_astore HC.1 85 146 (ix := 6) (lv' := [(0, av_R 0 (some v0)), (1, av_R 9 (some v1)), (2, av_I v2), (4, av_I v4), (5, av_I v5_15), (6, av_R 14 (some q_29))]) rfl rfl (by decide) rfl) ?_
  refine xs_step (fun K HC => xr_aload_n HC.1 86 147 (n := 0) (ix := 0) (j := 0) (c := 0) (x := v0) rfl rfl rfl rfl) ?_
  refine xs_step (fun K HC => xr_aload_n HC.1 87 148 (n := 0) (ix := 0) (j := 0) (c := 0) (x := v0) rfl rfl rfl rfl) ?_
  refine xs_bind (fun q_30 eq_30 => ?_)
  refine xs_step (fun K HC => xr_getr HC.1 88 151 0 4 14 eq_30 rfl rfl wf_Ch_25 (by decide) fb_0_4 fc_0_4 fd_0_4) ?_
  refine xs_heap (hp_mo_sr _ _ _ _) (fun K HC => xr_putr HC.1 89 154 0 3 14 rfl rfl wf_Ch_22 (by decide) fb_0_3 (Or.inl fn_0_3) fc_0_3 fd_0_3 (by decide)) (fun h_31 => ?_)
  refine xs_step (fun K HC => xr_aload_n HC.1 90 155 (n := 0) (ix := 0) (j := 0) (c := 0) (x := v0) rfl rfl rfl rfl) ?_
  refine xs_step (fun K HC => xr_aload HC.1 91 157 (ix := 6) (j := 5) (c := 14) (x := q_29) rfl rfl rfl) ?_
  refine xs_heap (hp_mo_sr _ _ _ _) (fun K HC => xr_putr HC.1 92 160 0 4 14 rfl rfl wf_Ch_25 (by decide) fb_0_4 (Or.inl fn_0_4) fc_0_4 fd_0_4 (by decide)) (fun h_32 => ?_)
  refine xs_gen (fun v4_33 ev4_33 => ?_)
  refine xs_step (fun K HC => xr_iinc HC.1 93 163 (ix := 4) (j := 3) (n := (1)) (x := v4) v4_33 (lv' := [(0, av_R 0 (some v0)), (1, av_R 9 (some v1)), (2, av_I v2), (4, av_I v4_33), (5, av_I v5_15), (6, av_R 14 (some q_29))]) rfl (by rw [ev4_33]; rfl) rfl rfl (by decide) rfl) ?_
  refine xs_step (fun K HC => xr_goto HC.1 94 67 rfl (by decide)) ?_
  refine xs_step (fun K HC => xr_sub (lv' := [(0, av_R 0 (some v0)), (1, av_R 9 (some v1)), (2, av_I v2), (4, av_I v4_33)]) [0, 1, 2, 3] rfl) ?_
  exact xs_back rfl (fun K q => q)
theorem t_Ch_countWays_67 (v0 : Nat) (v1 : Nat) (v2 : Int32) (v4 : Int32) (h : HP) : xx_S (xx_D "LampYard$Chance" tb_Ch_countWays 7 4 none false) xz_v (fun K => xL_v K) 67 [(0, av_R 0 (some v0)), (1, av_R 9 (some v1)), (2, av_I v2), (4, av_I v4)] [] h (f_Ch_countWays_67 v0 v1 v2 v4 h) :=
  xs_loop (zf := xz_v) (L := (fun K => xL_v K)) (fun s : (Int32 × HP) => [(0, av_R 0 (some v0)), (1, av_R 9 (some v1)), (2, av_I v2), (4, av_I s.1)]) (fun s : (Int32 × HP) => s.2) (fun s => t_Ch_countWays_67b v0 v1 v2 s.1 s.2) (v4, h)
set_option maxHeartbeats 4000000 in
set_option maxRecDepth 100000 in
theorem t_Ch_countWays_44 (v0 : Nat) (v1 : Nat) (v2 : Int32) (h : HP) : xx_S (xx_D "LampYard$Chance" tb_Ch_countWays 7 4 none false) xz_v (fun K => xL_v K) 44 [(0, av_R 0 (some v0)), (1, av_R 9 (some v1)), (2, av_I v2)] [] h (f_Ch_countWays_44 v0 v1 v2 h) := by
  unfold f_Ch_countWays_44
  refine xs_step (fun K HC => xr_aload_n HC.1 24 45 (n := 0) (ix := 0) (j := 0) (c := 0) (x := v0) rfl rfl rfl rfl) ?_
  refine xs_bind (fun q_9 eq_9 => ?_)
  refine xs_step (fun K HC => xr_getr HC.1 25 48 0 1 14 eq_9 rfl rfl wf_Ch_15 (by decide) fb_0_1 fc_0_1 fd_0_1) ?_
  refine xs_step (fun K HC => xr_iload_n HC.1 26 49 (n := 2) (ix := 2) (j := 2) (x := v2) rfl rfl rfl rfl) ?_
  refine xs_step (fun K HC => xr_bipush HC.1 27 51 (n := (13)) (13 : Int32) rfl rfl rfl) ?_
  refine xs_step (fun K HC => xr_imul HC.1 28 52 rfl rfl) ?_
  refine xs_step (fun K HC => xr_lconst HC.1 29 53 (n := 0) (0 : Int64) rfl rfl rfl) ?_
  refine xs_chk (fun hb_10 => ?_)
  refine xs_heap (hp_mo_sl _ _ _ _) (fun K HC => xr_last HC.1 30 54 (hp_in_vp hb_10) rfl rfl) (fun h_11 => ?_)
  refine xs_step (fun K HC => xr_aload_n HC.1 31 55 (n := 0) (ix := 0) (j := 0) (c := 0) (x := v0) rfl rfl rfl rfl) ?_
  refine xs_bind (fun q_12 eq_12 => ?_)
  refine xs_step (fun K HC => xr_getr HC.1 32 58 0 2 14 eq_12 rfl rfl wf_Ch_19 (by decide) fb_0_2 fc_0_2 fd_0_2) ?_
  refine xs_step (fun K HC => xr_iload_n HC.1 33 59 (n := 2) (ix := 2) (j := 2) (x := v2) rfl rfl rfl rfl) ?_
  refine xs_step (fun K HC => xr_bipush HC.1 34 61 (n := (13)) (13 : Int32) rfl rfl rfl) ?_
  refine xs_step (fun K HC => xr_imul HC.1 35 62 rfl rfl) ?_
  refine xs_step (fun K HC => xr_lconst HC.1 36 63 (n := 0) (0 : Int64) rfl rfl rfl) ?_
  refine xs_chk (fun hb_13 => ?_)
  refine xs_heap (hp_mo_sl _ _ _ _) (fun K HC => xr_last HC.1 37 64 (hp_in_vp hb_13) rfl rfl) (fun h_14 => ?_)
  refine xs_step (fun K HC => xr_iconst HC.1 38 65 (n := (1)) (1 : Int32) rfl rfl rfl) ?_
  refine xs_step (fun K HC => xr_istore HC.1 39 67 (ix := 4) (lv' := [(0, av_R 0 (some v0)), (1, av_R 9 (some v1)), (2, av_I v2), (4, av_I (1 : Int32))]) rfl rfl (by decide) rfl) ?_
  exact t_Ch_countWays_67 v0 v1 v2 (1 : Int32) h_14
set_option maxHeartbeats 4000000 in
set_option maxRecDepth 100000 in
theorem t_Ch_countWays (v0 : Nat) (v1 : Nat) (v2 : Int32) (h : HP) : xx_S (xx_D "LampYard$Chance" tb_Ch_countWays 7 4 none false) xz_v (fun K => xL_v K) 0 [(0, av_R 0 (some v0)), (1, av_R 9 (some v1)), (2, av_I v2)] [] h (f_Ch_countWays v0 v1 v2 h) := by
  unfold f_Ch_countWays
  refine xs_step (fun K HC => xr_aload_n HC.1 0 1 (n := 0) (ix := 0) (j := 0) (c := 0) (x := v0) rfl rfl rfl rfl) ?_
  refine xs_bind (fun q_1 eq_1 => ?_)
  refine xs_step (fun K HC => xr_getr HC.1 1 4 0 3 14 eq_1 rfl rfl wf_Ch_22 (by decide) fb_0_3 fc_0_3 fd_0_3) ?_
  refine xs_step (fun K HC => xr_lconst HC.1 2 5 (n := 0) (0 : Int64) rfl rfl rfl) ?_
  refine xs_callv (s_Ar_fillJ q_1 (0 : Int64) h) (fun K HC x9 hM hmo hb => xr_callS HC.1 3 8 (av := [av_R 14 (some q_1), av_L (0 : Int64)]) (st := []) (hM (kg K) (cx_l (kx K))) hmo hb rfl rfl wm_Ch_32 wt_Ar_fillJ wn_Ar_fillJ wc_Ar_fillJ wh_Ar_fillJ (by decide) (by decide) (Nat.le_of_ble_eq_true rfl) rfl) (fun x_2 => ?_)
  refine xs_step (fun K HC => xr_aload_n HC.1 4 9 (n := 0) (ix := 0) (j := 0) (c := 0) (x := v0) rfl rfl rfl rfl) ?_
  refine xs_bind (fun q_3 eq_3 => ?_)
  refine xs_step (fun K HC => xr_getr HC.1 5 12 0 4 14 eq_3 rfl rfl wf_Ch_25 (by decide) fb_0_4 fc_0_4 fd_0_4) ?_
  refine xs_step (fun K HC => xr_lconst HC.1 6 13 (n := 0) (0 : Int64) rfl rfl rfl) ?_
  refine xs_callv (s_Ar_fillJ q_3 (0 : Int64) x_2) (fun K HC x9 hM hmo hb => xr_callS HC.1 7 16 (av := [av_R 14 (some q_3), av_L (0 : Int64)]) (st := []) (hM (kg K) (cx_l (kx K))) hmo hb rfl rfl wm_Ch_32 wt_Ar_fillJ wn_Ar_fillJ wc_Ar_fillJ wh_Ar_fillJ (by decide) (by decide) (Nat.le_of_ble_eq_true rfl) rfl) (fun x_4 => ?_)
  refine xs_step (fun K HC => xr_aload_n HC.1 8 17 (n := 1) (ix := 1) (j := 1) (c := 9) (x := v1) rfl rfl rfl rfl) ?_
  refine xs_bind (fun q_5 eq_5 => ?_)
  refine xs_step (fun K HC => xr_getr HC.1 9 20 9 1 7 eq_5 rfl rfl wf_Ch_38 (by decide) fb_9_1 fc_9_1 fd_9_1) ?_
  refine xs_step (fun K HC => xr_aload_n HC.1 10 21 (n := 1) (ix := 1) (j := 1) (c := 9) (x := v1) rfl rfl rfl rfl) ?_
  refine xs_bind (fun q_6 eq_6 => ?_)
  refine xs_step (fun K HC => xr_getr HC.1 11 24 9 4 4 eq_6 rfl rfl wf_Ch_44 (by decide) fb_9_4 fc_9_4 fd_9_4) ?_
  refine xs_step (fun K HC => xr_iload_n HC.1 12 25 (n := 2) (ix := 2) (j := 2) (x := v2) rfl rfl rfl rfl) ?_
  refine xs_calll (s_Pl_firstState q_6 v2 x_4) (fun K HC x9 hM hmo hb => xr_callV HC.1 13 28 (av := [av_I v2]) (st := [av_R 7 (some q_5)]) (hM (kg K) (cx_l (kx K))) hmo hb rfl rfl wm_Ch_48 wi_Pl_firstState ws_Pl_firstState wc_Pl_firstState rfl wh_Pl_firstState (by decide) (by decide) (by decide) (Nat.le_of_ble_eq_true rfl) rfl) (fun x_7 => ?_)
  refine xs_calli (s_Ss_numberOf q_5 x_7.1 x_7.2) (fun K HC x9 hM hmo hb => xr_callV HC.1 14 31 (av := [av_L x_7.1]) (st := []) (hM (kg K) (cx_l (kx K))) hmo hb rfl rfl wm_Ch_54 wi_Ss_numberOf ws_Ss_numberOf wc_Ss_numberOf rfl wh_Ss_numberOf (by decide) (by decide) (by decide) (Nat.le_of_ble_eq_true rfl) rfl) (fun x_8 => ?_)
  refine xs_step (fun K HC => xr_istore_n HC.1 15 32 (n := 3) (ix := 3) (lv' := [(0, av_R 0 (some v0)), (1, av_R 9 (some v1)), (2, av_I v2), (3, av_I x_8.1)]) rfl rfl rfl (by decide) rfl) ?_
  refine xs_step (fun K HC => xr_iload_n HC.1 16 33 (n := 3) (ix := 3) (j := 3) (x := x_8.1) rfl rfl rfl rfl) ?_
  refine xs_step (fun K HC => xr_iconst HC.1 17 34 (n := (-1)) (-1 : Int32) rfl rfl rfl) ?_
  refine xs_ite (fun K HC => xr_icmp_eq HC.1 18 44 37 rfl (by decide) rfl) ?_ ?_
  · refine xs_step (fun K HC => xr_sub (lv' := [(0, av_R 0 (some v0)), (1, av_R 9 (some v1)), (2, av_I v2)]) [0, 1, 2] rfl) ?_
    exact t_Ch_countWays_44 v0 v1 v2 x_8.2
  refine xs_step (fun K HC => xr_aload_n HC.1 19 38 (n := 0) (ix := 0) (j := 0) (c := 0) (x := v0) rfl rfl rfl rfl) ?_
  refine xs_bind (fun q_34 eq_34 => ?_)
  refine xs_step (fun K HC => xr_getr HC.1 20 41 0 3 14 eq_34 rfl rfl wf_Ch_22 (by decide) fb_0_3 fc_0_3 fd_0_3) ?_
  refine xs_step (fun K HC => xr_iload_n HC.1 21 42 (n := 3) (ix := 3) (j := 3) (x := x_8.1) rfl rfl rfl rfl) ?_
  refine xs_step (fun K HC => xr_lconst HC.1 22 43 (n := 1) (1 : Int64) rfl rfl rfl) ?_
  refine xs_chk (fun hb_35 => ?_)
  refine xs_heap (hp_mo_sl _ _ _ _) (fun K HC => xr_last HC.1 23 44 (hp_in_vp hb_35) rfl rfl) (fun h_36 => ?_)
  refine xs_step (fun K HC => xr_sub (lv' := [(0, av_R 0 (some v0)), (1, av_R 9 (some v1)), (2, av_I v2)]) [0, 1, 2] rfl) ?_
  exact t_Ch_countWays_44 v0 v1 v2 h_36
theorem s_Ch_countWays (v0 : Nat) (v1 : Nat) (v2 : Int32) (h : HP) : ∀ x, f_Ch_countWays v0 v1 v2 h = some x → hp_mo h x ∧ ∀ g l, xx_M g l y_Ch_countWays prog_2_method_4_code 7 none 4 [av_R 0 (some v0), av_R 9 (some v1), av_I v2] h none x :=
  xM_v (tb := tb_Ch_countWays) (b := false) (by decide +kernel) dt_Ch_countWays trivial (Nat.le_of_ble_eq_true rfl) (fun hb => by cases hb) (t_Ch_countWays v0 v1 v2 h)
def tb_Ch_waysSaid : TBL := [(0, .iload_n 2, 1), (1, .ifCond .lt 18, 3), (4, .iload_n 2, 1), (5, .iconst 4, 1), (6, .if_icmp .ge 13, 3), (9, .iload_n 3, 1), (10, .ifCond .lt 9, 3), (13, .iload_n 3, 1), (14, .bipush 13, 2), (16, .if_icmp .lt 5, 3), (19, .lconst 0, 1), (20, .lreturn, 1), (21, .aload_n 0, 1), (22, .getfield 11, 3), (25, .iload_n 2, 1), (26, .baload, 1), (27, .ifCond .ne 16, 3), (30, .aload_n 0, 1), (31, .getfield 11, 3), (34, .iload_n 2, 1), (35, .iconst 1, 1), (36, .bastore, 1), (37, .aload_n 0, 1), (38, .aload_n 1, 1), (39, .iload_n 2, 1), (40, .invokevirtual 28, 3), (43, .iload 4, 2), (45, .ifCond .ne 17, 3), (48, .aload_n 0, 1), (49, .getfield 15, 3), (52, .iload_n 2, 1), (53, .bipush 13, 2), (55, .imul, 1), (56, .iload_n 3, 1), (57, .iadd, 1), (58, .laload, 1), (59, .goto 14, 3), (62, .aload_n 0, 1), (63, .getfield 19, 3), (66, .iload_n 2, 1), (67, .bipush 13, 2), (69, .imul, 1), (70, .iload_n 3, 1), (71, .iadd, 1), (72, .laload, 1), (73, .lreturn, 1)]
theorem dt_Ch_waysSaid : ∀ q ∈ tb_Ch_waysSaid, decode prog_2_method_3_code q.1 = .ok (q.2.1, q.2.2) := by decide +kernel
set_option maxHeartbeats 4000000 in
set_option maxRecDepth 100000 in
theorem t_Ch_waysSaid_43 (v0 : Nat) (v2 : Int32) (v3 : Int32) (v4 : Int32) (h : HP) : xx_S (xx_D "LampYard$Chance" tb_Ch_waysSaid 5 5 (some .long) false) xz_l (fun K => xL_l K) 43 [(0, av_R 0 (some v0)), (2, av_I v2), (3, av_I v3), (4, av_I v4)] [] h (f_Ch_waysSaid_43 v0 v2 v3 v4 h) := by
  unfold f_Ch_waysSaid_43
  refine xs_step (fun K HC => xr_iload HC.1 26 45 (ix := 4) (j := 3) (x := v4) rfl rfl rfl) ?_
  refine xs_ite (fun K HC a b => xr_if_ne HC.1 27 62 48 rfl (by decide) rfl b a) ?_ ?_
  · refine xs_step (fun K HC => xr_aload_n HC.1 28 49 (n := 0) (ix := 0) (j := 0) (c := 0) (x := v0) rfl rfl rfl rfl) ?_
    refine xs_bind (fun q_7 eq_7 => ?_)
    refine xs_step (fun K HC => xr_getr HC.1 29 52 0 1 14 eq_7 rfl rfl wf_Ch_15 (by decide) fb_0_1 fc_0_1 fd_0_1) ?_
    refine xs_step (fun K HC => xr_iload_n HC.1 30 53 (n := 2) (ix := 2) (j := 1) (x := v2) rfl rfl rfl rfl) ?_
    refine xs_step (fun K HC => xr_bipush HC.1 31 55 (n := (13)) (13 : Int32) rfl rfl rfl) ?_
    refine xs_step (fun K HC => xr_imul HC.1 32 56 rfl rfl) ?_
    refine xs_step (fun K HC => xr_iload_n HC.1 33 57 (n := 3) (ix := 3) (j := 2) (x := v3) rfl rfl rfl rfl) ?_
    refine xs_step (fun K HC => xr_iadd HC.1 34 58 rfl rfl) ?_
    refine xs_chk (fun hb_8 => ?_)
    refine xs_step (fun K HC => xr_lald HC.1 35 59 (hp_in_vp hb_8) rfl rfl) ?_
    refine xs_step (fun K HC => xr_goto HC.1 36 73 rfl (by decide)) ?_
    exact xs_retl 45 rfl rfl (fun K q => q)
  refine xs_step (fun K HC => xr_aload_n HC.1 37 63 (n := 0) (ix := 0) (j := 0) (c := 0) (x := v0) rfl rfl rfl rfl) ?_
  refine xs_bind (fun q_9 eq_9 => ?_)
  refine xs_step (fun K HC => xr_getr HC.1 38 66 0 2 14 eq_9 rfl rfl wf_Ch_19 (by decide) fb_0_2 fc_0_2 fd_0_2) ?_
  refine xs_step (fun K HC => xr_iload_n HC.1 39 67 (n := 2) (ix := 2) (j := 1) (x := v2) rfl rfl rfl rfl) ?_
  refine xs_step (fun K HC => xr_bipush HC.1 40 69 (n := (13)) (13 : Int32) rfl rfl rfl) ?_
  refine xs_step (fun K HC => xr_imul HC.1 41 70 rfl rfl) ?_
  refine xs_step (fun K HC => xr_iload_n HC.1 42 71 (n := 3) (ix := 3) (j := 2) (x := v3) rfl rfl rfl rfl) ?_
  refine xs_step (fun K HC => xr_iadd HC.1 43 72 rfl rfl) ?_
  refine xs_chk (fun hb_10 => ?_)
  refine xs_step (fun K HC => xr_lald HC.1 44 73 (hp_in_vp hb_10) rfl rfl) ?_
  exact xs_retl 45 rfl rfl (fun K q => q)
set_option maxHeartbeats 4000000 in
set_option maxRecDepth 100000 in
theorem t_Ch_waysSaid (v0 : Nat) (v1 : Nat) (v2 : Int32) (v3 : Int32) (v4 : Int32) (h : HP) : xx_S (xx_D "LampYard$Chance" tb_Ch_waysSaid 5 5 (some .long) false) xz_l (fun K => xL_l K) 0 [(0, av_R 0 (some v0)), (1, av_R 9 (some v1)), (2, av_I v2), (3, av_I v3), (4, av_I v4)] [] h (f_Ch_waysSaid v0 v1 v2 v3 v4 h) := by
  unfold f_Ch_waysSaid
  refine xs_step (fun K HC => xr_iload_n HC.1 0 1 (n := 2) (ix := 2) (j := 2) (x := v2) rfl rfl rfl rfl) ?_
  refine xs_ite (fun K HC => xr_if_lt HC.1 1 19 4 rfl (by decide) rfl) ?_ ?_
  · refine xs_step (fun K HC => xr_lconst HC.1 10 20 (n := 0) (0 : Int64) rfl rfl rfl) ?_
    exact xs_retl 11 rfl rfl (fun K q => q)
  refine xs_step (fun K HC => xr_iload_n HC.1 2 5 (n := 2) (ix := 2) (j := 2) (x := v2) rfl rfl rfl rfl) ?_
  refine xs_step (fun K HC => xr_iconst HC.1 3 6 (n := (4)) (4 : Int32) rfl rfl rfl) ?_
  refine xs_ite (fun K HC => xr_icmp_ge HC.1 4 19 9 rfl (by decide) rfl) ?_ ?_
  · refine xs_step (fun K HC => xr_lconst HC.1 10 20 (n := 0) (0 : Int64) rfl rfl rfl) ?_
    exact xs_retl 11 rfl rfl (fun K q => q)
  refine xs_step (fun K HC => xr_iload_n HC.1 5 10 (n := 3) (ix := 3) (j := 3) (x := v3) rfl rfl rfl rfl) ?_
  refine xs_ite (fun K HC => xr_if_lt HC.1 6 19 13 rfl (by decide) rfl) ?_ ?_
  · refine xs_step (fun K HC => xr_lconst HC.1 10 20 (n := 0) (0 : Int64) rfl rfl rfl) ?_
    exact xs_retl 11 rfl rfl (fun K q => q)
  refine xs_step (fun K HC => xr_iload_n HC.1 7 14 (n := 3) (ix := 3) (j := 3) (x := v3) rfl rfl rfl rfl) ?_
  refine xs_step (fun K HC => xr_bipush HC.1 8 16 (n := (13)) (13 : Int32) rfl rfl rfl) ?_
  refine xs_ite (fun K HC => xr_icmp_lt HC.1 9 21 19 rfl (by decide) rfl) ?_ ?_
  · refine xs_step (fun K HC => xr_aload_n HC.1 12 22 (n := 0) (ix := 0) (j := 0) (c := 0) (x := v0) rfl rfl rfl rfl) ?_
    refine xs_bind (fun q_1 eq_1 => ?_)
    refine xs_step (fun K HC => xr_getr HC.1 13 25 0 0 15 eq_1 rfl rfl wf_Ch_11 (by decide) fb_0_0 fc_0_0 fd_0_0) ?_
    refine xs_step (fun K HC => xr_iload_n HC.1 14 26 (n := 2) (ix := 2) (j := 2) (x := v2) rfl rfl rfl rfl) ?_
    refine xs_chk (fun hb_2 => ?_)
    refine xs_step (fun K HC => xr_zald HC.1 15 27 (hp_in_vp hb_2) rfl rfl) ?_
    refine xs_ite (fun K HC a b => xr_if_ne HC.1 16 43 30 rfl (by decide) rfl b a) ?_ ?_
    · refine xs_step (fun K HC => xr_aload_n HC.1 17 31 (n := 0) (ix := 0) (j := 0) (c := 0) (x := v0) rfl rfl rfl rfl) ?_
      refine xs_bind (fun q_3 eq_3 => ?_)
      refine xs_step (fun K HC => xr_getr HC.1 18 34 0 0 15 eq_3 rfl rfl wf_Ch_11 (by decide) fb_0_0 fc_0_0 fd_0_0) ?_
      refine xs_step (fun K HC => xr_iload_n HC.1 19 35 (n := 2) (ix := 2) (j := 2) (x := v2) rfl rfl rfl rfl) ?_
      refine xs_step (fun K HC => xr_iconst HC.1 20 36 (n := (1)) (1 : Int32) rfl rfl rfl) ?_
      refine xs_chk (fun hb_4 => ?_)
      refine xs_heap (hp_mo_si _ _ _ _) (fun K HC => xr_zast HC.1 21 37 (hp_in_vp hb_4) rfl rfl) (fun h_5 => ?_)
      refine xs_step (fun K HC => xr_aload_n HC.1 22 38 (n := 0) (ix := 0) (j := 0) (c := 0) (x := v0) rfl rfl rfl rfl) ?_
      refine xs_step (fun K HC => xr_aload_n HC.1 23 39 (n := 1) (ix := 1) (j := 1) (c := 9) (x := v1) rfl rfl rfl rfl) ?_
      refine xs_step (fun K HC => xr_iload_n HC.1 24 40 (n := 2) (ix := 2) (j := 2) (x := v2) rfl rfl rfl rfl) ?_
      refine xs_callv (s_Ch_countWays v0 v1 v2 h_5) (fun K HC x9 hM hmo hb => xr_callV HC.1 25 43 (av := [av_R 9 (some v1), av_I v2]) (st := []) (hM (kg K) (cx_l (kx K))) hmo hb rfl rfl wm_Ch_28 wi_Ch_countWays ws_Ch_countWays wc_Ch_countWays rfl wh_Ch_countWays (by decide) (by decide) (by decide) (Nat.le_of_ble_eq_true rfl) rfl) (fun x_6 => ?_)
      refine xs_step (fun K HC => xr_sub (lv' := [(0, av_R 0 (some v0)), (2, av_I v2), (3, av_I v3), (4, av_I v4)]) [0, 2, 3, 4] rfl) ?_
      exact t_Ch_waysSaid_43 v0 v2 v3 v4 x_6
    refine xs_step (fun K HC => xr_sub (lv' := [(0, av_R 0 (some v0)), (2, av_I v2), (3, av_I v3), (4, av_I v4)]) [0, 2, 3, 4] rfl) ?_
    exact t_Ch_waysSaid_43 v0 v2 v3 v4 h
  refine xs_step (fun K HC => xr_lconst HC.1 10 20 (n := 0) (0 : Int64) rfl rfl rfl) ?_
  exact xs_retl 11 rfl rfl (fun K q => q)
theorem s_Ch_waysSaid (v0 : Nat) (v1 : Nat) (v2 : Int32) (v3 : Int32) (v4 : Int32) (h : HP) : ∀ x, f_Ch_waysSaid v0 v1 v2 v3 v4 h = some x → hp_mo h x.2 ∧ ∀ g l, xx_M g l y_Ch_waysSaid prog_2_method_3_code 5 (some .long) 5 [av_R 0 (some v0), av_R 9 (some v1), av_I v2, av_I v3, av_I v4] h (some (av_L x.1)) x.2 :=
  xM_l (tb := tb_Ch_waysSaid) (b := false) (by decide +kernel) dt_Ch_waysSaid (fun _ => trivial) (Nat.le_of_ble_eq_true rfl) (fun hb => by cases hb) (t_Ch_waysSaid v0 v1 v2 v3 v4 h)
def tb_Ch_power : TBL := [(0, .lconst 1, 1), (1, .lstore_n 2, 1), (2, .iconst 0, 1), (3, .istore 4, 2), (5, .iload 4, 2), (7, .iload_n 1, 1), (8, .if_icmp .ge 14, 3), (11, .lload_n 2, 1), (12, .iload_n 0, 1), (13, .i2l, 1), (14, .lmul, 1), (15, .lstore_n 2, 1), (16, .iinc 4 1, 3), (19, .goto (-14), 3), (22, .lload_n 2, 1), (23, .lreturn, 1)]
theorem dt_Ch_power : ∀ q ∈ tb_Ch_power, decode prog_2_method_9_code q.1 = .ok (q.2.1, q.2.2) := by decide +kernel
set_option maxHeartbeats 4000000 in
set_option maxRecDepth 100000 in
theorem t_Ch_power_5b (v0 : Int32) (v1 : Int32) (v2 : Int64) (v4 : Int32) (h : HP) : xx_S (xx_D "LampYard$Chance" tb_Ch_power 5 1 (some .long) false) (xx_z2 (fun s : (Int64 × Int32 × HP) => s.2.2) xz_l) (fun K => xx_L2 (fun s : (Int64 × Int32 × HP) => xx_X K 5 [(0, av_I v0), (1, av_I v1), (2, av_L s.1), (4, av_I s.2.1)] [] (s.2.2)) (xL_l K)) 5 [(0, av_I v0), (1, av_I v1), (2, av_L v2), (4, av_I v4)] [] h (f_Ch_power_5b v0 v1 v2 v4 h) := by
  unfold f_Ch_power_5b
  refine xs_step (fun K HC => xr_iload HC.1 4 7 (ix := 4) (j := 3) (x := v4) rfl rfl rfl) ?_
  refine xs_step (fun K HC => xr_iload_n HC.1 5 8 (n := 1) (ix := 1) (j := 1) (x := v1) rfl rfl rfl rfl) ?_
  refine xs_ite (fun K HC => xr_icmp_ge HC.1 6 22 11 rfl (by decide) rfl) ?_ ?_
  · refine xs_step (fun K HC => xr_lload_n HC.1 14 23 (n := 2) (ix := 2) (j := 2) (x := v2) rfl rfl rfl rfl) ?_
    exact xs_retl 15 rfl rfl (fun K q => q)
  refine xs_step (fun K HC => xr_lload_n HC.1 7 12 (n := 2) (ix := 2) (j := 2) (x := v2) rfl rfl rfl rfl) ?_
  refine xs_step (fun K HC => xr_iload_n HC.1 8 13 (n := 0) (ix := 0) (j := 0) (x := v0) rfl rfl rfl rfl) ?_
  refine xs_step (fun K HC => xr_i2l HC.1 9 14 rfl rfl) ?_
  refine xs_step (fun K HC => xr_lmul HC.1 10 15 rfl rfl) ?_
  refine xs_topl (fun v2_1 => ?_)
  refine xs_step (fun K HC => xr_lstore_n HC.1 11 16 (n := 2) (ix := 2) (lv' := [(0, av_I v0), (1, av_I v1), (2, av_L v2_1), (4, av_I v4)]) rfl rfl rfl (by decide) rfl) ?_
  refine xs_gen (fun v4_2 ev4_2 => ?_)
  refine xs_step (fun K HC => xr_iinc HC.1 12 19 (ix := 4) (j := 3) (n := (1)) (x := v4) v4_2 (lv' := [(0, av_I v0), (1, av_I v1), (2, av_L v2_1), (4, av_I v4_2)]) rfl (by rw [ev4_2]; rfl) rfl rfl (by decide) rfl) ?_
  refine xs_step (fun K HC => xr_goto HC.1 13 5 rfl (by decide)) ?_
  exact xs_back rfl (fun K q => q)
theorem t_Ch_power_5 (v0 : Int32) (v1 : Int32) (v2 : Int64) (v4 : Int32) (h : HP) : xx_S (xx_D "LampYard$Chance" tb_Ch_power 5 1 (some .long) false) xz_l (fun K => xL_l K) 5 [(0, av_I v0), (1, av_I v1), (2, av_L v2), (4, av_I v4)] [] h (f_Ch_power_5 v0 v1 v2 v4 h) :=
  xs_loop (zf := xz_l) (L := (fun K => xL_l K)) (fun s : (Int64 × Int32 × HP) => [(0, av_I v0), (1, av_I v1), (2, av_L s.1), (4, av_I s.2.1)]) (fun s : (Int64 × Int32 × HP) => s.2.2) (fun s => t_Ch_power_5b v0 v1 s.1 s.2.1 s.2.2) (v2, v4, h)
set_option maxHeartbeats 4000000 in
set_option maxRecDepth 100000 in
theorem t_Ch_power (v0 : Int32) (v1 : Int32) (h : HP) : xx_S (xx_D "LampYard$Chance" tb_Ch_power 5 1 (some .long) false) xz_l (fun K => xL_l K) 0 [(0, av_I v0), (1, av_I v1)] [] h (f_Ch_power v0 v1 h) := by
  unfold f_Ch_power
  refine xs_step (fun K HC => xr_lconst HC.1 0 1 (n := 1) (1 : Int64) rfl rfl rfl) ?_
  refine xs_step (fun K HC => xr_lstore_n HC.1 1 2 (n := 2) (ix := 2) (lv' := [(0, av_I v0), (1, av_I v1), (2, av_L (1 : Int64))]) rfl rfl rfl (by decide) rfl) ?_
  refine xs_step (fun K HC => xr_iconst HC.1 2 3 (n := (0)) (0 : Int32) rfl rfl rfl) ?_
  refine xs_step (fun K HC => xr_istore HC.1 3 5 (ix := 4) (lv' := [(0, av_I v0), (1, av_I v1), (2, av_L (1 : Int64)), (4, av_I (0 : Int32))]) rfl rfl (by decide) rfl) ?_
  exact t_Ch_power_5 v0 v1 (1 : Int64) (0 : Int32) h
theorem s_Ch_power (v0 : Int32) (v1 : Int32) (h : HP) : ∀ x, f_Ch_power v0 v1 h = some x → hp_mo h x.2 ∧ ∀ g l, xx_M g l y_Ch_power prog_2_method_9_code 5 (some .long) 1 [av_I v0, av_I v1] h (some (av_L x.1)) x.2 :=
  xM_l (tb := tb_Ch_power) (b := false) (by decide +kernel) dt_Ch_power (fun _ => trivial) (Nat.le_of_ble_eq_true rfl) (fun hb => by cases hb) (t_Ch_power v0 v1 h)
def tb_Ch_partOf : TBL := [(0, .lload_n 2, 1), (1, .lstore 5, 2), (3, .lload_n 0, 1), (4, .lstore 7, 2), (6, .iconst 0, 1), (7, .istore 9, 2), (9, .iload 9, 2), (11, .bipush 100, 2), (13, .if_icmp .ge 31, 3), (16, .lload 7, 2), (18, .lconst 0, 1), (19, .lcmp, 1), (20, .ifCond .eq 24, 3), (23, .lload 5, 2), (25, .lstore 10, 2), (27, .lload 7, 2), (29, .lstore 5, 2), (31, .lload 10, 2), (33, .lload 5, 2), (35, .lrem, 1), (36, .lstore 7, 2), (38, .iinc 9 1, 3), (41, .goto (-32), 3), (44, .lload 5, 2), (46, .lconst 0, 1), (47, .lcmp, 1), (48, .ifCond .ne 5, 3), (51, .lconst 0, 1), (52, .lreturn, 1), (53, .iload 4, 2), (55, .ifCond .ne 7, 3), (58, .lload_n 0, 1), (59, .goto 4, 3), (62, .lload_n 2, 1), (63, .lload 5, 2), (65, .ldiv, 1), (66, .lreturn, 1)]
theorem dt_Ch_partOf : ∀ q ∈ tb_Ch_partOf, decode prog_2_method_10_code q.1 = .ok (q.2.1, q.2.2) := by decide +kernel
set_option maxHeartbeats 4000000 in
set_option maxRecDepth 100000 in
theorem t_Ch_partOf_44 (v0 : Int64) (v2 : Int64) (v4 : Int32) (v5 : Int64) (h : HP) : xx_S (xx_D "LampYard$Chance" tb_Ch_partOf 12 1 (some .long) false) xz_l (fun K => xL_l K) 44 [(0, av_L v0), (2, av_L v2), (4, av_I v4), (5, av_L v5)] [] h (f_Ch_partOf_44 v0 v2 v4 v5 h) := by
  unfold f_Ch_partOf_44
  refine xs_step (fun K HC => xr_lload HC.1 23 46 (ix := 5) (j := 3) (x := v5) rfl rfl rfl) ?_
  refine xs_step (fun K HC => xr_lconst HC.1 24 47 (n := 0) (0 : Int64) rfl rfl rfl) ?_
  refine xs_step (fun K HC => xr_lcmp HC.1 25 48 rfl rfl) ?_
  refine xs_ite (fun K HC a b => xr_if_ne HC.1 26 53 51 rfl (by decide) rfl b a) ?_ ?_
  · refine xs_step (fun K HC => xr_lconst HC.1 27 52 (n := 0) (0 : Int64) rfl rfl rfl) ?_
    exact xs_retl 28 rfl rfl (fun K q => q)
  refine xs_step (fun K HC => xr_iload HC.1 29 55 (ix := 4) (j := 2) (x := v4) rfl rfl rfl) ?_
  refine xs_ite (fun K HC a b => xr_if_ne HC.1 30 62 58 rfl (by decide) rfl b a) ?_ ?_
  · refine xs_step (fun K HC => xr_lload_n HC.1 31 59 (n := 0) (ix := 0) (j := 0) (x := v0) rfl rfl rfl rfl) ?_
    refine xs_step (fun K HC => xr_goto HC.1 32 63 rfl (by decide)) ?_
    refine xs_step (fun K HC => xr_lload HC.1 34 65 (ix := 5) (j := 3) (x := v5) rfl rfl rfl) ?_
    refine xs_chk (fun hn_1 => ?_)
    refine xs_step (fun K HC => xr_ldiv HC.1 35 66 hn_1 rfl rfl) ?_
    exact xs_retl 36 rfl rfl (fun K q => q)
  refine xs_step (fun K HC => xr_lload_n HC.1 33 63 (n := 2) (ix := 2) (j := 1) (x := v2) rfl rfl rfl rfl) ?_
  refine xs_step (fun K HC => xr_lload HC.1 34 65 (ix := 5) (j := 3) (x := v5) rfl rfl rfl) ?_
  refine xs_chk (fun hn_2 => ?_)
  refine xs_step (fun K HC => xr_ldiv HC.1 35 66 hn_2 rfl rfl) ?_
  exact xs_retl 36 rfl rfl (fun K q => q)
set_option maxHeartbeats 4000000 in
set_option maxRecDepth 100000 in
theorem t_Ch_partOf_9b (v0 : Int64) (v2 : Int64) (v4 : Int32) (v5 : Int64) (v7 : Int64) (v9 : Int32) (h : HP) : xx_S (xx_D "LampYard$Chance" tb_Ch_partOf 12 1 (some .long) false) (xx_z2 (fun s : (Int64 × Int64 × Int32 × HP) => s.2.2.2) xz_l) (fun K => xx_L2 (fun s : (Int64 × Int64 × Int32 × HP) => xx_X K 9 [(0, av_L v0), (2, av_L v2), (4, av_I v4), (5, av_L s.1), (7, av_L s.2.1), (9, av_I s.2.2.1)] [] (s.2.2.2)) (xL_l K)) 9 [(0, av_L v0), (2, av_L v2), (4, av_I v4), (5, av_L v5), (7, av_L v7), (9, av_I v9)] [] h (f_Ch_partOf_9b v0 v2 v4 v5 v7 v9 h) := by
  unfold f_Ch_partOf_9b
  refine xs_step (fun K HC => xr_iload HC.1 6 11 (ix := 9) (j := 5) (x := v9) rfl rfl rfl) ?_
  refine xs_step (fun K HC => xr_bipush HC.1 7 13 (n := (100)) (100 : Int32) rfl rfl rfl) ?_
  refine xs_ite (fun K HC => xr_icmp_ge HC.1 8 44 16 rfl (by decide) rfl) ?_ ?_
  · refine xs_step (fun K HC => xr_sub (lv' := [(0, av_L v0), (2, av_L v2), (4, av_I v4), (5, av_L v5)]) [0, 1, 2, 3] rfl) ?_
    exact xs_map (fun _ => rfl) (fun _ _ q => q) (t_Ch_partOf_44 v0 v2 v4 v5 h)
  refine xs_step (fun K HC => xr_lload HC.1 9 18 (ix := 7) (j := 4) (x := v7) rfl rfl rfl) ?_
  refine xs_step (fun K HC => xr_lconst HC.1 10 19 (n := 0) (0 : Int64) rfl rfl rfl) ?_
  refine xs_step (fun K HC => xr_lcmp HC.1 11 20 rfl rfl) ?_
  refine xs_ite (fun K HC => xr_if_eq HC.1 12 44 23 rfl (by decide) rfl) ?_ ?_
  · refine xs_step (fun K HC => xr_sub (lv' := [(0, av_L v0), (2, av_L v2), (4, av_I v4), (5, av_L v5)]) [0, 1, 2, 3] rfl) ?_
    exact xs_map (fun _ => rfl) (fun _ _ q => q) (t_Ch_partOf_44 v0 v2 v4 v5 h)
  refine xs_step (fun K HC => xr_lload HC.1 13 25 (ix := 5) (j := 3) (x := v5) rfl rfl rfl) ?_
  refine xs_step (fun K HC => xr_lstore HC.1 14 27 (ix := 10) (lv' := [(0, av_L v0), (2, av_L v2), (4, av_I v4), (5, av_L v5), (7, av_L v7), (9, av_I v9), (10, av_L v5)]) rfl rfl (by decide) rfl) ?_
  refine xs_step (fun K HC => xr_lload HC.1 15 29 (ix := 7) (j := 4) (x := v7) rfl rfl rfl) ?_
  refine xs_step (fun K HC => xr_lstore HC.1 16 31 (ix := 5) (lv' := [(0, av_L v0), (2, av_L v2), (4, av_I v4), (5, av_L v7), (7, av_L v7), (9, av_I v9), (10, av_L v5)]) rfl rfl (by decide) rfl) ?_
  refine xs_step (fun K HC => xr_lload HC.1 17 33 (ix := 10) (j := 6) (x := v5) rfl rfl rfl) ?_
  refine xs_step (fun K HC => xr_lload HC.1 18 35 (ix := 5) (j := 3) (x := v7) rfl rfl rfl) ?_
  refine xs_chk (fun hn_3 => ?_)
  refine xs_step (fun K HC => xr_lrem HC.1 19 36 hn_3 rfl rfl) ?_
  refine xs_topl (fun v7_4 => ?_)
  refine xs_step (fun K HC => xr_lstore HC.1 20 38 (ix := 7) (lv' := [(0, av_L v0), (2, av_L v2), (4, av_I v4), (5, av_L v7), (7, av_L v7_4), (9, av_I v9), (10, av_L v5)]) rfl rfl (by decide) rfl) ?_
  refine xs_gen (fun v9_5 ev9_5 => ?_)
  refine xs_step (fun K HC => xr_iinc HC.1 21 41 (ix := 9) (j := 5) (n := (1)) (x := v9) v9_5 (lv' := [(0, av_L v0), (2, av_L v2), (4, av_I v4), (5, av_L v7), (7, av_L v7_4), (9, av_I v9_5), (10, av_L v5)]) rfl (by rw [ev9_5]; rfl) rfl rfl (by decide) rfl) ?_
  refine xs_step (fun K HC => xr_goto HC.1 22 9 rfl (by decide)) ?_
  refine xs_step (fun K HC => xr_sub (lv' := [(0, av_L v0), (2, av_L v2), (4, av_I v4), (5, av_L v7), (7, av_L v7_4), (9, av_I v9_5)]) [0, 1, 2, 3, 4, 5] rfl) ?_
  exact xs_back rfl (fun K q => q)
theorem t_Ch_partOf_9 (v0 : Int64) (v2 : Int64) (v4 : Int32) (v5 : Int64) (v7 : Int64) (v9 : Int32) (h : HP) : xx_S (xx_D "LampYard$Chance" tb_Ch_partOf 12 1 (some .long) false) xz_l (fun K => xL_l K) 9 [(0, av_L v0), (2, av_L v2), (4, av_I v4), (5, av_L v5), (7, av_L v7), (9, av_I v9)] [] h (f_Ch_partOf_9 v0 v2 v4 v5 v7 v9 h) :=
  xs_loop (zf := xz_l) (L := (fun K => xL_l K)) (fun s : (Int64 × Int64 × Int32 × HP) => [(0, av_L v0), (2, av_L v2), (4, av_I v4), (5, av_L s.1), (7, av_L s.2.1), (9, av_I s.2.2.1)]) (fun s : (Int64 × Int64 × Int32 × HP) => s.2.2.2) (fun s => t_Ch_partOf_9b v0 v2 v4 s.1 s.2.1 s.2.2.1 s.2.2.2) (v5, v7, v9, h)
set_option maxHeartbeats 4000000 in
set_option maxRecDepth 100000 in
theorem t_Ch_partOf (v0 : Int64) (v2 : Int64) (v4 : Int32) (h : HP) : xx_S (xx_D "LampYard$Chance" tb_Ch_partOf 12 1 (some .long) false) xz_l (fun K => xL_l K) 0 [(0, av_L v0), (2, av_L v2), (4, av_I v4)] [] h (f_Ch_partOf v0 v2 v4 h) := by
  unfold f_Ch_partOf
  refine xs_step (fun K HC => xr_lload_n HC.1 0 1 (n := 2) (ix := 2) (j := 1) (x := v2) rfl rfl rfl rfl) ?_
  refine xs_step (fun K HC => xr_lstore HC.1 1 3 (ix := 5) (lv' := [(0, av_L v0), (2, av_L v2), (4, av_I v4), (5, av_L v2)]) rfl rfl (by decide) rfl) ?_
  refine xs_step (fun K HC => xr_lload_n HC.1 2 4 (n := 0) (ix := 0) (j := 0) (x := v0) rfl rfl rfl rfl) ?_
  refine xs_step (fun K HC => xr_lstore HC.1 3 6 (ix := 7) (lv' := [(0, av_L v0), (2, av_L v2), (4, av_I v4), (5, av_L v2), (7, av_L v0)]) rfl rfl (by decide) rfl) ?_
  refine xs_step (fun K HC => xr_iconst HC.1 4 7 (n := (0)) (0 : Int32) rfl rfl rfl) ?_
  refine xs_step (fun K HC => xr_istore HC.1 5 9 (ix := 9) (lv' := [(0, av_L v0), (2, av_L v2), (4, av_I v4), (5, av_L v2), (7, av_L v0), (9, av_I (0 : Int32))]) rfl rfl (by decide) rfl) ?_
  exact t_Ch_partOf_9 v0 v2 v4 v2 v0 (0 : Int32) h
theorem s_Ch_partOf (v0 : Int64) (v2 : Int64) (v4 : Int32) (h : HP) : ∀ x, f_Ch_partOf v0 v2 v4 h = some x → hp_mo h x.2 ∧ ∀ g l, xx_M g l y_Ch_partOf prog_2_method_10_code 12 (some .long) 1 [av_L v0, av_L v2, av_I v4] h (some (av_L x.1)) x.2 :=
  xM_l (tb := tb_Ch_partOf) (b := false) (by decide +kernel) dt_Ch_partOf (fun _ => trivial) (Nat.le_of_ble_eq_true rfl) (fun hb => by cases hb) (t_Ch_partOf v0 v2 v4 h)
def tb_X_said : TBL := [(0, .aload_n 0, 1), (1, .getfield 23, 3), (4, .iload_n 1, 1), (5, .invokevirtual 187, 3), (8, .ifCond .eq 43, 3), (11, .iload_n 2, 1), (12, .ifCond .lt 39, 3), (15, .iload_n 2, 1), (16, .bipush 12, 2), (18, .if_icmp .gt 33, 3), (21, .iload_n 3, 1), (22, .ifCond .lt 29, 3), (25, .iload_n 3, 1), (26, .iconst 1, 1), (27, .if_icmp .gt 24, 3), (30, .iload 4, 2), (32, .ifCond .lt 19, 3), (35, .iload 4, 2), (37, .iconst 1, 1), (38, .if_icmp .gt 13, 3), (41, .aload_n 0, 1), (42, .getfield 23, 3), (45, .getfield 63, 3), (48, .ifCond .ne 7, 3), (51, .ldc2_w 192, 3), (54, .lreturn, 1), (55, .aload_n 0, 1), (56, .invokevirtual 130, 3), (59, .astore 5, 2), (61, .aload 5, 2), (63, .getfield 134, 3), (66, .ifCond .eq 7, 3), (69, .ldc2_w 194, 3), (72, .lreturn, 1), (73, .aload_n 0, 1), (74, .getfield 196, 3), (77, .ifnonnull 14, 3), (80, .aload_n 0, 1), (81, .new 190, 3), (84, .dup, 1), (85, .invokespecial 200, 3), (88, .putfield 196, 3), (91, .aload_n 0, 1), (92, .getfield 196, 3), (95, .aload 5, 2), (97, .iload_n 1, 1), (98, .iload_n 2, 1), (99, .iload_n 3, 1), (100, .invokevirtual 201, 3), (103, .lstore 6, 2), (105, .lload 6, 2), (107, .aload_n 0, 1), (108, .getfield 23, 3), (111, .getfield 63, 3), (114, .iload_n 2, 1), (115, .invokestatic 205, 3), (118, .iload 4, 2), (120, .invokestatic 209, 3), (123, .lreturn, 1)]
theorem dt_X_said : ∀ q ∈ tb_X_said, decode prog_1_method_21_code q.1 = .ok (q.2.1, q.2.2) := by decide +kernel
set_option maxHeartbeats 4000000 in
set_option maxRecDepth 100000 in
theorem t_X_said_91 (v0 : Nat) (v1 : Int32) (v2 : Int32) (v3 : Int32) (v4 : Int32) (v5 : Nat) (h : HP) : xx_S (xx_D "LampYard" tb_X_said 8 8 (some .long) false) xz_l (fun K => xL_l K) 91 [(0, av_R 10 (some v0)), (1, av_I v1), (2, av_I v2), (3, av_I v3), (4, av_I v4), (5, av_R 9 (some v5))] [] h (f_X_said_91 v0 v1 v2 v3 v4 v5 h) := by
  unfold f_X_said_91
  refine xs_step (fun K HC => xr_aload_n HC.1 42 92 (n := 0) (ix := 0) (j := 0) (c := 10) (x := v0) rfl rfl rfl rfl) ?_
  refine xs_bind (fun q_9 eq_9 => ?_)
  refine xs_step (fun K HC => xr_getr HC.1 43 95 10 10 0 eq_9 rfl rfl wf_X_196 (by decide) fb_10_10 fc_10_10 fd_10_10) ?_
  refine xs_step (fun K HC => xr_aload HC.1 44 97 (ix := 5) (j := 5) (c := 9) (x := v5) rfl rfl rfl) ?_
  refine xs_step (fun K HC => xr_iload_n HC.1 45 98 (n := 1) (ix := 1) (j := 1) (x := v1) rfl rfl rfl rfl) ?_
  refine xs_step (fun K HC => xr_iload_n HC.1 46 99 (n := 2) (ix := 2) (j := 2) (x := v2) rfl rfl rfl rfl) ?_
  refine xs_step (fun K HC => xr_iload_n HC.1 47 100 (n := 3) (ix := 3) (j := 3) (x := v3) rfl rfl rfl rfl) ?_
  refine xs_calll (s_Ch_waysSaid q_9 v5 v1 v2 v3 h) (fun K HC x9 hM hmo hb => xr_callV HC.1 48 103 (av := [av_R 9 (some v5), av_I v1, av_I v2, av_I v3]) (st := []) (hM (kg K) (cx_l (kx K))) hmo hb rfl rfl wm_X_201 wi_Ch_waysSaid ws_Ch_waysSaid wc_Ch_waysSaid rfl wh_Ch_waysSaid (by decide) (by decide) (by decide) (Nat.le_of_ble_eq_true rfl) rfl) (fun x_10 => ?_)
  refine xs_step (fun K HC => xr_lstore HC.1 49 105 (ix := 6) (lv' := [(0, av_R 10 (some v0)), (1, av_I v1), (2, av_I v2), (3, av_I v3), (4, av_I v4), (5, av_R 9 (some v5)), (6, av_L x_10.1)]) rfl rfl (by decide) rfl) ?_
  refine xs_step (fun K HC => xr_lload HC.1 50 107 (ix := 6) (j := 6) (x := x_10.1) rfl rfl rfl) ?_
  refine xs_step (fun K HC => xr_aload_n HC.1 51 108 (n := 0) (ix := 0) (j := 0) (c := 10) (x := v0) rfl rfl rfl rfl) ?_
  refine xs_bind (fun q_11 eq_11 => ?_)
  refine xs_step (fun K HC => xr_getr HC.1 52 111 10 3 4 eq_11 rfl rfl wf_X_23 (by decide) fb_10_3 fc_10_3 fd_10_3) ?_
  refine xs_step (fun K HC => xr_geti HC.1 53 114 4 5 rfl rfl wf_X_63 (by decide) fb_4_5 fc_4_5) ?_
  refine xs_step (fun K HC => xr_iload_n HC.1 54 115 (n := 2) (ix := 2) (j := 2) (x := v2) rfl rfl rfl rfl) ?_
  refine xs_calll (s_Ch_power (hp_i x_10.2 q_11 5) v2 x_10.2) (fun K HC x9 hM hmo hb => xr_callS HC.1 55 118 (av := [av_I (hp_i x_10.2 q_11 5), av_I v2]) (st := [av_L x_10.1]) (hM (kg K) (cx_l (kx K))) hmo hb rfl rfl wm_X_205 wt_Ch_power wn_Ch_power wc_Ch_power wh_Ch_power (by decide) (by decide) (Nat.le_of_ble_eq_true rfl) rfl) (fun x_12 => ?_)
  refine xs_step (fun K HC => xr_iload HC.1 56 120 (ix := 4) (j := 4) (x := v4) rfl rfl rfl) ?_
  refine xs_calll (s_Ch_partOf x_10.1 x_12.1 v4 x_12.2) (fun K HC x9 hM hmo hb => xr_callS HC.1 57 123 (av := [av_L x_10.1, av_L x_12.1, av_I v4]) (st := []) (hM (kg K) (cx_l (kx K))) hmo hb rfl rfl wm_X_209 wt_Ch_partOf wn_Ch_partOf wc_Ch_partOf wh_Ch_partOf (by decide) (by decide) (Nat.le_of_ble_eq_true rfl) rfl) (fun x_13 => ?_)
  exact xs_retl 58 rfl rfl (fun K q => q)
set_option maxHeartbeats 4000000 in
set_option maxRecDepth 100000 in
theorem t_X_said (v0 : Nat) (v1 : Int32) (v2 : Int32) (v3 : Int32) (v4 : Int32) (h : HP) : xx_S (xx_D "LampYard" tb_X_said 8 8 (some .long) false) xz_l (fun K => xL_l K) 0 [(0, av_R 10 (some v0)), (1, av_I v1), (2, av_I v2), (3, av_I v3), (4, av_I v4)] [] h (f_X_said v0 v1 v2 v3 v4 h) := by
  unfold f_X_said
  refine xs_step (fun K HC => xr_aload_n HC.1 0 1 (n := 0) (ix := 0) (j := 0) (c := 10) (x := v0) rfl rfl rfl rfl) ?_
  refine xs_bind (fun q_1 eq_1 => ?_)
  refine xs_step (fun K HC => xr_getr HC.1 1 4 10 3 4 eq_1 rfl rfl wf_X_23 (by decide) fb_10_3 fc_10_3 fd_10_3) ?_
  refine xs_step (fun K HC => xr_iload_n HC.1 2 5 (n := 1) (ix := 1) (j := 1) (x := v1) rfl rfl rfl rfl) ?_
  refine xs_calli (s_Pl_isStart q_1 v1 h) (fun K HC x9 hM hmo hb => xr_callV HC.1 3 8 (av := [av_I v1]) (st := []) (hM (kg K) (cx_l (kx K))) hmo hb rfl rfl wm_X_187 wi_Pl_isStart ws_Pl_isStart wc_Pl_isStart rfl wh_Pl_isStart (by decide) (by decide) (by decide) (Nat.le_of_ble_eq_true rfl) rfl) (fun x_2 => ?_)
  refine xs_ite (fun K HC => xr_if_eq HC.1 4 51 11 rfl (by decide) rfl) ?_ ?_
  · refine xs_step (fun K HC => xr_ldc2 HC.1 24 54 wk_X_192 rfl rfl) ?_
    exact xs_retl 25 rfl rfl (fun K q => q)
  refine xs_step (fun K HC => xr_iload_n HC.1 5 12 (n := 2) (ix := 2) (j := 2) (x := v2) rfl rfl rfl rfl) ?_
  refine xs_ite (fun K HC => xr_if_lt HC.1 6 51 15 rfl (by decide) rfl) ?_ ?_
  · refine xs_step (fun K HC => xr_ldc2 HC.1 24 54 wk_X_192 rfl rfl) ?_
    exact xs_retl 25 rfl rfl (fun K q => q)
  refine xs_step (fun K HC => xr_iload_n HC.1 7 16 (n := 2) (ix := 2) (j := 2) (x := v2) rfl rfl rfl rfl) ?_
  refine xs_step (fun K HC => xr_bipush HC.1 8 18 (n := (12)) (12 : Int32) rfl rfl rfl) ?_
  refine xs_ite (fun K HC => xr_icmp_gt HC.1 9 51 21 rfl (by decide) rfl) ?_ ?_
  · refine xs_step (fun K HC => xr_ldc2 HC.1 24 54 wk_X_192 rfl rfl) ?_
    exact xs_retl 25 rfl rfl (fun K q => q)
  refine xs_step (fun K HC => xr_iload_n HC.1 10 22 (n := 3) (ix := 3) (j := 3) (x := v3) rfl rfl rfl rfl) ?_
  refine xs_ite (fun K HC => xr_if_lt HC.1 11 51 25 rfl (by decide) rfl) ?_ ?_
  · refine xs_step (fun K HC => xr_ldc2 HC.1 24 54 wk_X_192 rfl rfl) ?_
    exact xs_retl 25 rfl rfl (fun K q => q)
  refine xs_step (fun K HC => xr_iload_n HC.1 12 26 (n := 3) (ix := 3) (j := 3) (x := v3) rfl rfl rfl rfl) ?_
  refine xs_step (fun K HC => xr_iconst HC.1 13 27 (n := (1)) (1 : Int32) rfl rfl rfl) ?_
  refine xs_ite (fun K HC => xr_icmp_gt HC.1 14 51 30 rfl (by decide) rfl) ?_ ?_
  · refine xs_step (fun K HC => xr_ldc2 HC.1 24 54 wk_X_192 rfl rfl) ?_
    exact xs_retl 25 rfl rfl (fun K q => q)
  refine xs_step (fun K HC => xr_iload HC.1 15 32 (ix := 4) (j := 4) (x := v4) rfl rfl rfl) ?_
  refine xs_ite (fun K HC => xr_if_lt HC.1 16 51 35 rfl (by decide) rfl) ?_ ?_
  · refine xs_step (fun K HC => xr_ldc2 HC.1 24 54 wk_X_192 rfl rfl) ?_
    exact xs_retl 25 rfl rfl (fun K q => q)
  refine xs_step (fun K HC => xr_iload HC.1 17 37 (ix := 4) (j := 4) (x := v4) rfl rfl rfl) ?_
  refine xs_step (fun K HC => xr_iconst HC.1 18 38 (n := (1)) (1 : Int32) rfl rfl rfl) ?_
  refine xs_ite (fun K HC => xr_icmp_gt HC.1 19 51 41 rfl (by decide) rfl) ?_ ?_
  · refine xs_step (fun K HC => xr_ldc2 HC.1 24 54 wk_X_192 rfl rfl) ?_
    exact xs_retl 25 rfl rfl (fun K q => q)
  refine xs_step (fun K HC => xr_aload_n HC.1 20 42 (n := 0) (ix := 0) (j := 0) (c := 10) (x := v0) rfl rfl rfl rfl) ?_
  refine xs_bind (fun q_3 eq_3 => ?_)
  refine xs_step (fun K HC => xr_getr HC.1 21 45 10 3 4 eq_3 rfl rfl wf_X_23 (by decide) fb_10_3 fc_10_3 fd_10_3) ?_
  refine xs_step (fun K HC => xr_geti HC.1 22 48 4 5 rfl rfl wf_X_63 (by decide) fb_4_5 fc_4_5) ?_
  refine xs_ite (fun K HC a b => xr_if_ne HC.1 23 55 51 rfl (by decide) rfl b a) ?_ ?_
  · refine xs_step (fun K HC => xr_ldc2 HC.1 24 54 wk_X_192 rfl rfl) ?_
    exact xs_retl 25 rfl rfl (fun K q => q)
  refine xs_step (fun K HC => xr_aload_n HC.1 26 56 (n := 0) (ix := 0) (j := 0) (c := 10) (x := v0) rfl rfl rfl rfl) ?_
  refine xs_callr 9 (s_X_surveyOfPlan v0 x_2.2) (fun K HC x9 hM hmo hb => xr_callV HC.1 27 59 (av := []) (st := []) (hM (kg K) (cx_l (kx K))) hmo hb rfl rfl wm_X_130 wi_X_surveyOfPlan ws_X_surveyOfPlan wc_X_surveyOfPlan rfl wh_X_surveyOfPlan (by decide) (by decide) (by decide) (Nat.le_of_ble_eq_true rfl) rfl) (fun x_4 => ?_)
  refine xs_step (fun K HC => xr_astore HC.1 28 61 (ix := 5) (lv' := [(0, av_R 10 (some v0)), (1, av_I v1), (2, av_I v2), (3, av_I v3), (4, av_I v4), (5, av_R 9 (some x_4.1))]) rfl rfl (by decide) rfl) ?_
  refine xs_step (fun K HC => xr_aload HC.1 29 63 (ix := 5) (j := 5) (c := 9) (x := x_4.1) rfl rfl rfl) ?_
  refine xs_step (fun K HC => xr_geti HC.1 30 66 9 5 rfl rfl wf_X_134 (by decide) fb_9_5 fc_9_5) ?_
  refine xs_ite (fun K HC => xr_if_eq HC.1 31 73 69 rfl (by decide) rfl) ?_ ?_
  · refine xs_step (fun K HC => xr_aload_n HC.1 34 74 (n := 0) (ix := 0) (j := 0) (c := 10) (x := v0) rfl rfl rfl rfl) ?_
    refine xs_step (fun K HC => xr_getq HC.1 35 77 10 10 0 rfl rfl wf_X_196 (by decide) fb_10_10 fc_10_10 fd_10_10) ?_
    refine xs_ite (fun K HC a b => xr_ifnonnull HC.1 36 91 80 rfl (by decide) rfl b a) ?_ ?_
    · refine xs_step (fun K HC => xr_aload_n HC.1 37 81 (n := 0) (ix := 0) (j := 0) (c := 10) (x := v0) rfl rfl rfl rfl) ?_
      refine xs_new (fun K HC hb => xr_new HC.1 38 84 0 hb rfl rfl wc_X_190 (by decide)) (fun q_5 h_6 => ?_)
      refine xs_step (fun K HC => xr_dup HC.1 39 85 rfl rfl rfl) ?_
      refine xs_callv (s_Ch_new q_5 h_6) (fun K HC x9 hM hmo hb => xr_callI HC.1 40 88 (av := []) (st := [av_R 0 (some q_5), av_R 10 (some v0)]) (hM (kg K) (cx_l (kx K))) hmo hb rfl rfl wm_X_200 wi_Ch_new wn_Ch_new wc_Ch_new rfl wh_Ch_new (by decide) (by decide) (Nat.le_of_ble_eq_true rfl) rfl) (fun x_7 => ?_)
      refine xs_heap (hp_mo_sr _ _ _ _) (fun K HC => xr_putr HC.1 41 91 10 10 0 rfl rfl wf_X_196 (by decide) fb_10_10 (Or.inl fn_10_10) fc_10_10 fd_10_10 (by decide)) (fun h_8 => ?_)
      exact t_X_said_91 v0 v1 v2 v3 v4 x_4.1 h_8
    exact t_X_said_91 v0 v1 v2 v3 v4 x_4.1 x_4.2
  refine xs_step (fun K HC => xr_ldc2 HC.1 32 72 wk_X_194 rfl rfl) ?_
  exact xs_retl 33 rfl rfl (fun K q => q)
theorem s_X_said (v0 : Nat) (v1 : Int32) (v2 : Int32) (v3 : Int32) (v4 : Int32) (h : HP) : ∀ x, f_X_said v0 v1 v2 v3 v4 h = some x → hp_mo h x.2 ∧ ∀ g l, xx_M g l y_X_said prog_1_method_21_code 8 (some .long) 8 [av_R 10 (some v0), av_I v1, av_I v2, av_I v3, av_I v4] h (some (av_L x.1)) x.2 :=
  xM_l (tb := tb_X_said) (b := false) (by decide +kernel) dt_X_said (fun _ => trivial) (Nat.le_of_ble_eq_true rfl) (fun hb => by cases hb) (t_X_said v0 v1 v2 v3 v4 h)
def tb_Ch_waysAllBeen : TBL := [(0, .lconst 0, 1), (1, .lstore_n 2, 1), (2, .lconst 1, 1), (3, .lstore 4, 2), (5, .iconst 0, 1), (6, .istore 6, 2), (8, .iload 6, 2), (10, .iload_n 0, 1), (11, .if_icmp .gt 56, 3), (14, .lload 4, 2), (16, .iload_n 0, 1), (17, .iload 6, 2), (19, .isub, 1), (20, .iload_n 1, 1), (21, .invokestatic 74, 3), (24, .lmul, 1), (25, .lstore 7, 2), (27, .lload_n 2, 1), (28, .iload 6, 2), (30, .iconst 2, 1), (31, .irem, 1), (32, .ifCond .ne 8, 3), (35, .lload 7, 2), (37, .goto 6, 3), (40, .lload 7, 2), (42, .lneg, 1), (43, .ladd, 1), (44, .lstore_n 2, 1), (45, .lload 4, 2), (47, .iload_n 0, 1), (48, .iload 6, 2), (50, .isub, 1), (51, .i2l, 1), (52, .lmul, 1), (53, .iload 6, 2), (55, .iconst 1, 1), (56, .iadd, 1), (57, .i2l, 1), (58, .ldiv, 1), (59, .lstore 4, 2), (61, .iinc 6 1, 3), (64, .goto (-56), 3), (67, .lload_n 2, 1), (68, .lreturn, 1)]
theorem dt_Ch_waysAllBeen : ∀ q ∈ tb_Ch_waysAllBeen, decode prog_2_method_6_code q.1 = .ok (q.2.1, q.2.2) := by decide +kernel
set_option maxHeartbeats 4000000 in
set_option maxRecDepth 100000 in
theorem t_Ch_waysAllBeen_43 (v0 : Int32) (v1 : Int32) (v4 : Int64) (v6 : Int32) (s0 : Int64) (s1 : Int64) (h : HP) : xx_S (xx_D "LampYard$Chance" tb_Ch_waysAllBeen 9 2 (some .long) false) (xx_z2 (fun s : (Int64 × Int64 × Int32 × HP) => s.2.2.2) xz_l) (fun K => xx_L2 (fun s : (Int64 × Int64 × Int32 × HP) => xx_X K 8 [(0, av_I v0), (1, av_I v1), (2, av_L s.1), (4, av_L s.2.1), (6, av_I s.2.2.1)] [] (s.2.2.2)) (xL_l K)) 43 [(0, av_I v0), (1, av_I v1), (4, av_L v4), (6, av_I v6)] [av_L s0, av_L s1] h (f_Ch_waysAllBeen_43 v0 v1 v4 v6 s0 s1 h) := by
  unfold f_Ch_waysAllBeen_43
  refine xs_step (fun K HC => xr_ladd HC.1 26 44 rfl rfl) ?_
  refine xs_topl (fun v2_3 => ?_)
  refine xs_step (fun K HC => xr_lstore_n HC.1 27 45 (n := 2) (ix := 2) (lv' := [(0, av_I v0), (1, av_I v1), (2, av_L v2_3), (4, av_L v4), (6, av_I v6)]) rfl rfl rfl (by decide) rfl) ?_
  refine xs_step (fun K HC => xr_lload HC.1 28 47 (ix := 4) (j := 3) (x := v4) rfl rfl rfl) ?_
  refine xs_step (fun K HC => xr_iload_n HC.1 29 48 (n := 0) (ix := 0) (j := 0) (x := v0) rfl rfl rfl rfl) ?_
  refine xs_step (fun K HC => xr_iload HC.1 30 50 (ix := 6) (j := 4) (x := v6) rfl rfl rfl) ?_
  refine xs_step (fun K HC => xr_isub HC.1 31 51 rfl rfl) ?_
  refine xs_step (fun K HC => xr_i2l HC.1 32 52 rfl rfl) ?_
  refine xs_step (fun K HC => xr_lmul HC.1 33 53 rfl rfl) ?_
  refine xs_step (fun K HC => xr_iload HC.1 34 55 (ix := 6) (j := 4) (x := v6) rfl rfl rfl) ?_
  refine xs_step (fun K HC => xr_iconst HC.1 35 56 (n := (1)) (1 : Int32) rfl rfl rfl) ?_
  refine xs_step (fun K HC => xr_iadd HC.1 36 57 rfl rfl) ?_
  refine xs_step (fun K HC => xr_i2l HC.1 37 58 rfl rfl) ?_
  refine xs_chk (fun hn_4 => ?_)
  refine xs_step (fun K HC => xr_ldiv HC.1 38 59 hn_4 rfl rfl) ?_
  refine xs_topl (fun v4_5 => ?_)
  refine xs_step (fun K HC => xr_lstore HC.1 39 61 (ix := 4) (lv' := [(0, av_I v0), (1, av_I v1), (2, av_L v2_3), (4, av_L v4_5), (6, av_I v6)]) rfl rfl (by decide) rfl) ?_
  refine xs_gen (fun v6_6 ev6_6 => ?_)
  refine xs_step (fun K HC => xr_iinc HC.1 40 64 (ix := 6) (j := 4) (n := (1)) (x := v6) v6_6 (lv' := [(0, av_I v0), (1, av_I v1), (2, av_L v2_3), (4, av_L v4_5), (6, av_I v6_6)]) rfl (by rw [ev6_6]; rfl) rfl rfl (by decide) rfl) ?_
  refine xs_step (fun K HC => xr_goto HC.1 41 8 rfl (by decide)) ?_
  exact xs_back rfl (fun K q => q)
set_option maxHeartbeats 4000000 in
set_option maxRecDepth 100000 in
theorem t_Ch_waysAllBeen_8b (v0 : Int32) (v1 : Int32) (v2 : Int64) (v4 : Int64) (v6 : Int32) (h : HP) : xx_S (xx_D "LampYard$Chance" tb_Ch_waysAllBeen 9 2 (some .long) false) (xx_z2 (fun s : (Int64 × Int64 × Int32 × HP) => s.2.2.2) xz_l) (fun K => xx_L2 (fun s : (Int64 × Int64 × Int32 × HP) => xx_X K 8 [(0, av_I v0), (1, av_I v1), (2, av_L s.1), (4, av_L s.2.1), (6, av_I s.2.2.1)] [] (s.2.2.2)) (xL_l K)) 8 [(0, av_I v0), (1, av_I v1), (2, av_L v2), (4, av_L v4), (6, av_I v6)] [] h (f_Ch_waysAllBeen_8b v0 v1 v2 v4 v6 h) := by
  unfold f_Ch_waysAllBeen_8b
  refine xs_step (fun K HC => xr_iload HC.1 6 10 (ix := 6) (j := 4) (x := v6) rfl rfl rfl) ?_
  refine xs_step (fun K HC => xr_iload_n HC.1 7 11 (n := 0) (ix := 0) (j := 0) (x := v0) rfl rfl rfl rfl) ?_
  refine xs_ite (fun K HC => xr_icmp_gt HC.1 8 67 14 rfl (by decide) rfl) ?_ ?_
  · refine xs_step (fun K HC => xr_lload_n HC.1 42 68 (n := 2) (ix := 2) (j := 2) (x := v2) rfl rfl rfl rfl) ?_
    exact xs_retl 43 rfl rfl (fun K q => q)
  refine xs_step (fun K HC => xr_lload HC.1 9 16 (ix := 4) (j := 3) (x := v4) rfl rfl rfl) ?_
  refine xs_step (fun K HC => xr_iload_n HC.1 10 17 (n := 0) (ix := 0) (j := 0) (x := v0) rfl rfl rfl rfl) ?_
  refine xs_step (fun K HC => xr_iload HC.1 11 19 (ix := 6) (j := 4) (x := v6) rfl rfl rfl) ?_
  refine xs_step (fun K HC => xr_isub HC.1 12 20 rfl rfl) ?_
  refine xs_step (fun K HC => xr_iload_n HC.1 13 21 (n := 1) (ix := 1) (j := 1) (x := v1) rfl rfl rfl rfl) ?_
  refine xs_calll (s_Ch_power (v0 - v6) v1 h) (fun K HC x9 hM hmo hb => xr_callS HC.1 14 24 (av := [av_I (v0 - v6), av_I v1]) (st := [av_L v4]) (hM (kg K) (cx_l (kx K))) hmo hb rfl rfl wm_Ch_74 wt_Ch_power wn_Ch_power wc_Ch_power wh_Ch_power (by decide) (by decide) (Nat.le_of_ble_eq_true rfl) rfl) (fun x_1 => ?_)
  refine xs_step (fun K HC => xr_lmul HC.1 15 25 rfl rfl) ?_
  refine xs_topl (fun v7_2 => ?_)
  refine xs_step (fun K HC => xr_lstore HC.1 16 27 (ix := 7) (lv' := [(0, av_I v0), (1, av_I v1), (2, av_L v2), (4, av_L v4), (6, av_I v6), (7, av_L v7_2)]) rfl rfl (by decide) rfl) ?_
  refine xs_step (fun K HC => xr_lload_n HC.1 17 28 (n := 2) (ix := 2) (j := 2) (x := v2) rfl rfl rfl rfl) ?_
  refine xs_step (fun K HC => xr_iload HC.1 18 30 (ix := 6) (j := 4) (x := v6) rfl rfl rfl) ?_
  refine xs_step (fun K HC => xr_iconst HC.1 19 31 (n := (2)) (2 : Int32) rfl rfl rfl) ?_
  refine xs_step (fun K HC => xr_irem HC.1 20 32 (by decide) rfl rfl) ?_
  refine xs_ite (fun K HC a b => xr_if_ne HC.1 21 40 35 rfl (by decide) rfl b a) ?_ ?_
  · refine xs_step (fun K HC => xr_lload HC.1 22 37 (ix := 7) (j := 5) (x := v7_2) rfl rfl rfl) ?_
    refine xs_step (fun K HC => xr_goto HC.1 23 43 rfl (by decide)) ?_
    refine xs_step (fun K HC => xr_sub (lv' := [(0, av_I v0), (1, av_I v1), (4, av_L v4), (6, av_I v6)]) [0, 1, 3, 4] rfl) ?_
    exact t_Ch_waysAllBeen_43 v0 v1 v4 v6 v7_2 v2 x_1.2
  refine xs_step (fun K HC => xr_lload HC.1 24 42 (ix := 7) (j := 5) (x := v7_2) rfl rfl rfl) ?_
  refine xs_step (fun K HC => xr_lneg HC.1 25 43 rfl rfl) ?_
  refine xs_step (fun K HC => xr_sub (lv' := [(0, av_I v0), (1, av_I v1), (4, av_L v4), (6, av_I v6)]) [0, 1, 3, 4] rfl) ?_
  exact t_Ch_waysAllBeen_43 v0 v1 v4 v6 (-v7_2) v2 x_1.2
theorem t_Ch_waysAllBeen_8 (v0 : Int32) (v1 : Int32) (v2 : Int64) (v4 : Int64) (v6 : Int32) (h : HP) : xx_S (xx_D "LampYard$Chance" tb_Ch_waysAllBeen 9 2 (some .long) false) xz_l (fun K => xL_l K) 8 [(0, av_I v0), (1, av_I v1), (2, av_L v2), (4, av_L v4), (6, av_I v6)] [] h (f_Ch_waysAllBeen_8 v0 v1 v2 v4 v6 h) :=
  xs_loop (zf := xz_l) (L := (fun K => xL_l K)) (fun s : (Int64 × Int64 × Int32 × HP) => [(0, av_I v0), (1, av_I v1), (2, av_L s.1), (4, av_L s.2.1), (6, av_I s.2.2.1)]) (fun s : (Int64 × Int64 × Int32 × HP) => s.2.2.2) (fun s => t_Ch_waysAllBeen_8b v0 v1 s.1 s.2.1 s.2.2.1 s.2.2.2) (v2, v4, v6, h)
set_option maxHeartbeats 4000000 in
set_option maxRecDepth 100000 in
theorem t_Ch_waysAllBeen (v0 : Int32) (v1 : Int32) (h : HP) : xx_S (xx_D "LampYard$Chance" tb_Ch_waysAllBeen 9 2 (some .long) false) xz_l (fun K => xL_l K) 0 [(0, av_I v0), (1, av_I v1)] [] h (f_Ch_waysAllBeen v0 v1 h) := by
  unfold f_Ch_waysAllBeen
  refine xs_step (fun K HC => xr_lconst HC.1 0 1 (n := 0) (0 : Int64) rfl rfl rfl) ?_
  refine xs_step (fun K HC => xr_lstore_n HC.1 1 2 (n := 2) (ix := 2) (lv' := [(0, av_I v0), (1, av_I v1), (2, av_L (0 : Int64))]) rfl rfl rfl (by decide) rfl) ?_
  refine xs_step (fun K HC => xr_lconst HC.1 2 3 (n := 1) (1 : Int64) rfl rfl rfl) ?_
  refine xs_step (fun K HC => xr_lstore HC.1 3 5 (ix := 4) (lv' := [(0, av_I v0), (1, av_I v1), (2, av_L (0 : Int64)), (4, av_L (1 : Int64))]) rfl rfl (by decide) rfl) ?_
  refine xs_step (fun K HC => xr_iconst HC.1 4 6 (n := (0)) (0 : Int32) rfl rfl rfl) ?_
  refine xs_step (fun K HC => xr_istore HC.1 5 8 (ix := 6) (lv' := [(0, av_I v0), (1, av_I v1), (2, av_L (0 : Int64)), (4, av_L (1 : Int64)), (6, av_I (0 : Int32))]) rfl rfl (by decide) rfl) ?_
  exact t_Ch_waysAllBeen_8 v0 v1 (0 : Int64) (1 : Int64) (0 : Int32) h
theorem s_Ch_waysAllBeen (v0 : Int32) (v1 : Int32) (h : HP) : ∀ x, f_Ch_waysAllBeen v0 v1 h = some x → hp_mo h x.2 ∧ ∀ g l, xx_M g l y_Ch_waysAllBeen prog_2_method_6_code 9 (some .long) 2 [av_I v0, av_I v1] h (some (av_L x.1)) x.2 :=
  xM_l (tb := tb_Ch_waysAllBeen) (b := false) (by decide +kernel) dt_Ch_waysAllBeen (fun _ => trivial) (Nat.le_of_ble_eq_true rfl) (fun hb => by cases hb) (t_Ch_waysAllBeen v0 v1 h)
def tb_X_all : TBL := [(0, .iload_n 1, 1), (1, .iconst 1, 1), (2, .if_icmp .lt 28, 3), (5, .iload_n 1, 1), (6, .bipush 6, 2), (8, .if_icmp .gt 22, 3), (11, .iload_n 2, 1), (12, .ifCond .lt 18, 3), (15, .iload_n 2, 1), (16, .bipush 20, 2), (18, .if_icmp .gt 12, 3), (21, .iload_n 3, 1), (22, .ifCond .lt 8, 3), (25, .iload_n 3, 1), (26, .iconst 1, 1), (27, .if_icmp .le 7, 3), (30, .ldc2_w 192, 3), (33, .lreturn, 1), (34, .iload_n 1, 1), (35, .iload_n 2, 1), (36, .invokestatic 213, 3), (39, .iload_n 1, 1), (40, .iload_n 2, 1), (41, .invokestatic 205, 3), (44, .iload_n 3, 1), (45, .invokestatic 209, 3), (48, .lreturn, 1)]
theorem dt_X_all : ∀ q ∈ tb_X_all, decode prog_1_method_22_code q.1 = .ok (q.2.1, q.2.2) := by decide +kernel
set_option maxHeartbeats 4000000 in
set_option maxRecDepth 100000 in
theorem t_X_all (v0 : Nat) (v1 : Int32) (v2 : Int32) (v3 : Int32) (h : HP) : xx_S (xx_D "LampYard" tb_X_all 4 3 (some .long) false) xz_l (fun K => xL_l K) 0 [(0, av_R 10 (some v0)), (1, av_I v1), (2, av_I v2), (3, av_I v3)] [] h (f_X_all v0 v1 v2 v3 h) := by
  unfold f_X_all
  refine xs_step (fun K HC => xr_iload_n HC.1 0 1 (n := 1) (ix := 1) (j := 1) (x := v1) rfl rfl rfl rfl) ?_
  refine xs_step (fun K HC => xr_iconst HC.1 1 2 (n := (1)) (1 : Int32) rfl rfl rfl) ?_
  refine xs_ite (fun K HC => xr_icmp_lt HC.1 2 30 5 rfl (by decide) rfl) ?_ ?_
  · refine xs_step (fun K HC => xr_ldc2 HC.1 16 33 wk_X_192 rfl rfl) ?_
    exact xs_retl 17 rfl rfl (fun K q => q)
  refine xs_step (fun K HC => xr_iload_n HC.1 3 6 (n := 1) (ix := 1) (j := 1) (x := v1) rfl rfl rfl rfl) ?_
  refine xs_step (fun K HC => xr_bipush HC.1 4 8 (n := (6)) (6 : Int32) rfl rfl rfl) ?_
  refine xs_ite (fun K HC => xr_icmp_gt HC.1 5 30 11 rfl (by decide) rfl) ?_ ?_
  · refine xs_step (fun K HC => xr_ldc2 HC.1 16 33 wk_X_192 rfl rfl) ?_
    exact xs_retl 17 rfl rfl (fun K q => q)
  refine xs_step (fun K HC => xr_iload_n HC.1 6 12 (n := 2) (ix := 2) (j := 2) (x := v2) rfl rfl rfl rfl) ?_
  refine xs_ite (fun K HC => xr_if_lt HC.1 7 30 15 rfl (by decide) rfl) ?_ ?_
  · refine xs_step (fun K HC => xr_ldc2 HC.1 16 33 wk_X_192 rfl rfl) ?_
    exact xs_retl 17 rfl rfl (fun K q => q)
  refine xs_step (fun K HC => xr_iload_n HC.1 8 16 (n := 2) (ix := 2) (j := 2) (x := v2) rfl rfl rfl rfl) ?_
  refine xs_step (fun K HC => xr_bipush HC.1 9 18 (n := (20)) (20 : Int32) rfl rfl rfl) ?_
  refine xs_ite (fun K HC => xr_icmp_gt HC.1 10 30 21 rfl (by decide) rfl) ?_ ?_
  · refine xs_step (fun K HC => xr_ldc2 HC.1 16 33 wk_X_192 rfl rfl) ?_
    exact xs_retl 17 rfl rfl (fun K q => q)
  refine xs_step (fun K HC => xr_iload_n HC.1 11 22 (n := 3) (ix := 3) (j := 3) (x := v3) rfl rfl rfl rfl) ?_
  refine xs_ite (fun K HC => xr_if_lt HC.1 12 30 25 rfl (by decide) rfl) ?_ ?_
  · refine xs_step (fun K HC => xr_ldc2 HC.1 16 33 wk_X_192 rfl rfl) ?_
    exact xs_retl 17 rfl rfl (fun K q => q)
  refine xs_step (fun K HC => xr_iload_n HC.1 13 26 (n := 3) (ix := 3) (j := 3) (x := v3) rfl rfl rfl rfl) ?_
  refine xs_step (fun K HC => xr_iconst HC.1 14 27 (n := (1)) (1 : Int32) rfl rfl rfl) ?_
  refine xs_ite (fun K HC => xr_icmp_le HC.1 15 34 30 rfl (by decide) rfl) ?_ ?_
  · refine xs_step (fun K HC => xr_iload_n HC.1 18 35 (n := 1) (ix := 1) (j := 1) (x := v1) rfl rfl rfl rfl) ?_
    refine xs_step (fun K HC => xr_iload_n HC.1 19 36 (n := 2) (ix := 2) (j := 2) (x := v2) rfl rfl rfl rfl) ?_
    refine xs_calll (s_Ch_waysAllBeen v1 v2 h) (fun K HC x9 hM hmo hb => xr_callS HC.1 20 39 (av := [av_I v1, av_I v2]) (st := []) (hM (kg K) (cx_l (kx K))) hmo hb rfl rfl wm_X_213 wt_Ch_waysAllBeen wn_Ch_waysAllBeen wc_Ch_waysAllBeen wh_Ch_waysAllBeen (by decide) (by decide) (Nat.le_of_ble_eq_true rfl) rfl) (fun x_1 => ?_)
    refine xs_step (fun K HC => xr_iload_n HC.1 21 40 (n := 1) (ix := 1) (j := 1) (x := v1) rfl rfl rfl rfl) ?_
    refine xs_step (fun K HC => xr_iload_n HC.1 22 41 (n := 2) (ix := 2) (j := 2) (x := v2) rfl rfl rfl rfl) ?_
    refine xs_calll (s_Ch_power v1 v2 x_1.2) (fun K HC x9 hM hmo hb => xr_callS HC.1 23 44 (av := [av_I v1, av_I v2]) (st := [av_L x_1.1]) (hM (kg K) (cx_l (kx K))) hmo hb rfl rfl wm_X_205 wt_Ch_power wn_Ch_power wc_Ch_power wh_Ch_power (by decide) (by decide) (Nat.le_of_ble_eq_true rfl) rfl) (fun x_2 => ?_)
    refine xs_step (fun K HC => xr_iload_n HC.1 24 45 (n := 3) (ix := 3) (j := 3) (x := v3) rfl rfl rfl rfl) ?_
    refine xs_calll (s_Ch_partOf x_1.1 x_2.1 v3 x_2.2) (fun K HC x9 hM hmo hb => xr_callS HC.1 25 48 (av := [av_L x_1.1, av_L x_2.1, av_I v3]) (st := []) (hM (kg K) (cx_l (kx K))) hmo hb rfl rfl wm_X_209 wt_Ch_partOf wn_Ch_partOf wc_Ch_partOf wh_Ch_partOf (by decide) (by decide) (Nat.le_of_ble_eq_true rfl) rfl) (fun x_3 => ?_)
    exact xs_retl 26 rfl rfl (fun K q => q)
  refine xs_step (fun K HC => xr_ldc2 HC.1 16 33 wk_X_192 rfl rfl) ?_
  exact xs_retl 17 rfl rfl (fun K q => q)
theorem s_X_all (v0 : Nat) (v1 : Int32) (v2 : Int32) (v3 : Int32) (h : HP) : ∀ x, f_X_all v0 v1 v2 v3 h = some x → hp_mo h x.2 ∧ ∀ g l, xx_M g l y_X_all prog_1_method_22_code 4 (some .long) 3 [av_R 10 (some v0), av_I v1, av_I v2, av_I v3] h (some (av_L x.1)) x.2 :=
  xM_l (tb := tb_X_all) (b := false) (by decide +kernel) dt_X_all (fun _ => trivial) (Nat.le_of_ble_eq_true rfl) (fun hb => by cases hb) (t_X_all v0 v1 v2 v3 h)
def tb_Ch_daysEnough : TBL := [(0, .iconst 0, 1), (1, .istore_n 2, 1), (2, .iload_n 2, 1), (3, .bipush 20, 2), (5, .if_icmp .gt 36, 3), (8, .iload_n 0, 1), (9, .iload_n 2, 1), (10, .invokestatic 74, 3), (13, .lstore_n 3, 1), (14, .lload_n 3, 1), (15, .iload_n 0, 1), (16, .iload_n 2, 1), (17, .invokestatic 78, 3), (20, .lsub, 1), (21, .ldc2_w 81, 3), (24, .lmul, 1), (25, .iload_n 1, 1), (26, .i2l, 1), (27, .lload_n 3, 1), (28, .lmul, 1), (29, .lcmp, 1), (30, .ifCond .gt 5, 3), (33, .iload_n 2, 1), (34, .ireturn, 1), (35, .iinc 2 1, 3), (38, .goto (-36), 3), (41, .iconst (-1), 1), (42, .ireturn, 1)]
theorem dt_Ch_daysEnough : ∀ q ∈ tb_Ch_daysEnough, decode prog_2_method_7_code q.1 = .ok (q.2.1, q.2.2) := by decide +kernel
set_option maxHeartbeats 4000000 in
set_option maxRecDepth 100000 in
theorem t_Ch_daysEnough_2b (v0 : Int32) (v1 : Int32) (v2 : Int32) (h : HP) : xx_S (xx_D "LampYard$Chance" tb_Ch_daysEnough 5 3 (some .int) false) (xx_z2 (fun s : (Int32 × HP) => s.2) xz_i) (fun K => xx_L2 (fun s : (Int32 × HP) => xx_X K 2 [(0, av_I v0), (1, av_I v1), (2, av_I s.1)] [] (s.2)) (xL_i K)) 2 [(0, av_I v0), (1, av_I v1), (2, av_I v2)] [] h (f_Ch_daysEnough_2b v0 v1 v2 h) := by
  unfold f_Ch_daysEnough_2b
  refine xs_step (fun K HC => xr_iload_n HC.1 2 3 (n := 2) (ix := 2) (j := 2) (x := v2) rfl rfl rfl rfl) ?_
  refine xs_step (fun K HC => xr_bipush HC.1 3 5 (n := (20)) (20 : Int32) rfl rfl rfl) ?_
  refine xs_ite (fun K HC => xr_icmp_gt HC.1 4 41 8 rfl (by decide) rfl) ?_ ?_
  · refine xs_step (fun K HC => xr_iconst HC.1 26 42 (n := (-1)) (-1 : Int32) rfl rfl rfl) ?_
    exact xs_reti 27 rfl rfl (fun K q => q) (fun ty ht => by cases ht; rfl)
  refine xs_step (fun K HC => xr_iload_n HC.1 5 9 (n := 0) (ix := 0) (j := 0) (x := v0) rfl rfl rfl rfl) ?_
  refine xs_step (fun K HC => xr_iload_n HC.1 6 10 (n := 2) (ix := 2) (j := 2) (x := v2) rfl rfl rfl rfl) ?_
  refine xs_calll (s_Ch_power v0 v2 h) (fun K HC x9 hM hmo hb => xr_callS HC.1 7 13 (av := [av_I v0, av_I v2]) (st := []) (hM (kg K) (cx_l (kx K))) hmo hb rfl rfl wm_Ch_74 wt_Ch_power wn_Ch_power wc_Ch_power wh_Ch_power (by decide) (by decide) (Nat.le_of_ble_eq_true rfl) rfl) (fun x_1 => ?_)
  refine xs_step (fun K HC => xr_lstore_n HC.1 8 14 (n := 3) (ix := 3) (lv' := [(0, av_I v0), (1, av_I v1), (2, av_I v2), (3, av_L x_1.1)]) rfl rfl rfl (by decide) rfl) ?_
  refine xs_step (fun K HC => xr_lload_n HC.1 9 15 (n := 3) (ix := 3) (j := 3) (x := x_1.1) rfl rfl rfl rfl) ?_
  refine xs_step (fun K HC => xr_iload_n HC.1 10 16 (n := 0) (ix := 0) (j := 0) (x := v0) rfl rfl rfl rfl) ?_
  refine xs_step (fun K HC => xr_iload_n HC.1 11 17 (n := 2) (ix := 2) (j := 2) (x := v2) rfl rfl rfl rfl) ?_
  refine xs_calll (s_Ch_waysAllBeen v0 v2 x_1.2) (fun K HC x9 hM hmo hb => xr_callS HC.1 12 20 (av := [av_I v0, av_I v2]) (st := [av_L x_1.1]) (hM (kg K) (cx_l (kx K))) hmo hb rfl rfl wm_Ch_78 wt_Ch_waysAllBeen wn_Ch_waysAllBeen wc_Ch_waysAllBeen wh_Ch_waysAllBeen (by decide) (by decide) (Nat.le_of_ble_eq_true rfl) rfl) (fun x_2 => ?_)
  refine xs_step (fun K HC => xr_lsub HC.1 13 21 rfl rfl) ?_
  refine xs_step (fun K HC => xr_ldc2 HC.1 14 24 wk_Ch_81 rfl rfl) ?_
  refine xs_step (fun K HC => xr_lmul HC.1 15 25 rfl rfl) ?_
  refine xs_step (fun K HC => xr_iload_n HC.1 16 26 (n := 1) (ix := 1) (j := 1) (x := v1) rfl rfl rfl rfl) ?_
  refine xs_step (fun K HC => xr_i2l HC.1 17 27 rfl rfl) ?_
  refine xs_step (fun K HC => xr_lload_n HC.1 18 28 (n := 3) (ix := 3) (j := 3) (x := x_1.1) rfl rfl rfl rfl) ?_
  refine xs_step (fun K HC => xr_lmul HC.1 19 29 rfl rfl) ?_
  refine xs_step (fun K HC => xr_lcmp HC.1 20 30 rfl rfl) ?_
  refine xs_ite (fun K HC => xr_if_gt HC.1 21 35 33 rfl (by decide) rfl) ?_ ?_
  · refine xs_gen (fun v2_3 ev2_3 => ?_)
    refine xs_step (fun K HC => xr_iinc HC.1 24 38 (ix := 2) (j := 2) (n := (1)) (x := v2) v2_3 (lv' := [(0, av_I v0), (1, av_I v1), (2, av_I v2_3), (3, av_L x_1.1)]) rfl (by rw [ev2_3]; rfl) rfl rfl (by decide) rfl) ?_
    refine xs_step (fun K HC => xr_goto HC.1 25 2 rfl (by decide)) ?_
    refine xs_step (fun K HC => xr_sub (lv' := [(0, av_I v0), (1, av_I v1), (2, av_I v2_3)]) [0, 1, 2] rfl) ?_
    exact xs_back rfl (fun K q => q)
  refine xs_step (fun K HC => xr_iload_n HC.1 22 34 (n := 2) (ix := 2) (j := 2) (x := v2) rfl rfl rfl rfl) ?_
  exact xs_reti 23 rfl rfl (fun K q => q) (fun ty ht => by cases ht; rfl)
theorem t_Ch_daysEnough_2 (v0 : Int32) (v1 : Int32) (v2 : Int32) (h : HP) : xx_S (xx_D "LampYard$Chance" tb_Ch_daysEnough 5 3 (some .int) false) xz_i (fun K => xL_i K) 2 [(0, av_I v0), (1, av_I v1), (2, av_I v2)] [] h (f_Ch_daysEnough_2 v0 v1 v2 h) :=
  xs_loop (zf := xz_i) (L := (fun K => xL_i K)) (fun s : (Int32 × HP) => [(0, av_I v0), (1, av_I v1), (2, av_I s.1)]) (fun s : (Int32 × HP) => s.2) (fun s => t_Ch_daysEnough_2b v0 v1 s.1 s.2) (v2, h)
set_option maxHeartbeats 4000000 in
set_option maxRecDepth 100000 in
theorem t_Ch_daysEnough (v0 : Int32) (v1 : Int32) (h : HP) : xx_S (xx_D "LampYard$Chance" tb_Ch_daysEnough 5 3 (some .int) false) xz_i (fun K => xL_i K) 0 [(0, av_I v0), (1, av_I v1)] [] h (f_Ch_daysEnough v0 v1 h) := by
  unfold f_Ch_daysEnough
  refine xs_step (fun K HC => xr_iconst HC.1 0 1 (n := (0)) (0 : Int32) rfl rfl rfl) ?_
  refine xs_step (fun K HC => xr_istore_n HC.1 1 2 (n := 2) (ix := 2) (lv' := [(0, av_I v0), (1, av_I v1), (2, av_I (0 : Int32))]) rfl rfl rfl (by decide) rfl) ?_
  exact t_Ch_daysEnough_2 v0 v1 (0 : Int32) h
theorem s_Ch_daysEnough (v0 : Int32) (v1 : Int32) (h : HP) : ∀ x, f_Ch_daysEnough v0 v1 h = some x → hp_mo h x.2 ∧ ∀ g l, xx_M g l y_Ch_daysEnough prog_2_method_7_code 5 (some .int) 3 [av_I v0, av_I v1] h (some (av_I x.1)) x.2 :=
  xM_i (tb := tb_Ch_daysEnough) (b := false) (by decide +kernel) dt_Ch_daysEnough (fun _ => trivial) (Nat.le_of_ble_eq_true rfl) (fun hb => by cases hb) (t_Ch_daysEnough v0 v1 h)
def tb_X_guess : TBL := [(0, .iload_n 1, 1), (1, .iconst 1, 1), (2, .if_icmp .lt 20, 3), (5, .iload_n 1, 1), (6, .bipush 6, 2), (8, .if_icmp .gt 14, 3), (11, .iload_n 2, 1), (12, .ifCond .lt 10, 3), (15, .iload_n 2, 1), (16, .sipush 1000, 3), (19, .if_icmp .le 5, 3), (22, .iconst (-1), 1), (23, .ireturn, 1), (24, .iload_n 1, 1), (25, .iload_n 2, 1), (26, .invokestatic 216, 3), (29, .ireturn, 1)]
theorem dt_X_guess : ∀ q ∈ tb_X_guess, decode prog_1_method_23_code q.1 = .ok (q.2.1, q.2.2) := by decide +kernel
set_option maxHeartbeats 4000000 in
set_option maxRecDepth 100000 in
theorem t_X_guess (v0 : Nat) (v1 : Int32) (v2 : Int32) (h : HP) : xx_S (xx_D "LampYard" tb_X_guess 3 4 (some .int) false) xz_i (fun K => xL_i K) 0 [(0, av_R 10 (some v0)), (1, av_I v1), (2, av_I v2)] [] h (f_X_guess v0 v1 v2 h) := by
  unfold f_X_guess
  refine xs_step (fun K HC => xr_iload_n HC.1 0 1 (n := 1) (ix := 1) (j := 1) (x := v1) rfl rfl rfl rfl) ?_
  refine xs_step (fun K HC => xr_iconst HC.1 1 2 (n := (1)) (1 : Int32) rfl rfl rfl) ?_
  refine xs_ite (fun K HC => xr_icmp_lt HC.1 2 22 5 rfl (by decide) rfl) ?_ ?_
  · refine xs_step (fun K HC => xr_iconst HC.1 11 23 (n := (-1)) (-1 : Int32) rfl rfl rfl) ?_
    exact xs_reti 12 rfl rfl (fun K q => q) (fun ty ht => by cases ht; rfl)
  refine xs_step (fun K HC => xr_iload_n HC.1 3 6 (n := 1) (ix := 1) (j := 1) (x := v1) rfl rfl rfl rfl) ?_
  refine xs_step (fun K HC => xr_bipush HC.1 4 8 (n := (6)) (6 : Int32) rfl rfl rfl) ?_
  refine xs_ite (fun K HC => xr_icmp_gt HC.1 5 22 11 rfl (by decide) rfl) ?_ ?_
  · refine xs_step (fun K HC => xr_iconst HC.1 11 23 (n := (-1)) (-1 : Int32) rfl rfl rfl) ?_
    exact xs_reti 12 rfl rfl (fun K q => q) (fun ty ht => by cases ht; rfl)
  refine xs_step (fun K HC => xr_iload_n HC.1 6 12 (n := 2) (ix := 2) (j := 2) (x := v2) rfl rfl rfl rfl) ?_
  refine xs_ite (fun K HC => xr_if_lt HC.1 7 22 15 rfl (by decide) rfl) ?_ ?_
  · refine xs_step (fun K HC => xr_iconst HC.1 11 23 (n := (-1)) (-1 : Int32) rfl rfl rfl) ?_
    exact xs_reti 12 rfl rfl (fun K q => q) (fun ty ht => by cases ht; rfl)
  refine xs_step (fun K HC => xr_iload_n HC.1 8 16 (n := 2) (ix := 2) (j := 2) (x := v2) rfl rfl rfl rfl) ?_
  refine xs_step (fun K HC => xr_sipush HC.1 9 19 (n := (1000)) (1000 : Int32) rfl rfl rfl) ?_
  refine xs_ite (fun K HC => xr_icmp_le HC.1 10 24 22 rfl (by decide) rfl) ?_ ?_
  · refine xs_step (fun K HC => xr_iload_n HC.1 13 25 (n := 1) (ix := 1) (j := 1) (x := v1) rfl rfl rfl rfl) ?_
    refine xs_step (fun K HC => xr_iload_n HC.1 14 26 (n := 2) (ix := 2) (j := 2) (x := v2) rfl rfl rfl rfl) ?_
    refine xs_calli (s_Ch_daysEnough v1 v2 h) (fun K HC x9 hM hmo hb => xr_callS HC.1 15 29 (av := [av_I v1, av_I v2]) (st := []) (hM (kg K) (cx_l (kx K))) hmo hb rfl rfl wm_X_216 wt_Ch_daysEnough wn_Ch_daysEnough wc_Ch_daysEnough wh_Ch_daysEnough (by decide) (by decide) (Nat.le_of_ble_eq_true rfl) rfl) (fun x_1 => ?_)
    exact xs_reti 16 rfl rfl (fun K q => q) (fun ty ht => by cases ht; rfl)
  refine xs_step (fun K HC => xr_iconst HC.1 11 23 (n := (-1)) (-1 : Int32) rfl rfl rfl) ?_
  exact xs_reti 12 rfl rfl (fun K q => q) (fun ty ht => by cases ht; rfl)
theorem s_X_guess (v0 : Nat) (v1 : Int32) (v2 : Int32) (h : HP) : ∀ x, f_X_guess v0 v1 v2 h = some x → hp_mo h x.2 ∧ ∀ g l, xx_M g l y_X_guess prog_1_method_23_code 3 (some .int) 4 [av_R 10 (some v0), av_I v1, av_I v2] h (some (av_I x.1)) x.2 :=
  xM_i (tb := tb_X_guess) (b := false) (by decide +kernel) dt_X_guess (fun _ => trivial) (Nat.le_of_ble_eq_true rfl) (fun hb => by cases hb) (t_X_guess v0 v1 v2 h)
def tb_Ch_sixtyMeans : TBL := [(0, .lconst 0, 1), (1, .lstore_n 1, 1), (2, .iconst 1, 1), (3, .istore_n 3, 1), (4, .iload_n 3, 1), (5, .iload_n 0, 1), (6, .if_icmp .gt 21, 3), (9, .lload_n 1, 1), (10, .iload_n 0, 1), (11, .i2l, 1), (12, .ldc2_w 83, 3), (15, .iload_n 3, 1), (16, .i2l, 1), (17, .ldiv, 1), (18, .lmul, 1), (19, .ladd, 1), (20, .lstore_n 1, 1), (21, .iinc 3 1, 3), (24, .goto (-20), 3), (27, .lload_n 1, 1), (28, .lreturn, 1)]
theorem dt_Ch_sixtyMeans : ∀ q ∈ tb_Ch_sixtyMeans, decode prog_2_method_8_code q.1 = .ok (q.2.1, q.2.2) := by decide +kernel
set_option maxHeartbeats 4000000 in
set_option maxRecDepth 100000 in
theorem t_Ch_sixtyMeans_4b (v0 : Int32) (v1 : Int64) (v3 : Int32) (h : HP) : xx_S (xx_D "LampYard$Chance" tb_Ch_sixtyMeans 4 1 (some .long) false) (xx_z2 (fun s : (Int64 × Int32 × HP) => s.2.2) xz_l) (fun K => xx_L2 (fun s : (Int64 × Int32 × HP) => xx_X K 4 [(0, av_I v0), (1, av_L s.1), (3, av_I s.2.1)] [] (s.2.2)) (xL_l K)) 4 [(0, av_I v0), (1, av_L v1), (3, av_I v3)] [] h (f_Ch_sixtyMeans_4b v0 v1 v3 h) := by
  unfold f_Ch_sixtyMeans_4b
  refine xs_step (fun K HC => xr_iload_n HC.1 4 5 (n := 3) (ix := 3) (j := 2) (x := v3) rfl rfl rfl rfl) ?_
  refine xs_step (fun K HC => xr_iload_n HC.1 5 6 (n := 0) (ix := 0) (j := 0) (x := v0) rfl rfl rfl rfl) ?_
  refine xs_ite (fun K HC => xr_icmp_gt HC.1 6 27 9 rfl (by decide) rfl) ?_ ?_
  · refine xs_step (fun K HC => xr_lload_n HC.1 19 28 (n := 1) (ix := 1) (j := 1) (x := v1) rfl rfl rfl rfl) ?_
    exact xs_retl 20 rfl rfl (fun K q => q)
  refine xs_step (fun K HC => xr_lload_n HC.1 7 10 (n := 1) (ix := 1) (j := 1) (x := v1) rfl rfl rfl rfl) ?_
  refine xs_step (fun K HC => xr_iload_n HC.1 8 11 (n := 0) (ix := 0) (j := 0) (x := v0) rfl rfl rfl rfl) ?_
  refine xs_step (fun K HC => xr_i2l HC.1 9 12 rfl rfl) ?_
  refine xs_step (fun K HC => xr_ldc2 HC.1 10 15 wk_Ch_83 rfl rfl) ?_
  refine xs_step (fun K HC => xr_iload_n HC.1 11 16 (n := 3) (ix := 3) (j := 2) (x := v3) rfl rfl rfl rfl) ?_
  refine xs_step (fun K HC => xr_i2l HC.1 12 17 rfl rfl) ?_
  refine xs_chk (fun hn_1 => ?_)
  refine xs_step (fun K HC => xr_ldiv HC.1 13 18 hn_1 rfl rfl) ?_
  refine xs_step (fun K HC => xr_lmul HC.1 14 19 rfl rfl) ?_
  refine xs_step (fun K HC => xr_ladd HC.1 15 20 rfl rfl) ?_
  refine xs_topl (fun v1_2 => ?_)
  refine xs_step (fun K HC => xr_lstore_n HC.1 16 21 (n := 1) (ix := 1) (lv' := [(0, av_I v0), (1, av_L v1_2), (3, av_I v3)]) rfl rfl rfl (by decide) rfl) ?_
  refine xs_gen (fun v3_3 ev3_3 => ?_)
  refine xs_step (fun K HC => xr_iinc HC.1 17 24 (ix := 3) (j := 2) (n := (1)) (x := v3) v3_3 (lv' := [(0, av_I v0), (1, av_L v1_2), (3, av_I v3_3)]) rfl (by rw [ev3_3]; rfl) rfl rfl (by decide) rfl) ?_
  refine xs_step (fun K HC => xr_goto HC.1 18 4 rfl (by decide)) ?_
  exact xs_back rfl (fun K q => q)
theorem t_Ch_sixtyMeans_4 (v0 : Int32) (v1 : Int64) (v3 : Int32) (h : HP) : xx_S (xx_D "LampYard$Chance" tb_Ch_sixtyMeans 4 1 (some .long) false) xz_l (fun K => xL_l K) 4 [(0, av_I v0), (1, av_L v1), (3, av_I v3)] [] h (f_Ch_sixtyMeans_4 v0 v1 v3 h) :=
  xs_loop (zf := xz_l) (L := (fun K => xL_l K)) (fun s : (Int64 × Int32 × HP) => [(0, av_I v0), (1, av_L s.1), (3, av_I s.2.1)]) (fun s : (Int64 × Int32 × HP) => s.2.2) (fun s => t_Ch_sixtyMeans_4b v0 s.1 s.2.1 s.2.2) (v1, v3, h)
set_option maxHeartbeats 4000000 in
set_option maxRecDepth 100000 in
theorem t_Ch_sixtyMeans (v0 : Int32) (h : HP) : xx_S (xx_D "LampYard$Chance" tb_Ch_sixtyMeans 4 1 (some .long) false) xz_l (fun K => xL_l K) 0 [(0, av_I v0)] [] h (f_Ch_sixtyMeans v0 h) := by
  unfold f_Ch_sixtyMeans
  refine xs_step (fun K HC => xr_lconst HC.1 0 1 (n := 0) (0 : Int64) rfl rfl rfl) ?_
  refine xs_step (fun K HC => xr_lstore_n HC.1 1 2 (n := 1) (ix := 1) (lv' := [(0, av_I v0), (1, av_L (0 : Int64))]) rfl rfl rfl (by decide) rfl) ?_
  refine xs_step (fun K HC => xr_iconst HC.1 2 3 (n := (1)) (1 : Int32) rfl rfl rfl) ?_
  refine xs_step (fun K HC => xr_istore_n HC.1 3 4 (n := 3) (ix := 3) (lv' := [(0, av_I v0), (1, av_L (0 : Int64)), (3, av_I (1 : Int32))]) rfl rfl rfl (by decide) rfl) ?_
  exact t_Ch_sixtyMeans_4 v0 (0 : Int64) (1 : Int32) h
theorem s_Ch_sixtyMeans (v0 : Int32) (h : HP) : ∀ x, f_Ch_sixtyMeans v0 h = some x → hp_mo h x.2 ∧ ∀ g l, xx_M g l y_Ch_sixtyMeans prog_2_method_8_code 4 (some .long) 1 [av_I v0] h (some (av_L x.1)) x.2 :=
  xM_l (tb := tb_Ch_sixtyMeans) (b := false) (by decide +kernel) dt_Ch_sixtyMeans (fun _ => trivial) (Nat.le_of_ble_eq_true rfl) (fun hb => by cases hb) (t_Ch_sixtyMeans v0 h)
def tb_X_mean : TBL := [(0, .iload_n 1, 1), (1, .iconst 1, 1), (2, .if_icmp .lt 18, 3), (5, .iload_n 1, 1), (6, .bipush 6, 2), (8, .if_icmp .gt 12, 3), (11, .iload_n 2, 1), (12, .ifCond .lt 8, 3), (15, .iload_n 2, 1), (16, .iconst 1, 1), (17, .if_icmp .le 7, 3), (20, .ldc2_w 192, 3), (23, .lreturn, 1), (24, .iload_n 1, 1), (25, .invokestatic 220, 3), (28, .ldc2_w 224, 3), (31, .iload_n 2, 1), (32, .invokestatic 209, 3), (35, .lreturn, 1)]
theorem dt_X_mean : ∀ q ∈ tb_X_mean, decode prog_1_method_24_code q.1 = .ok (q.2.1, q.2.2) := by decide +kernel
set_option maxHeartbeats 4000000 in
set_option maxRecDepth 100000 in
theorem t_X_mean (v0 : Nat) (v1 : Int32) (v2 : Int32) (h : HP) : xx_S (xx_D "LampYard" tb_X_mean 3 2 (some .long) false) xz_l (fun K => xL_l K) 0 [(0, av_R 10 (some v0)), (1, av_I v1), (2, av_I v2)] [] h (f_X_mean v0 v1 v2 h) := by
  unfold f_X_mean
  refine xs_step (fun K HC => xr_iload_n HC.1 0 1 (n := 1) (ix := 1) (j := 1) (x := v1) rfl rfl rfl rfl) ?_
  refine xs_step (fun K HC => xr_iconst HC.1 1 2 (n := (1)) (1 : Int32) rfl rfl rfl) ?_
  refine xs_ite (fun K HC => xr_icmp_lt HC.1 2 20 5 rfl (by decide) rfl) ?_ ?_
  · refine xs_step (fun K HC => xr_ldc2 HC.1 11 23 wk_X_192 rfl rfl) ?_
    exact xs_retl 12 rfl rfl (fun K q => q)
  refine xs_step (fun K HC => xr_iload_n HC.1 3 6 (n := 1) (ix := 1) (j := 1) (x := v1) rfl rfl rfl rfl) ?_
  refine xs_step (fun K HC => xr_bipush HC.1 4 8 (n := (6)) (6 : Int32) rfl rfl rfl) ?_
  refine xs_ite (fun K HC => xr_icmp_gt HC.1 5 20 11 rfl (by decide) rfl) ?_ ?_
  · refine xs_step (fun K HC => xr_ldc2 HC.1 11 23 wk_X_192 rfl rfl) ?_
    exact xs_retl 12 rfl rfl (fun K q => q)
  refine xs_step (fun K HC => xr_iload_n HC.1 6 12 (n := 2) (ix := 2) (j := 2) (x := v2) rfl rfl rfl rfl) ?_
  refine xs_ite (fun K HC => xr_if_lt HC.1 7 20 15 rfl (by decide) rfl) ?_ ?_
  · refine xs_step (fun K HC => xr_ldc2 HC.1 11 23 wk_X_192 rfl rfl) ?_
    exact xs_retl 12 rfl rfl (fun K q => q)
  refine xs_step (fun K HC => xr_iload_n HC.1 8 16 (n := 2) (ix := 2) (j := 2) (x := v2) rfl rfl rfl rfl) ?_
  refine xs_step (fun K HC => xr_iconst HC.1 9 17 (n := (1)) (1 : Int32) rfl rfl rfl) ?_
  refine xs_ite (fun K HC => xr_icmp_le HC.1 10 24 20 rfl (by decide) rfl) ?_ ?_
  · refine xs_step (fun K HC => xr_iload_n HC.1 13 25 (n := 1) (ix := 1) (j := 1) (x := v1) rfl rfl rfl rfl) ?_
    refine xs_calll (s_Ch_sixtyMeans v1 h) (fun K HC x9 hM hmo hb => xr_callS HC.1 14 28 (av := [av_I v1]) (st := []) (hM (kg K) (cx_l (kx K))) hmo hb rfl rfl wm_X_220 wt_Ch_sixtyMeans wn_Ch_sixtyMeans wc_Ch_sixtyMeans wh_Ch_sixtyMeans (by decide) (by decide) (Nat.le_of_ble_eq_true rfl) rfl) (fun x_1 => ?_)
    refine xs_step (fun K HC => xr_ldc2 HC.1 15 31 wk_X_224 rfl rfl) ?_
    refine xs_step (fun K HC => xr_iload_n HC.1 16 32 (n := 2) (ix := 2) (j := 2) (x := v2) rfl rfl rfl rfl) ?_
    refine xs_calll (s_Ch_partOf x_1.1 (60 : Int64) v2 x_1.2) (fun K HC x9 hM hmo hb => xr_callS HC.1 17 35 (av := [av_L x_1.1, av_L (60 : Int64), av_I v2]) (st := []) (hM (kg K) (cx_l (kx K))) hmo hb rfl rfl wm_X_209 wt_Ch_partOf wn_Ch_partOf wc_Ch_partOf wh_Ch_partOf (by decide) (by decide) (Nat.le_of_ble_eq_true rfl) rfl) (fun x_2 => ?_)
    exact xs_retl 18 rfl rfl (fun K q => q)
  refine xs_step (fun K HC => xr_ldc2 HC.1 11 23 wk_X_192 rfl rfl) ?_
  exact xs_retl 12 rfl rfl (fun K q => q)
theorem s_X_mean (v0 : Nat) (v1 : Int32) (v2 : Int32) (h : HP) : ∀ x, f_X_mean v0 v1 v2 h = some x → hp_mo h x.2 ∧ ∀ g l, xx_M g l y_X_mean prog_1_method_24_code 3 (some .long) 2 [av_R 10 (some v0), av_I v1, av_I v2] h (some (av_L x.1)) x.2 :=
  xM_l (tb := tb_X_mean) (b := false) (by decide +kernel) dt_X_mean (fun _ => trivial) (Nat.le_of_ble_eq_true rfl) (fun hb => by cases hb) (t_X_mean v0 v1 v2 h)
def tb_X_counter : TBL := [(0, .iload_n 1, 1), (1, .iconst 2, 1), (2, .if_icmp .lt 27, 3), (5, .iload_n 1, 1), (6, .iconst 4, 1), (7, .if_icmp .gt 22, 3), (10, .iload_n 2, 1), (11, .iconst 1, 1), (12, .if_icmp .lt 17, 3), (15, .iload_n 2, 1), (16, .iconst 3, 1), (17, .if_icmp .gt 12, 3), (20, .iload_n 3, 1), (21, .ifCond .lt 8, 3), (24, .iload_n 3, 1), (25, .iconst 1, 1), (26, .if_icmp .le 5, 3), (29, .iconst (-1), 1), (30, .ireturn, 1), (31, .iload_n 1, 1), (32, .iconst 2, 1), (33, .isub, 1), (34, .iload_n 2, 1), (35, .imul, 1), (36, .iconst 1, 1), (37, .iload_n 3, 1), (38, .isub, 1), (39, .iadd, 1), (40, .iconst 1, 1), (41, .iadd, 1), (42, .istore 5, 2), (44, .iload 4, 2), (46, .ifCond .ne 6, 3), (49, .iload 5, 2), (51, .ireturn, 1), (52, .iload 5, 2), (54, .iload_n 1, 1), (55, .iconst 1, 1), (56, .isub, 1), (57, .iload_n 2, 1), (58, .imul, 1), (59, .if_icmp .gt 7, 3), (62, .iconst 1, 1), (63, .goto 4, 3), (66, .iconst 0, 1), (67, .istore 6, 2), (69, .iload 4, 2), (71, .iconst 1, 1), (72, .if_icmp .ne 8, 3), (75, .iload 6, 2), (77, .goto 4, 3), (80, .iconst (-1), 1), (81, .ireturn, 1)]
theorem dt_X_counter : ∀ q ∈ tb_X_counter, decode prog_1_method_25_code q.1 = .ok (q.2.1, q.2.2) := by decide +kernel
set_option maxHeartbeats 4000000 in
set_option maxRecDepth 100000 in
theorem t_X_counter_67 (v4 : Int32) (s0 : Int32) (h : HP) : xx_S (xx_D "LampYard" tb_X_counter 7 1 (some .int) false) xz_i (fun K => xL_i K) 67 [(4, av_I v4)] [av_I s0] h (f_X_counter_67 v4 s0 h) := by
  unfold f_X_counter_67
  refine xs_step (fun K HC => xr_istore HC.1 45 69 (ix := 6) (lv' := [(4, av_I v4), (6, av_I s0)]) rfl rfl (by decide) rfl) ?_
  refine xs_step (fun K HC => xr_iload HC.1 46 71 (ix := 4) (j := 0) (x := v4) rfl rfl rfl) ?_
  refine xs_step (fun K HC => xr_iconst HC.1 47 72 (n := (1)) (1 : Int32) rfl rfl rfl) ?_
  refine xs_ite (fun K HC a b => xr_icmp_ne HC.1 48 80 75 rfl (by decide) rfl b a) ?_ ?_
  · refine xs_step (fun K HC => xr_iload HC.1 49 77 (ix := 6) (j := 1) (x := s0) rfl rfl rfl) ?_
    refine xs_step (fun K HC => xr_goto HC.1 50 81 rfl (by decide)) ?_
    exact xs_reti 52 rfl rfl (fun K q => q) (fun ty ht => by cases ht; rfl)
  refine xs_step (fun K HC => xr_iconst HC.1 51 81 (n := (-1)) (-1 : Int32) rfl rfl rfl) ?_
  exact xs_reti 52 rfl rfl (fun K q => q) (fun ty ht => by cases ht; rfl)
set_option maxHeartbeats 4000000 in
set_option maxRecDepth 100000 in
theorem t_X_counter (v0 : Nat) (v1 : Int32) (v2 : Int32) (v3 : Int32) (v4 : Int32) (h : HP) : xx_S (xx_D "LampYard" tb_X_counter 7 1 (some .int) false) xz_i (fun K => xL_i K) 0 [(0, av_R 10 (some v0)), (1, av_I v1), (2, av_I v2), (3, av_I v3), (4, av_I v4)] [] h (f_X_counter v0 v1 v2 v3 v4 h) := by
  unfold f_X_counter
  refine xs_step (fun K HC => xr_iload_n HC.1 0 1 (n := 1) (ix := 1) (j := 1) (x := v1) rfl rfl rfl rfl) ?_
  refine xs_step (fun K HC => xr_iconst HC.1 1 2 (n := (2)) (2 : Int32) rfl rfl rfl) ?_
  refine xs_ite (fun K HC => xr_icmp_lt HC.1 2 29 5 rfl (by decide) rfl) ?_ ?_
  · refine xs_step (fun K HC => xr_iconst HC.1 17 30 (n := (-1)) (-1 : Int32) rfl rfl rfl) ?_
    exact xs_reti 18 rfl rfl (fun K q => q) (fun ty ht => by cases ht; rfl)
  refine xs_step (fun K HC => xr_iload_n HC.1 3 6 (n := 1) (ix := 1) (j := 1) (x := v1) rfl rfl rfl rfl) ?_
  refine xs_step (fun K HC => xr_iconst HC.1 4 7 (n := (4)) (4 : Int32) rfl rfl rfl) ?_
  refine xs_ite (fun K HC => xr_icmp_gt HC.1 5 29 10 rfl (by decide) rfl) ?_ ?_
  · refine xs_step (fun K HC => xr_iconst HC.1 17 30 (n := (-1)) (-1 : Int32) rfl rfl rfl) ?_
    exact xs_reti 18 rfl rfl (fun K q => q) (fun ty ht => by cases ht; rfl)
  refine xs_step (fun K HC => xr_iload_n HC.1 6 11 (n := 2) (ix := 2) (j := 2) (x := v2) rfl rfl rfl rfl) ?_
  refine xs_step (fun K HC => xr_iconst HC.1 7 12 (n := (1)) (1 : Int32) rfl rfl rfl) ?_
  refine xs_ite (fun K HC => xr_icmp_lt HC.1 8 29 15 rfl (by decide) rfl) ?_ ?_
  · refine xs_step (fun K HC => xr_iconst HC.1 17 30 (n := (-1)) (-1 : Int32) rfl rfl rfl) ?_
    exact xs_reti 18 rfl rfl (fun K q => q) (fun ty ht => by cases ht; rfl)
  refine xs_step (fun K HC => xr_iload_n HC.1 9 16 (n := 2) (ix := 2) (j := 2) (x := v2) rfl rfl rfl rfl) ?_
  refine xs_step (fun K HC => xr_iconst HC.1 10 17 (n := (3)) (3 : Int32) rfl rfl rfl) ?_
  refine xs_ite (fun K HC => xr_icmp_gt HC.1 11 29 20 rfl (by decide) rfl) ?_ ?_
  · refine xs_step (fun K HC => xr_iconst HC.1 17 30 (n := (-1)) (-1 : Int32) rfl rfl rfl) ?_
    exact xs_reti 18 rfl rfl (fun K q => q) (fun ty ht => by cases ht; rfl)
  refine xs_step (fun K HC => xr_iload_n HC.1 12 21 (n := 3) (ix := 3) (j := 3) (x := v3) rfl rfl rfl rfl) ?_
  refine xs_ite (fun K HC => xr_if_lt HC.1 13 29 24 rfl (by decide) rfl) ?_ ?_
  · refine xs_step (fun K HC => xr_iconst HC.1 17 30 (n := (-1)) (-1 : Int32) rfl rfl rfl) ?_
    exact xs_reti 18 rfl rfl (fun K q => q) (fun ty ht => by cases ht; rfl)
  refine xs_step (fun K HC => xr_iload_n HC.1 14 25 (n := 3) (ix := 3) (j := 3) (x := v3) rfl rfl rfl rfl) ?_
  refine xs_step (fun K HC => xr_iconst HC.1 15 26 (n := (1)) (1 : Int32) rfl rfl rfl) ?_
  refine xs_ite (fun K HC => xr_icmp_le HC.1 16 31 29 rfl (by decide) rfl) ?_ ?_
  · refine xs_step (fun K HC => xr_iload_n HC.1 19 32 (n := 1) (ix := 1) (j := 1) (x := v1) rfl rfl rfl rfl) ?_
    refine xs_step (fun K HC => xr_iconst HC.1 20 33 (n := (2)) (2 : Int32) rfl rfl rfl) ?_
    refine xs_step (fun K HC => xr_isub HC.1 21 34 rfl rfl) ?_
    refine xs_step (fun K HC => xr_iload_n HC.1 22 35 (n := 2) (ix := 2) (j := 2) (x := v2) rfl rfl rfl rfl) ?_
    refine xs_step (fun K HC => xr_imul HC.1 23 36 rfl rfl) ?_
    refine xs_step (fun K HC => xr_iconst HC.1 24 37 (n := (1)) (1 : Int32) rfl rfl rfl) ?_
    refine xs_step (fun K HC => xr_iload_n HC.1 25 38 (n := 3) (ix := 3) (j := 3) (x := v3) rfl rfl rfl rfl) ?_
    refine xs_step (fun K HC => xr_isub HC.1 26 39 rfl rfl) ?_
    refine xs_step (fun K HC => xr_iadd HC.1 27 40 rfl rfl) ?_
    refine xs_step (fun K HC => xr_iconst HC.1 28 41 (n := (1)) (1 : Int32) rfl rfl rfl) ?_
    refine xs_step (fun K HC => xr_iadd HC.1 29 42 rfl rfl) ?_
    refine xs_topi (fun v5_1 => ?_)
    refine xs_step (fun K HC => xr_istore HC.1 30 44 (ix := 5) (lv' := [(0, av_R 10 (some v0)), (1, av_I v1), (2, av_I v2), (3, av_I v3), (4, av_I v4), (5, av_I v5_1)]) rfl rfl (by decide) rfl) ?_
    refine xs_step (fun K HC => xr_iload HC.1 31 46 (ix := 4) (j := 4) (x := v4) rfl rfl rfl) ?_
    refine xs_ite (fun K HC a b => xr_if_ne HC.1 32 52 49 rfl (by decide) rfl b a) ?_ ?_
    · refine xs_step (fun K HC => xr_iload HC.1 33 51 (ix := 5) (j := 5) (x := v5_1) rfl rfl rfl) ?_
      exact xs_reti 34 rfl rfl (fun K q => q) (fun ty ht => by cases ht; rfl)
    refine xs_step (fun K HC => xr_iload HC.1 35 54 (ix := 5) (j := 5) (x := v5_1) rfl rfl rfl) ?_
    refine xs_step (fun K HC => xr_iload_n HC.1 36 55 (n := 1) (ix := 1) (j := 1) (x := v1) rfl rfl rfl rfl) ?_
    refine xs_step (fun K HC => xr_iconst HC.1 37 56 (n := (1)) (1 : Int32) rfl rfl rfl) ?_
    refine xs_step (fun K HC => xr_isub HC.1 38 57 rfl rfl) ?_
    refine xs_step (fun K HC => xr_iload_n HC.1 39 58 (n := 2) (ix := 2) (j := 2) (x := v2) rfl rfl rfl rfl) ?_
    refine xs_step (fun K HC => xr_imul HC.1 40 59 rfl rfl) ?_
    refine xs_ite (fun K HC => xr_icmp_gt HC.1 41 66 62 rfl (by decide) rfl) ?_ ?_
    · refine xs_step (fun K HC => xr_iconst HC.1 44 67 (n := (0)) (0 : Int32) rfl rfl rfl) ?_
      refine xs_step (fun K HC => xr_sub (lv' := [(4, av_I v4)]) [4] rfl) ?_
      exact t_X_counter_67 v4 (0 : Int32) h
    refine xs_step (fun K HC => xr_iconst HC.1 42 63 (n := (1)) (1 : Int32) rfl rfl rfl) ?_
    refine xs_step (fun K HC => xr_goto HC.1 43 67 rfl (by decide)) ?_
    refine xs_step (fun K HC => xr_sub (lv' := [(4, av_I v4)]) [4] rfl) ?_
    exact t_X_counter_67 v4 (1 : Int32) h
  refine xs_step (fun K HC => xr_iconst HC.1 17 30 (n := (-1)) (-1 : Int32) rfl rfl rfl) ?_
  exact xs_reti 18 rfl rfl (fun K q => q) (fun ty ht => by cases ht; rfl)
theorem s_X_counter (v0 : Nat) (v1 : Int32) (v2 : Int32) (v3 : Int32) (v4 : Int32) (h : HP) : ∀ x, f_X_counter v0 v1 v2 v3 v4 h = some x → hp_mo h x.2 ∧ ∀ g l, xx_M g l y_X_counter prog_1_method_25_code 7 (some .int) 1 [av_R 10 (some v0), av_I v1, av_I v2, av_I v3, av_I v4] h (some (av_I x.1)) x.2 :=
  xM_i (tb := tb_X_counter) (b := false) (by decide +kernel) dt_X_counter (fun _ => trivial) (Nat.le_of_ble_eq_true rfl) (fun hb => by cases hb) (t_X_counter v0 v1 v2 v3 v4 h)
