def tb_M_token : TBL := [(0, .aload_n 0, 1), (1, .iconst 0, 1), (2, .invokevirtual 200, 3), (5, .bipush 32, 2), (7, .if_icmp .eq 13, 3), (10, .aload_n 0, 1), (11, .iconst 0, 1), (12, .invokevirtual 200, 3), (15, .bipush 10, 2), (17, .if_icmp .ne 16, 3), (20, .aload_n 0, 1), (21, .dup, 1), (22, .getfield 194, 3), (25, .iconst 1, 1), (26, .iadd, 1), (27, .putfield 194, 3), (30, .goto (-30), 3), (33, .aload_n 0, 1), (34, .aload_n 0, 1), (35, .getfield 194, 3), (38, .putfield 204, 3), (41, .aload_n 0, 1), (42, .iconst 0, 1), (43, .invokevirtual 200, 3), (46, .istore_n 1, 1), (47, .iconst 0, 1), (48, .istore_n 2, 1), (49, .aload_n 0, 1), (50, .lconst 0, 1), (51, .putfield 207, 3), (54, .aload_n 0, 1), (55, .iconst 0, 1), (56, .putfield 211, 3), (59, .iload_n 1, 1), (60, .ifCond .ge 11, 3), (63, .aload_n 0, 1), (64, .iconst 0, 1), (65, .putfield 214, 3), (68, .goto 164, 3), (71, .iload_n 1, 1), (72, .invokestatic 217, 3), (75, .ifCond .eq 62, 3), (78, .aload_n 0, 1), (79, .iload_n 2, 1), (80, .invokevirtual 200, 3), (83, .invokestatic 217, 3), (86, .ifCond .eq 33, 3), (89, .iload_n 2, 1), (90, .bipush 8, 2), (92, .if_icmp .ge 21, 3), (95, .aload_n 0, 1), (96, .aload_n 0, 1), (97, .getfield 207, 3), (100, .bipush 8, 2), (102, .lshl, 1), (103, .aload_n 0, 1), (104, .iload_n 2, 1), (105, .invokevirtual 200, 3), (108, .i2l, 1), (109, .lor, 1), (110, .putfield 207, 3), (113, .iinc 2 1, 3), (116, .goto (-38), 3), (119, .aload_n 0, 1), (120, .iload_n 2, 1), (121, .bipush 8, 2), (123, .if_icmp .le 7, 3), (126, .iconst 3, 1), (127, .goto 4, 3), (130, .iconst 1, 1), (131, .putfield 214, 3), (134, .goto 98, 3), (137, .iload_n 1, 1), (138, .invokestatic 221, 3), (141, .ifCond .eq 73, 3), (144, .aload_n 0, 1), (145, .iload_n 2, 1), (146, .invokevirtual 200, 3), (149, .invokestatic 221, 3), (152, .ifCond .eq 34, 3), (155, .iload_n 2, 1), (156, .iconst 4, 1), (157, .if_icmp .ge 23, 3), (160, .aload_n 0, 1), (161, .bipush 10, 2), (163, .aload_n 0, 1), (164, .getfield 211, 3), (167, .imul, 1), (168, .aload_n 0, 1), (169, .iload_n 2, 1), (170, .invokevirtual 200, 3), (173, .iadd, 1), (174, .bipush 48, 2), (176, .isub, 1), (177, .putfield 211, 3), (180, .iinc 2 1, 3), (183, .goto (-39), 3), (186, .aload_n 0, 1), (187, .iload_n 2, 1), (188, .iconst 4, 1), (189, .if_icmp .gt 14, 3), (192, .aload_n 0, 1), (193, .iload_n 2, 1), (194, .invokevirtual 200, 3), (197, .invokestatic 217, 3), (200, .ifCond .eq 7, 3), (203, .iconst 3, 1), (204, .goto 4, 3), (207, .iconst 2, 1), (208, .putfield 214, 3), (211, .goto 21, 3), (214, .iconst 1, 1), (215, .istore_n 2, 1), (216, .aload_n 0, 1), (217, .iload_n 1, 1), (218, .invokestatic 224, 3), (221, .ifCond .eq 7, 3), (224, .iload_n 1, 1), (225, .goto 4, 3), (228, .iconst 3, 1), (229, .putfield 214, 3), (232, .aload_n 0, 1), (233, .getfield 214, 3), (236, .iconst 3, 1), (237, .if_icmp .eq 13, 3), (240, .aload_n 0, 1), (241, .dup, 1), (242, .getfield 194, 3), (245, .iload_n 2, 1), (246, .iadd, 1), (247, .putfield 194, 3), (250, .return_, 1)]
theorem dt_M_token : ∀ q ∈ tb_M_token, decode prog_14_method_9_code q.1 = .ok (q.2.1, q.2.2) := by decide +kernel
set_option maxHeartbeats 4000000 in
set_option maxRecDepth 100000 in
theorem t_M_token_20 (v0 : Nat) (h : HP) : xx_S (xx_D "LampYardModel" tb_M_token 3 2 none false) (xx_z2 (fun s : (HP) => s) xz_v) (fun K => xx_L2 (fun s : (HP) => xx_X K 0 [(0, av_R 11 (some v0))] [] (s)) (xL_v K)) 20 [(0, av_R 11 (some v0))] [] h (f_M_token_20 v0 h) := by
  unfold f_M_token_20
  refine xs_step (fun K HC => xr_aload_n HC.1 10 21 (n := 0) (ix := 0) (j := 0) (c := 11) (x := v0) rfl rfl rfl rfl) ?_
  refine xs_step (fun K HC => xr_dup HC.1 11 22 rfl rfl rfl) ?_
  refine xs_step (fun K HC => xr_geti HC.1 12 25 11 4 rfl rfl wf_M_194 (by decide) fb_11_4 fc_11_4) ?_
  refine xs_step (fun K HC => xr_iconst HC.1 13 26 (n := (1)) (1 : Int32) rfl rfl rfl) ?_
  refine xs_step (fun K HC => xr_iadd HC.1 14 27 rfl rfl) ?_
  refine xs_heap (hp_mo_si _ _ _ _) (fun K HC => xr_puti HC.1 15 30 11 4 rfl rfl wf_M_194 (by decide) fb_11_4 fn_11_4 fy_11_4) (fun h_2 => ?_)
  refine xs_step (fun K HC => xr_goto HC.1 16 0 rfl (by decide)) ?_
  exact xs_back rfl (fun K q => q)
set_option maxHeartbeats 4000000 in
set_option maxRecDepth 100000 in
theorem t_M_token_232 (v0 : Nat) (v2 : Int32) (h : HP) : xx_S (xx_D "LampYardModel" tb_M_token 3 2 none false) xz_v (fun K => xL_v K) 232 [(0, av_R 11 (some v0)), (2, av_I v2)] [] h (f_M_token_232 v0 v2 h) := by
  unfold f_M_token_232
  refine xs_step (fun K HC => xr_aload_n HC.1 121 233 (n := 0) (ix := 0) (j := 0) (c := 11) (x := v0) rfl rfl rfl rfl) ?_
  refine xs_step (fun K HC => xr_geti HC.1 122 236 11 6 rfl rfl wf_M_214 (by decide) fb_11_6 fc_11_6) ?_
  refine xs_step (fun K HC => xr_iconst HC.1 123 237 (n := (3)) (3 : Int32) rfl rfl rfl) ?_
  refine xs_ite (fun K HC => xr_icmp_eq HC.1 124 250 240 rfl (by decide) rfl) ?_ ?_
  · exact xs_ret 131 rfl rfl (fun K q => q)
  refine xs_step (fun K HC => xr_aload_n HC.1 125 241 (n := 0) (ix := 0) (j := 0) (c := 11) (x := v0) rfl rfl rfl rfl) ?_
  refine xs_step (fun K HC => xr_dup HC.1 126 242 rfl rfl rfl) ?_
  refine xs_step (fun K HC => xr_geti HC.1 127 245 11 4 rfl rfl wf_M_194 (by decide) fb_11_4 fc_11_4) ?_
  refine xs_step (fun K HC => xr_iload_n HC.1 128 246 (n := 2) (ix := 2) (j := 1) (x := v2) rfl rfl rfl rfl) ?_
  refine xs_step (fun K HC => xr_iadd HC.1 129 247 rfl rfl) ?_
  refine xs_heap (hp_mo_si _ _ _ _) (fun K HC => xr_puti HC.1 130 250 11 4 rfl rfl wf_M_194 (by decide) fb_11_4 fn_11_4 fy_11_4) (fun h_12 => ?_)
  exact xs_ret 131 rfl rfl (fun K q => q)
set_option maxHeartbeats 4000000 in
set_option maxRecDepth 100000 in
theorem t_M_token_229 (v0 : Nat) (v2 : Int32) (s0 : Int32) (s1 : Nat) (h : HP) : xx_S (xx_D "LampYardModel" tb_M_token 3 2 none false) xz_v (fun K => xL_v K) 229 [(0, av_R 11 (some v0)), (2, av_I v2)] [av_I s0, av_R 11 (some s1)] h (f_M_token_229 v0 v2 s0 s1 h) := by
  unfold f_M_token_229
  refine xs_heap (hp_mo_si _ _ _ _) (fun K HC => xr_puti HC.1 120 232 11 6 rfl rfl wf_M_214 (by decide) fb_11_6 fn_11_6 fy_11_6) (fun h_11 => ?_)
  exact t_M_token_232 v0 v2 h_11
set_option maxHeartbeats 4000000 in
set_option maxRecDepth 100000 in
theorem t_M_token_208 (v0 : Nat) (v2 : Int32) (s0 : Int32) (s1 : Nat) (h : HP) : xx_S (xx_D "LampYardModel" tb_M_token 3 2 none false) xz_v (fun K => xL_v K) 208 [(0, av_R 11 (some v0)), (2, av_I v2)] [av_I s0, av_R 11 (some s1)] h (f_M_token_208 v0 v2 s0 s1 h) := by
  unfold f_M_token_208
  refine xs_heap (hp_mo_si _ _ _ _) (fun K HC => xr_puti HC.1 109 211 11 6 rfl rfl wf_M_214 (by decide) fb_11_6 fn_11_6 fy_11_6) (fun h_15 => ?_)
  refine xs_step (fun K HC => xr_goto HC.1 110 232 rfl (by decide)) ?_
  exact t_M_token_232 v0 v2 h_15
set_option maxHeartbeats 4000000 in
set_option maxRecDepth 100000 in
theorem t_M_token_203 (v0 : Nat) (v2 : Int32) (s0 : Nat) (h : HP) : xx_S (xx_D "LampYardModel" tb_M_token 3 2 none false) xz_v (fun K => xL_v K) 203 [(0, av_R 11 (some v0)), (2, av_I v2)] [av_R 11 (some s0)] h (f_M_token_203 v0 v2 s0 h) := by
  unfold f_M_token_203
  refine xs_step (fun K HC => xr_iconst HC.1 106 204 (n := (3)) (3 : Int32) rfl rfl rfl) ?_
  refine xs_step (fun K HC => xr_goto HC.1 107 208 rfl (by decide)) ?_
  exact t_M_token_208 v0 v2 (3 : Int32) s0 h
set_option maxHeartbeats 4000000 in
set_option maxRecDepth 100000 in
theorem t_M_token_186 (v0 : Nat) (v2 : Int32) (h : HP) : xx_S (xx_D "LampYardModel" tb_M_token 3 2 none false) xz_v (fun K => xL_v K) 186 [(0, av_R 11 (some v0)), (2, av_I v2)] [] h (f_M_token_186 v0 v2 h) := by
  unfold f_M_token_186
  refine xs_step (fun K HC => xr_aload_n HC.1 97 187 (n := 0) (ix := 0) (j := 0) (c := 11) (x := v0) rfl rfl rfl rfl) ?_
  refine xs_step (fun K HC => xr_iload_n HC.1 98 188 (n := 2) (ix := 2) (j := 1) (x := v2) rfl rfl rfl rfl) ?_
  refine xs_step (fun K HC => xr_iconst HC.1 99 189 (n := (4)) (4 : Int32) rfl rfl rfl) ?_
  refine xs_ite (fun K HC => xr_icmp_gt HC.1 100 203 192 rfl (by decide) rfl) ?_ ?_
  · exact t_M_token_203 v0 v2 v0 h
  refine xs_step (fun K HC => xr_aload_n HC.1 101 193 (n := 0) (ix := 0) (j := 0) (c := 11) (x := v0) rfl rfl rfl rfl) ?_
  refine xs_step (fun K HC => xr_iload_n HC.1 102 194 (n := 2) (ix := 2) (j := 1) (x := v2) rfl rfl rfl rfl) ?_
  refine xs_calli (s_M_here v0 v2 h) (fun K HC x9 hM hmo hb => xr_callV HC.1 103 197 (av := [av_I v2]) (st := [av_R 11 (some v0)]) (hM (kg K) (cx_l (kx K))) hmo hb rfl rfl wm_M_200 wi_M_here ws_M_here wc_M_here rfl wh_M_here (by decide) (by decide) (by decide) (Nat.le_of_ble_eq_true rfl) rfl) (fun x_16 => ?_)
  refine xs_calli (s_M_isLetter x_16.1 x_16.2) (fun K HC x9 hM hmo hb => xr_callS HC.1 104 200 (av := [av_I x_16.1]) (st := [av_R 11 (some v0)]) (hM (kg K) (cx_l (kx K))) hmo hb rfl rfl wm_M_217 wt_M_isLetter wn_M_isLetter wc_M_isLetter wh_M_isLetter (by decide) (by decide) (Nat.le_of_ble_eq_true rfl) rfl) (fun x_17 => ?_)
  refine xs_ite (fun K HC => xr_if_eq HC.1 105 207 203 rfl (by decide) rfl) ?_ ?_
  · refine xs_step (fun K HC => xr_iconst HC.1 108 208 (n := (2)) (2 : Int32) rfl rfl rfl) ?_
    exact t_M_token_208 v0 v2 (2 : Int32) v0 x_17.2
  exact t_M_token_203 v0 v2 v0 x_17.2
set_option maxHeartbeats 4000000 in
set_option maxRecDepth 100000 in
theorem t_M_token_180 (v0 : Nat) (v2 : Int32) (h : HP) : xx_S (xx_D "LampYardModel" tb_M_token 3 2 none false) (xx_z2 (fun s : (Int32 × HP) => s.2) xz_v) (fun K => xx_L2 (fun s : (Int32 × HP) => xx_X K 144 [(0, av_R 11 (some v0)), (2, av_I s.1)] [] (s.2)) (xL_v K)) 180 [(0, av_R 11 (some v0)), (2, av_I v2)] [] h (f_M_token_180 v0 v2 h) := by
  unfold f_M_token_180
  refine xs_gen (fun v2_18 ev2_18 => ?_)
  refine xs_step (fun K HC => xr_iinc HC.1 95 183 (ix := 2) (j := 1) (n := (1)) (x := v2) v2_18 (lv' := [(0, av_R 11 (some v0)), (2, av_I v2_18)]) rfl (by rw [ev2_18]; rfl) rfl rfl (by decide) rfl) ?_
  refine xs_step (fun K HC => xr_goto HC.1 96 144 rfl (by decide)) ?_
  exact xs_back rfl (fun K q => q)
set_option maxHeartbeats 4000000 in
set_option maxRecDepth 100000 in
theorem t_M_token_144b (v0 : Nat) (v2 : Int32) (h : HP) : xx_S (xx_D "LampYardModel" tb_M_token 3 2 none false) (xx_z2 (fun s : (Int32 × HP) => s.2) xz_v) (fun K => xx_L2 (fun s : (Int32 × HP) => xx_X K 144 [(0, av_R 11 (some v0)), (2, av_I s.1)] [] (s.2)) (xL_v K)) 144 [(0, av_R 11 (some v0)), (2, av_I v2)] [] h (f_M_token_144b v0 v2 h) := by
  unfold f_M_token_144b
  refine xs_step (fun K HC => xr_aload_n HC.1 75 145 (n := 0) (ix := 0) (j := 0) (c := 11) (x := v0) rfl rfl rfl rfl) ?_
  refine xs_step (fun K HC => xr_iload_n HC.1 76 146 (n := 2) (ix := 2) (j := 1) (x := v2) rfl rfl rfl rfl) ?_
  refine xs_calli (s_M_here v0 v2 h) (fun K HC x9 hM hmo hb => xr_callV HC.1 77 149 (av := [av_I v2]) (st := []) (hM (kg K) (cx_l (kx K))) hmo hb rfl rfl wm_M_200 wi_M_here ws_M_here wc_M_here rfl wh_M_here (by decide) (by decide) (by decide) (Nat.le_of_ble_eq_true rfl) rfl) (fun x_13 => ?_)
  refine xs_calli (s_M_isDigit x_13.1 x_13.2) (fun K HC x9 hM hmo hb => xr_callS HC.1 78 152 (av := [av_I x_13.1]) (st := []) (hM (kg K) (cx_l (kx K))) hmo hb rfl rfl wm_M_221 wt_M_isDigit wn_M_isDigit wc_M_isDigit wh_M_isDigit (by decide) (by decide) (Nat.le_of_ble_eq_true rfl) rfl) (fun x_14 => ?_)
  refine xs_ite (fun K HC => xr_if_eq HC.1 79 186 155 rfl (by decide) rfl) ?_ ?_
  · exact xs_map (fun _ => rfl) (fun _ _ q => q) (t_M_token_186 v0 v2 x_14.2)
  refine xs_step (fun K HC => xr_iload_n HC.1 80 156 (n := 2) (ix := 2) (j := 1) (x := v2) rfl rfl rfl rfl) ?_
  refine xs_step (fun K HC => xr_iconst HC.1 81 157 (n := (4)) (4 : Int32) rfl rfl rfl) ?_
  refine xs_ite (fun K HC => xr_icmp_ge HC.1 82 180 160 rfl (by decide) rfl) ?_ ?_
  · exact t_M_token_180 v0 v2 x_14.2
  refine xs_step (fun K HC => xr_aload_n HC.1 83 161 (n := 0) (ix := 0) (j := 0) (c := 11) (x := v0) rfl rfl rfl rfl) ?_
  refine xs_step (fun K HC => xr_bipush HC.1 84 163 (n := (10)) (10 : Int32) rfl rfl rfl) ?_
  refine xs_step (fun K HC => xr_aload_n HC.1 85 164 (n := 0) (ix := 0) (j := 0) (c := 11) (x := v0) rfl rfl rfl rfl) ?_
  refine xs_step (fun K HC => xr_geti HC.1 86 167 11 8 rfl rfl wf_M_211 (by decide) fb_11_8 fc_11_8) ?_
  refine xs_step (fun K HC => xr_imul HC.1 87 168 rfl rfl) ?_
  refine xs_step (fun K HC => xr_aload_n HC.1 88 169 (n := 0) (ix := 0) (j := 0) (c := 11) (x := v0) rfl rfl rfl rfl) ?_
  refine xs_step (fun K HC => xr_iload_n HC.1 89 170 (n := 2) (ix := 2) (j := 1) (x := v2) rfl rfl rfl rfl) ?_
  refine xs_calli (s_M_here v0 v2 x_14.2) (fun K HC x9 hM hmo hb => xr_callV HC.1 90 173 (av := [av_I v2]) (st := [av_I ((10 : Int32) * (hp_i x_14.2 v0 8)), av_R 11 (some v0)]) (hM (kg K) (cx_l (kx K))) hmo hb rfl rfl wm_M_200 wi_M_here ws_M_here wc_M_here rfl wh_M_here (by decide) (by decide) (by decide) (Nat.le_of_ble_eq_true rfl) rfl) (fun x_19 => ?_)
  refine xs_step (fun K HC => xr_iadd HC.1 91 174 rfl rfl) ?_
  refine xs_step (fun K HC => xr_bipush HC.1 92 176 (n := (48)) (48 : Int32) rfl rfl rfl) ?_
  refine xs_step (fun K HC => xr_isub HC.1 93 177 rfl rfl) ?_
  refine xs_heap (hp_mo_si _ _ _ _) (fun K HC => xr_puti HC.1 94 180 11 8 rfl rfl wf_M_211 (by decide) fb_11_8 fn_11_8 fy_11_8) (fun h_20 => ?_)
  exact t_M_token_180 v0 v2 h_20
theorem t_M_token_144 (v0 : Nat) (v2 : Int32) (h : HP) : xx_S (xx_D "LampYardModel" tb_M_token 3 2 none false) xz_v (fun K => xL_v K) 144 [(0, av_R 11 (some v0)), (2, av_I v2)] [] h (f_M_token_144 v0 v2 h) :=
  xs_loop (zf := xz_v) (L := (fun K => xL_v K)) (fun s : (Int32 × HP) => [(0, av_R 11 (some v0)), (2, av_I s.1)]) (fun s : (Int32 × HP) => s.2) (fun s => t_M_token_144b v0 s.1 s.2) (v2, h)
set_option maxHeartbeats 4000000 in
set_option maxRecDepth 100000 in
theorem t_M_token_131 (v0 : Nat) (v2 : Int32) (s0 : Int32) (s1 : Nat) (h : HP) : xx_S (xx_D "LampYardModel" tb_M_token 3 2 none false) xz_v (fun K => xL_v K) 131 [(0, av_R 11 (some v0)), (2, av_I v2)] [av_I s0, av_R 11 (some s1)] h (f_M_token_131 v0 v2 s0 s1 h) := by
  unfold f_M_token_131
  refine xs_heap (hp_mo_si _ _ _ _) (fun K HC => xr_puti HC.1 70 134 11 6 rfl rfl wf_M_214 (by decide) fb_11_6 fn_11_6 fy_11_6) (fun h_23 => ?_)
  refine xs_step (fun K HC => xr_goto HC.1 71 232 rfl (by decide)) ?_
  exact t_M_token_232 v0 v2 h_23
set_option maxHeartbeats 4000000 in
set_option maxRecDepth 100000 in
theorem t_M_token_119 (v0 : Nat) (v2 : Int32) (h : HP) : xx_S (xx_D "LampYardModel" tb_M_token 3 2 none false) xz_v (fun K => xL_v K) 119 [(0, av_R 11 (some v0)), (2, av_I v2)] [] h (f_M_token_119 v0 v2 h) := by
  unfold f_M_token_119
  refine xs_step (fun K HC => xr_aload_n HC.1 63 120 (n := 0) (ix := 0) (j := 0) (c := 11) (x := v0) rfl rfl rfl rfl) ?_
  refine xs_step (fun K HC => xr_iload_n HC.1 64 121 (n := 2) (ix := 2) (j := 1) (x := v2) rfl rfl rfl rfl) ?_
  refine xs_step (fun K HC => xr_bipush HC.1 65 123 (n := (8)) (8 : Int32) rfl rfl rfl) ?_
  refine xs_ite (fun K HC => xr_icmp_le HC.1 66 130 126 rfl (by decide) rfl) ?_ ?_
  · refine xs_step (fun K HC => xr_iconst HC.1 69 131 (n := (1)) (1 : Int32) rfl rfl rfl) ?_
    exact t_M_token_131 v0 v2 (1 : Int32) v0 h
  refine xs_step (fun K HC => xr_iconst HC.1 67 127 (n := (3)) (3 : Int32) rfl rfl rfl) ?_
  refine xs_step (fun K HC => xr_goto HC.1 68 131 rfl (by decide)) ?_
  exact t_M_token_131 v0 v2 (3 : Int32) v0 h
set_option maxHeartbeats 4000000 in
set_option maxRecDepth 100000 in
theorem t_M_token_113 (v0 : Nat) (v2 : Int32) (h : HP) : xx_S (xx_D "LampYardModel" tb_M_token 3 2 none false) (xx_z2 (fun s : (Int32 × HP) => s.2) xz_v) (fun K => xx_L2 (fun s : (Int32 × HP) => xx_X K 78 [(0, av_R 11 (some v0)), (2, av_I s.1)] [] (s.2)) (xL_v K)) 113 [(0, av_R 11 (some v0)), (2, av_I v2)] [] h (f_M_token_113 v0 v2 h) := by
  unfold f_M_token_113
  refine xs_gen (fun v2_24 ev2_24 => ?_)
  refine xs_step (fun K HC => xr_iinc HC.1 61 116 (ix := 2) (j := 1) (n := (1)) (x := v2) v2_24 (lv' := [(0, av_R 11 (some v0)), (2, av_I v2_24)]) rfl (by rw [ev2_24]; rfl) rfl rfl (by decide) rfl) ?_
  refine xs_step (fun K HC => xr_goto HC.1 62 78 rfl (by decide)) ?_
  exact xs_back rfl (fun K q => q)
set_option maxHeartbeats 4000000 in
set_option maxRecDepth 100000 in
theorem t_M_token_78b (v0 : Nat) (v2 : Int32) (h : HP) : xx_S (xx_D "LampYardModel" tb_M_token 3 2 none false) (xx_z2 (fun s : (Int32 × HP) => s.2) xz_v) (fun K => xx_L2 (fun s : (Int32 × HP) => xx_X K 78 [(0, av_R 11 (some v0)), (2, av_I s.1)] [] (s.2)) (xL_v K)) 78 [(0, av_R 11 (some v0)), (2, av_I v2)] [] h (f_M_token_78b v0 v2 h) := by
  unfold f_M_token_78b
  refine xs_step (fun K HC => xr_aload_n HC.1 42 79 (n := 0) (ix := 0) (j := 0) (c := 11) (x := v0) rfl rfl rfl rfl) ?_
  refine xs_step (fun K HC => xr_iload_n HC.1 43 80 (n := 2) (ix := 2) (j := 1) (x := v2) rfl rfl rfl rfl) ?_
  refine xs_calli (s_M_here v0 v2 h) (fun K HC x9 hM hmo hb => xr_callV HC.1 44 83 (av := [av_I v2]) (st := []) (hM (kg K) (cx_l (kx K))) hmo hb rfl rfl wm_M_200 wi_M_here ws_M_here wc_M_here rfl wh_M_here (by decide) (by decide) (by decide) (Nat.le_of_ble_eq_true rfl) rfl) (fun x_21 => ?_)
  refine xs_calli (s_M_isLetter x_21.1 x_21.2) (fun K HC x9 hM hmo hb => xr_callS HC.1 45 86 (av := [av_I x_21.1]) (st := []) (hM (kg K) (cx_l (kx K))) hmo hb rfl rfl wm_M_217 wt_M_isLetter wn_M_isLetter wc_M_isLetter wh_M_isLetter (by decide) (by decide) (Nat.le_of_ble_eq_true rfl) rfl) (fun x_22 => ?_)
  refine xs_ite (fun K HC => xr_if_eq HC.1 46 119 89 rfl (by decide) rfl) ?_ ?_
  · exact xs_map (fun _ => rfl) (fun _ _ q => q) (t_M_token_119 v0 v2 x_22.2)
  refine xs_step (fun K HC => xr_iload_n HC.1 47 90 (n := 2) (ix := 2) (j := 1) (x := v2) rfl rfl rfl rfl) ?_
  refine xs_step (fun K HC => xr_bipush HC.1 48 92 (n := (8)) (8 : Int32) rfl rfl rfl) ?_
  refine xs_ite (fun K HC => xr_icmp_ge HC.1 49 113 95 rfl (by decide) rfl) ?_ ?_
  · exact t_M_token_113 v0 v2 x_22.2
  refine xs_step (fun K HC => xr_aload_n HC.1 50 96 (n := 0) (ix := 0) (j := 0) (c := 11) (x := v0) rfl rfl rfl rfl) ?_
  refine xs_step (fun K HC => xr_aload_n HC.1 51 97 (n := 0) (ix := 0) (j := 0) (c := 11) (x := v0) rfl rfl rfl rfl) ?_
  refine xs_step (fun K HC => xr_getl HC.1 52 100 11 9 rfl rfl wf_M_207 (by decide) fb_11_9 fc_11_9) ?_
  refine xs_step (fun K HC => xr_bipush HC.1 53 102 (n := (8)) (8 : Int32) rfl rfl rfl) ?_
  refine xs_step (fun K HC => xr_lshl HC.1 54 103 rfl rfl) ?_
  refine xs_step (fun K HC => xr_aload_n HC.1 55 104 (n := 0) (ix := 0) (j := 0) (c := 11) (x := v0) rfl rfl rfl rfl) ?_
  refine xs_step (fun K HC => xr_iload_n HC.1 56 105 (n := 2) (ix := 2) (j := 1) (x := v2) rfl rfl rfl rfl) ?_
  refine xs_calli (s_M_here v0 v2 x_22.2) (fun K HC x9 hM hmo hb => xr_callV HC.1 57 108 (av := [av_I v2]) (st := [av_L ((hp_l x_22.2 v0 9) <<< (((8 : Int32)).toInt64 &&& 63)), av_R 11 (some v0)]) (hM (kg K) (cx_l (kx K))) hmo hb rfl rfl wm_M_200 wi_M_here ws_M_here wc_M_here rfl wh_M_here (by decide) (by decide) (by decide) (Nat.le_of_ble_eq_true rfl) rfl) (fun x_25 => ?_)
  refine xs_step (fun K HC => xr_i2l HC.1 58 109 rfl rfl) ?_
  refine xs_step (fun K HC => xr_lor HC.1 59 110 rfl rfl) ?_
  refine xs_heap (hp_mo_sl _ _ _ _) (fun K HC => xr_putl HC.1 60 113 11 9 rfl rfl wf_M_207 (by decide) fb_11_9 fn_11_9 fy_11_9) (fun h_26 => ?_)
  exact t_M_token_113 v0 v2 h_26
theorem t_M_token_78 (v0 : Nat) (v2 : Int32) (h : HP) : xx_S (xx_D "LampYardModel" tb_M_token 3 2 none false) xz_v (fun K => xL_v K) 78 [(0, av_R 11 (some v0)), (2, av_I v2)] [] h (f_M_token_78 v0 v2 h) :=
  xs_loop (zf := xz_v) (L := (fun K => xL_v K)) (fun s : (Int32 × HP) => [(0, av_R 11 (some v0)), (2, av_I s.1)]) (fun s : (Int32 × HP) => s.2) (fun s => t_M_token_78b v0 s.1 s.2) (v2, h)
set_option maxHeartbeats 4000000 in
set_option maxRecDepth 100000 in
theorem t_M_token_33 (v0 : Nat) (h : HP) : xx_S (xx_D "LampYardModel" tb_M_token 3 2 none false) xz_v (fun K => xL_v K) 33 [(0, av_R 11 (some v0))] [] h (f_M_token_33 v0 h) := by
  unfold f_M_token_33
  refine xs_step (fun K HC => xr_aload_n HC.1 17 34 (n := 0) (ix := 0) (j := 0) (c := 11) (x := v0) rfl rfl rfl rfl) ?_
  refine xs_step (fun K HC => xr_aload_n HC.1 18 35 (n := 0) (ix := 0) (j := 0) (c := 11) (x := v0) rfl rfl rfl rfl) ?_
  refine xs_step (fun K HC => xr_geti HC.1 19 38 11 4 rfl rfl wf_M_194 (by decide) fb_11_4 fc_11_4) ?_
  refine xs_heap (hp_mo_si _ _ _ _) (fun K HC => xr_puti HC.1 20 41 11 7 rfl rfl wf_M_204 (by decide) fb_11_7 fn_11_7 fy_11_7) (fun h_4 => ?_)
  refine xs_step (fun K HC => xr_aload_n HC.1 21 42 (n := 0) (ix := 0) (j := 0) (c := 11) (x := v0) rfl rfl rfl rfl) ?_
  refine xs_step (fun K HC => xr_iconst HC.1 22 43 (n := (0)) (0 : Int32) rfl rfl rfl) ?_
  refine xs_calli (s_M_here v0 (0 : Int32) h_4) (fun K HC x9 hM hmo hb => xr_callV HC.1 23 46 (av := [av_I (0 : Int32)]) (st := []) (hM (kg K) (cx_l (kx K))) hmo hb rfl rfl wm_M_200 wi_M_here ws_M_here wc_M_here rfl wh_M_here (by decide) (by decide) (by decide) (Nat.le_of_ble_eq_true rfl) rfl) (fun x_5 => ?_)
  refine xs_step (fun K HC => xr_istore_n HC.1 24 47 (n := 1) (ix := 1) (lv' := [(0, av_R 11 (some v0)), (1, av_I x_5.1)]) rfl rfl rfl (by decide) rfl) ?_
  refine xs_step (fun K HC => xr_iconst HC.1 25 48 (n := (0)) (0 : Int32) rfl rfl rfl) ?_
  refine xs_step (fun K HC => xr_istore_n HC.1 26 49 (n := 2) (ix := 2) (lv' := [(0, av_R 11 (some v0)), (1, av_I x_5.1), (2, av_I (0 : Int32))]) rfl rfl rfl (by decide) rfl) ?_
  refine xs_step (fun K HC => xr_aload_n HC.1 27 50 (n := 0) (ix := 0) (j := 0) (c := 11) (x := v0) rfl rfl rfl rfl) ?_
  refine xs_step (fun K HC => xr_lconst HC.1 28 51 (n := 0) (0 : Int64) rfl rfl rfl) ?_
  refine xs_heap (hp_mo_sl _ _ _ _) (fun K HC => xr_putl HC.1 29 54 11 9 rfl rfl wf_M_207 (by decide) fb_11_9 fn_11_9 fy_11_9) (fun h_6 => ?_)
  refine xs_step (fun K HC => xr_aload_n HC.1 30 55 (n := 0) (ix := 0) (j := 0) (c := 11) (x := v0) rfl rfl rfl rfl) ?_
  refine xs_step (fun K HC => xr_iconst HC.1 31 56 (n := (0)) (0 : Int32) rfl rfl rfl) ?_
  refine xs_heap (hp_mo_si _ _ _ _) (fun K HC => xr_puti HC.1 32 59 11 8 rfl rfl wf_M_211 (by decide) fb_11_8 fn_11_8 fy_11_8) (fun h_7 => ?_)
  refine xs_step (fun K HC => xr_iload_n HC.1 33 60 (n := 1) (ix := 1) (j := 1) (x := x_5.1) rfl rfl rfl rfl) ?_
  refine xs_ite (fun K HC => xr_if_ge HC.1 34 71 63 rfl (by decide) rfl) ?_ ?_
  · refine xs_step (fun K HC => xr_iload_n HC.1 39 72 (n := 1) (ix := 1) (j := 1) (x := x_5.1) rfl rfl rfl rfl) ?_
    refine xs_calli (s_M_isLetter x_5.1 h_7) (fun K HC x9 hM hmo hb => xr_callS HC.1 40 75 (av := [av_I x_5.1]) (st := []) (hM (kg K) (cx_l (kx K))) hmo hb rfl rfl wm_M_217 wt_M_isLetter wn_M_isLetter wc_M_isLetter wh_M_isLetter (by decide) (by decide) (Nat.le_of_ble_eq_true rfl) rfl) (fun x_8 => ?_)
    refine xs_ite (fun K HC => xr_if_eq HC.1 41 137 78 rfl (by decide) rfl) ?_ ?_
    · refine xs_step (fun K HC => xr_iload_n HC.1 72 138 (n := 1) (ix := 1) (j := 1) (x := x_5.1) rfl rfl rfl rfl) ?_
      refine xs_calli (s_M_isDigit x_5.1 x_8.2) (fun K HC x9 hM hmo hb => xr_callS HC.1 73 141 (av := [av_I x_5.1]) (st := []) (hM (kg K) (cx_l (kx K))) hmo hb rfl rfl wm_M_221 wt_M_isDigit wn_M_isDigit wc_M_isDigit wh_M_isDigit (by decide) (by decide) (Nat.le_of_ble_eq_true rfl) rfl) (fun x_9 => ?_)
      refine xs_ite (fun K HC => xr_if_eq HC.1 74 214 144 rfl (by decide) rfl) ?_ ?_
      · refine xs_step (fun K HC => xr_iconst HC.1 111 215 (n := (1)) (1 : Int32) rfl rfl rfl) ?_
        refine xs_step (fun K HC => xr_istore_n HC.1 112 216 (n := 2) (ix := 2) (lv' := [(0, av_R 11 (some v0)), (1, av_I x_5.1), (2, av_I (1 : Int32))]) rfl rfl rfl (by decide) rfl) ?_
        refine xs_step (fun K HC => xr_aload_n HC.1 113 217 (n := 0) (ix := 0) (j := 0) (c := 11) (x := v0) rfl rfl rfl rfl) ?_
        refine xs_step (fun K HC => xr_iload_n HC.1 114 218 (n := 1) (ix := 1) (j := 1) (x := x_5.1) rfl rfl rfl rfl) ?_
        refine xs_calli (s_M_isSign x_5.1 x_9.2) (fun K HC x9 hM hmo hb => xr_callS HC.1 115 221 (av := [av_I x_5.1]) (st := [av_R 11 (some v0)]) (hM (kg K) (cx_l (kx K))) hmo hb rfl rfl wm_M_224 wt_M_isSign wn_M_isSign wc_M_isSign wh_M_isSign (by decide) (by decide) (Nat.le_of_ble_eq_true rfl) rfl) (fun x_10 => ?_)
        refine xs_ite (fun K HC => xr_if_eq HC.1 116 228 224 rfl (by decide) rfl) ?_ ?_
        · refine xs_step (fun K HC => xr_iconst HC.1 119 229 (n := (3)) (3 : Int32) rfl rfl rfl) ?_
          refine xs_step (fun K HC => xr_sub (lv' := [(0, av_R 11 (some v0)), (2, av_I (1 : Int32))]) [0, 2] rfl) ?_
          exact t_M_token_229 v0 (1 : Int32) (3 : Int32) v0 x_10.2
        refine xs_step (fun K HC => xr_iload_n HC.1 117 225 (n := 1) (ix := 1) (j := 1) (x := x_5.1) rfl rfl rfl rfl) ?_
        refine xs_step (fun K HC => xr_goto HC.1 118 229 rfl (by decide)) ?_
        refine xs_step (fun K HC => xr_sub (lv' := [(0, av_R 11 (some v0)), (2, av_I (1 : Int32))]) [0, 2] rfl) ?_
        exact t_M_token_229 v0 (1 : Int32) x_5.1 v0 x_10.2
      refine xs_step (fun K HC => xr_sub (lv' := [(0, av_R 11 (some v0)), (2, av_I (0 : Int32))]) [0, 2] rfl) ?_
      exact t_M_token_144 v0 (0 : Int32) x_9.2
    refine xs_step (fun K HC => xr_sub (lv' := [(0, av_R 11 (some v0)), (2, av_I (0 : Int32))]) [0, 2] rfl) ?_
    exact t_M_token_78 v0 (0 : Int32) x_8.2
  refine xs_step (fun K HC => xr_aload_n HC.1 35 64 (n := 0) (ix := 0) (j := 0) (c := 11) (x := v0) rfl rfl rfl rfl) ?_
  refine xs_step (fun K HC => xr_iconst HC.1 36 65 (n := (0)) (0 : Int32) rfl rfl rfl) ?_
  refine xs_heap (hp_mo_si _ _ _ _) (fun K HC => xr_puti HC.1 37 68 11 6 rfl rfl wf_M_214 (by decide) fb_11_6 fn_11_6 fy_11_6) (fun h_27 => ?_)
  refine xs_step (fun K HC => xr_goto HC.1 38 232 rfl (by decide)) ?_
  refine xs_step (fun K HC => xr_sub (lv' := [(0, av_R 11 (some v0)), (2, av_I (0 : Int32))]) [0, 2] rfl) ?_
  exact t_M_token_232 v0 (0 : Int32) h_27
set_option maxHeartbeats 4000000 in
set_option maxRecDepth 100000 in
theorem t_M_tokenb (v0 : Nat) (h : HP) : xx_S (xx_D "LampYardModel" tb_M_token 3 2 none false) (xx_z2 (fun s : (HP) => s) xz_v) (fun K => xx_L2 (fun s : (HP) => xx_X K 0 [(0, av_R 11 (some v0))] [] (s)) (xL_v K)) 0 [(0, av_R 11 (some v0))] [] h (f_M_tokenb v0 h) := by
  unfold f_M_tokenb
  refine xs_step (fun K HC => xr_aload_n HC.1 0 1 (n := 0) (ix := 0) (j := 0) (c := 11) (x := v0) rfl rfl rfl rfl) ?_
  refine xs_step (fun K HC => xr_iconst HC.1 1 2 (n := (0)) (0 : Int32) rfl rfl rfl) ?_
  refine xs_calli (s_M_here v0 (0 : Int32) h) (fun K HC x9 hM hmo hb => xr_callV HC.1 2 5 (av := [av_I (0 : Int32)]) (st := []) (hM (kg K) (cx_l (kx K))) hmo hb rfl rfl wm_M_200 wi_M_here ws_M_here wc_M_here rfl wh_M_here (by decide) (by decide) (by decide) (Nat.le_of_ble_eq_true rfl) rfl) (fun x_1 => ?_)
  refine xs_step (fun K HC => xr_bipush HC.1 3 7 (n := (32)) (32 : Int32) rfl rfl rfl) ?_
  refine xs_ite (fun K HC => xr_icmp_eq HC.1 4 20 10 rfl (by decide) rfl) ?_ ?_
  · exact t_M_token_20 v0 x_1.2
  refine xs_step (fun K HC => xr_aload_n HC.1 5 11 (n := 0) (ix := 0) (j := 0) (c := 11) (x := v0) rfl rfl rfl rfl) ?_
  refine xs_step (fun K HC => xr_iconst HC.1 6 12 (n := (0)) (0 : Int32) rfl rfl rfl) ?_
  refine xs_calli (s_M_here v0 (0 : Int32) x_1.2) (fun K HC x9 hM hmo hb => xr_callV HC.1 7 15 (av := [av_I (0 : Int32)]) (st := []) (hM (kg K) (cx_l (kx K))) hmo hb rfl rfl wm_M_200 wi_M_here ws_M_here wc_M_here rfl wh_M_here (by decide) (by decide) (by decide) (Nat.le_of_ble_eq_true rfl) rfl) (fun x_3 => ?_)
  refine xs_step (fun K HC => xr_bipush HC.1 8 17 (n := (10)) (10 : Int32) rfl rfl rfl) ?_
  refine xs_ite (fun K HC a b => xr_icmp_ne HC.1 9 33 20 rfl (by decide) rfl b a) ?_ ?_
  · exact t_M_token_20 v0 x_3.2
  exact xs_map (fun _ => rfl) (fun _ _ q => q) (t_M_token_33 v0 x_3.2)
theorem t_M_token (v0 : Nat) (h : HP) : xx_S (xx_D "LampYardModel" tb_M_token 3 2 none false) xz_v (fun K => xL_v K) 0 [(0, av_R 11 (some v0))] [] h (f_M_token v0 h) :=
  xs_loop (zf := xz_v) (L := (fun K => xL_v K)) (fun s : (HP) => [(0, av_R 11 (some v0))]) (fun s : (HP) => s) (fun s => t_M_tokenb v0 s) h
theorem s_M_token (v0 : Nat) (h : HP) : ∀ x, f_M_token v0 h = some x → hp_mo h x ∧ ∀ g l, xx_M g l y_M_token prog_14_method_9_code 3 none 2 [av_R 11 (some v0)] h none x :=
  xM_v (tb := tb_M_token) (b := false) (by decide +kernel) dt_M_token trivial (Nat.le_of_ble_eq_true rfl) (fun hb => by cases hb) (t_M_token v0 h)
def tb_M_wrong : TBL := [(0, .aload_n 0, 1), (1, .getfield 227, 3), (4, .ifCond .le 4, 3), (7, .return_, 1), (8, .aload_n 0, 1), (9, .aload_n 0, 1), (10, .getfield 214, 3), (13, .iconst 3, 1), (14, .if_icmp .ne 7, 3), (17, .iconst 1, 1), (18, .goto 4, 3), (21, .iload_n 1, 1), (22, .putfield 227, 3), (25, .aload_n 0, 1), (26, .aload_n 0, 1), (27, .getfield 204, 3), (30, .putfield 13, 3), (33, .return_, 1)]
theorem dt_M_wrong : ∀ q ∈ tb_M_wrong, decode prog_14_method_10_code q.1 = .ok (q.2.1, q.2.2) := by decide +kernel
set_option maxHeartbeats 4000000 in
set_option maxRecDepth 100000 in
theorem t_M_wrong (v0 : Nat) (v1 : Int32) (h : HP) : xx_S (xx_D "LampYardModel" tb_M_wrong 2 1 none false) xz_v (fun K => xL_v K) 0 [(0, av_R 11 (some v0)), (1, av_I v1)] [] h (f_M_wrong v0 v1 h) := by
  unfold f_M_wrong
  refine xs_step (fun K HC => xr_aload_n HC.1 0 1 (n := 0) (ix := 0) (j := 0) (c := 11) (x := v0) rfl rfl rfl rfl) ?_
  refine xs_step (fun K HC => xr_geti HC.1 1 4 11 2 rfl rfl wf_M_227 (by decide) fb_11_2 fc_11_2) ?_
  refine xs_ite (fun K HC => xr_if_le HC.1 2 8 7 rfl (by decide) rfl) ?_ ?_
  · refine xs_step (fun K HC => xr_aload_n HC.1 4 9 (n := 0) (ix := 0) (j := 0) (c := 11) (x := v0) rfl rfl rfl rfl) ?_
    refine xs_step (fun K HC => xr_aload_n HC.1 5 10 (n := 0) (ix := 0) (j := 0) (c := 11) (x := v0) rfl rfl rfl rfl) ?_
    refine xs_step (fun K HC => xr_geti HC.1 6 13 11 6 rfl rfl wf_M_214 (by decide) fb_11_6 fc_11_6) ?_
    refine xs_step (fun K HC => xr_iconst HC.1 7 14 (n := (3)) (3 : Int32) rfl rfl rfl) ?_
    refine xs_ite (fun K HC a b => xr_icmp_ne HC.1 8 21 17 rfl (by decide) rfl b a) ?_ ?_
    · refine xs_step (fun K HC => xr_iconst HC.1 9 18 (n := (1)) (1 : Int32) rfl rfl rfl) ?_
      refine xs_step (fun K HC => xr_goto HC.1 10 22 rfl (by decide)) ?_
      refine xs_heap (hp_mo_si _ _ _ _) (fun K HC => xr_puti HC.1 12 25 11 2 rfl rfl wf_M_227 (by decide) fb_11_2 fn_11_2 fy_11_2) (fun h_1 => ?_)
      refine xs_step (fun K HC => xr_aload_n HC.1 13 26 (n := 0) (ix := 0) (j := 0) (c := 11) (x := v0) rfl rfl rfl rfl) ?_
      refine xs_step (fun K HC => xr_aload_n HC.1 14 27 (n := 0) (ix := 0) (j := 0) (c := 11) (x := v0) rfl rfl rfl rfl) ?_
      refine xs_step (fun K HC => xr_geti HC.1 15 30 11 7 rfl rfl wf_M_204 (by decide) fb_11_7 fc_11_7) ?_
      refine xs_heap (hp_mo_si _ _ _ _) (fun K HC => xr_puti HC.1 16 33 11 3 rfl rfl wf_M_13 (by decide) fb_11_3 fn_11_3 fy_11_3) (fun h_2 => ?_)
      exact xs_ret 17 rfl rfl (fun K q => q)
    refine xs_step (fun K HC => xr_iload_n HC.1 11 22 (n := 1) (ix := 1) (j := 1) (x := v1) rfl rfl rfl rfl) ?_
    refine xs_heap (hp_mo_si _ _ _ _) (fun K HC => xr_puti HC.1 12 25 11 2 rfl rfl wf_M_227 (by decide) fb_11_2 fn_11_2 fy_11_2) (fun h_3 => ?_)
    refine xs_step (fun K HC => xr_aload_n HC.1 13 26 (n := 0) (ix := 0) (j := 0) (c := 11) (x := v0) rfl rfl rfl rfl) ?_
    refine xs_step (fun K HC => xr_aload_n HC.1 14 27 (n := 0) (ix := 0) (j := 0) (c := 11) (x := v0) rfl rfl rfl rfl) ?_
    refine xs_step (fun K HC => xr_geti HC.1 15 30 11 7 rfl rfl wf_M_204 (by decide) fb_11_7 fc_11_7) ?_
    refine xs_heap (hp_mo_si _ _ _ _) (fun K HC => xr_puti HC.1 16 33 11 3 rfl rfl wf_M_13 (by decide) fb_11_3 fn_11_3 fy_11_3) (fun h_4 => ?_)
    exact xs_ret 17 rfl rfl (fun K q => q)
  exact xs_ret 3 rfl rfl (fun K q => q)
theorem s_M_wrong (v0 : Nat) (v1 : Int32) (h : HP) : ∀ x, f_M_wrong v0 v1 h = some x → hp_mo h x ∧ ∀ g l, xx_M g l y_M_wrong prog_14_method_10_code 2 none 1 [av_R 11 (some v0), av_I v1] h none x :=
  xM_v (tb := tb_M_wrong) (b := false) (by decide +kernel) dt_M_wrong trivial (Nat.le_of_ble_eq_true rfl) (fun hb => by cases hb) (t_M_wrong v0 v1 h)
def tb_M_isWord : TBL := [(0, .aload_n 0, 1), (1, .getfield 214, 3), (4, .iconst 1, 1), (5, .if_icmp .ne 16, 3), (8, .aload_n 0, 1), (9, .getfield 207, 3), (12, .lload_n 1, 1), (13, .lcmp, 1), (14, .ifCond .ne 7, 3), (17, .iconst 1, 1), (18, .goto 4, 3), (21, .iconst 0, 1), (22, .ireturn, 1)]
theorem dt_M_isWord : ∀ q ∈ tb_M_isWord, decode prog_14_method_11_code q.1 = .ok (q.2.1, q.2.2) := by decide +kernel
set_option maxHeartbeats 4000000 in
set_option maxRecDepth 100000 in
theorem t_M_isWord (v0 : Nat) (v1 : Int64) (h : HP) : xx_S (xx_D "LampYardModel" tb_M_isWord 3 1 (some .boolean) false) xz_i (fun K => xL_i K) 0 [(0, av_R 11 (some v0)), (1, av_L v1)] [] h (f_M_isWord v0 v1 h) := by
  unfold f_M_isWord
  refine xs_step (fun K HC => xr_aload_n HC.1 0 1 (n := 0) (ix := 0) (j := 0) (c := 11) (x := v0) rfl rfl rfl rfl) ?_
  refine xs_step (fun K HC => xr_geti HC.1 1 4 11 6 rfl rfl wf_M_214 (by decide) fb_11_6 fc_11_6) ?_
  refine xs_step (fun K HC => xr_iconst HC.1 2 5 (n := (1)) (1 : Int32) rfl rfl rfl) ?_
  refine xs_ite (fun K HC a b => xr_icmp_ne HC.1 3 21 8 rfl (by decide) rfl b a) ?_ ?_
  · refine xs_step (fun K HC => xr_aload_n HC.1 4 9 (n := 0) (ix := 0) (j := 0) (c := 11) (x := v0) rfl rfl rfl rfl) ?_
    refine xs_step (fun K HC => xr_getl HC.1 5 12 11 9 rfl rfl wf_M_207 (by decide) fb_11_9 fc_11_9) ?_
    refine xs_step (fun K HC => xr_lload_n HC.1 6 13 (n := 1) (ix := 1) (j := 1) (x := v1) rfl rfl rfl rfl) ?_
    refine xs_step (fun K HC => xr_lcmp HC.1 7 14 rfl rfl) ?_
    refine xs_ite (fun K HC a b => xr_if_ne HC.1 8 21 17 rfl (by decide) rfl b a) ?_ ?_
    · refine xs_step (fun K HC => xr_iconst HC.1 9 18 (n := (1)) (1 : Int32) rfl rfl rfl) ?_
      refine xs_step (fun K HC => xr_goto HC.1 10 22 rfl (by decide)) ?_
      exact xs_reti 12 rfl rfl (fun K q => q) (fun ty ht => by cases ht; rfl)
    refine xs_step (fun K HC => xr_iconst HC.1 11 22 (n := (0)) (0 : Int32) rfl rfl rfl) ?_
    exact xs_reti 12 rfl rfl (fun K q => q) (fun ty ht => by cases ht; rfl)
  refine xs_step (fun K HC => xr_iconst HC.1 11 22 (n := (0)) (0 : Int32) rfl rfl rfl) ?_
  exact xs_reti 12 rfl rfl (fun K q => q) (fun ty ht => by cases ht; rfl)
theorem s_M_isWord (v0 : Nat) (v1 : Int64) (h : HP) : ∀ x, f_M_isWord v0 v1 h = some x → hp_mo h x.2 ∧ ∀ g l, xx_M g l y_M_isWord prog_14_method_11_code 3 (some .boolean) 1 [av_R 11 (some v0), av_L v1] h (some (av_I x.1)) x.2 :=
  xM_i (tb := tb_M_isWord) (b := false) (by decide +kernel) dt_M_isWord (fun _ => trivial) (Nat.le_of_ble_eq_true rfl) (fun hb => by cases hb) (t_M_isWord v0 v1 h)
def tb_M_isName : TBL := [(0, .aload_n 0, 1), (1, .getfield 214, 3), (4, .iconst 1, 1), (5, .if_icmp .eq 5, 3), (8, .iconst 0, 1), (9, .ireturn, 1), (10, .aload_n 0, 1), (11, .getfield 207, 3), (14, .ldc2_w 230, 3), (17, .lcmp, 1), (18, .ifCond .eq 102, 3), (21, .aload_n 0, 1), (22, .getfield 207, 3), (25, .ldc2_w 232, 3), (28, .lcmp, 1), (29, .ifCond .eq 91, 3), (32, .aload_n 0, 1), (33, .getfield 207, 3), (36, .ldc2_w 234, 3), (39, .lcmp, 1), (40, .ifCond .eq 80, 3), (43, .aload_n 0, 1), (44, .getfield 207, 3), (47, .ldc2_w 236, 3), (50, .lcmp, 1), (51, .ifCond .eq 69, 3), (54, .aload_n 0, 1), (55, .getfield 207, 3), (58, .ldc2_w 238, 3), (61, .lcmp, 1), (62, .ifCond .eq 58, 3), (65, .aload_n 0, 1), (66, .getfield 207, 3), (69, .ldc2_w 240, 3), (72, .lcmp, 1), (73, .ifCond .eq 47, 3), (76, .aload_n 0, 1), (77, .getfield 207, 3), (80, .ldc2_w 242, 3), (83, .lcmp, 1), (84, .ifCond .eq 36, 3), (87, .aload_n 0, 1), (88, .getfield 207, 3), (91, .ldc2_w 244, 3), (94, .lcmp, 1), (95, .ifCond .eq 25, 3), (98, .aload_n 0, 1), (99, .getfield 207, 3), (102, .ldc2_w 246, 3), (105, .lcmp, 1), (106, .ifCond .eq 14, 3), (109, .aload_n 0, 1), (110, .getfield 207, 3), (113, .ldc2_w 248, 3), (116, .lcmp, 1), (117, .ifCond .ne 7, 3), (120, .iconst 1, 1), (121, .goto 4, 3), (124, .iconst 0, 1), (125, .istore_n 1, 1), (126, .iload_n 1, 1), (127, .ifCond .ne 117, 3), (130, .aload_n 0, 1), (131, .getfield 207, 3), (134, .ldc2_w 250, 3), (137, .lcmp, 1), (138, .ifCond .eq 106, 3), (141, .aload_n 0, 1), (142, .getfield 207, 3), (145, .ldc2_w 252, 3), (148, .lcmp, 1), (149, .ifCond .eq 95, 3), (152, .aload_n 0, 1), (153, .getfield 207, 3), (156, .ldc2_w 254, 3), (159, .lcmp, 1), (160, .ifCond .eq 84, 3), (163, .aload_n 0, 1), (164, .getfield 207, 3), (167, .ldc2_w 256, 3), (170, .lcmp, 1), (171, .ifCond .eq 73, 3), (174, .aload_n 0, 1), (175, .getfield 207, 3), (178, .ldc2_w 258, 3), (181, .lcmp, 1), (182, .ifCond .eq 62, 3), (185, .aload_n 0, 1), (186, .getfield 207, 3), (189, .ldc2_w 260, 3), (192, .lcmp, 1), (193, .ifCond .eq 51, 3), (196, .aload_n 0, 1), (197, .getfield 207, 3), (200, .ldc2_w 262, 3), (203, .lcmp, 1), (204, .ifCond .eq 40, 3), (207, .aload_n 0, 1), (208, .getfield 207, 3), (211, .ldc2_w 264, 3), (214, .lcmp, 1), (215, .ifCond .eq 29, 3), (218, .aload_n 0, 1), (219, .getfield 207, 3), (222, .ldc2_w 266, 3), (225, .lcmp, 1), (226, .ifCond .eq 18, 3), (229, .aload_n 0, 1), (230, .getfield 207, 3), (233, .ldc2_w 268, 3), (236, .lcmp, 1), (237, .ifCond .eq 7, 3), (240, .iconst 1, 1), (241, .goto 4, 3), (244, .iconst 0, 1), (245, .ireturn, 1)]
theorem dt_M_isName : ∀ q ∈ tb_M_isName, decode prog_14_method_12_code q.1 = .ok (q.2.1, q.2.2) := by decide +kernel
set_option maxHeartbeats 4000000 in
set_option maxRecDepth 100000 in
theorem t_M_isName_125 (v0 : Nat) (s0 : Int32) (h : HP) : xx_S (xx_D "LampYardModel" tb_M_isName 2 1 (some .boolean) false) xz_i (fun K => xL_i K) 125 [(0, av_R 11 (some v0))] [av_I s0] h (f_M_isName_125 v0 s0 h) := by
  unfold f_M_isName_125
  refine xs_step (fun K HC => xr_istore_n HC.1 59 126 (n := 1) (ix := 1) (lv' := [(0, av_R 11 (some v0)), (1, av_I s0)]) rfl rfl rfl (by decide) rfl) ?_
  refine xs_step (fun K HC => xr_iload_n HC.1 60 127 (n := 1) (ix := 1) (j := 1) (x := s0) rfl rfl rfl rfl) ?_
  refine xs_ite (fun K HC a b => xr_if_ne HC.1 61 244 130 rfl (by decide) rfl b a) ?_ ?_
  · refine xs_step (fun K HC => xr_aload_n HC.1 62 131 (n := 0) (ix := 0) (j := 0) (c := 11) (x := v0) rfl rfl rfl rfl) ?_
    refine xs_step (fun K HC => xr_getl HC.1 63 134 11 9 rfl rfl wf_M_207 (by decide) fb_11_9 fc_11_9) ?_
    refine xs_step (fun K HC => xr_ldc2 HC.1 64 137 wk_M_250 rfl rfl) ?_
    refine xs_step (fun K HC => xr_lcmp HC.1 65 138 rfl rfl) ?_
    refine xs_ite (fun K HC => xr_if_eq HC.1 66 244 141 rfl (by decide) rfl) ?_ ?_
    · refine xs_step (fun K HC => xr_iconst HC.1 114 245 (n := (0)) (0 : Int32) rfl rfl rfl) ?_
      exact xs_reti 115 rfl rfl (fun K q => q) (fun ty ht => by cases ht; rfl)
    refine xs_step (fun K HC => xr_aload_n HC.1 67 142 (n := 0) (ix := 0) (j := 0) (c := 11) (x := v0) rfl rfl rfl rfl) ?_
    refine xs_step (fun K HC => xr_getl HC.1 68 145 11 9 rfl rfl wf_M_207 (by decide) fb_11_9 fc_11_9) ?_
    refine xs_step (fun K HC => xr_ldc2 HC.1 69 148 wk_M_252 rfl rfl) ?_
    refine xs_step (fun K HC => xr_lcmp HC.1 70 149 rfl rfl) ?_
    refine xs_ite (fun K HC => xr_if_eq HC.1 71 244 152 rfl (by decide) rfl) ?_ ?_
    · refine xs_step (fun K HC => xr_iconst HC.1 114 245 (n := (0)) (0 : Int32) rfl rfl rfl) ?_
      exact xs_reti 115 rfl rfl (fun K q => q) (fun ty ht => by cases ht; rfl)
    refine xs_step (fun K HC => xr_aload_n HC.1 72 153 (n := 0) (ix := 0) (j := 0) (c := 11) (x := v0) rfl rfl rfl rfl) ?_
    refine xs_step (fun K HC => xr_getl HC.1 73 156 11 9 rfl rfl wf_M_207 (by decide) fb_11_9 fc_11_9) ?_
    refine xs_step (fun K HC => xr_ldc2 HC.1 74 159 wk_M_254 rfl rfl) ?_
    refine xs_step (fun K HC => xr_lcmp HC.1 75 160 rfl rfl) ?_
    refine xs_ite (fun K HC => xr_if_eq HC.1 76 244 163 rfl (by decide) rfl) ?_ ?_
    · refine xs_step (fun K HC => xr_iconst HC.1 114 245 (n := (0)) (0 : Int32) rfl rfl rfl) ?_
      exact xs_reti 115 rfl rfl (fun K q => q) (fun ty ht => by cases ht; rfl)
    refine xs_step (fun K HC => xr_aload_n HC.1 77 164 (n := 0) (ix := 0) (j := 0) (c := 11) (x := v0) rfl rfl rfl rfl) ?_
    refine xs_step (fun K HC => xr_getl HC.1 78 167 11 9 rfl rfl wf_M_207 (by decide) fb_11_9 fc_11_9) ?_
    refine xs_step (fun K HC => xr_ldc2 HC.1 79 170 wk_M_256 rfl rfl) ?_
    refine xs_step (fun K HC => xr_lcmp HC.1 80 171 rfl rfl) ?_
    refine xs_ite (fun K HC => xr_if_eq HC.1 81 244 174 rfl (by decide) rfl) ?_ ?_
    · refine xs_step (fun K HC => xr_iconst HC.1 114 245 (n := (0)) (0 : Int32) rfl rfl rfl) ?_
      exact xs_reti 115 rfl rfl (fun K q => q) (fun ty ht => by cases ht; rfl)
    refine xs_step (fun K HC => xr_aload_n HC.1 82 175 (n := 0) (ix := 0) (j := 0) (c := 11) (x := v0) rfl rfl rfl rfl) ?_
    refine xs_step (fun K HC => xr_getl HC.1 83 178 11 9 rfl rfl wf_M_207 (by decide) fb_11_9 fc_11_9) ?_
    refine xs_step (fun K HC => xr_ldc2 HC.1 84 181 wk_M_258 rfl rfl) ?_
    refine xs_step (fun K HC => xr_lcmp HC.1 85 182 rfl rfl) ?_
    refine xs_ite (fun K HC => xr_if_eq HC.1 86 244 185 rfl (by decide) rfl) ?_ ?_
    · refine xs_step (fun K HC => xr_iconst HC.1 114 245 (n := (0)) (0 : Int32) rfl rfl rfl) ?_
      exact xs_reti 115 rfl rfl (fun K q => q) (fun ty ht => by cases ht; rfl)
    refine xs_step (fun K HC => xr_aload_n HC.1 87 186 (n := 0) (ix := 0) (j := 0) (c := 11) (x := v0) rfl rfl rfl rfl) ?_
    refine xs_step (fun K HC => xr_getl HC.1 88 189 11 9 rfl rfl wf_M_207 (by decide) fb_11_9 fc_11_9) ?_
    refine xs_step (fun K HC => xr_ldc2 HC.1 89 192 wk_M_260 rfl rfl) ?_
    refine xs_step (fun K HC => xr_lcmp HC.1 90 193 rfl rfl) ?_
    refine xs_ite (fun K HC => xr_if_eq HC.1 91 244 196 rfl (by decide) rfl) ?_ ?_
    · refine xs_step (fun K HC => xr_iconst HC.1 114 245 (n := (0)) (0 : Int32) rfl rfl rfl) ?_
      exact xs_reti 115 rfl rfl (fun K q => q) (fun ty ht => by cases ht; rfl)
    refine xs_step (fun K HC => xr_aload_n HC.1 92 197 (n := 0) (ix := 0) (j := 0) (c := 11) (x := v0) rfl rfl rfl rfl) ?_
    refine xs_step (fun K HC => xr_getl HC.1 93 200 11 9 rfl rfl wf_M_207 (by decide) fb_11_9 fc_11_9) ?_
    refine xs_step (fun K HC => xr_ldc2 HC.1 94 203 wk_M_262 rfl rfl) ?_
    refine xs_step (fun K HC => xr_lcmp HC.1 95 204 rfl rfl) ?_
    refine xs_ite (fun K HC => xr_if_eq HC.1 96 244 207 rfl (by decide) rfl) ?_ ?_
    · refine xs_step (fun K HC => xr_iconst HC.1 114 245 (n := (0)) (0 : Int32) rfl rfl rfl) ?_
      exact xs_reti 115 rfl rfl (fun K q => q) (fun ty ht => by cases ht; rfl)
    refine xs_step (fun K HC => xr_aload_n HC.1 97 208 (n := 0) (ix := 0) (j := 0) (c := 11) (x := v0) rfl rfl rfl rfl) ?_
    refine xs_step (fun K HC => xr_getl HC.1 98 211 11 9 rfl rfl wf_M_207 (by decide) fb_11_9 fc_11_9) ?_
    refine xs_step (fun K HC => xr_ldc2 HC.1 99 214 wk_M_264 rfl rfl) ?_
    refine xs_step (fun K HC => xr_lcmp HC.1 100 215 rfl rfl) ?_
    refine xs_ite (fun K HC => xr_if_eq HC.1 101 244 218 rfl (by decide) rfl) ?_ ?_
    · refine xs_step (fun K HC => xr_iconst HC.1 114 245 (n := (0)) (0 : Int32) rfl rfl rfl) ?_
      exact xs_reti 115 rfl rfl (fun K q => q) (fun ty ht => by cases ht; rfl)
    refine xs_step (fun K HC => xr_aload_n HC.1 102 219 (n := 0) (ix := 0) (j := 0) (c := 11) (x := v0) rfl rfl rfl rfl) ?_
    refine xs_step (fun K HC => xr_getl HC.1 103 222 11 9 rfl rfl wf_M_207 (by decide) fb_11_9 fc_11_9) ?_
    refine xs_step (fun K HC => xr_ldc2 HC.1 104 225 wk_M_266 rfl rfl) ?_
    refine xs_step (fun K HC => xr_lcmp HC.1 105 226 rfl rfl) ?_
    refine xs_ite (fun K HC => xr_if_eq HC.1 106 244 229 rfl (by decide) rfl) ?_ ?_
    · refine xs_step (fun K HC => xr_iconst HC.1 114 245 (n := (0)) (0 : Int32) rfl rfl rfl) ?_
      exact xs_reti 115 rfl rfl (fun K q => q) (fun ty ht => by cases ht; rfl)
    refine xs_step (fun K HC => xr_aload_n HC.1 107 230 (n := 0) (ix := 0) (j := 0) (c := 11) (x := v0) rfl rfl rfl rfl) ?_
    refine xs_step (fun K HC => xr_getl HC.1 108 233 11 9 rfl rfl wf_M_207 (by decide) fb_11_9 fc_11_9) ?_
    refine xs_step (fun K HC => xr_ldc2 HC.1 109 236 wk_M_268 rfl rfl) ?_
    refine xs_step (fun K HC => xr_lcmp HC.1 110 237 rfl rfl) ?_
    refine xs_ite (fun K HC => xr_if_eq HC.1 111 244 240 rfl (by decide) rfl) ?_ ?_
    · refine xs_step (fun K HC => xr_iconst HC.1 114 245 (n := (0)) (0 : Int32) rfl rfl rfl) ?_
      exact xs_reti 115 rfl rfl (fun K q => q) (fun ty ht => by cases ht; rfl)
    refine xs_step (fun K HC => xr_iconst HC.1 112 241 (n := (1)) (1 : Int32) rfl rfl rfl) ?_
    refine xs_step (fun K HC => xr_goto HC.1 113 245 rfl (by decide)) ?_
    exact xs_reti 115 rfl rfl (fun K q => q) (fun ty ht => by cases ht; rfl)
  refine xs_step (fun K HC => xr_iconst HC.1 114 245 (n := (0)) (0 : Int32) rfl rfl rfl) ?_
  exact xs_reti 115 rfl rfl (fun K q => q) (fun ty ht => by cases ht; rfl)
set_option maxHeartbeats 4000000 in
set_option maxRecDepth 100000 in
theorem t_M_isName_120 (v0 : Nat) (h : HP) : xx_S (xx_D "LampYardModel" tb_M_isName 2 1 (some .boolean) false) xz_i (fun K => xL_i K) 120 [(0, av_R 11 (some v0))] [] h (f_M_isName_120 v0 h) := by
  unfold f_M_isName_120
  refine xs_step (fun K HC => xr_iconst HC.1 56 121 (n := (1)) (1 : Int32) rfl rfl rfl) ?_
  refine xs_step (fun K HC => xr_goto HC.1 57 125 rfl (by decide)) ?_
  exact t_M_isName_125 v0 (1 : Int32) h
set_option maxHeartbeats 4000000 in
set_option maxRecDepth 100000 in
theorem t_M_isName (v0 : Nat) (h : HP) : xx_S (xx_D "LampYardModel" tb_M_isName 2 1 (some .boolean) false) xz_i (fun K => xL_i K) 0 [(0, av_R 11 (some v0))] [] h (f_M_isName v0 h) := by
  unfold f_M_isName
  refine xs_step (fun K HC => xr_aload_n HC.1 0 1 (n := 0) (ix := 0) (j := 0) (c := 11) (x := v0) rfl rfl rfl rfl) ?_
  refine xs_step (fun K HC => xr_geti HC.1 1 4 11 6 rfl rfl wf_M_214 (by decide) fb_11_6 fc_11_6) ?_
  refine xs_step (fun K HC => xr_iconst HC.1 2 5 (n := (1)) (1 : Int32) rfl rfl rfl) ?_
  refine xs_ite (fun K HC => xr_icmp_eq HC.1 3 10 8 rfl (by decide) rfl) ?_ ?_
  · refine xs_step (fun K HC => xr_aload_n HC.1 6 11 (n := 0) (ix := 0) (j := 0) (c := 11) (x := v0) rfl rfl rfl rfl) ?_
    refine xs_step (fun K HC => xr_getl HC.1 7 14 11 9 rfl rfl wf_M_207 (by decide) fb_11_9 fc_11_9) ?_
    refine xs_step (fun K HC => xr_ldc2 HC.1 8 17 wk_M_230 rfl rfl) ?_
    refine xs_step (fun K HC => xr_lcmp HC.1 9 18 rfl rfl) ?_
    refine xs_ite (fun K HC => xr_if_eq HC.1 10 120 21 rfl (by decide) rfl) ?_ ?_
    · exact t_M_isName_120 v0 h
    refine xs_step (fun K HC => xr_aload_n HC.1 11 22 (n := 0) (ix := 0) (j := 0) (c := 11) (x := v0) rfl rfl rfl rfl) ?_
    refine xs_step (fun K HC => xr_getl HC.1 12 25 11 9 rfl rfl wf_M_207 (by decide) fb_11_9 fc_11_9) ?_
    refine xs_step (fun K HC => xr_ldc2 HC.1 13 28 wk_M_232 rfl rfl) ?_
    refine xs_step (fun K HC => xr_lcmp HC.1 14 29 rfl rfl) ?_
    refine xs_ite (fun K HC => xr_if_eq HC.1 15 120 32 rfl (by decide) rfl) ?_ ?_
    · exact t_M_isName_120 v0 h
    refine xs_step (fun K HC => xr_aload_n HC.1 16 33 (n := 0) (ix := 0) (j := 0) (c := 11) (x := v0) rfl rfl rfl rfl) ?_
    refine xs_step (fun K HC => xr_getl HC.1 17 36 11 9 rfl rfl wf_M_207 (by decide) fb_11_9 fc_11_9) ?_
    refine xs_step (fun K HC => xr_ldc2 HC.1 18 39 wk_M_234 rfl rfl) ?_
    refine xs_step (fun K HC => xr_lcmp HC.1 19 40 rfl rfl) ?_
    refine xs_ite (fun K HC => xr_if_eq HC.1 20 120 43 rfl (by decide) rfl) ?_ ?_
    · exact t_M_isName_120 v0 h
    refine xs_step (fun K HC => xr_aload_n HC.1 21 44 (n := 0) (ix := 0) (j := 0) (c := 11) (x := v0) rfl rfl rfl rfl) ?_
    refine xs_step (fun K HC => xr_getl HC.1 22 47 11 9 rfl rfl wf_M_207 (by decide) fb_11_9 fc_11_9) ?_
    refine xs_step (fun K HC => xr_ldc2 HC.1 23 50 wk_M_236 rfl rfl) ?_
    refine xs_step (fun K HC => xr_lcmp HC.1 24 51 rfl rfl) ?_
    refine xs_ite (fun K HC => xr_if_eq HC.1 25 120 54 rfl (by decide) rfl) ?_ ?_
    · exact t_M_isName_120 v0 h
    refine xs_step (fun K HC => xr_aload_n HC.1 26 55 (n := 0) (ix := 0) (j := 0) (c := 11) (x := v0) rfl rfl rfl rfl) ?_
    refine xs_step (fun K HC => xr_getl HC.1 27 58 11 9 rfl rfl wf_M_207 (by decide) fb_11_9 fc_11_9) ?_
    refine xs_step (fun K HC => xr_ldc2 HC.1 28 61 wk_M_238 rfl rfl) ?_
    refine xs_step (fun K HC => xr_lcmp HC.1 29 62 rfl rfl) ?_
    refine xs_ite (fun K HC => xr_if_eq HC.1 30 120 65 rfl (by decide) rfl) ?_ ?_
    · exact t_M_isName_120 v0 h
    refine xs_step (fun K HC => xr_aload_n HC.1 31 66 (n := 0) (ix := 0) (j := 0) (c := 11) (x := v0) rfl rfl rfl rfl) ?_
    refine xs_step (fun K HC => xr_getl HC.1 32 69 11 9 rfl rfl wf_M_207 (by decide) fb_11_9 fc_11_9) ?_
    refine xs_step (fun K HC => xr_ldc2 HC.1 33 72 wk_M_240 rfl rfl) ?_
    refine xs_step (fun K HC => xr_lcmp HC.1 34 73 rfl rfl) ?_
    refine xs_ite (fun K HC => xr_if_eq HC.1 35 120 76 rfl (by decide) rfl) ?_ ?_
    · exact t_M_isName_120 v0 h
    refine xs_step (fun K HC => xr_aload_n HC.1 36 77 (n := 0) (ix := 0) (j := 0) (c := 11) (x := v0) rfl rfl rfl rfl) ?_
    refine xs_step (fun K HC => xr_getl HC.1 37 80 11 9 rfl rfl wf_M_207 (by decide) fb_11_9 fc_11_9) ?_
    refine xs_step (fun K HC => xr_ldc2 HC.1 38 83 wk_M_242 rfl rfl) ?_
    refine xs_step (fun K HC => xr_lcmp HC.1 39 84 rfl rfl) ?_
    refine xs_ite (fun K HC => xr_if_eq HC.1 40 120 87 rfl (by decide) rfl) ?_ ?_
    · exact t_M_isName_120 v0 h
    refine xs_step (fun K HC => xr_aload_n HC.1 41 88 (n := 0) (ix := 0) (j := 0) (c := 11) (x := v0) rfl rfl rfl rfl) ?_
    refine xs_step (fun K HC => xr_getl HC.1 42 91 11 9 rfl rfl wf_M_207 (by decide) fb_11_9 fc_11_9) ?_
    refine xs_step (fun K HC => xr_ldc2 HC.1 43 94 wk_M_244 rfl rfl) ?_
    refine xs_step (fun K HC => xr_lcmp HC.1 44 95 rfl rfl) ?_
    refine xs_ite (fun K HC => xr_if_eq HC.1 45 120 98 rfl (by decide) rfl) ?_ ?_
    · exact t_M_isName_120 v0 h
    refine xs_step (fun K HC => xr_aload_n HC.1 46 99 (n := 0) (ix := 0) (j := 0) (c := 11) (x := v0) rfl rfl rfl rfl) ?_
    refine xs_step (fun K HC => xr_getl HC.1 47 102 11 9 rfl rfl wf_M_207 (by decide) fb_11_9 fc_11_9) ?_
    refine xs_step (fun K HC => xr_ldc2 HC.1 48 105 wk_M_246 rfl rfl) ?_
    refine xs_step (fun K HC => xr_lcmp HC.1 49 106 rfl rfl) ?_
    refine xs_ite (fun K HC => xr_if_eq HC.1 50 120 109 rfl (by decide) rfl) ?_ ?_
    · exact t_M_isName_120 v0 h
    refine xs_step (fun K HC => xr_aload_n HC.1 51 110 (n := 0) (ix := 0) (j := 0) (c := 11) (x := v0) rfl rfl rfl rfl) ?_
    refine xs_step (fun K HC => xr_getl HC.1 52 113 11 9 rfl rfl wf_M_207 (by decide) fb_11_9 fc_11_9) ?_
    refine xs_step (fun K HC => xr_ldc2 HC.1 53 116 wk_M_248 rfl rfl) ?_
    refine xs_step (fun K HC => xr_lcmp HC.1 54 117 rfl rfl) ?_
    refine xs_ite (fun K HC a b => xr_if_ne HC.1 55 124 120 rfl (by decide) rfl b a) ?_ ?_
    · exact t_M_isName_120 v0 h
    refine xs_step (fun K HC => xr_iconst HC.1 58 125 (n := (0)) (0 : Int32) rfl rfl rfl) ?_
    exact t_M_isName_125 v0 (0 : Int32) h
  refine xs_step (fun K HC => xr_iconst HC.1 4 9 (n := (0)) (0 : Int32) rfl rfl rfl) ?_
  exact xs_reti 5 rfl rfl (fun K q => q) (fun ty ht => by cases ht; rfl)
theorem s_M_isName (v0 : Nat) (h : HP) : ∀ x, f_M_isName v0 h = some x → hp_mo h x.2 ∧ ∀ g l, xx_M g l y_M_isName prog_14_method_12_code 2 (some .boolean) 1 [av_R 11 (some v0)] h (some (av_I x.1)) x.2 :=
  xM_i (tb := tb_M_isName) (b := false) (by decide +kernel) dt_M_isName (fun _ => trivial) (Nat.le_of_ble_eq_true rfl) (fun hb => by cases hb) (t_M_isName v0 h)
def tb_M_want : TBL := [(0, .aload_n 0, 1), (1, .getfield 227, 3), (4, .ifCond .le 4, 3), (7, .return_, 1), (8, .aload_n 0, 1), (9, .lload_n 1, 1), (10, .invokevirtual 270, 3), (13, .ifCond .ne 11, 3), (16, .aload_n 0, 1), (17, .iconst 2, 1), (18, .invokevirtual 274, 3), (21, .goto 7, 3), (24, .aload_n 0, 1), (25, .invokevirtual 277, 3), (28, .return_, 1)]
theorem dt_M_want : ∀ q ∈ tb_M_want, decode prog_14_method_13_code q.1 = .ok (q.2.1, q.2.2) := by decide +kernel
set_option maxHeartbeats 4000000 in
set_option maxRecDepth 100000 in
theorem t_M_want (v0 : Nat) (v1 : Int64) (h : HP) : xx_S (xx_D "LampYardModel" tb_M_want 3 3 none false) xz_v (fun K => xL_v K) 0 [(0, av_R 11 (some v0)), (1, av_L v1)] [] h (f_M_want v0 v1 h) := by
  unfold f_M_want
  refine xs_step (fun K HC => xr_aload_n HC.1 0 1 (n := 0) (ix := 0) (j := 0) (c := 11) (x := v0) rfl rfl rfl rfl) ?_
  refine xs_step (fun K HC => xr_geti HC.1 1 4 11 2 rfl rfl wf_M_227 (by decide) fb_11_2 fc_11_2) ?_
  refine xs_ite (fun K HC => xr_if_le HC.1 2 8 7 rfl (by decide) rfl) ?_ ?_
  · refine xs_step (fun K HC => xr_aload_n HC.1 4 9 (n := 0) (ix := 0) (j := 0) (c := 11) (x := v0) rfl rfl rfl rfl) ?_
    refine xs_step (fun K HC => xr_lload_n HC.1 5 10 (n := 1) (ix := 1) (j := 1) (x := v1) rfl rfl rfl rfl) ?_
    refine xs_calli (s_M_isWord v0 v1 h) (fun K HC x9 hM hmo hb => xr_callV HC.1 6 13 (av := [av_L v1]) (st := []) (hM (kg K) (cx_l (kx K))) hmo hb rfl rfl wm_M_270 wi_M_isWord ws_M_isWord wc_M_isWord rfl wh_M_isWord (by decide) (by decide) (by decide) (Nat.le_of_ble_eq_true rfl) rfl) (fun x_1 => ?_)
    refine xs_ite (fun K HC a b => xr_if_ne HC.1 7 24 16 rfl (by decide) rfl b a) ?_ ?_
    · refine xs_step (fun K HC => xr_aload_n HC.1 8 17 (n := 0) (ix := 0) (j := 0) (c := 11) (x := v0) rfl rfl rfl rfl) ?_
      refine xs_step (fun K HC => xr_iconst HC.1 9 18 (n := (2)) (2 : Int32) rfl rfl rfl) ?_
      refine xs_callv (s_M_wrong v0 (2 : Int32) x_1.2) (fun K HC x9 hM hmo hb => xr_callV HC.1 10 21 (av := [av_I (2 : Int32)]) (st := []) (hM (kg K) (cx_l (kx K))) hmo hb rfl rfl wm_M_274 wi_M_wrong ws_M_wrong wc_M_wrong rfl wh_M_wrong (by decide) (by decide) (by decide) (Nat.le_of_ble_eq_true rfl) rfl) (fun x_2 => ?_)
      refine xs_step (fun K HC => xr_goto HC.1 11 28 rfl (by decide)) ?_
      exact xs_ret 14 rfl rfl (fun K q => q)
    refine xs_step (fun K HC => xr_aload_n HC.1 12 25 (n := 0) (ix := 0) (j := 0) (c := 11) (x := v0) rfl rfl rfl rfl) ?_
    refine xs_callv (s_M_token v0 x_1.2) (fun K HC x9 hM hmo hb => xr_callV HC.1 13 28 (av := []) (st := []) (hM (kg K) (cx_l (kx K))) hmo hb rfl rfl wm_M_277 wi_M_token ws_M_token wc_M_token rfl wh_M_token (by decide) (by decide) (by decide) (Nat.le_of_ble_eq_true rfl) rfl) (fun x_3 => ?_)
    exact xs_ret 14 rfl rfl (fun K q => q)
  exact xs_ret 3 rfl rfl (fun K q => q)
theorem s_M_want (v0 : Nat) (v1 : Int64) (h : HP) : ∀ x, f_M_want v0 v1 h = some x → hp_mo h x ∧ ∀ g l, xx_M g l y_M_want prog_14_method_13_code 3 none 3 [av_R 11 (some v0), av_L v1] h none x :=
  xM_v (tb := tb_M_want) (b := false) (by decide +kernel) dt_M_want trivial (Nat.le_of_ble_eq_true rfl) (fun hb => by cases hb) (t_M_want v0 v1 h)
def tb_M_toldNumber : TBL := [(0, .aload_n 0, 1), (1, .getfield 227, 3), (4, .ifCond .le 5, 3), (7, .iconst 0, 1), (8, .ireturn, 1), (9, .aload_n 0, 1), (10, .getfield 214, 3), (13, .iconst 2, 1), (14, .if_icmp .eq 11, 3), (17, .aload_n 0, 1), (18, .iconst 2, 1), (19, .invokevirtual 274, 3), (22, .goto 24, 3), (25, .aload_n 0, 1), (26, .getfield 211, 3), (29, .iload_n 1, 1), (30, .if_icmp .lt 11, 3), (33, .aload_n 0, 1), (34, .getfield 211, 3), (37, .iload_n 2, 1), (38, .if_icmp .le 8, 3), (41, .aload_n 0, 1), (42, .iconst 4, 1), (43, .invokevirtual 274, 3), (46, .aload_n 0, 1), (47, .getfield 211, 3), (50, .istore_n 3, 1), (51, .aload_n 0, 1), (52, .getfield 227, 3), (55, .ifCond .ne 7, 3), (58, .aload_n 0, 1), (59, .invokevirtual 277, 3), (62, .iload_n 3, 1), (63, .ireturn, 1)]
theorem dt_M_toldNumber : ∀ q ∈ tb_M_toldNumber, decode prog_14_method_14_code q.1 = .ok (q.2.1, q.2.2) := by decide +kernel
set_option maxHeartbeats 4000000 in
set_option maxRecDepth 100000 in
theorem t_M_toldNumber_46 (v0 : Nat) (h : HP) : xx_S (xx_D "LampYardModel" tb_M_toldNumber 4 3 (some .int) false) xz_i (fun K => xL_i K) 46 [(0, av_R 11 (some v0))] [] h (f_M_toldNumber_46 v0 h) := by
  unfold f_M_toldNumber_46
  refine xs_step (fun K HC => xr_aload_n HC.1 24 47 (n := 0) (ix := 0) (j := 0) (c := 11) (x := v0) rfl rfl rfl rfl) ?_
  refine xs_step (fun K HC => xr_geti HC.1 25 50 11 8 rfl rfl wf_M_211 (by decide) fb_11_8 fc_11_8) ?_
  refine xs_topi (fun v3_2 => ?_)
  refine xs_step (fun K HC => xr_istore_n HC.1 26 51 (n := 3) (ix := 3) (lv' := [(0, av_R 11 (some v0)), (3, av_I v3_2)]) rfl rfl rfl (by decide) rfl) ?_
  refine xs_step (fun K HC => xr_aload_n HC.1 27 52 (n := 0) (ix := 0) (j := 0) (c := 11) (x := v0) rfl rfl rfl rfl) ?_
  refine xs_step (fun K HC => xr_geti HC.1 28 55 11 2 rfl rfl wf_M_227 (by decide) fb_11_2 fc_11_2) ?_
  refine xs_ite (fun K HC a b => xr_if_ne HC.1 29 62 58 rfl (by decide) rfl b a) ?_ ?_
  · refine xs_step (fun K HC => xr_aload_n HC.1 30 59 (n := 0) (ix := 0) (j := 0) (c := 11) (x := v0) rfl rfl rfl rfl) ?_
    refine xs_callv (s_M_token v0 h) (fun K HC x9 hM hmo hb => xr_callV HC.1 31 62 (av := []) (st := []) (hM (kg K) (cx_l (kx K))) hmo hb rfl rfl wm_M_277 wi_M_token ws_M_token wc_M_token rfl wh_M_token (by decide) (by decide) (by decide) (Nat.le_of_ble_eq_true rfl) rfl) (fun x_3 => ?_)
    refine xs_step (fun K HC => xr_iload_n HC.1 32 63 (n := 3) (ix := 3) (j := 1) (x := v3_2) rfl rfl rfl rfl) ?_
    exact xs_reti 33 rfl rfl (fun K q => q) (fun ty ht => by cases ht; rfl)
  refine xs_step (fun K HC => xr_iload_n HC.1 32 63 (n := 3) (ix := 3) (j := 1) (x := v3_2) rfl rfl rfl rfl) ?_
  exact xs_reti 33 rfl rfl (fun K q => q) (fun ty ht => by cases ht; rfl)
set_option maxHeartbeats 4000000 in
set_option maxRecDepth 100000 in
theorem t_M_toldNumber_41 (v0 : Nat) (h : HP) : xx_S (xx_D "LampYardModel" tb_M_toldNumber 4 3 (some .int) false) xz_i (fun K => xL_i K) 41 [(0, av_R 11 (some v0))] [] h (f_M_toldNumber_41 v0 h) := by
  unfold f_M_toldNumber_41
  refine xs_step (fun K HC => xr_aload_n HC.1 21 42 (n := 0) (ix := 0) (j := 0) (c := 11) (x := v0) rfl rfl rfl rfl) ?_
  refine xs_step (fun K HC => xr_iconst HC.1 22 43 (n := (4)) (4 : Int32) rfl rfl rfl) ?_
  refine xs_callv (s_M_wrong v0 (4 : Int32) h) (fun K HC x9 hM hmo hb => xr_callV HC.1 23 46 (av := [av_I (4 : Int32)]) (st := []) (hM (kg K) (cx_l (kx K))) hmo hb rfl rfl wm_M_274 wi_M_wrong ws_M_wrong wc_M_wrong rfl wh_M_wrong (by decide) (by decide) (by decide) (Nat.le_of_ble_eq_true rfl) rfl) (fun x_1 => ?_)
  exact t_M_toldNumber_46 v0 x_1
set_option maxHeartbeats 4000000 in
set_option maxRecDepth 100000 in
theorem t_M_toldNumber (v0 : Nat) (v1 : Int32) (v2 : Int32) (h : HP) : xx_S (xx_D "LampYardModel" tb_M_toldNumber 4 3 (some .int) false) xz_i (fun K => xL_i K) 0 [(0, av_R 11 (some v0)), (1, av_I v1), (2, av_I v2)] [] h (f_M_toldNumber v0 v1 v2 h) := by
  unfold f_M_toldNumber
  refine xs_step (fun K HC => xr_aload_n HC.1 0 1 (n := 0) (ix := 0) (j := 0) (c := 11) (x := v0) rfl rfl rfl rfl) ?_
  refine xs_step (fun K HC => xr_geti HC.1 1 4 11 2 rfl rfl wf_M_227 (by decide) fb_11_2 fc_11_2) ?_
  refine xs_ite (fun K HC => xr_if_le HC.1 2 9 7 rfl (by decide) rfl) ?_ ?_
  · refine xs_step (fun K HC => xr_aload_n HC.1 5 10 (n := 0) (ix := 0) (j := 0) (c := 11) (x := v0) rfl rfl rfl rfl) ?_
    refine xs_step (fun K HC => xr_geti HC.1 6 13 11 6 rfl rfl wf_M_214 (by decide) fb_11_6 fc_11_6) ?_
    refine xs_step (fun K HC => xr_iconst HC.1 7 14 (n := (2)) (2 : Int32) rfl rfl rfl) ?_
    refine xs_ite (fun K HC => xr_icmp_eq HC.1 8 25 17 rfl (by decide) rfl) ?_ ?_
    · refine xs_step (fun K HC => xr_aload_n HC.1 13 26 (n := 0) (ix := 0) (j := 0) (c := 11) (x := v0) rfl rfl rfl rfl) ?_
      refine xs_step (fun K HC => xr_geti HC.1 14 29 11 8 rfl rfl wf_M_211 (by decide) fb_11_8 fc_11_8) ?_
      refine xs_step (fun K HC => xr_iload_n HC.1 15 30 (n := 1) (ix := 1) (j := 1) (x := v1) rfl rfl rfl rfl) ?_
      refine xs_ite (fun K HC => xr_icmp_lt HC.1 16 41 33 rfl (by decide) rfl) ?_ ?_
      · refine xs_step (fun K HC => xr_sub (lv' := [(0, av_R 11 (some v0))]) [0] rfl) ?_
        exact t_M_toldNumber_41 v0 h
      refine xs_step (fun K HC => xr_aload_n HC.1 17 34 (n := 0) (ix := 0) (j := 0) (c := 11) (x := v0) rfl rfl rfl rfl) ?_
      refine xs_step (fun K HC => xr_geti HC.1 18 37 11 8 rfl rfl wf_M_211 (by decide) fb_11_8 fc_11_8) ?_
      refine xs_step (fun K HC => xr_iload_n HC.1 19 38 (n := 2) (ix := 2) (j := 2) (x := v2) rfl rfl rfl rfl) ?_
      refine xs_ite (fun K HC => xr_icmp_le HC.1 20 46 41 rfl (by decide) rfl) ?_ ?_
      · refine xs_step (fun K HC => xr_sub (lv' := [(0, av_R 11 (some v0))]) [0] rfl) ?_
        exact t_M_toldNumber_46 v0 h
      refine xs_step (fun K HC => xr_sub (lv' := [(0, av_R 11 (some v0))]) [0] rfl) ?_
      exact t_M_toldNumber_41 v0 h
    refine xs_step (fun K HC => xr_aload_n HC.1 9 18 (n := 0) (ix := 0) (j := 0) (c := 11) (x := v0) rfl rfl rfl rfl) ?_
    refine xs_step (fun K HC => xr_iconst HC.1 10 19 (n := (2)) (2 : Int32) rfl rfl rfl) ?_
    refine xs_callv (s_M_wrong v0 (2 : Int32) h) (fun K HC x9 hM hmo hb => xr_callV HC.1 11 22 (av := [av_I (2 : Int32)]) (st := []) (hM (kg K) (cx_l (kx K))) hmo hb rfl rfl wm_M_274 wi_M_wrong ws_M_wrong wc_M_wrong rfl wh_M_wrong (by decide) (by decide) (by decide) (Nat.le_of_ble_eq_true rfl) rfl) (fun x_4 => ?_)
    refine xs_step (fun K HC => xr_goto HC.1 12 46 rfl (by decide)) ?_
    refine xs_step (fun K HC => xr_sub (lv' := [(0, av_R 11 (some v0))]) [0] rfl) ?_
    exact t_M_toldNumber_46 v0 x_4
  refine xs_step (fun K HC => xr_iconst HC.1 3 8 (n := (0)) (0 : Int32) rfl rfl rfl) ?_
  exact xs_reti 4 rfl rfl (fun K q => q) (fun ty ht => by cases ht; rfl)
theorem s_M_toldNumber (v0 : Nat) (v1 : Int32) (v2 : Int32) (h : HP) : ∀ x, f_M_toldNumber v0 v1 v2 h = some x → hp_mo h x.2 ∧ ∀ g l, xx_M g l y_M_toldNumber prog_14_method_14_code 4 (some .int) 3 [av_R 11 (some v0), av_I v1, av_I v2] h (some (av_I x.1)) x.2 :=
  xM_i (tb := tb_M_toldNumber) (b := false) (by decide +kernel) dt_M_toldNumber (fun _ => trivial) (Nat.le_of_ble_eq_true rfl) (fun hb => by cases hb) (t_M_toldNumber v0 v1 v2 h)
def tb_M_told : TBL := [(0, .aload_n 0, 1), (1, .lload_n 1, 1), (2, .invokevirtual 280, 3), (5, .aload_n 0, 1), (6, .iload_n 3, 1), (7, .iload 4, 2), (9, .invokevirtual 284, 3), (12, .ireturn, 1)]
theorem dt_M_told : ∀ q ∈ tb_M_told, decode prog_14_method_15_code q.1 = .ok (q.2.1, q.2.2) := by decide +kernel
set_option maxHeartbeats 4000000 in
set_option maxRecDepth 100000 in
theorem t_M_told (v0 : Nat) (v1 : Int64) (v3 : Int32) (v4 : Int32) (h : HP) : xx_S (xx_D "LampYardModel" tb_M_told 5 4 (some .int) false) xz_i (fun K => xL_i K) 0 [(0, av_R 11 (some v0)), (1, av_L v1), (3, av_I v3), (4, av_I v4)] [] h (f_M_told v0 v1 v3 v4 h) := by
  unfold f_M_told
  refine xs_step (fun K HC => xr_aload_n HC.1 0 1 (n := 0) (ix := 0) (j := 0) (c := 11) (x := v0) rfl rfl rfl rfl) ?_
  refine xs_step (fun K HC => xr_lload_n HC.1 1 2 (n := 1) (ix := 1) (j := 1) (x := v1) rfl rfl rfl rfl) ?_
  refine xs_callv (s_M_want v0 v1 h) (fun K HC x9 hM hmo hb => xr_callV HC.1 2 5 (av := [av_L v1]) (st := []) (hM (kg K) (cx_l (kx K))) hmo hb rfl rfl wm_M_280 wi_M_want ws_M_want wc_M_want rfl wh_M_want (by decide) (by decide) (by decide) (Nat.le_of_ble_eq_true rfl) rfl) (fun x_1 => ?_)
  refine xs_step (fun K HC => xr_aload_n HC.1 3 6 (n := 0) (ix := 0) (j := 0) (c := 11) (x := v0) rfl rfl rfl rfl) ?_
  refine xs_step (fun K HC => xr_iload_n HC.1 4 7 (n := 3) (ix := 3) (j := 2) (x := v3) rfl rfl rfl rfl) ?_
  refine xs_step (fun K HC => xr_iload HC.1 5 9 (ix := 4) (j := 3) (x := v4) rfl rfl rfl) ?_
  refine xs_calli (s_M_toldNumber v0 v3 v4 x_1) (fun K HC x9 hM hmo hb => xr_callV HC.1 6 12 (av := [av_I v3, av_I v4]) (st := []) (hM (kg K) (cx_l (kx K))) hmo hb rfl rfl wm_M_284 wi_M_toldNumber ws_M_toldNumber wc_M_toldNumber rfl wh_M_toldNumber (by decide) (by decide) (by decide) (Nat.le_of_ble_eq_true rfl) rfl) (fun x_2 => ?_)
  exact xs_reti 7 rfl rfl (fun K q => q) (fun ty ht => by cases ht; rfl)
theorem s_M_told (v0 : Nat) (v1 : Int64) (v3 : Int32) (v4 : Int32) (h : HP) : ∀ x, f_M_told v0 v1 v3 v4 h = some x → hp_mo h x.2 ∧ ∀ g l, xx_M g l y_M_told prog_14_method_15_code 5 (some .int) 4 [av_R 11 (some v0), av_L v1, av_I v3, av_I v4] h (some (av_I x.1)) x.2 :=
  xM_i (tb := tb_M_told) (b := false) (by decide +kernel) dt_M_told (fun _ => trivial) (Nat.le_of_ble_eq_true rfl) (fun hb => by cases hb) (t_M_told v0 v1 v3 v4 h)
def tb_M_note : TBL := [(0, .aload_n 0, 1), (1, .getfield 49, 3), (4, .aload_n 0, 1), (5, .getfield 288, 3), (8, .iload_n 1, 1), (9, .iastore, 1), (10, .aload_n 0, 1), (11, .getfield 52, 3), (14, .aload_n 0, 1), (15, .getfield 288, 3), (18, .iload_n 2, 1), (19, .iastore, 1), (20, .aload_n 0, 1), (21, .dup, 1), (22, .getfield 288, 3), (25, .iconst 1, 1), (26, .iadd, 1), (27, .putfield 288, 3), (30, .return_, 1)]
theorem dt_M_note : ∀ q ∈ tb_M_note, decode prog_14_method_16_code q.1 = .ok (q.2.1, q.2.2) := by decide +kernel
set_option maxHeartbeats 4000000 in
set_option maxRecDepth 100000 in
theorem t_M_note (v0 : Nat) (v1 : Int32) (v2 : Int32) (h : HP) : xx_S (xx_D "LampYardModel" tb_M_note 3 1 none false) xz_v (fun K => xL_v K) 0 [(0, av_R 11 (some v0)), (1, av_I v1), (2, av_I v2)] [] h (f_M_note v0 v1 v2 h) := by
  unfold f_M_note
  refine xs_step (fun K HC => xr_aload_n HC.1 0 1 (n := 0) (ix := 0) (j := 0) (c := 11) (x := v0) rfl rfl rfl rfl) ?_
  refine xs_bind (fun q_1 eq_1 => ?_)
  refine xs_step (fun K HC => xr_getr HC.1 1 4 11 36 13 eq_1 rfl rfl wf_M_49 (by decide) fb_11_36 fc_11_36 fd_11_36) ?_
  refine xs_step (fun K HC => xr_aload_n HC.1 2 5 (n := 0) (ix := 0) (j := 0) (c := 11) (x := v0) rfl rfl rfl rfl) ?_
  refine xs_step (fun K HC => xr_geti HC.1 3 8 11 44 rfl rfl wf_M_288 (by decide) fb_11_44 fc_11_44) ?_
  refine xs_step (fun K HC => xr_iload_n HC.1 4 9 (n := 1) (ix := 1) (j := 1) (x := v1) rfl rfl rfl rfl) ?_
  refine xs_chk (fun hb_2 => ?_)
  refine xs_heap (hp_mo_si _ _ _ _) (fun K HC => xr_iast HC.1 5 10 (hp_in_vp hb_2) rfl rfl) (fun h_3 => ?_)
  refine xs_step (fun K HC => xr_aload_n HC.1 6 11 (n := 0) (ix := 0) (j := 0) (c := 11) (x := v0) rfl rfl rfl rfl) ?_
  refine xs_bind (fun q_4 eq_4 => ?_)
  refine xs_step (fun K HC => xr_getr HC.1 7 14 11 37 13 eq_4 rfl rfl wf_M_52 (by decide) fb_11_37 fc_11_37 fd_11_37) ?_
  refine xs_step (fun K HC => xr_aload_n HC.1 8 15 (n := 0) (ix := 0) (j := 0) (c := 11) (x := v0) rfl rfl rfl rfl) ?_
  refine xs_step (fun K HC => xr_geti HC.1 9 18 11 44 rfl rfl wf_M_288 (by decide) fb_11_44 fc_11_44) ?_
  refine xs_step (fun K HC => xr_iload_n HC.1 10 19 (n := 2) (ix := 2) (j := 2) (x := v2) rfl rfl rfl rfl) ?_
  refine xs_chk (fun hb_5 => ?_)
  refine xs_heap (hp_mo_si _ _ _ _) (fun K HC => xr_iast HC.1 11 20 (hp_in_vp hb_5) rfl rfl) (fun h_6 => ?_)
  refine xs_step (fun K HC => xr_aload_n HC.1 12 21 (n := 0) (ix := 0) (j := 0) (c := 11) (x := v0) rfl rfl rfl rfl) ?_
  refine xs_step (fun K HC => xr_dup HC.1 13 22 rfl rfl rfl) ?_
  refine xs_step (fun K HC => xr_geti HC.1 14 25 11 44 rfl rfl wf_M_288 (by decide) fb_11_44 fc_11_44) ?_
  refine xs_step (fun K HC => xr_iconst HC.1 15 26 (n := (1)) (1 : Int32) rfl rfl rfl) ?_
  refine xs_step (fun K HC => xr_iadd HC.1 16 27 rfl rfl) ?_
  refine xs_heap (hp_mo_si _ _ _ _) (fun K HC => xr_puti HC.1 17 30 11 44 rfl rfl wf_M_288 (by decide) fb_11_44 fn_11_44 fy_11_44) (fun h_7 => ?_)
  exact xs_ret 18 rfl rfl (fun K q => q)
theorem s_M_note (v0 : Nat) (v1 : Int32) (v2 : Int32) (h : HP) : ∀ x, f_M_note v0 v1 v2 h = some x → hp_mo h x ∧ ∀ g l, xx_M g l y_M_note prog_14_method_16_code 3 none 1 [av_R 11 (some v0), av_I v1, av_I v2] h none x :=
  xM_v (tb := tb_M_note) (b := false) (by decide +kernel) dt_M_note trivial (Nat.le_of_ble_eq_true rfl) (fun hb => by cases hb) (t_M_note v0 v1 v2 h)
def tb_M_upper : TBL := [(0, .aload_n 0, 1), (1, .getfield 291, 3), (4, .ifCond .ne 8, 3), (7, .bipush 30, 2), (9, .goto 14, 3), (12, .aload_n 0, 1), (13, .getfield 67, 3), (16, .aload_n 0, 1), (17, .getfield 291, 3), (20, .iconst 1, 1), (21, .isub, 1), (22, .iaload, 1), (23, .ireturn, 1)]
theorem dt_M_upper : ∀ q ∈ tb_M_upper, decode prog_14_method_17_code q.1 = .ok (q.2.1, q.2.2) := by decide +kernel
set_option maxHeartbeats 4000000 in
set_option maxRecDepth 100000 in
theorem t_M_upper (v0 : Nat) (h : HP) : xx_S (xx_D "LampYardModel" tb_M_upper 1 1 (some .int) false) xz_i (fun K => xL_i K) 0 [(0, av_R 11 (some v0))] [] h (f_M_upper v0 h) := by
  unfold f_M_upper
  refine xs_step (fun K HC => xr_aload_n HC.1 0 1 (n := 0) (ix := 0) (j := 0) (c := 11) (x := v0) rfl rfl rfl rfl) ?_
  refine xs_step (fun K HC => xr_geti HC.1 1 4 11 45 rfl rfl wf_M_291 (by decide) fb_11_45 fc_11_45) ?_
  refine xs_ite (fun K HC a b => xr_if_ne HC.1 2 12 7 rfl (by decide) rfl b a) ?_ ?_
  · refine xs_step (fun K HC => xr_bipush HC.1 3 9 (n := (30)) (30 : Int32) rfl rfl rfl) ?_
    refine xs_step (fun K HC => xr_goto HC.1 4 23 rfl (by decide)) ?_
    exact xs_reti 12 rfl rfl (fun K q => q) (fun ty ht => by cases ht; rfl)
  refine xs_step (fun K HC => xr_aload_n HC.1 5 13 (n := 0) (ix := 0) (j := 0) (c := 11) (x := v0) rfl rfl rfl rfl) ?_
  refine xs_bind (fun q_1 eq_1 => ?_)
  refine xs_step (fun K HC => xr_getr HC.1 6 16 11 42 13 eq_1 rfl rfl wf_M_67 (by decide) fb_11_42 fc_11_42 fd_11_42) ?_
  refine xs_step (fun K HC => xr_aload_n HC.1 7 17 (n := 0) (ix := 0) (j := 0) (c := 11) (x := v0) rfl rfl rfl rfl) ?_
  refine xs_step (fun K HC => xr_geti HC.1 8 20 11 45 rfl rfl wf_M_291 (by decide) fb_11_45 fc_11_45) ?_
  refine xs_step (fun K HC => xr_iconst HC.1 9 21 (n := (1)) (1 : Int32) rfl rfl rfl) ?_
  refine xs_step (fun K HC => xr_isub HC.1 10 22 rfl rfl) ?_
  refine xs_chk (fun hb_2 => ?_)
  refine xs_step (fun K HC => xr_iald HC.1 11 23 (hp_in_vp hb_2) rfl rfl) ?_
  exact xs_reti 12 rfl rfl (fun K q => q) (fun ty ht => by cases ht; rfl)
theorem s_M_upper (v0 : Nat) (h : HP) : ∀ x, f_M_upper v0 h = some x → hp_mo h x.2 ∧ ∀ g l, xx_M g l y_M_upper prog_14_method_17_code 1 (some .int) 1 [av_R 11 (some v0)] h (some (av_I x.1)) x.2 :=
  xM_i (tb := tb_M_upper) (b := false) (by decide +kernel) dt_M_upper (fun _ => trivial) (Nat.le_of_ble_eq_true rfl) (fun hb => by cases hb) (t_M_upper v0 h)
def tb_M_hold : TBL := [(0, .aload_n 0, 1), (1, .getfield 67, 3), (4, .aload_n 0, 1), (5, .getfield 291, 3), (8, .iload_n 1, 1), (9, .iastore, 1), (10, .aload_n 0, 1), (11, .dup, 1), (12, .getfield 291, 3), (15, .iconst 1, 1), (16, .iadd, 1), (17, .putfield 291, 3), (20, .iload_n 1, 1), (21, .bipush 30, 2), (23, .if_icmp .eq 9, 3), (26, .iload_n 1, 1), (27, .bipush 22, 2), (29, .if_icmp .ne 13, 3), (32, .aload_n 0, 1), (33, .dup, 1), (34, .getfield 294, 3), (37, .iconst 1, 1), (38, .iadd, 1), (39, .putfield 294, 3), (42, .return_, 1)]
theorem dt_M_hold : ∀ q ∈ tb_M_hold, decode prog_14_method_18_code q.1 = .ok (q.2.1, q.2.2) := by decide +kernel
set_option maxHeartbeats 4000000 in
set_option maxRecDepth 100000 in
theorem t_M_hold (v0 : Nat) (v1 : Int32) (h : HP) : xx_S (xx_D "LampYardModel" tb_M_hold 2 1 none false) xz_v (fun K => xL_v K) 0 [(0, av_R 11 (some v0)), (1, av_I v1)] [] h (f_M_hold v0 v1 h) := by
  unfold f_M_hold
  refine xs_step (fun K HC => xr_aload_n HC.1 0 1 (n := 0) (ix := 0) (j := 0) (c := 11) (x := v0) rfl rfl rfl rfl) ?_
  refine xs_bind (fun q_1 eq_1 => ?_)
  refine xs_step (fun K HC => xr_getr HC.1 1 4 11 42 13 eq_1 rfl rfl wf_M_67 (by decide) fb_11_42 fc_11_42 fd_11_42) ?_
  refine xs_step (fun K HC => xr_aload_n HC.1 2 5 (n := 0) (ix := 0) (j := 0) (c := 11) (x := v0) rfl rfl rfl rfl) ?_
  refine xs_step (fun K HC => xr_geti HC.1 3 8 11 45 rfl rfl wf_M_291 (by decide) fb_11_45 fc_11_45) ?_
  refine xs_step (fun K HC => xr_iload_n HC.1 4 9 (n := 1) (ix := 1) (j := 1) (x := v1) rfl rfl rfl rfl) ?_
  refine xs_chk (fun hb_2 => ?_)
  refine xs_heap (hp_mo_si _ _ _ _) (fun K HC => xr_iast HC.1 5 10 (hp_in_vp hb_2) rfl rfl) (fun h_3 => ?_)
  refine xs_step (fun K HC => xr_aload_n HC.1 6 11 (n := 0) (ix := 0) (j := 0) (c := 11) (x := v0) rfl rfl rfl rfl) ?_
  refine xs_step (fun K HC => xr_dup HC.1 7 12 rfl rfl rfl) ?_
  refine xs_step (fun K HC => xr_geti HC.1 8 15 11 45 rfl rfl wf_M_291 (by decide) fb_11_45 fc_11_45) ?_
  refine xs_step (fun K HC => xr_iconst HC.1 9 16 (n := (1)) (1 : Int32) rfl rfl rfl) ?_
  refine xs_step (fun K HC => xr_iadd HC.1 10 17 rfl rfl) ?_
  refine xs_heap (hp_mo_si _ _ _ _) (fun K HC => xr_puti HC.1 11 20 11 45 rfl rfl wf_M_291 (by decide) fb_11_45 fn_11_45 fy_11_45) (fun h_4 => ?_)
  refine xs_step (fun K HC => xr_iload_n HC.1 12 21 (n := 1) (ix := 1) (j := 1) (x := v1) rfl rfl rfl rfl) ?_
  refine xs_step (fun K HC => xr_bipush HC.1 13 23 (n := (30)) (30 : Int32) rfl rfl rfl) ?_
  refine xs_ite (fun K HC => xr_icmp_eq HC.1 14 32 26 rfl (by decide) rfl) ?_ ?_
  · refine xs_step (fun K HC => xr_aload_n HC.1 18 33 (n := 0) (ix := 0) (j := 0) (c := 11) (x := v0) rfl rfl rfl rfl) ?_
    refine xs_step (fun K HC => xr_dup HC.1 19 34 rfl rfl rfl) ?_
    refine xs_step (fun K HC => xr_geti HC.1 20 37 11 46 rfl rfl wf_M_294 (by decide) fb_11_46 fc_11_46) ?_
    refine xs_step (fun K HC => xr_iconst HC.1 21 38 (n := (1)) (1 : Int32) rfl rfl rfl) ?_
    refine xs_step (fun K HC => xr_iadd HC.1 22 39 rfl rfl) ?_
    refine xs_heap (hp_mo_si _ _ _ _) (fun K HC => xr_puti HC.1 23 42 11 46 rfl rfl wf_M_294 (by decide) fb_11_46 fn_11_46 fy_11_46) (fun h_5 => ?_)
    exact xs_ret 24 rfl rfl (fun K q => q)
  refine xs_step (fun K HC => xr_iload_n HC.1 15 27 (n := 1) (ix := 1) (j := 1) (x := v1) rfl rfl rfl rfl) ?_
  refine xs_step (fun K HC => xr_bipush HC.1 16 29 (n := (22)) (22 : Int32) rfl rfl rfl) ?_
  refine xs_ite (fun K HC a b => xr_icmp_ne HC.1 17 42 32 rfl (by decide) rfl b a) ?_ ?_
  · refine xs_step (fun K HC => xr_aload_n HC.1 18 33 (n := 0) (ix := 0) (j := 0) (c := 11) (x := v0) rfl rfl rfl rfl) ?_
    refine xs_step (fun K HC => xr_dup HC.1 19 34 rfl rfl rfl) ?_
    refine xs_step (fun K HC => xr_geti HC.1 20 37 11 46 rfl rfl wf_M_294 (by decide) fb_11_46 fc_11_46) ?_
    refine xs_step (fun K HC => xr_iconst HC.1 21 38 (n := (1)) (1 : Int32) rfl rfl rfl) ?_
    refine xs_step (fun K HC => xr_iadd HC.1 22 39 rfl rfl) ?_
    refine xs_heap (hp_mo_si _ _ _ _) (fun K HC => xr_puti HC.1 23 42 11 46 rfl rfl wf_M_294 (by decide) fb_11_46 fn_11_46 fy_11_46) (fun h_6 => ?_)
    exact xs_ret 24 rfl rfl (fun K q => q)
  exact xs_ret 24 rfl rfl (fun K q => q)
theorem s_M_hold (v0 : Nat) (v1 : Int32) (h : HP) : ∀ x, f_M_hold v0 v1 h = some x → hp_mo h x ∧ ∀ g l, xx_M g l y_M_hold prog_14_method_18_code 2 none 1 [av_R 11 (some v0), av_I v1] h none x :=
  xM_v (tb := tb_M_hold) (b := false) (by decide +kernel) dt_M_hold trivial (Nat.le_of_ble_eq_true rfl) (fun hb => by cases hb) (t_M_hold v0 v1 h)
def tb_M_pop : TBL := [(0, .aload_n 0, 1), (1, .dup, 1), (2, .getfield 291, 3), (5, .iconst 1, 1), (6, .isub, 1), (7, .putfield 291, 3), (10, .aload_n 0, 1), (11, .getfield 67, 3), (14, .aload_n 0, 1), (15, .getfield 291, 3), (18, .iaload, 1), (19, .bipush 22, 2), (21, .if_icmp .ne 13, 3), (24, .aload_n 0, 1), (25, .dup, 1), (26, .getfield 294, 3), (29, .iconst 1, 1), (30, .isub, 1), (31, .putfield 294, 3), (34, .aload_n 0, 1), (35, .aload_n 0, 1), (36, .getfield 67, 3), (39, .aload_n 0, 1), (40, .getfield 291, 3), (43, .iaload, 1), (44, .iconst 0, 1), (45, .invokevirtual 297, 3), (48, .return_, 1)]
theorem dt_M_pop : ∀ q ∈ tb_M_pop, decode prog_14_method_19_code q.1 = .ok (q.2.1, q.2.2) := by decide +kernel
set_option maxHeartbeats 4000000 in
set_option maxRecDepth 100000 in
theorem t_M_pop_34 (v0 : Nat) (h : HP) : xx_S (xx_D "LampYardModel" tb_M_pop 1 2 none false) xz_v (fun K => xL_v K) 34 [(0, av_R 11 (some v0))] [] h (f_M_pop_34 v0 h) := by
  unfold f_M_pop_34
  refine xs_step (fun K HC => xr_aload_n HC.1 19 35 (n := 0) (ix := 0) (j := 0) (c := 11) (x := v0) rfl rfl rfl rfl) ?_
  refine xs_step (fun K HC => xr_aload_n HC.1 20 36 (n := 0) (ix := 0) (j := 0) (c := 11) (x := v0) rfl rfl rfl rfl) ?_
  refine xs_bind (fun q_5 eq_5 => ?_)
  refine xs_step (fun K HC => xr_getr HC.1 21 39 11 42 13 eq_5 rfl rfl wf_M_67 (by decide) fb_11_42 fc_11_42 fd_11_42) ?_
  refine xs_step (fun K HC => xr_aload_n HC.1 22 40 (n := 0) (ix := 0) (j := 0) (c := 11) (x := v0) rfl rfl rfl rfl) ?_
  refine xs_step (fun K HC => xr_geti HC.1 23 43 11 45 rfl rfl wf_M_291 (by decide) fb_11_45 fc_11_45) ?_
  refine xs_chk (fun hb_6 => ?_)
  refine xs_step (fun K HC => xr_iald HC.1 24 44 (hp_in_vp hb_6) rfl rfl) ?_
  refine xs_step (fun K HC => xr_iconst HC.1 25 45 (n := (0)) (0 : Int32) rfl rfl rfl) ?_
  refine xs_callv (s_M_note v0 (hp_i h q_5 ((hp_i h v0 45)).toNatClampNeg) (0 : Int32) h) (fun K HC x9 hM hmo hb => xr_callV HC.1 26 48 (av := [av_I (hp_i h q_5 ((hp_i h v0 45)).toNatClampNeg), av_I (0 : Int32)]) (st := []) (hM (kg K) (cx_l (kx K))) hmo hb rfl rfl wm_M_297 wi_M_note ws_M_note wc_M_note rfl wh_M_note (by decide) (by decide) (by decide) (Nat.le_of_ble_eq_true rfl) rfl) (fun x_7 => ?_)
  exact xs_ret 27 rfl rfl (fun K q => q)
set_option maxHeartbeats 4000000 in
set_option maxRecDepth 100000 in
theorem t_M_pop (v0 : Nat) (h : HP) : xx_S (xx_D "LampYardModel" tb_M_pop 1 2 none false) xz_v (fun K => xL_v K) 0 [(0, av_R 11 (some v0))] [] h (f_M_pop v0 h) := by
  unfold f_M_pop
  refine xs_step (fun K HC => xr_aload_n HC.1 0 1 (n := 0) (ix := 0) (j := 0) (c := 11) (x := v0) rfl rfl rfl rfl) ?_
  refine xs_step (fun K HC => xr_dup HC.1 1 2 rfl rfl rfl) ?_
  refine xs_step (fun K HC => xr_geti HC.1 2 5 11 45 rfl rfl wf_M_291 (by decide) fb_11_45 fc_11_45) ?_
  refine xs_step (fun K HC => xr_iconst HC.1 3 6 (n := (1)) (1 : Int32) rfl rfl rfl) ?_
  refine xs_step (fun K HC => xr_isub HC.1 4 7 rfl rfl) ?_
  refine xs_heap (hp_mo_si _ _ _ _) (fun K HC => xr_puti HC.1 5 10 11 45 rfl rfl wf_M_291 (by decide) fb_11_45 fn_11_45 fy_11_45) (fun h_1 => ?_)
  refine xs_step (fun K HC => xr_aload_n HC.1 6 11 (n := 0) (ix := 0) (j := 0) (c := 11) (x := v0) rfl rfl rfl rfl) ?_
  refine xs_bind (fun q_2 eq_2 => ?_)
  refine xs_step (fun K HC => xr_getr HC.1 7 14 11 42 13 eq_2 rfl rfl wf_M_67 (by decide) fb_11_42 fc_11_42 fd_11_42) ?_
  refine xs_step (fun K HC => xr_aload_n HC.1 8 15 (n := 0) (ix := 0) (j := 0) (c := 11) (x := v0) rfl rfl rfl rfl) ?_
  refine xs_step (fun K HC => xr_geti HC.1 9 18 11 45 rfl rfl wf_M_291 (by decide) fb_11_45 fc_11_45) ?_
  refine xs_chk (fun hb_3 => ?_)
  refine xs_step (fun K HC => xr_iald HC.1 10 19 (hp_in_vp hb_3) rfl rfl) ?_
  refine xs_step (fun K HC => xr_bipush HC.1 11 21 (n := (22)) (22 : Int32) rfl rfl rfl) ?_
  refine xs_ite (fun K HC a b => xr_icmp_ne HC.1 12 34 24 rfl (by decide) rfl b a) ?_ ?_
  · refine xs_step (fun K HC => xr_aload_n HC.1 13 25 (n := 0) (ix := 0) (j := 0) (c := 11) (x := v0) rfl rfl rfl rfl) ?_
    refine xs_step (fun K HC => xr_dup HC.1 14 26 rfl rfl rfl) ?_
    refine xs_step (fun K HC => xr_geti HC.1 15 29 11 46 rfl rfl wf_M_294 (by decide) fb_11_46 fc_11_46) ?_
    refine xs_step (fun K HC => xr_iconst HC.1 16 30 (n := (1)) (1 : Int32) rfl rfl rfl) ?_
    refine xs_step (fun K HC => xr_isub HC.1 17 31 rfl rfl) ?_
    refine xs_heap (hp_mo_si _ _ _ _) (fun K HC => xr_puti HC.1 18 34 11 46 rfl rfl wf_M_294 (by decide) fb_11_46 fn_11_46 fy_11_46) (fun h_4 => ?_)
    exact t_M_pop_34 v0 h_4
  exact t_M_pop_34 v0 h_1
theorem s_M_pop (v0 : Nat) (h : HP) : ∀ x, f_M_pop v0 h = some x → hp_mo h x ∧ ∀ g l, xx_M g l y_M_pop prog_14_method_19_code 1 none 2 [av_R 11 (some v0)] h none x :=
  xM_v (tb := tb_M_pop) (b := false) (by decide +kernel) dt_M_pop trivial (Nat.le_of_ble_eq_true rfl) (fun hb => by cases hb) (t_M_pop v0 h)
def tb_M_settle : TBL := [(0, .aload_n 0, 1), (1, .invokevirtual 301, 3), (4, .bipush 30, 2), (6, .if_icmp .eq 18, 3), (9, .aload_n 0, 1), (10, .invokevirtual 301, 3), (13, .iload_n 1, 1), (14, .if_icmp .lt 10, 3), (17, .aload_n 0, 1), (18, .invokevirtual 305, 3), (21, .goto (-21), 3), (24, .return_, 1)]
theorem dt_M_settle : ∀ q ∈ tb_M_settle, decode prog_14_method_20_code q.1 = .ok (q.2.1, q.2.2) := by decide +kernel
set_option maxHeartbeats 4000000 in
set_option maxRecDepth 100000 in
theorem t_M_settleb (v0 : Nat) (v1 : Int32) (h : HP) : xx_S (xx_D "LampYardModel" tb_M_settle 2 3 none false) (xx_z2 (fun s : (HP) => s) xz_v) (fun K => xx_L2 (fun s : (HP) => xx_X K 0 [(0, av_R 11 (some v0)), (1, av_I v1)] [] (s)) (xL_v K)) 0 [(0, av_R 11 (some v0)), (1, av_I v1)] [] h (f_M_settleb v0 v1 h) := by
  unfold f_M_settleb
  refine xs_step (fun K HC => xr_aload_n HC.1 0 1 (n := 0) (ix := 0) (j := 0) (c := 11) (x := v0) rfl rfl rfl rfl) ?_
  refine xs_calli (s_M_upper v0 h) (fun K HC x9 hM hmo hb => xr_callV HC.1 1 4 (av := []) (st := []) (hM (kg K) (cx_l (kx K))) hmo hb rfl rfl wm_M_301 wi_M_upper ws_M_upper wc_M_upper rfl wh_M_upper (by decide) (by decide) (by decide) (Nat.le_of_ble_eq_true rfl) rfl) (fun x_1 => ?_)
  refine xs_step (fun K HC => xr_bipush HC.1 2 6 (n := (30)) (30 : Int32) rfl rfl rfl) ?_
  refine xs_ite (fun K HC => xr_icmp_eq HC.1 3 24 9 rfl (by decide) rfl) ?_ ?_
  · exact xs_ret 11 rfl rfl (fun K q => q)
  refine xs_step (fun K HC => xr_aload_n HC.1 4 10 (n := 0) (ix := 0) (j := 0) (c := 11) (x := v0) rfl rfl rfl rfl) ?_
  refine xs_calli (s_M_upper v0 x_1.2) (fun K HC x9 hM hmo hb => xr_callV HC.1 5 13 (av := []) (st := []) (hM (kg K) (cx_l (kx K))) hmo hb rfl rfl wm_M_301 wi_M_upper ws_M_upper wc_M_upper rfl wh_M_upper (by decide) (by decide) (by decide) (Nat.le_of_ble_eq_true rfl) rfl) (fun x_2 => ?_)
  refine xs_step (fun K HC => xr_iload_n HC.1 6 14 (n := 1) (ix := 1) (j := 1) (x := v1) rfl rfl rfl rfl) ?_
  refine xs_ite (fun K HC => xr_icmp_lt HC.1 7 24 17 rfl (by decide) rfl) ?_ ?_
  · exact xs_ret 11 rfl rfl (fun K q => q)
  refine xs_step (fun K HC => xr_aload_n HC.1 8 18 (n := 0) (ix := 0) (j := 0) (c := 11) (x := v0) rfl rfl rfl rfl) ?_
  refine xs_callv (s_M_pop v0 x_2.2) (fun K HC x9 hM hmo hb => xr_callV HC.1 9 21 (av := []) (st := []) (hM (kg K) (cx_l (kx K))) hmo hb rfl rfl wm_M_305 wi_M_pop ws_M_pop wc_M_pop rfl wh_M_pop (by decide) (by decide) (by decide) (Nat.le_of_ble_eq_true rfl) rfl) (fun x_3 => ?_)
  refine xs_step (fun K HC => xr_goto HC.1 10 0 rfl (by decide)) ?_
  exact xs_back rfl (fun K q => q)
theorem t_M_settle (v0 : Nat) (v1 : Int32) (h : HP) : xx_S (xx_D "LampYardModel" tb_M_settle 2 3 none false) xz_v (fun K => xL_v K) 0 [(0, av_R 11 (some v0)), (1, av_I v1)] [] h (f_M_settle v0 v1 h) :=
  xs_loop (zf := xz_v) (L := (fun K => xL_v K)) (fun s : (HP) => [(0, av_R 11 (some v0)), (1, av_I v1)]) (fun s : (HP) => s) (fun s => t_M_settleb v0 v1 s) h
theorem s_M_settle (v0 : Nat) (v1 : Int32) (h : HP) : ∀ x, f_M_settle v0 v1 h = some x → hp_mo h x ∧ ∀ g l, xx_M g l y_M_settle prog_14_method_20_code 2 none 3 [av_R 11 (some v0), av_I v1] h none x :=
  xM_v (tb := tb_M_settle) (b := false) (by decide +kernel) dt_M_settle trivial (Nat.le_of_ble_eq_true rfl) (fun hb => by cases hb) (t_M_settle v0 v1 h)
def tb_M_isOpen : TBL := [(0, .iconst 0, 1), (1, .istore_n 1, 1), (2, .iconst 0, 1), (3, .istore_n 2, 1), (4, .iload_n 2, 1), (5, .aload_n 0, 1), (6, .getfield 291, 3), (9, .if_icmp .ge 30, 3), (12, .iload_n 1, 1), (13, .ifCond .ne 14, 3), (16, .aload_n 0, 1), (17, .getfield 67, 3), (20, .iload_n 2, 1), (21, .iaload, 1), (22, .bipush 30, 2), (24, .if_icmp .ne 7, 3), (27, .iconst 1, 1), (28, .goto 4, 3), (31, .iconst 0, 1), (32, .istore_n 1, 1), (33, .iinc 2 1, 3), (36, .goto (-32), 3), (39, .iload_n 1, 1), (40, .ireturn, 1)]
theorem dt_M_isOpen : ∀ q ∈ tb_M_isOpen, decode prog_14_method_21_code q.1 = .ok (q.2.1, q.2.2) := by decide +kernel
set_option maxHeartbeats 4000000 in
set_option maxRecDepth 100000 in
theorem t_M_isOpen_32 (v0 : Nat) (v2 : Int32) (s0 : Int32) (h : HP) : xx_S (xx_D "LampYardModel" tb_M_isOpen 3 1 (some .boolean) false) (xx_z2 (fun s : (Int32 × Int32 × HP) => s.2.2) xz_i) (fun K => xx_L2 (fun s : (Int32 × Int32 × HP) => xx_X K 4 [(0, av_R 11 (some v0)), (1, av_I s.1), (2, av_I s.2.1)] [] (s.2.2)) (xL_i K)) 32 [(0, av_R 11 (some v0)), (2, av_I v2)] [av_I s0] h (f_M_isOpen_32 v0 v2 s0 h) := by
  unfold f_M_isOpen_32
  refine xs_step (fun K HC => xr_istore_n HC.1 19 33 (n := 1) (ix := 1) (lv' := [(0, av_R 11 (some v0)), (1, av_I s0), (2, av_I v2)]) rfl rfl rfl (by decide) rfl) ?_
  refine xs_gen (fun v2_4 ev2_4 => ?_)
  refine xs_step (fun K HC => xr_iinc HC.1 20 36 (ix := 2) (j := 2) (n := (1)) (x := v2) v2_4 (lv' := [(0, av_R 11 (some v0)), (1, av_I s0), (2, av_I v2_4)]) rfl (by rw [ev2_4]; rfl) rfl rfl (by decide) rfl) ?_
  refine xs_step (fun K HC => xr_goto HC.1 21 4 rfl (by decide)) ?_
  exact xs_back rfl (fun K q => q)
set_option maxHeartbeats 4000000 in
set_option maxRecDepth 100000 in
theorem t_M_isOpen_27 (v0 : Nat) (v2 : Int32) (h : HP) : xx_S (xx_D "LampYardModel" tb_M_isOpen 3 1 (some .boolean) false) (xx_z2 (fun s : (Int32 × Int32 × HP) => s.2.2) xz_i) (fun K => xx_L2 (fun s : (Int32 × Int32 × HP) => xx_X K 4 [(0, av_R 11 (some v0)), (1, av_I s.1), (2, av_I s.2.1)] [] (s.2.2)) (xL_i K)) 27 [(0, av_R 11 (some v0)), (2, av_I v2)] [] h (f_M_isOpen_27 v0 v2 h) := by
  unfold f_M_isOpen_27
  refine xs_step (fun K HC => xr_iconst HC.1 16 28 (n := (1)) (1 : Int32) rfl rfl rfl) ?_
  refine xs_step (fun K HC => xr_goto HC.1 17 32 rfl (by decide)) ?_
  exact t_M_isOpen_32 v0 v2 (1 : Int32) h
set_option maxHeartbeats 4000000 in
set_option maxRecDepth 100000 in
theorem t_M_isOpen_4b (v0 : Nat) (v1 : Int32) (v2 : Int32) (h : HP) : xx_S (xx_D "LampYardModel" tb_M_isOpen 3 1 (some .boolean) false) (xx_z2 (fun s : (Int32 × Int32 × HP) => s.2.2) xz_i) (fun K => xx_L2 (fun s : (Int32 × Int32 × HP) => xx_X K 4 [(0, av_R 11 (some v0)), (1, av_I s.1), (2, av_I s.2.1)] [] (s.2.2)) (xL_i K)) 4 [(0, av_R 11 (some v0)), (1, av_I v1), (2, av_I v2)] [] h (f_M_isOpen_4b v0 v1 v2 h) := by
  unfold f_M_isOpen_4b
  refine xs_step (fun K HC => xr_iload_n HC.1 4 5 (n := 2) (ix := 2) (j := 2) (x := v2) rfl rfl rfl rfl) ?_
  refine xs_step (fun K HC => xr_aload_n HC.1 5 6 (n := 0) (ix := 0) (j := 0) (c := 11) (x := v0) rfl rfl rfl rfl) ?_
  refine xs_step (fun K HC => xr_geti HC.1 6 9 11 45 rfl rfl wf_M_291 (by decide) fb_11_45 fc_11_45) ?_
  refine xs_ite (fun K HC => xr_icmp_ge HC.1 7 39 12 rfl (by decide) rfl) ?_ ?_
  · refine xs_step (fun K HC => xr_iload_n HC.1 22 40 (n := 1) (ix := 1) (j := 1) (x := v1) rfl rfl rfl rfl) ?_
    refine xs_chk (fun hz_1 => ?_)
    exact xs_reti 23 rfl rfl (fun K q => q) (fun ty ht => by cases ht; rcases hp_z01_or hz_1 with e9 | e9 <;> rw [e9] <;> rfl)
  refine xs_step (fun K HC => xr_iload_n HC.1 8 13 (n := 1) (ix := 1) (j := 1) (x := v1) rfl rfl rfl rfl) ?_
  refine xs_ite (fun K HC a b => xr_if_ne HC.1 9 27 16 rfl (by decide) rfl b a) ?_ ?_
  · refine xs_step (fun K HC => xr_aload_n HC.1 10 17 (n := 0) (ix := 0) (j := 0) (c := 11) (x := v0) rfl rfl rfl rfl) ?_
    refine xs_bind (fun q_2 eq_2 => ?_)
    refine xs_step (fun K HC => xr_getr HC.1 11 20 11 42 13 eq_2 rfl rfl wf_M_67 (by decide) fb_11_42 fc_11_42 fd_11_42) ?_
    refine xs_step (fun K HC => xr_iload_n HC.1 12 21 (n := 2) (ix := 2) (j := 2) (x := v2) rfl rfl rfl rfl) ?_
    refine xs_chk (fun hb_3 => ?_)
    refine xs_step (fun K HC => xr_iald HC.1 13 22 (hp_in_vp hb_3) rfl rfl) ?_
    refine xs_step (fun K HC => xr_bipush HC.1 14 24 (n := (30)) (30 : Int32) rfl rfl rfl) ?_
    refine xs_ite (fun K HC a b => xr_icmp_ne HC.1 15 31 27 rfl (by decide) rfl b a) ?_ ?_
    · refine xs_step (fun K HC => xr_sub (lv' := [(0, av_R 11 (some v0)), (2, av_I v2)]) [0, 2] rfl) ?_
      exact t_M_isOpen_27 v0 v2 h
    refine xs_step (fun K HC => xr_iconst HC.1 18 32 (n := (0)) (0 : Int32) rfl rfl rfl) ?_
    refine xs_step (fun K HC => xr_sub (lv' := [(0, av_R 11 (some v0)), (2, av_I v2)]) [0, 2] rfl) ?_
    exact t_M_isOpen_32 v0 v2 (0 : Int32) h
  refine xs_step (fun K HC => xr_sub (lv' := [(0, av_R 11 (some v0)), (2, av_I v2)]) [0, 2] rfl) ?_
  exact t_M_isOpen_27 v0 v2 h
theorem t_M_isOpen_4 (v0 : Nat) (v1 : Int32) (v2 : Int32) (h : HP) : xx_S (xx_D "LampYardModel" tb_M_isOpen 3 1 (some .boolean) false) xz_i (fun K => xL_i K) 4 [(0, av_R 11 (some v0)), (1, av_I v1), (2, av_I v2)] [] h (f_M_isOpen_4 v0 v1 v2 h) :=
  xs_loop (zf := xz_i) (L := (fun K => xL_i K)) (fun s : (Int32 × Int32 × HP) => [(0, av_R 11 (some v0)), (1, av_I s.1), (2, av_I s.2.1)]) (fun s : (Int32 × Int32 × HP) => s.2.2) (fun s => t_M_isOpen_4b v0 s.1 s.2.1 s.2.2) (v1, v2, h)
set_option maxHeartbeats 4000000 in
set_option maxRecDepth 100000 in
theorem t_M_isOpen (v0 : Nat) (h : HP) : xx_S (xx_D "LampYardModel" tb_M_isOpen 3 1 (some .boolean) false) xz_i (fun K => xL_i K) 0 [(0, av_R 11 (some v0))] [] h (f_M_isOpen v0 h) := by
  unfold f_M_isOpen
  refine xs_step (fun K HC => xr_iconst HC.1 0 1 (n := (0)) (0 : Int32) rfl rfl rfl) ?_
  refine xs_step (fun K HC => xr_istore_n HC.1 1 2 (n := 1) (ix := 1) (lv' := [(0, av_R 11 (some v0)), (1, av_I (0 : Int32))]) rfl rfl rfl (by decide) rfl) ?_
  refine xs_step (fun K HC => xr_iconst HC.1 2 3 (n := (0)) (0 : Int32) rfl rfl rfl) ?_
  refine xs_step (fun K HC => xr_istore_n HC.1 3 4 (n := 2) (ix := 2) (lv' := [(0, av_R 11 (some v0)), (1, av_I (0 : Int32)), (2, av_I (0 : Int32))]) rfl rfl rfl (by decide) rfl) ?_
  exact t_M_isOpen_4 v0 (0 : Int32) (0 : Int32) h
theorem s_M_isOpen (v0 : Nat) (h : HP) : ∀ x, f_M_isOpen v0 h = some x → hp_mo h x.2 ∧ ∀ g l, xx_M g l y_M_isOpen prog_14_method_21_code 3 (some .boolean) 1 [av_R 11 (some v0)] h (some (av_I x.1)) x.2 :=
  xM_i (tb := tb_M_isOpen) (b := false) (by decide +kernel) dt_M_isOpen (fun _ => trivial) (Nat.le_of_ble_eq_true rfl) (fun hb => by cases hb) (t_M_isOpen v0 h)
