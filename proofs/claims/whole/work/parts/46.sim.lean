def tb_M_plan : TBL := [(0, .aload_n 0, 1), (1, .aload_n 0, 1), (2, .getfield 188, 3), (5, .putfield 197, 3), (8, .aload_n 0, 1), (9, .iconst 0, 1), (10, .putfield 188, 3), (13, .aload_n 0, 1), (14, .iconst 0, 1), (15, .putfield 194, 3), (18, .aload_n 0, 1), (19, .iconst 0, 1), (20, .putfield 227, 3), (23, .aload_n 0, 1), (24, .iconst (-1), 1), (25, .putfield 13, 3), (28, .aload_n 0, 1), (29, .iconst 1, 1), (30, .putfield 365, 3), (33, .aload_n 0, 1), (34, .iconst 1, 1), (35, .putfield 368, 3), (38, .aload_n 0, 1), (39, .bipush 99, 2), (41, .putfield 371, 3), (44, .aload_n 0, 1), (45, .iconst 0, 1), (46, .putfield 359, 3), (49, .aload_n 0, 1), (50, .iconst 0, 1), (51, .putfield 339, 3), (54, .aload_n 0, 1), (55, .iconst 0, 1), (56, .putfield 349, 3), (59, .aload_n 0, 1), (60, .iconst 0, 1), (61, .putfield 327, 3), (64, .aload_n 0, 1), (65, .iconst 0, 1), (66, .putfield 311, 3), (69, .aload_n 0, 1), (70, .iconst 0, 1), (71, .putfield 288, 3), (74, .iconst 0, 1), (75, .istore_n 1, 1), (76, .iload_n 1, 1), (77, .iconst 4, 1), (78, .if_icmp .ge 16, 3), (81, .aload_n 0, 1), (82, .getfield 46, 3), (85, .iload_n 1, 1), (86, .iconst 0, 1), (87, .bastore, 1), (88, .iinc 1 1, 3), (91, .goto (-15), 3), (94, .aload_n 0, 1), (95, .invokevirtual 277, 3), (98, .aload_n 0, 1), (99, .getfield 227, 3), (102, .ifCond .ne 17, 3), (105, .aload_n 0, 1), (106, .getfield 214, 3), (109, .ifCond .eq 10, 3), (112, .aload_n 0, 1), (113, .invokevirtual 395, 3), (116, .goto (-18), 3), (119, .aload_n 0, 1), (120, .getfield 227, 3), (123, .ifCond .le 5, 3), (126, .iconst (-1), 1), (127, .ireturn, 1), (128, .aload_n 0, 1), (129, .aload_n 0, 1), (130, .getfield 365, 3), (133, .putfield 383, 3), (136, .aload_n 0, 1), (137, .aload_n 0, 1), (138, .getfield 368, 3), (141, .putfield 386, 3), (144, .aload_n 0, 1), (145, .aload_n 0, 1), (146, .getfield 371, 3), (149, .putfield 389, 3), (152, .aload_n 0, 1), (153, .aload_n 0, 1), (154, .getfield 359, 3), (157, .putfield 392, 3), (160, .aload_n 0, 1), (161, .aload_n 0, 1), (162, .getfield 339, 3), (165, .putfield 398, 3), (168, .aload_n 0, 1), (169, .iconst 0, 1), (170, .putfield 401, 3), (173, .iconst 0, 1), (174, .istore_n 1, 1), (175, .iload_n 1, 1), (176, .aload_n 0, 1), (177, .getfield 398, 3), (180, .if_icmp .ge 62, 3), (183, .iconst 0, 1), (184, .istore_n 2, 1), (185, .iload_n 2, 1), (186, .aload_n 0, 1), (187, .getfield 21, 3), (190, .iload_n 1, 1), (191, .iaload, 1), (192, .if_icmp .ge 44, 3), (195, .aload_n 0, 1), (196, .getfield 30, 3), (199, .aload_n 0, 1), (200, .getfield 401, 3), (203, .iload_n 1, 1), (204, .iastore, 1), (205, .aload_n 0, 1), (206, .getfield 33, 3), (209, .aload_n 0, 1), (210, .getfield 401, 3), (213, .aload_n 0, 1), (214, .getfield 24, 3), (217, .iload_n 1, 1), (218, .iaload, 1), (219, .iastore, 1), (220, .aload_n 0, 1), (221, .dup, 1), (222, .getfield 401, 3), (225, .iconst 1, 1), (226, .iadd, 1), (227, .putfield 401, 3), (230, .iinc 2 1, 3), (233, .goto (-48), 3), (236, .iinc 1 1, 3), (239, .goto (-64), 3), (242, .aload_n 0, 1), (243, .aload_n 0, 1), (244, .getfield 327, 3), (247, .putfield 404, 3), (250, .aload_n 0, 1), (251, .aload_n 0, 1), (252, .getfield 311, 3), (255, .putfield 407, 3), (258, .iconst 0, 1), (259, .istore_n 1, 1), (260, .iload_n 1, 1), (261, .aload_n 0, 1), (262, .getfield 288, 3), (265, .if_icmp .ge 33, 3), (268, .aload_n 0, 1), (269, .getfield 58, 3), (272, .iload_n 1, 1), (273, .aload_n 0, 1), (274, .getfield 49, 3), (277, .iload_n 1, 1), (278, .iaload, 1), (279, .iastore, 1), (280, .aload_n 0, 1), (281, .getfield 61, 3), (284, .iload_n 1, 1), (285, .aload_n 0, 1), (286, .getfield 52, 3), (289, .iload_n 1, 1), (290, .iaload, 1), (291, .iastore, 1), (292, .iinc 1 1, 3), (295, .goto (-35), 3), (298, .iconst 0, 1), (299, .istore_n 1, 1), (300, .iload_n 1, 1), (301, .aload_n 0, 1), (302, .getfield 404, 3), (305, .if_icmp .ge 66, 3), (308, .aload_n 0, 1), (309, .getfield 36, 3), (312, .iload_n 1, 1), (313, .aload_n 0, 1), (314, .getfield 27, 3), (317, .iload_n 1, 1), (318, .iaload, 1), (319, .iastore, 1), (320, .aload_n 0, 1), (321, .getfield 43, 3), (324, .iload_n 1, 1), (325, .aload_n 0, 1), (326, .getfield 39, 3), (329, .iload_n 1, 1), (330, .baload, 1), (331, .bastore, 1), (332, .iconst 0, 1), (333, .istore_n 2, 1), (334, .iload_n 2, 1), (335, .iconst 4, 1), (336, .if_icmp .ge 29, 3), (339, .aload_n 0, 1), (340, .getfield 64, 3), (343, .iconst 3, 1), (344, .iload_n 1, 1), (345, .imul, 1), (346, .iload_n 2, 1), (347, .iadd, 1), (348, .aload_n 0, 1), (349, .getfield 55, 3), (352, .iconst 3, 1), (353, .iload_n 1, 1), (354, .imul, 1), (355, .iload_n 2, 1), (356, .iadd, 1), (357, .iaload, 1), (358, .iastore, 1), (359, .iinc 2 1, 3), (362, .goto (-28), 3), (365, .iinc 1 1, 3), (368, .goto (-68), 3), (371, .aload_n 0, 1), (372, .iconst 0, 1), (373, .putfield 410, 3), (376, .iconst 0, 1), (377, .istore_n 1, 1), (378, .iload_n 1, 1), (379, .iconst 3, 1), (380, .if_icmp .ge 16, 3), (383, .aload_n 0, 1), (384, .getfield 154, 3), (387, .iload_n 1, 1), (388, .iconst 0, 1), (389, .bastore, 1), (390, .iinc 1 1, 3), (393, .goto (-15), 3), (396, .aload_n 0, 1), (397, .iconst 0, 1), (398, .invokevirtual 184, 3), (401, .aload_n 0, 1), (402, .getfield 401, 3), (405, .ireturn, 1)]
theorem dt_M_plan : ∀ q ∈ tb_M_plan, decode prog_14_method_35_code q.1 = .ok (q.2.1, q.2.2) := by decide +kernel
set_option maxHeartbeats 4000000 in
set_option maxRecDepth 100000 in
theorem t_M_plan_396 (v0 : Nat) (h : HP) : xx_S (xx_D "LampYardModel" tb_M_plan 3 8 (some .int) false) xz_i (fun K => xL_i K) 396 [(0, av_R 11 (some v0))] [] h (f_M_plan_396 v0 h) := by
  unfold f_M_plan_396
  refine xs_step (fun K HC => xr_aload_n HC.1 227 397 (n := 0) (ix := 0) (j := 0) (c := 11) (x := v0) rfl rfl rfl rfl) ?_
  refine xs_step (fun K HC => xr_iconst HC.1 228 398 (n := (0)) (0 : Int32) rfl rfl rfl) ?_
  refine xs_callv (s_M_beginWith v0 (0 : Int32) h) (fun K HC x9 hM hmo hb => xr_callV HC.1 229 401 (av := [av_I (0 : Int32)]) (st := []) (hM (kg K) (cx_l (kx K))) hmo hb rfl rfl wm_M_184 wi_M_beginWith ws_M_beginWith wc_M_beginWith rfl wh_M_beginWith (by decide) (by decide) (by decide) (Nat.le_of_ble_eq_true rfl) rfl) (fun x_25 => ?_)
  refine xs_step (fun K HC => xr_aload_n HC.1 230 402 (n := 0) (ix := 0) (j := 0) (c := 11) (x := v0) rfl rfl rfl rfl) ?_
  refine xs_step (fun K HC => xr_geti HC.1 231 405 11 33 rfl rfl wf_M_401 (by decide) fb_11_33 fc_11_33) ?_
  exact xs_reti 232 rfl rfl (fun K q => q) (fun ty ht => by cases ht; rfl)
set_option maxHeartbeats 4000000 in
set_option maxRecDepth 100000 in
theorem t_M_plan_378b (v0 : Nat) (v1 : Int32) (h : HP) : xx_S (xx_D "LampYardModel" tb_M_plan 3 8 (some .int) false) (xx_z2 (fun s : (Int32 × HP) => s.2) xz_i) (fun K => xx_L2 (fun s : (Int32 × HP) => xx_X K 378 [(0, av_R 11 (some v0)), (1, av_I s.1)] [] (s.2)) (xL_i K)) 378 [(0, av_R 11 (some v0)), (1, av_I v1)] [] h (f_M_plan_378b v0 v1 h) := by
  unfold f_M_plan_378b
  refine xs_step (fun K HC => xr_iload_n HC.1 217 379 (n := 1) (ix := 1) (j := 1) (x := v1) rfl rfl rfl rfl) ?_
  refine xs_step (fun K HC => xr_iconst HC.1 218 380 (n := (3)) (3 : Int32) rfl rfl rfl) ?_
  refine xs_ite (fun K HC => xr_icmp_ge HC.1 219 396 383 rfl (by decide) rfl) ?_ ?_
  · refine xs_step (fun K HC => xr_sub (lv' := [(0, av_R 11 (some v0))]) [0] rfl) ?_
    exact xs_map (fun _ => rfl) (fun _ _ q => q) (t_M_plan_396 v0 h)
  refine xs_step (fun K HC => xr_aload_n HC.1 220 384 (n := 0) (ix := 0) (j := 0) (c := 11) (x := v0) rfl rfl rfl rfl) ?_
  refine xs_bind (fun q_26 eq_26 => ?_)
  refine xs_step (fun K HC => xr_getr HC.1 221 387 11 87 15 eq_26 rfl rfl wf_M_154 (by decide) fb_11_87 fc_11_87 fd_11_87) ?_
  refine xs_step (fun K HC => xr_iload_n HC.1 222 388 (n := 1) (ix := 1) (j := 1) (x := v1) rfl rfl rfl rfl) ?_
  refine xs_step (fun K HC => xr_iconst HC.1 223 389 (n := (0)) (0 : Int32) rfl rfl rfl) ?_
  refine xs_chk (fun hb_27 => ?_)
  refine xs_heap (hp_mo_si _ _ _ _) (fun K HC => xr_zast HC.1 224 390 (hp_in_vp hb_27) rfl rfl) (fun h_28 => ?_)
  refine xs_gen (fun v1_29 ev1_29 => ?_)
  refine xs_step (fun K HC => xr_iinc HC.1 225 393 (ix := 1) (j := 1) (n := (1)) (x := v1) v1_29 (lv' := [(0, av_R 11 (some v0)), (1, av_I v1_29)]) rfl (by rw [ev1_29]; rfl) rfl rfl (by decide) rfl) ?_
  refine xs_step (fun K HC => xr_goto HC.1 226 378 rfl (by decide)) ?_
  exact xs_back rfl (fun K q => q)
theorem t_M_plan_378 (v0 : Nat) (v1 : Int32) (h : HP) : xx_S (xx_D "LampYardModel" tb_M_plan 3 8 (some .int) false) xz_i (fun K => xL_i K) 378 [(0, av_R 11 (some v0)), (1, av_I v1)] [] h (f_M_plan_378 v0 v1 h) :=
  xs_loop (zf := xz_i) (L := (fun K => xL_i K)) (fun s : (Int32 × HP) => [(0, av_R 11 (some v0)), (1, av_I s.1)]) (fun s : (Int32 × HP) => s.2) (fun s => t_M_plan_378b v0 s.1 s.2) (v1, h)
set_option maxHeartbeats 4000000 in
set_option maxRecDepth 100000 in
theorem t_M_plan_371 (v0 : Nat) (h : HP) : xx_S (xx_D "LampYardModel" tb_M_plan 3 8 (some .int) false) xz_i (fun K => xL_i K) 371 [(0, av_R 11 (some v0))] [] h (f_M_plan_371 v0 h) := by
  unfold f_M_plan_371
  refine xs_step (fun K HC => xr_aload_n HC.1 212 372 (n := 0) (ix := 0) (j := 0) (c := 11) (x := v0) rfl rfl rfl rfl) ?_
  refine xs_step (fun K HC => xr_iconst HC.1 213 373 (n := (0)) (0 : Int32) rfl rfl rfl) ?_
  refine xs_heap (hp_mo_si _ _ _ _) (fun K HC => xr_puti HC.1 214 376 11 85 rfl rfl wf_M_410 (by decide) fb_11_85 fn_11_85 fy_11_85) (fun h_24 => ?_)
  refine xs_step (fun K HC => xr_iconst HC.1 215 377 (n := (0)) (0 : Int32) rfl rfl rfl) ?_
  refine xs_step (fun K HC => xr_istore_n HC.1 216 378 (n := 1) (ix := 1) (lv' := [(0, av_R 11 (some v0)), (1, av_I (0 : Int32))]) rfl rfl rfl (by decide) rfl) ?_
  exact t_M_plan_378 v0 (0 : Int32) h_24
set_option maxHeartbeats 4000000 in
set_option maxRecDepth 100000 in
theorem t_M_plan_365 (v0 : Nat) (v1 : Int32) (h : HP) : xx_S (xx_D "LampYardModel" tb_M_plan 3 8 (some .int) false) (xx_z2 (fun s : (Int32 × HP) => s.2) xz_i) (fun K => xx_L2 (fun s : (Int32 × HP) => xx_X K 300 [(0, av_R 11 (some v0)), (1, av_I s.1)] [] (s.2)) (xL_i K)) 365 [(0, av_R 11 (some v0)), (1, av_I v1)] [] h (f_M_plan_365 v0 v1 h) := by
  unfold f_M_plan_365
  refine xs_gen (fun v1_40 ev1_40 => ?_)
  refine xs_step (fun K HC => xr_iinc HC.1 210 368 (ix := 1) (j := 1) (n := (1)) (x := v1) v1_40 (lv' := [(0, av_R 11 (some v0)), (1, av_I v1_40)]) rfl (by rw [ev1_40]; rfl) rfl rfl (by decide) rfl) ?_
  refine xs_step (fun K HC => xr_goto HC.1 211 300 rfl (by decide)) ?_
  exact xs_back rfl (fun K q => q)
set_option maxHeartbeats 4000000 in
set_option maxRecDepth 100000 in
theorem t_M_plan_334b (v0 : Nat) (v1 : Int32) (v2 : Int32) (h : HP) : xx_S (xx_D "LampYardModel" tb_M_plan 3 8 (some .int) false) (xx_z2 (fun s : (Int32 × HP) => s.2) (xx_z2 (fun s : (Int32 × HP) => s.2) xz_i)) (fun K => xx_L2 (fun s : (Int32 × HP) => xx_X K 334 [(0, av_R 11 (some v0)), (1, av_I v1), (2, av_I s.1)] [] (s.2)) (xx_L2 (fun s : (Int32 × HP) => xx_X K 300 [(0, av_R 11 (some v0)), (1, av_I s.1)] [] (s.2)) (xL_i K))) 334 [(0, av_R 11 (some v0)), (1, av_I v1), (2, av_I v2)] [] h (f_M_plan_334b v0 v1 v2 h) := by
  unfold f_M_plan_334b
  refine xs_step (fun K HC => xr_iload_n HC.1 189 335 (n := 2) (ix := 2) (j := 2) (x := v2) rfl rfl rfl rfl) ?_
  refine xs_step (fun K HC => xr_iconst HC.1 190 336 (n := (4)) (4 : Int32) rfl rfl rfl) ?_
  refine xs_ite (fun K HC => xr_icmp_ge HC.1 191 365 339 rfl (by decide) rfl) ?_ ?_
  · refine xs_step (fun K HC => xr_sub (lv' := [(0, av_R 11 (some v0)), (1, av_I v1)]) [0, 1] rfl) ?_
    exact xs_map (fun _ => rfl) (fun _ _ q => q) (t_M_plan_365 v0 v1 h)
  refine xs_step (fun K HC => xr_aload_n HC.1 192 340 (n := 0) (ix := 0) (j := 0) (c := 11) (x := v0) rfl rfl rfl rfl) ?_
  refine xs_bind (fun q_41 eq_41 => ?_)
  refine xs_step (fun K HC => xr_getr HC.1 193 343 11 41 13 eq_41 rfl rfl wf_M_64 (by decide) fb_11_41 fc_11_41 fd_11_41) ?_
  refine xs_step (fun K HC => xr_iconst HC.1 194 344 (n := (3)) (3 : Int32) rfl rfl rfl) ?_
  refine xs_step (fun K HC => xr_iload_n HC.1 195 345 (n := 1) (ix := 1) (j := 1) (x := v1) rfl rfl rfl rfl) ?_
  refine xs_step (fun K HC => xr_imul HC.1 196 346 rfl rfl) ?_
  refine xs_step (fun K HC => xr_iload_n HC.1 197 347 (n := 2) (ix := 2) (j := 2) (x := v2) rfl rfl rfl rfl) ?_
  refine xs_step (fun K HC => xr_iadd HC.1 198 348 rfl rfl) ?_
  refine xs_step (fun K HC => xr_aload_n HC.1 199 349 (n := 0) (ix := 0) (j := 0) (c := 11) (x := v0) rfl rfl rfl rfl) ?_
  refine xs_bind (fun q_42 eq_42 => ?_)
  refine xs_step (fun K HC => xr_getr HC.1 200 352 11 38 13 eq_42 rfl rfl wf_M_55 (by decide) fb_11_38 fc_11_38 fd_11_38) ?_
  refine xs_step (fun K HC => xr_iconst HC.1 201 353 (n := (3)) (3 : Int32) rfl rfl rfl) ?_
  refine xs_step (fun K HC => xr_iload_n HC.1 202 354 (n := 1) (ix := 1) (j := 1) (x := v1) rfl rfl rfl rfl) ?_
  refine xs_step (fun K HC => xr_imul HC.1 203 355 rfl rfl) ?_
  refine xs_step (fun K HC => xr_iload_n HC.1 204 356 (n := 2) (ix := 2) (j := 2) (x := v2) rfl rfl rfl rfl) ?_
  refine xs_step (fun K HC => xr_iadd HC.1 205 357 rfl rfl) ?_
  refine xs_chk (fun hb_43 => ?_)
  refine xs_step (fun K HC => xr_iald HC.1 206 358 (hp_in_vp hb_43) rfl rfl) ?_
  refine xs_chk (fun hb_44 => ?_)
  refine xs_heap (hp_mo_si _ _ _ _) (fun K HC => xr_iast HC.1 207 359 (hp_in_vp hb_44) rfl rfl) (fun h_45 => ?_)
  refine xs_gen (fun v2_46 ev2_46 => ?_)
  refine xs_step (fun K HC => xr_iinc HC.1 208 362 (ix := 2) (j := 2) (n := (1)) (x := v2) v2_46 (lv' := [(0, av_R 11 (some v0)), (1, av_I v1), (2, av_I v2_46)]) rfl (by rw [ev2_46]; rfl) rfl rfl (by decide) rfl) ?_
  refine xs_step (fun K HC => xr_goto HC.1 209 334 rfl (by decide)) ?_
  exact xs_back rfl (fun K q => q)
theorem t_M_plan_334 (v0 : Nat) (v1 : Int32) (v2 : Int32) (h : HP) : xx_S (xx_D "LampYardModel" tb_M_plan 3 8 (some .int) false) (xx_z2 (fun s : (Int32 × HP) => s.2) xz_i) (fun K => xx_L2 (fun s : (Int32 × HP) => xx_X K 300 [(0, av_R 11 (some v0)), (1, av_I s.1)] [] (s.2)) (xL_i K)) 334 [(0, av_R 11 (some v0)), (1, av_I v1), (2, av_I v2)] [] h (f_M_plan_334 v0 v1 v2 h) :=
  xs_loop (zf := (xx_z2 (fun s : (Int32 × HP) => s.2) xz_i)) (L := (fun K => xx_L2 (fun s : (Int32 × HP) => xx_X K 300 [(0, av_R 11 (some v0)), (1, av_I s.1)] [] (s.2)) (xL_i K))) (fun s : (Int32 × HP) => [(0, av_R 11 (some v0)), (1, av_I v1), (2, av_I s.1)]) (fun s : (Int32 × HP) => s.2) (fun s => t_M_plan_334b v0 v1 s.1 s.2) (v2, h)
set_option maxHeartbeats 4000000 in
set_option maxRecDepth 100000 in
theorem t_M_plan_300b (v0 : Nat) (v1 : Int32) (h : HP) : xx_S (xx_D "LampYardModel" tb_M_plan 3 8 (some .int) false) (xx_z2 (fun s : (Int32 × HP) => s.2) xz_i) (fun K => xx_L2 (fun s : (Int32 × HP) => xx_X K 300 [(0, av_R 11 (some v0)), (1, av_I s.1)] [] (s.2)) (xL_i K)) 300 [(0, av_R 11 (some v0)), (1, av_I v1)] [] h (f_M_plan_300b v0 v1 h) := by
  unfold f_M_plan_300b
  refine xs_step (fun K HC => xr_iload_n HC.1 167 301 (n := 1) (ix := 1) (j := 1) (x := v1) rfl rfl rfl rfl) ?_
  refine xs_step (fun K HC => xr_aload_n HC.1 168 302 (n := 0) (ix := 0) (j := 0) (c := 11) (x := v0) rfl rfl rfl rfl) ?_
  refine xs_step (fun K HC => xr_geti HC.1 169 305 11 34 rfl rfl wf_M_404 (by decide) fb_11_34 fc_11_34) ?_
  refine xs_ite (fun K HC => xr_icmp_ge HC.1 170 371 308 rfl (by decide) rfl) ?_ ?_
  · refine xs_step (fun K HC => xr_sub (lv' := [(0, av_R 11 (some v0))]) [0] rfl) ?_
    exact xs_map (fun _ => rfl) (fun _ _ q => q) (t_M_plan_371 v0 h)
  refine xs_step (fun K HC => xr_aload_n HC.1 171 309 (n := 0) (ix := 0) (j := 0) (c := 11) (x := v0) rfl rfl rfl rfl) ?_
  refine xs_bind (fun q_30 eq_30 => ?_)
  refine xs_step (fun K HC => xr_getr HC.1 172 312 11 16 13 eq_30 rfl rfl wf_M_36 (by decide) fb_11_16 fc_11_16 fd_11_16) ?_
  refine xs_step (fun K HC => xr_iload_n HC.1 173 313 (n := 1) (ix := 1) (j := 1) (x := v1) rfl rfl rfl rfl) ?_
  refine xs_step (fun K HC => xr_aload_n HC.1 174 314 (n := 0) (ix := 0) (j := 0) (c := 11) (x := v0) rfl rfl rfl rfl) ?_
  refine xs_bind (fun q_31 eq_31 => ?_)
  refine xs_step (fun K HC => xr_getr HC.1 175 317 11 13 13 eq_31 rfl rfl wf_M_27 (by decide) fb_11_13 fc_11_13 fd_11_13) ?_
  refine xs_step (fun K HC => xr_iload_n HC.1 176 318 (n := 1) (ix := 1) (j := 1) (x := v1) rfl rfl rfl rfl) ?_
  refine xs_chk (fun hb_32 => ?_)
  refine xs_step (fun K HC => xr_iald HC.1 177 319 (hp_in_vp hb_32) rfl rfl) ?_
  refine xs_chk (fun hb_33 => ?_)
  refine xs_heap (hp_mo_si _ _ _ _) (fun K HC => xr_iast HC.1 178 320 (hp_in_vp hb_33) rfl rfl) (fun h_34 => ?_)
  refine xs_step (fun K HC => xr_aload_n HC.1 179 321 (n := 0) (ix := 0) (j := 0) (c := 11) (x := v0) rfl rfl rfl rfl) ?_
  refine xs_bind (fun q_35 eq_35 => ?_)
  refine xs_step (fun K HC => xr_getr HC.1 180 324 11 18 15 eq_35 rfl rfl wf_M_43 (by decide) fb_11_18 fc_11_18 fd_11_18) ?_
  refine xs_step (fun K HC => xr_iload_n HC.1 181 325 (n := 1) (ix := 1) (j := 1) (x := v1) rfl rfl rfl rfl) ?_
  refine xs_step (fun K HC => xr_aload_n HC.1 182 326 (n := 0) (ix := 0) (j := 0) (c := 11) (x := v0) rfl rfl rfl rfl) ?_
  refine xs_bind (fun q_36 eq_36 => ?_)
  refine xs_step (fun K HC => xr_getr HC.1 183 329 11 17 15 eq_36 rfl rfl wf_M_39 (by decide) fb_11_17 fc_11_17 fd_11_17) ?_
  refine xs_step (fun K HC => xr_iload_n HC.1 184 330 (n := 1) (ix := 1) (j := 1) (x := v1) rfl rfl rfl rfl) ?_
  refine xs_chk (fun hb_37 => ?_)
  refine xs_step (fun K HC => xr_zald HC.1 185 331 (hp_in_vp hb_37) rfl rfl) ?_
  refine xs_chk (fun hb_38 => ?_)
  refine xs_heap (hp_mo_si _ _ _ _) (fun K HC => xr_zast HC.1 186 332 (hp_in_vp hb_38) rfl rfl) (fun h_39 => ?_)
  refine xs_step (fun K HC => xr_iconst HC.1 187 333 (n := (0)) (0 : Int32) rfl rfl rfl) ?_
  refine xs_step (fun K HC => xr_istore_n HC.1 188 334 (n := 2) (ix := 2) (lv' := [(0, av_R 11 (some v0)), (1, av_I v1), (2, av_I (0 : Int32))]) rfl rfl rfl (by decide) rfl) ?_
  exact t_M_plan_334 v0 v1 (0 : Int32) h_39
theorem t_M_plan_300 (v0 : Nat) (v1 : Int32) (h : HP) : xx_S (xx_D "LampYardModel" tb_M_plan 3 8 (some .int) false) xz_i (fun K => xL_i K) 300 [(0, av_R 11 (some v0)), (1, av_I v1)] [] h (f_M_plan_300 v0 v1 h) :=
  xs_loop (zf := xz_i) (L := (fun K => xL_i K)) (fun s : (Int32 × HP) => [(0, av_R 11 (some v0)), (1, av_I s.1)]) (fun s : (Int32 × HP) => s.2) (fun s => t_M_plan_300b v0 s.1 s.2) (v1, h)
set_option maxHeartbeats 4000000 in
set_option maxRecDepth 100000 in
theorem t_M_plan_298 (v0 : Nat) (h : HP) : xx_S (xx_D "LampYardModel" tb_M_plan 3 8 (some .int) false) xz_i (fun K => xL_i K) 298 [(0, av_R 11 (some v0))] [] h (f_M_plan_298 v0 h) := by
  unfold f_M_plan_298
  refine xs_step (fun K HC => xr_iconst HC.1 165 299 (n := (0)) (0 : Int32) rfl rfl rfl) ?_
  refine xs_step (fun K HC => xr_istore_n HC.1 166 300 (n := 1) (ix := 1) (lv' := [(0, av_R 11 (some v0)), (1, av_I (0 : Int32))]) rfl rfl rfl (by decide) rfl) ?_
  exact t_M_plan_300 v0 (0 : Int32) h
set_option maxHeartbeats 4000000 in
set_option maxRecDepth 100000 in
theorem t_M_plan_260b (v0 : Nat) (v1 : Int32) (h : HP) : xx_S (xx_D "LampYardModel" tb_M_plan 3 8 (some .int) false) (xx_z2 (fun s : (Int32 × HP) => s.2) xz_i) (fun K => xx_L2 (fun s : (Int32 × HP) => xx_X K 260 [(0, av_R 11 (some v0)), (1, av_I s.1)] [] (s.2)) (xL_i K)) 260 [(0, av_R 11 (some v0)), (1, av_I v1)] [] h (f_M_plan_260b v0 v1 h) := by
  unfold f_M_plan_260b
  refine xs_step (fun K HC => xr_iload_n HC.1 143 261 (n := 1) (ix := 1) (j := 1) (x := v1) rfl rfl rfl rfl) ?_
  refine xs_step (fun K HC => xr_aload_n HC.1 144 262 (n := 0) (ix := 0) (j := 0) (c := 11) (x := v0) rfl rfl rfl rfl) ?_
  refine xs_step (fun K HC => xr_geti HC.1 145 265 11 44 rfl rfl wf_M_288 (by decide) fb_11_44 fc_11_44) ?_
  refine xs_ite (fun K HC => xr_icmp_ge HC.1 146 298 268 rfl (by decide) rfl) ?_ ?_
  · refine xs_step (fun K HC => xr_sub (lv' := [(0, av_R 11 (some v0))]) [0] rfl) ?_
    exact xs_map (fun _ => rfl) (fun _ _ q => q) (t_M_plan_298 v0 h)
  refine xs_step (fun K HC => xr_aload_n HC.1 147 269 (n := 0) (ix := 0) (j := 0) (c := 11) (x := v0) rfl rfl rfl rfl) ?_
  refine xs_bind (fun q_47 eq_47 => ?_)
  refine xs_step (fun K HC => xr_getr HC.1 148 272 11 39 13 eq_47 rfl rfl wf_M_58 (by decide) fb_11_39 fc_11_39 fd_11_39) ?_
  refine xs_step (fun K HC => xr_iload_n HC.1 149 273 (n := 1) (ix := 1) (j := 1) (x := v1) rfl rfl rfl rfl) ?_
  refine xs_step (fun K HC => xr_aload_n HC.1 150 274 (n := 0) (ix := 0) (j := 0) (c := 11) (x := v0) rfl rfl rfl rfl) ?_
  refine xs_bind (fun q_48 eq_48 => ?_)
  refine xs_step (fun K HC => xr_getr HC.1 151 277 11 36 13 eq_48 rfl rfl wf_M_49 (by decide) fb_11_36 fc_11_36 fd_11_36) ?_
  refine xs_step (fun K HC => xr_iload_n HC.1 152 278 (n := 1) (ix := 1) (j := 1) (x := v1) rfl rfl rfl rfl) ?_
  refine xs_chk (fun hb_49 => ?_)
  refine xs_step (fun K HC => xr_iald HC.1 153 279 (hp_in_vp hb_49) rfl rfl) ?_
  refine xs_chk (fun hb_50 => ?_)
  refine xs_heap (hp_mo_si _ _ _ _) (fun K HC => xr_iast HC.1 154 280 (hp_in_vp hb_50) rfl rfl) (fun h_51 => ?_)
  refine xs_step (fun K HC => xr_aload_n HC.1 155 281 (n := 0) (ix := 0) (j := 0) (c := 11) (x := v0) rfl rfl rfl rfl) ?_
  refine xs_bind (fun q_52 eq_52 => ?_)
  refine xs_step (fun K HC => xr_getr HC.1 156 284 11 40 13 eq_52 rfl rfl wf_M_61 (by decide) fb_11_40 fc_11_40 fd_11_40) ?_
  refine xs_step (fun K HC => xr_iload_n HC.1 157 285 (n := 1) (ix := 1) (j := 1) (x := v1) rfl rfl rfl rfl) ?_
  refine xs_step (fun K HC => xr_aload_n HC.1 158 286 (n := 0) (ix := 0) (j := 0) (c := 11) (x := v0) rfl rfl rfl rfl) ?_
  refine xs_bind (fun q_53 eq_53 => ?_)
  refine xs_step (fun K HC => xr_getr HC.1 159 289 11 37 13 eq_53 rfl rfl wf_M_52 (by decide) fb_11_37 fc_11_37 fd_11_37) ?_
  refine xs_step (fun K HC => xr_iload_n HC.1 160 290 (n := 1) (ix := 1) (j := 1) (x := v1) rfl rfl rfl rfl) ?_
  refine xs_chk (fun hb_54 => ?_)
  refine xs_step (fun K HC => xr_iald HC.1 161 291 (hp_in_vp hb_54) rfl rfl) ?_
  refine xs_chk (fun hb_55 => ?_)
  refine xs_heap (hp_mo_si _ _ _ _) (fun K HC => xr_iast HC.1 162 292 (hp_in_vp hb_55) rfl rfl) (fun h_56 => ?_)
  refine xs_gen (fun v1_57 ev1_57 => ?_)
  refine xs_step (fun K HC => xr_iinc HC.1 163 295 (ix := 1) (j := 1) (n := (1)) (x := v1) v1_57 (lv' := [(0, av_R 11 (some v0)), (1, av_I v1_57)]) rfl (by rw [ev1_57]; rfl) rfl rfl (by decide) rfl) ?_
  refine xs_step (fun K HC => xr_goto HC.1 164 260 rfl (by decide)) ?_
  exact xs_back rfl (fun K q => q)
theorem t_M_plan_260 (v0 : Nat) (v1 : Int32) (h : HP) : xx_S (xx_D "LampYardModel" tb_M_plan 3 8 (some .int) false) xz_i (fun K => xL_i K) 260 [(0, av_R 11 (some v0)), (1, av_I v1)] [] h (f_M_plan_260 v0 v1 h) :=
  xs_loop (zf := xz_i) (L := (fun K => xL_i K)) (fun s : (Int32 × HP) => [(0, av_R 11 (some v0)), (1, av_I s.1)]) (fun s : (Int32 × HP) => s.2) (fun s => t_M_plan_260b v0 s.1 s.2) (v1, h)
set_option maxHeartbeats 4000000 in
set_option maxRecDepth 100000 in
theorem t_M_plan_242 (v0 : Nat) (h : HP) : xx_S (xx_D "LampYardModel" tb_M_plan 3 8 (some .int) false) xz_i (fun K => xL_i K) 242 [(0, av_R 11 (some v0))] [] h (f_M_plan_242 v0 h) := by
  unfold f_M_plan_242
  refine xs_step (fun K HC => xr_aload_n HC.1 133 243 (n := 0) (ix := 0) (j := 0) (c := 11) (x := v0) rfl rfl rfl rfl) ?_
  refine xs_step (fun K HC => xr_aload_n HC.1 134 244 (n := 0) (ix := 0) (j := 0) (c := 11) (x := v0) rfl rfl rfl rfl) ?_
  refine xs_step (fun K HC => xr_geti HC.1 135 247 11 26 rfl rfl wf_M_327 (by decide) fb_11_26 fc_11_26) ?_
  refine xs_heap (hp_mo_si _ _ _ _) (fun K HC => xr_puti HC.1 136 250 11 34 rfl rfl wf_M_404 (by decide) fb_11_34 fn_11_34 fy_11_34) (fun h_22 => ?_)
  refine xs_step (fun K HC => xr_aload_n HC.1 137 251 (n := 0) (ix := 0) (j := 0) (c := 11) (x := v0) rfl rfl rfl rfl) ?_
  refine xs_step (fun K HC => xr_aload_n HC.1 138 252 (n := 0) (ix := 0) (j := 0) (c := 11) (x := v0) rfl rfl rfl rfl) ?_
  refine xs_step (fun K HC => xr_geti HC.1 139 255 11 27 rfl rfl wf_M_311 (by decide) fb_11_27 fc_11_27) ?_
  refine xs_heap (hp_mo_si _ _ _ _) (fun K HC => xr_puti HC.1 140 258 11 35 rfl rfl wf_M_407 (by decide) fb_11_35 fn_11_35 fy_11_35) (fun h_23 => ?_)
  refine xs_step (fun K HC => xr_iconst HC.1 141 259 (n := (0)) (0 : Int32) rfl rfl rfl) ?_
  refine xs_step (fun K HC => xr_istore_n HC.1 142 260 (n := 1) (ix := 1) (lv' := [(0, av_R 11 (some v0)), (1, av_I (0 : Int32))]) rfl rfl rfl (by decide) rfl) ?_
  exact t_M_plan_260 v0 (0 : Int32) h_23
set_option maxHeartbeats 4000000 in
set_option maxRecDepth 100000 in
theorem t_M_plan_236 (v0 : Nat) (v1 : Int32) (h : HP) : xx_S (xx_D "LampYardModel" tb_M_plan 3 8 (some .int) false) (xx_z2 (fun s : (Int32 × HP) => s.2) xz_i) (fun K => xx_L2 (fun s : (Int32 × HP) => xx_X K 175 [(0, av_R 11 (some v0)), (1, av_I s.1)] [] (s.2)) (xL_i K)) 236 [(0, av_R 11 (some v0)), (1, av_I v1)] [] h (f_M_plan_236 v0 v1 h) := by
  unfold f_M_plan_236
  refine xs_gen (fun v1_60 ev1_60 => ?_)
  refine xs_step (fun K HC => xr_iinc HC.1 131 239 (ix := 1) (j := 1) (n := (1)) (x := v1) v1_60 (lv' := [(0, av_R 11 (some v0)), (1, av_I v1_60)]) rfl (by rw [ev1_60]; rfl) rfl rfl (by decide) rfl) ?_
  refine xs_step (fun K HC => xr_goto HC.1 132 175 rfl (by decide)) ?_
  exact xs_back rfl (fun K q => q)
set_option maxHeartbeats 4000000 in
set_option maxRecDepth 100000 in
theorem t_M_plan_185b (v0 : Nat) (v1 : Int32) (v2 : Int32) (h : HP) : xx_S (xx_D "LampYardModel" tb_M_plan 3 8 (some .int) false) (xx_z2 (fun s : (Int32 × HP) => s.2) (xx_z2 (fun s : (Int32 × HP) => s.2) xz_i)) (fun K => xx_L2 (fun s : (Int32 × HP) => xx_X K 185 [(0, av_R 11 (some v0)), (1, av_I v1), (2, av_I s.1)] [] (s.2)) (xx_L2 (fun s : (Int32 × HP) => xx_X K 175 [(0, av_R 11 (some v0)), (1, av_I s.1)] [] (s.2)) (xL_i K))) 185 [(0, av_R 11 (some v0)), (1, av_I v1), (2, av_I v2)] [] h (f_M_plan_185b v0 v1 v2 h) := by
  unfold f_M_plan_185b
  refine xs_step (fun K HC => xr_iload_n HC.1 102 186 (n := 2) (ix := 2) (j := 2) (x := v2) rfl rfl rfl rfl) ?_
  refine xs_step (fun K HC => xr_aload_n HC.1 103 187 (n := 0) (ix := 0) (j := 0) (c := 11) (x := v0) rfl rfl rfl rfl) ?_
  refine xs_bind (fun q_58 eq_58 => ?_)
  refine xs_step (fun K HC => xr_getr HC.1 104 190 11 11 13 eq_58 rfl rfl wf_M_21 (by decide) fb_11_11 fc_11_11 fd_11_11) ?_
  refine xs_step (fun K HC => xr_iload_n HC.1 105 191 (n := 1) (ix := 1) (j := 1) (x := v1) rfl rfl rfl rfl) ?_
  refine xs_chk (fun hb_59 => ?_)
  refine xs_step (fun K HC => xr_iald HC.1 106 192 (hp_in_vp hb_59) rfl rfl) ?_
  refine xs_ite (fun K HC => xr_icmp_ge HC.1 107 236 195 rfl (by decide) rfl) ?_ ?_
  · refine xs_step (fun K HC => xr_sub (lv' := [(0, av_R 11 (some v0)), (1, av_I v1)]) [0, 1] rfl) ?_
    exact xs_map (fun _ => rfl) (fun _ _ q => q) (t_M_plan_236 v0 v1 h)
  refine xs_step (fun K HC => xr_aload_n HC.1 108 196 (n := 0) (ix := 0) (j := 0) (c := 11) (x := v0) rfl rfl rfl rfl) ?_
  refine xs_bind (fun q_61 eq_61 => ?_)
  refine xs_step (fun K HC => xr_getr HC.1 109 199 11 14 13 eq_61 rfl rfl wf_M_30 (by decide) fb_11_14 fc_11_14 fd_11_14) ?_
  refine xs_step (fun K HC => xr_aload_n HC.1 110 200 (n := 0) (ix := 0) (j := 0) (c := 11) (x := v0) rfl rfl rfl rfl) ?_
  refine xs_step (fun K HC => xr_geti HC.1 111 203 11 33 rfl rfl wf_M_401 (by decide) fb_11_33 fc_11_33) ?_
  refine xs_step (fun K HC => xr_iload_n HC.1 112 204 (n := 1) (ix := 1) (j := 1) (x := v1) rfl rfl rfl rfl) ?_
  refine xs_chk (fun hb_62 => ?_)
  refine xs_heap (hp_mo_si _ _ _ _) (fun K HC => xr_iast HC.1 113 205 (hp_in_vp hb_62) rfl rfl) (fun h_63 => ?_)
  refine xs_step (fun K HC => xr_aload_n HC.1 114 206 (n := 0) (ix := 0) (j := 0) (c := 11) (x := v0) rfl rfl rfl rfl) ?_
  refine xs_bind (fun q_64 eq_64 => ?_)
  refine xs_step (fun K HC => xr_getr HC.1 115 209 11 15 13 eq_64 rfl rfl wf_M_33 (by decide) fb_11_15 fc_11_15 fd_11_15) ?_
  refine xs_step (fun K HC => xr_aload_n HC.1 116 210 (n := 0) (ix := 0) (j := 0) (c := 11) (x := v0) rfl rfl rfl rfl) ?_
  refine xs_step (fun K HC => xr_geti HC.1 117 213 11 33 rfl rfl wf_M_401 (by decide) fb_11_33 fc_11_33) ?_
  refine xs_step (fun K HC => xr_aload_n HC.1 118 214 (n := 0) (ix := 0) (j := 0) (c := 11) (x := v0) rfl rfl rfl rfl) ?_
  refine xs_bind (fun q_65 eq_65 => ?_)
  refine xs_step (fun K HC => xr_getr HC.1 119 217 11 12 13 eq_65 rfl rfl wf_M_24 (by decide) fb_11_12 fc_11_12 fd_11_12) ?_
  refine xs_step (fun K HC => xr_iload_n HC.1 120 218 (n := 1) (ix := 1) (j := 1) (x := v1) rfl rfl rfl rfl) ?_
  refine xs_chk (fun hb_66 => ?_)
  refine xs_step (fun K HC => xr_iald HC.1 121 219 (hp_in_vp hb_66) rfl rfl) ?_
  refine xs_chk (fun hb_67 => ?_)
  refine xs_heap (hp_mo_si _ _ _ _) (fun K HC => xr_iast HC.1 122 220 (hp_in_vp hb_67) rfl rfl) (fun h_68 => ?_)
  refine xs_step (fun K HC => xr_aload_n HC.1 123 221 (n := 0) (ix := 0) (j := 0) (c := 11) (x := v0) rfl rfl rfl rfl) ?_
  refine xs_step (fun K HC => xr_dup HC.1 124 222 rfl rfl rfl) ?_
  refine xs_step (fun K HC => xr_geti HC.1 125 225 11 33 rfl rfl wf_M_401 (by decide) fb_11_33 fc_11_33) ?_
  refine xs_step (fun K HC => xr_iconst HC.1 126 226 (n := (1)) (1 : Int32) rfl rfl rfl) ?_
  refine xs_step (fun K HC => xr_iadd HC.1 127 227 rfl rfl) ?_
  refine xs_heap (hp_mo_si _ _ _ _) (fun K HC => xr_puti HC.1 128 230 11 33 rfl rfl wf_M_401 (by decide) fb_11_33 fn_11_33 fy_11_33) (fun h_69 => ?_)
  refine xs_gen (fun v2_70 ev2_70 => ?_)
  refine xs_step (fun K HC => xr_iinc HC.1 129 233 (ix := 2) (j := 2) (n := (1)) (x := v2) v2_70 (lv' := [(0, av_R 11 (some v0)), (1, av_I v1), (2, av_I v2_70)]) rfl (by rw [ev2_70]; rfl) rfl rfl (by decide) rfl) ?_
  refine xs_step (fun K HC => xr_goto HC.1 130 185 rfl (by decide)) ?_
  exact xs_back rfl (fun K q => q)
theorem t_M_plan_185 (v0 : Nat) (v1 : Int32) (v2 : Int32) (h : HP) : xx_S (xx_D "LampYardModel" tb_M_plan 3 8 (some .int) false) (xx_z2 (fun s : (Int32 × HP) => s.2) xz_i) (fun K => xx_L2 (fun s : (Int32 × HP) => xx_X K 175 [(0, av_R 11 (some v0)), (1, av_I s.1)] [] (s.2)) (xL_i K)) 185 [(0, av_R 11 (some v0)), (1, av_I v1), (2, av_I v2)] [] h (f_M_plan_185 v0 v1 v2 h) :=
  xs_loop (zf := (xx_z2 (fun s : (Int32 × HP) => s.2) xz_i)) (L := (fun K => xx_L2 (fun s : (Int32 × HP) => xx_X K 175 [(0, av_R 11 (some v0)), (1, av_I s.1)] [] (s.2)) (xL_i K))) (fun s : (Int32 × HP) => [(0, av_R 11 (some v0)), (1, av_I v1), (2, av_I s.1)]) (fun s : (Int32 × HP) => s.2) (fun s => t_M_plan_185b v0 v1 s.1 s.2) (v2, h)
set_option maxHeartbeats 4000000 in
set_option maxRecDepth 100000 in
theorem t_M_plan_175b (v0 : Nat) (v1 : Int32) (h : HP) : xx_S (xx_D "LampYardModel" tb_M_plan 3 8 (some .int) false) (xx_z2 (fun s : (Int32 × HP) => s.2) xz_i) (fun K => xx_L2 (fun s : (Int32 × HP) => xx_X K 175 [(0, av_R 11 (some v0)), (1, av_I s.1)] [] (s.2)) (xL_i K)) 175 [(0, av_R 11 (some v0)), (1, av_I v1)] [] h (f_M_plan_175b v0 v1 h) := by
  unfold f_M_plan_175b
  refine xs_step (fun K HC => xr_iload_n HC.1 96 176 (n := 1) (ix := 1) (j := 1) (x := v1) rfl rfl rfl rfl) ?_
  refine xs_step (fun K HC => xr_aload_n HC.1 97 177 (n := 0) (ix := 0) (j := 0) (c := 11) (x := v0) rfl rfl rfl rfl) ?_
  refine xs_step (fun K HC => xr_geti HC.1 98 180 11 32 rfl rfl wf_M_398 (by decide) fb_11_32 fc_11_32) ?_
  refine xs_ite (fun K HC => xr_icmp_ge HC.1 99 242 183 rfl (by decide) rfl) ?_ ?_
  · refine xs_step (fun K HC => xr_sub (lv' := [(0, av_R 11 (some v0))]) [0] rfl) ?_
    exact xs_map (fun _ => rfl) (fun _ _ q => q) (t_M_plan_242 v0 h)
  refine xs_step (fun K HC => xr_iconst HC.1 100 184 (n := (0)) (0 : Int32) rfl rfl rfl) ?_
  refine xs_step (fun K HC => xr_istore_n HC.1 101 185 (n := 2) (ix := 2) (lv' := [(0, av_R 11 (some v0)), (1, av_I v1), (2, av_I (0 : Int32))]) rfl rfl rfl (by decide) rfl) ?_
  exact t_M_plan_185 v0 v1 (0 : Int32) h
theorem t_M_plan_175 (v0 : Nat) (v1 : Int32) (h : HP) : xx_S (xx_D "LampYardModel" tb_M_plan 3 8 (some .int) false) xz_i (fun K => xL_i K) 175 [(0, av_R 11 (some v0)), (1, av_I v1)] [] h (f_M_plan_175 v0 v1 h) :=
  xs_loop (zf := xz_i) (L := (fun K => xL_i K)) (fun s : (Int32 × HP) => [(0, av_R 11 (some v0)), (1, av_I s.1)]) (fun s : (Int32 × HP) => s.2) (fun s => t_M_plan_175b v0 s.1 s.2) (v1, h)
set_option maxHeartbeats 4000000 in
set_option maxRecDepth 100000 in
theorem t_M_plan_119 (v0 : Nat) (h : HP) : xx_S (xx_D "LampYardModel" tb_M_plan 3 8 (some .int) false) xz_i (fun K => xL_i K) 119 [(0, av_R 11 (some v0))] [] h (f_M_plan_119 v0 h) := by
  unfold f_M_plan_119
  refine xs_step (fun K HC => xr_aload_n HC.1 66 120 (n := 0) (ix := 0) (j := 0) (c := 11) (x := v0) rfl rfl rfl rfl) ?_
  refine xs_step (fun K HC => xr_geti HC.1 67 123 11 2 rfl rfl wf_M_227 (by decide) fb_11_2 fc_11_2) ?_
  refine xs_ite (fun K HC => xr_if_le HC.1 68 128 126 rfl (by decide) rfl) ?_ ?_
  · refine xs_step (fun K HC => xr_aload_n HC.1 71 129 (n := 0) (ix := 0) (j := 0) (c := 11) (x := v0) rfl rfl rfl rfl) ?_
    refine xs_step (fun K HC => xr_aload_n HC.1 72 130 (n := 0) (ix := 0) (j := 0) (c := 11) (x := v0) rfl rfl rfl rfl) ?_
    refine xs_step (fun K HC => xr_geti HC.1 73 133 11 20 rfl rfl wf_M_365 (by decide) fb_11_20 fc_11_20) ?_
    refine xs_heap (hp_mo_si _ _ _ _) (fun K HC => xr_puti HC.1 74 136 11 28 rfl rfl wf_M_383 (by decide) fb_11_28 fn_11_28 fy_11_28) (fun h_16 => ?_)
    refine xs_step (fun K HC => xr_aload_n HC.1 75 137 (n := 0) (ix := 0) (j := 0) (c := 11) (x := v0) rfl rfl rfl rfl) ?_
    refine xs_step (fun K HC => xr_aload_n HC.1 76 138 (n := 0) (ix := 0) (j := 0) (c := 11) (x := v0) rfl rfl rfl rfl) ?_
    refine xs_step (fun K HC => xr_geti HC.1 77 141 11 21 rfl rfl wf_M_368 (by decide) fb_11_21 fc_11_21) ?_
    refine xs_heap (hp_mo_si _ _ _ _) (fun K HC => xr_puti HC.1 78 144 11 29 rfl rfl wf_M_386 (by decide) fb_11_29 fn_11_29 fy_11_29) (fun h_17 => ?_)
    refine xs_step (fun K HC => xr_aload_n HC.1 79 145 (n := 0) (ix := 0) (j := 0) (c := 11) (x := v0) rfl rfl rfl rfl) ?_
    refine xs_step (fun K HC => xr_aload_n HC.1 80 146 (n := 0) (ix := 0) (j := 0) (c := 11) (x := v0) rfl rfl rfl rfl) ?_
    refine xs_step (fun K HC => xr_geti HC.1 81 149 11 22 rfl rfl wf_M_371 (by decide) fb_11_22 fc_11_22) ?_
    refine xs_heap (hp_mo_si _ _ _ _) (fun K HC => xr_puti HC.1 82 152 11 30 rfl rfl wf_M_389 (by decide) fb_11_30 fn_11_30 fy_11_30) (fun h_18 => ?_)
    refine xs_step (fun K HC => xr_aload_n HC.1 83 153 (n := 0) (ix := 0) (j := 0) (c := 11) (x := v0) rfl rfl rfl rfl) ?_
    refine xs_step (fun K HC => xr_aload_n HC.1 84 154 (n := 0) (ix := 0) (j := 0) (c := 11) (x := v0) rfl rfl rfl rfl) ?_
    refine xs_step (fun K HC => xr_geti HC.1 85 157 11 23 rfl rfl wf_M_359 (by decide) fb_11_23 fc_11_23) ?_
    refine xs_heap (hp_mo_si _ _ _ _) (fun K HC => xr_puti HC.1 86 160 11 31 rfl rfl wf_M_392 (by decide) fb_11_31 fn_11_31 fy_11_31) (fun h_19 => ?_)
    refine xs_step (fun K HC => xr_aload_n HC.1 87 161 (n := 0) (ix := 0) (j := 0) (c := 11) (x := v0) rfl rfl rfl rfl) ?_
    refine xs_step (fun K HC => xr_aload_n HC.1 88 162 (n := 0) (ix := 0) (j := 0) (c := 11) (x := v0) rfl rfl rfl rfl) ?_
    refine xs_step (fun K HC => xr_geti HC.1 89 165 11 24 rfl rfl wf_M_339 (by decide) fb_11_24 fc_11_24) ?_
    refine xs_heap (hp_mo_si _ _ _ _) (fun K HC => xr_puti HC.1 90 168 11 32 rfl rfl wf_M_398 (by decide) fb_11_32 fn_11_32 fy_11_32) (fun h_20 => ?_)
    refine xs_step (fun K HC => xr_aload_n HC.1 91 169 (n := 0) (ix := 0) (j := 0) (c := 11) (x := v0) rfl rfl rfl rfl) ?_
    refine xs_step (fun K HC => xr_iconst HC.1 92 170 (n := (0)) (0 : Int32) rfl rfl rfl) ?_
    refine xs_heap (hp_mo_si _ _ _ _) (fun K HC => xr_puti HC.1 93 173 11 33 rfl rfl wf_M_401 (by decide) fb_11_33 fn_11_33 fy_11_33) (fun h_21 => ?_)
    refine xs_step (fun K HC => xr_iconst HC.1 94 174 (n := (0)) (0 : Int32) rfl rfl rfl) ?_
    refine xs_step (fun K HC => xr_istore_n HC.1 95 175 (n := 1) (ix := 1) (lv' := [(0, av_R 11 (some v0)), (1, av_I (0 : Int32))]) rfl rfl rfl (by decide) rfl) ?_
    exact t_M_plan_175 v0 (0 : Int32) h_21
  refine xs_step (fun K HC => xr_iconst HC.1 69 127 (n := (-1)) (-1 : Int32) rfl rfl rfl) ?_
  exact xs_reti 70 rfl rfl (fun K q => q) (fun ty ht => by cases ht; rfl)
set_option maxHeartbeats 4000000 in
set_option maxRecDepth 100000 in
theorem t_M_plan_98b (v0 : Nat) (h : HP) : xx_S (xx_D "LampYardModel" tb_M_plan 3 8 (some .int) false) (xx_z2 (fun s : (HP) => s) xz_i) (fun K => xx_L2 (fun s : (HP) => xx_X K 98 [(0, av_R 11 (some v0))] [] (s)) (xL_i K)) 98 [(0, av_R 11 (some v0))] [] h (f_M_plan_98b v0 h) := by
  unfold f_M_plan_98b
  refine xs_step (fun K HC => xr_aload_n HC.1 57 99 (n := 0) (ix := 0) (j := 0) (c := 11) (x := v0) rfl rfl rfl rfl) ?_
  refine xs_step (fun K HC => xr_geti HC.1 58 102 11 2 rfl rfl wf_M_227 (by decide) fb_11_2 fc_11_2) ?_
  refine xs_ite (fun K HC a b => xr_if_ne HC.1 59 119 105 rfl (by decide) rfl b a) ?_ ?_
  · refine xs_step (fun K HC => xr_aload_n HC.1 60 106 (n := 0) (ix := 0) (j := 0) (c := 11) (x := v0) rfl rfl rfl rfl) ?_
    refine xs_step (fun K HC => xr_geti HC.1 61 109 11 6 rfl rfl wf_M_214 (by decide) fb_11_6 fc_11_6) ?_
    refine xs_ite (fun K HC => xr_if_eq HC.1 62 119 112 rfl (by decide) rfl) ?_ ?_
    · exact xs_map (fun _ => rfl) (fun _ _ q => q) (t_M_plan_119 v0 h)
    refine xs_step (fun K HC => xr_aload_n HC.1 63 113 (n := 0) (ix := 0) (j := 0) (c := 11) (x := v0) rfl rfl rfl rfl) ?_
    refine xs_callv (s_M_readLine v0 h) (fun K HC x9 hM hmo hb => xr_callV HC.1 64 116 (av := []) (st := []) (hM (kg K) (cx_l (kx K))) hmo hb rfl rfl wm_M_395 wi_M_readLine ws_M_readLine wc_M_readLine rfl wh_M_readLine (by decide) (by decide) (by decide) (Nat.le_of_ble_eq_true rfl) rfl) (fun x_71 => ?_)
    refine xs_step (fun K HC => xr_goto HC.1 65 98 rfl (by decide)) ?_
    exact xs_back rfl (fun K q => q)
  exact xs_map (fun _ => rfl) (fun _ _ q => q) (t_M_plan_119 v0 h)
theorem t_M_plan_98 (v0 : Nat) (h : HP) : xx_S (xx_D "LampYardModel" tb_M_plan 3 8 (some .int) false) xz_i (fun K => xL_i K) 98 [(0, av_R 11 (some v0))] [] h (f_M_plan_98 v0 h) :=
  xs_loop (zf := xz_i) (L := (fun K => xL_i K)) (fun s : (HP) => [(0, av_R 11 (some v0))]) (fun s : (HP) => s) (fun s => t_M_plan_98b v0 s) h
set_option maxHeartbeats 4000000 in
set_option maxRecDepth 100000 in
theorem t_M_plan_94 (v0 : Nat) (h : HP) : xx_S (xx_D "LampYardModel" tb_M_plan 3 8 (some .int) false) xz_i (fun K => xL_i K) 94 [(0, av_R 11 (some v0))] [] h (f_M_plan_94 v0 h) := by
  unfold f_M_plan_94
  refine xs_step (fun K HC => xr_aload_n HC.1 55 95 (n := 0) (ix := 0) (j := 0) (c := 11) (x := v0) rfl rfl rfl rfl) ?_
  refine xs_callv (s_M_token v0 h) (fun K HC x9 hM hmo hb => xr_callV HC.1 56 98 (av := []) (st := []) (hM (kg K) (cx_l (kx K))) hmo hb rfl rfl wm_M_277 wi_M_token ws_M_token wc_M_token rfl wh_M_token (by decide) (by decide) (by decide) (Nat.le_of_ble_eq_true rfl) rfl) (fun x_15 => ?_)
  exact t_M_plan_98 v0 x_15
set_option maxHeartbeats 4000000 in
set_option maxRecDepth 100000 in
theorem t_M_plan_76b (v0 : Nat) (v1 : Int32) (h : HP) : xx_S (xx_D "LampYardModel" tb_M_plan 3 8 (some .int) false) (xx_z2 (fun s : (Int32 × HP) => s.2) xz_i) (fun K => xx_L2 (fun s : (Int32 × HP) => xx_X K 76 [(0, av_R 11 (some v0)), (1, av_I s.1)] [] (s.2)) (xL_i K)) 76 [(0, av_R 11 (some v0)), (1, av_I v1)] [] h (f_M_plan_76b v0 v1 h) := by
  unfold f_M_plan_76b
  refine xs_step (fun K HC => xr_iload_n HC.1 45 77 (n := 1) (ix := 1) (j := 1) (x := v1) rfl rfl rfl rfl) ?_
  refine xs_step (fun K HC => xr_iconst HC.1 46 78 (n := (4)) (4 : Int32) rfl rfl rfl) ?_
  refine xs_ite (fun K HC => xr_icmp_ge HC.1 47 94 81 rfl (by decide) rfl) ?_ ?_
  · refine xs_step (fun K HC => xr_sub (lv' := [(0, av_R 11 (some v0))]) [0] rfl) ?_
    exact xs_map (fun _ => rfl) (fun _ _ q => q) (t_M_plan_94 v0 h)
  refine xs_step (fun K HC => xr_aload_n HC.1 48 82 (n := 0) (ix := 0) (j := 0) (c := 11) (x := v0) rfl rfl rfl rfl) ?_
  refine xs_bind (fun q_72 eq_72 => ?_)
  refine xs_step (fun K HC => xr_getr HC.1 49 85 11 19 15 eq_72 rfl rfl wf_M_46 (by decide) fb_11_19 fc_11_19 fd_11_19) ?_
  refine xs_step (fun K HC => xr_iload_n HC.1 50 86 (n := 1) (ix := 1) (j := 1) (x := v1) rfl rfl rfl rfl) ?_
  refine xs_step (fun K HC => xr_iconst HC.1 51 87 (n := (0)) (0 : Int32) rfl rfl rfl) ?_
  refine xs_chk (fun hb_73 => ?_)
  refine xs_heap (hp_mo_si _ _ _ _) (fun K HC => xr_zast HC.1 52 88 (hp_in_vp hb_73) rfl rfl) (fun h_74 => ?_)
  refine xs_gen (fun v1_75 ev1_75 => ?_)
  refine xs_step (fun K HC => xr_iinc HC.1 53 91 (ix := 1) (j := 1) (n := (1)) (x := v1) v1_75 (lv' := [(0, av_R 11 (some v0)), (1, av_I v1_75)]) rfl (by rw [ev1_75]; rfl) rfl rfl (by decide) rfl) ?_
  refine xs_step (fun K HC => xr_goto HC.1 54 76 rfl (by decide)) ?_
  exact xs_back rfl (fun K q => q)
theorem t_M_plan_76 (v0 : Nat) (v1 : Int32) (h : HP) : xx_S (xx_D "LampYardModel" tb_M_plan 3 8 (some .int) false) xz_i (fun K => xL_i K) 76 [(0, av_R 11 (some v0)), (1, av_I v1)] [] h (f_M_plan_76 v0 v1 h) :=
  xs_loop (zf := xz_i) (L := (fun K => xL_i K)) (fun s : (Int32 × HP) => [(0, av_R 11 (some v0)), (1, av_I s.1)]) (fun s : (Int32 × HP) => s.2) (fun s => t_M_plan_76b v0 s.1 s.2) (v1, h)
set_option maxHeartbeats 4000000 in
set_option maxRecDepth 100000 in
theorem t_M_plan (v0 : Nat) (h : HP) : xx_S (xx_D "LampYardModel" tb_M_plan 3 8 (some .int) false) xz_i (fun K => xL_i K) 0 [(0, av_R 11 (some v0))] [] h (f_M_plan v0 h) := by
  unfold f_M_plan
  refine xs_step (fun K HC => xr_aload_n HC.1 0 1 (n := 0) (ix := 0) (j := 0) (c := 11) (x := v0) rfl rfl rfl rfl) ?_
  refine xs_step (fun K HC => xr_aload_n HC.1 1 2 (n := 0) (ix := 0) (j := 0) (c := 11) (x := v0) rfl rfl rfl rfl) ?_
  refine xs_step (fun K HC => xr_geti HC.1 2 5 11 1 rfl rfl wf_M_188 (by decide) fb_11_1 fc_11_1) ?_
  refine xs_heap (hp_mo_si _ _ _ _) (fun K HC => xr_puti HC.1 3 8 11 5 rfl rfl wf_M_197 (by decide) fb_11_5 fn_11_5 fy_11_5) (fun h_1 => ?_)
  refine xs_step (fun K HC => xr_aload_n HC.1 4 9 (n := 0) (ix := 0) (j := 0) (c := 11) (x := v0) rfl rfl rfl rfl) ?_
  refine xs_step (fun K HC => xr_iconst HC.1 5 10 (n := (0)) (0 : Int32) rfl rfl rfl) ?_
  refine xs_heap (hp_mo_si _ _ _ _) (fun K HC => xr_puti HC.1 6 13 11 1 rfl rfl wf_M_188 (by decide) fb_11_1 fn_11_1 fy_11_1) (fun h_2 => ?_)
  refine xs_step (fun K HC => xr_aload_n HC.1 7 14 (n := 0) (ix := 0) (j := 0) (c := 11) (x := v0) rfl rfl rfl rfl) ?_
  refine xs_step (fun K HC => xr_iconst HC.1 8 15 (n := (0)) (0 : Int32) rfl rfl rfl) ?_
  refine xs_heap (hp_mo_si _ _ _ _) (fun K HC => xr_puti HC.1 9 18 11 4 rfl rfl wf_M_194 (by decide) fb_11_4 fn_11_4 fy_11_4) (fun h_3 => ?_)
  refine xs_step (fun K HC => xr_aload_n HC.1 10 19 (n := 0) (ix := 0) (j := 0) (c := 11) (x := v0) rfl rfl rfl rfl) ?_
  refine xs_step (fun K HC => xr_iconst HC.1 11 20 (n := (0)) (0 : Int32) rfl rfl rfl) ?_
  refine xs_heap (hp_mo_si _ _ _ _) (fun K HC => xr_puti HC.1 12 23 11 2 rfl rfl wf_M_227 (by decide) fb_11_2 fn_11_2 fy_11_2) (fun h_4 => ?_)
  refine xs_step (fun K HC => xr_aload_n HC.1 13 24 (n := 0) (ix := 0) (j := 0) (c := 11) (x := v0) rfl rfl rfl rfl) ?_
  refine xs_step (fun K HC => xr_iconst HC.1 14 25 (n := (-1)) (-1 : Int32) rfl rfl rfl) ?_
  refine xs_heap (hp_mo_si _ _ _ _) (fun K HC => xr_puti HC.1 15 28 11 3 rfl rfl wf_M_13 (by decide) fb_11_3 fn_11_3 fy_11_3) (fun h_5 => ?_)
  refine xs_step (fun K HC => xr_aload_n HC.1 16 29 (n := 0) (ix := 0) (j := 0) (c := 11) (x := v0) rfl rfl rfl rfl) ?_
  refine xs_step (fun K HC => xr_iconst HC.1 17 30 (n := (1)) (1 : Int32) rfl rfl rfl) ?_
  refine xs_heap (hp_mo_si _ _ _ _) (fun K HC => xr_puti HC.1 18 33 11 20 rfl rfl wf_M_365 (by decide) fb_11_20 fn_11_20 fy_11_20) (fun h_6 => ?_)
  refine xs_step (fun K HC => xr_aload_n HC.1 19 34 (n := 0) (ix := 0) (j := 0) (c := 11) (x := v0) rfl rfl rfl rfl) ?_
  refine xs_step (fun K HC => xr_iconst HC.1 20 35 (n := (1)) (1 : Int32) rfl rfl rfl) ?_
  refine xs_heap (hp_mo_si _ _ _ _) (fun K HC => xr_puti HC.1 21 38 11 21 rfl rfl wf_M_368 (by decide) fb_11_21 fn_11_21 fy_11_21) (fun h_7 => ?_)
  refine xs_step (fun K HC => xr_aload_n HC.1 22 39 (n := 0) (ix := 0) (j := 0) (c := 11) (x := v0) rfl rfl rfl rfl) ?_
  refine xs_step (fun K HC => xr_bipush HC.1 23 41 (n := (99)) (99 : Int32) rfl rfl rfl) ?_
  refine xs_heap (hp_mo_si _ _ _ _) (fun K HC => xr_puti HC.1 24 44 11 22 rfl rfl wf_M_371 (by decide) fb_11_22 fn_11_22 fy_11_22) (fun h_8 => ?_)
  refine xs_step (fun K HC => xr_aload_n HC.1 25 45 (n := 0) (ix := 0) (j := 0) (c := 11) (x := v0) rfl rfl rfl rfl) ?_
  refine xs_step (fun K HC => xr_iconst HC.1 26 46 (n := (0)) (0 : Int32) rfl rfl rfl) ?_
  refine xs_heap (hp_mo_si _ _ _ _) (fun K HC => xr_puti HC.1 27 49 11 23 rfl rfl wf_M_359 (by decide) fb_11_23 fn_11_23 fy_11_23) (fun h_9 => ?_)
  refine xs_step (fun K HC => xr_aload_n HC.1 28 50 (n := 0) (ix := 0) (j := 0) (c := 11) (x := v0) rfl rfl rfl rfl) ?_
  refine xs_step (fun K HC => xr_iconst HC.1 29 51 (n := (0)) (0 : Int32) rfl rfl rfl) ?_
  refine xs_heap (hp_mo_si _ _ _ _) (fun K HC => xr_puti HC.1 30 54 11 24 rfl rfl wf_M_339 (by decide) fb_11_24 fn_11_24 fy_11_24) (fun h_10 => ?_)
  refine xs_step (fun K HC => xr_aload_n HC.1 31 55 (n := 0) (ix := 0) (j := 0) (c := 11) (x := v0) rfl rfl rfl rfl) ?_
  refine xs_step (fun K HC => xr_iconst HC.1 32 56 (n := (0)) (0 : Int32) rfl rfl rfl) ?_
  refine xs_heap (hp_mo_si _ _ _ _) (fun K HC => xr_puti HC.1 33 59 11 25 rfl rfl wf_M_349 (by decide) fb_11_25 fn_11_25 fy_11_25) (fun h_11 => ?_)
  refine xs_step (fun K HC => xr_aload_n HC.1 34 60 (n := 0) (ix := 0) (j := 0) (c := 11) (x := v0) rfl rfl rfl rfl) ?_
  refine xs_step (fun K HC => xr_iconst HC.1 35 61 (n := (0)) (0 : Int32) rfl rfl rfl) ?_
  refine xs_heap (hp_mo_si _ _ _ _) (fun K HC => xr_puti HC.1 36 64 11 26 rfl rfl wf_M_327 (by decide) fb_11_26 fn_11_26 fy_11_26) (fun h_12 => ?_)
  refine xs_step (fun K HC => xr_aload_n HC.1 37 65 (n := 0) (ix := 0) (j := 0) (c := 11) (x := v0) rfl rfl rfl rfl) ?_
  refine xs_step (fun K HC => xr_iconst HC.1 38 66 (n := (0)) (0 : Int32) rfl rfl rfl) ?_
  refine xs_heap (hp_mo_si _ _ _ _) (fun K HC => xr_puti HC.1 39 69 11 27 rfl rfl wf_M_311 (by decide) fb_11_27 fn_11_27 fy_11_27) (fun h_13 => ?_)
  refine xs_step (fun K HC => xr_aload_n HC.1 40 70 (n := 0) (ix := 0) (j := 0) (c := 11) (x := v0) rfl rfl rfl rfl) ?_
  refine xs_step (fun K HC => xr_iconst HC.1 41 71 (n := (0)) (0 : Int32) rfl rfl rfl) ?_
  refine xs_heap (hp_mo_si _ _ _ _) (fun K HC => xr_puti HC.1 42 74 11 44 rfl rfl wf_M_288 (by decide) fb_11_44 fn_11_44 fy_11_44) (fun h_14 => ?_)
  refine xs_step (fun K HC => xr_iconst HC.1 43 75 (n := (0)) (0 : Int32) rfl rfl rfl) ?_
  refine xs_step (fun K HC => xr_istore_n HC.1 44 76 (n := 1) (ix := 1) (lv' := [(0, av_R 11 (some v0)), (1, av_I (0 : Int32))]) rfl rfl rfl (by decide) rfl) ?_
  exact t_M_plan_76 v0 (0 : Int32) h_14
theorem s_M_plan (v0 : Nat) (h : HP) : ∀ x, f_M_plan v0 h = some x → hp_mo h x.2 ∧ ∀ g l, xx_M g l y_M_plan prog_14_method_35_code 3 (some .int) 8 [av_R 11 (some v0)] h (some (av_I x.1)) x.2 :=
  xM_i (tb := tb_M_plan) (b := false) (by decide +kernel) dt_M_plan (fun _ => trivial) (Nat.le_of_ble_eq_true rfl) (fun hb => by cases hb) (t_M_plan v0 h)
def tb_M_fault : TBL := [(0, .iload_n 1, 1), (1, .ifCond .ne 10, 3), (4, .aload_n 0, 1), (5, .getfield 227, 3), (8, .goto 16, 3), (11, .iload_n 1, 1), (12, .iconst 1, 1), (13, .if_icmp .ne 10, 3), (16, .aload_n 0, 1), (17, .getfield 13, 3), (20, .goto 4, 3), (23, .iconst (-1), 1), (24, .ireturn, 1)]
theorem dt_M_fault : ∀ q ∈ tb_M_fault, decode prog_14_method_36_code q.1 = .ok (q.2.1, q.2.2) := by decide +kernel
set_option maxHeartbeats 4000000 in
set_option maxRecDepth 100000 in
theorem t_M_fault (v0 : Nat) (v1 : Int32) (h : HP) : xx_S (xx_D "LampYardModel" tb_M_fault 2 1 (some .int) false) xz_i (fun K => xL_i K) 0 [(0, av_R 11 (some v0)), (1, av_I v1)] [] h (f_M_fault v0 v1 h) := by
  unfold f_M_fault
  refine xs_step (fun K HC => xr_iload_n HC.1 0 1 (n := 1) (ix := 1) (j := 1) (x := v1) rfl rfl rfl rfl) ?_
  refine xs_ite (fun K HC a b => xr_if_ne HC.1 1 11 4 rfl (by decide) rfl b a) ?_ ?_
  · refine xs_step (fun K HC => xr_aload_n HC.1 2 5 (n := 0) (ix := 0) (j := 0) (c := 11) (x := v0) rfl rfl rfl rfl) ?_
    refine xs_step (fun K HC => xr_geti HC.1 3 8 11 2 rfl rfl wf_M_227 (by decide) fb_11_2 fc_11_2) ?_
    refine xs_step (fun K HC => xr_goto HC.1 4 24 rfl (by decide)) ?_
    exact xs_reti 12 rfl rfl (fun K q => q) (fun ty ht => by cases ht; rfl)
  refine xs_step (fun K HC => xr_iload_n HC.1 5 12 (n := 1) (ix := 1) (j := 1) (x := v1) rfl rfl rfl rfl) ?_
  refine xs_step (fun K HC => xr_iconst HC.1 6 13 (n := (1)) (1 : Int32) rfl rfl rfl) ?_
  refine xs_ite (fun K HC a b => xr_icmp_ne HC.1 7 23 16 rfl (by decide) rfl b a) ?_ ?_
  · refine xs_step (fun K HC => xr_aload_n HC.1 8 17 (n := 0) (ix := 0) (j := 0) (c := 11) (x := v0) rfl rfl rfl rfl) ?_
    refine xs_step (fun K HC => xr_geti HC.1 9 20 11 3 rfl rfl wf_M_13 (by decide) fb_11_3 fc_11_3) ?_
    refine xs_step (fun K HC => xr_goto HC.1 10 24 rfl (by decide)) ?_
    exact xs_reti 12 rfl rfl (fun K q => q) (fun ty ht => by cases ht; rfl)
  refine xs_step (fun K HC => xr_iconst HC.1 11 24 (n := (-1)) (-1 : Int32) rfl rfl rfl) ?_
  exact xs_reti 12 rfl rfl (fun K q => q) (fun ty ht => by cases ht; rfl)
theorem s_M_fault (v0 : Nat) (v1 : Int32) (h : HP) : ∀ x, f_M_fault v0 v1 h = some x → hp_mo h x.2 ∧ ∀ g l, xx_M g l y_M_fault prog_14_method_36_code 2 (some .int) 1 [av_R 11 (some v0), av_I v1] h (some (av_I x.1)) x.2 :=
  xM_i (tb := tb_M_fault) (b := false) (by decide +kernel) dt_M_fault (fun _ => trivial) (Nat.le_of_ble_eq_true rfl) (fun hb => by cases hb) (t_M_fault v0 v1 h)
def tb_M_full : TBL := [(0, .iconst 1, 1), (1, .aload_n 0, 1), (2, .getfield 383, 3), (5, .ishl, 1), (6, .iconst 1, 1), (7, .isub, 1), (8, .ireturn, 1)]
theorem dt_M_full : ∀ q ∈ tb_M_full, decode prog_14_method_37_code q.1 = .ok (q.2.1, q.2.2) := by decide +kernel
set_option maxHeartbeats 4000000 in
set_option maxRecDepth 100000 in
theorem t_M_full (v0 : Nat) (h : HP) : xx_S (xx_D "LampYardModel" tb_M_full 1 1 (some .int) false) xz_i (fun K => xL_i K) 0 [(0, av_R 11 (some v0))] [] h (f_M_full v0 h) := by
  unfold f_M_full
  refine xs_step (fun K HC => xr_iconst HC.1 0 1 (n := (1)) (1 : Int32) rfl rfl rfl) ?_
  refine xs_step (fun K HC => xr_aload_n HC.1 1 2 (n := 0) (ix := 0) (j := 0) (c := 11) (x := v0) rfl rfl rfl rfl) ?_
  refine xs_step (fun K HC => xr_geti HC.1 2 5 11 28 rfl rfl wf_M_383 (by decide) fb_11_28 fc_11_28) ?_
  refine xs_step (fun K HC => xr_ishl HC.1 3 6 rfl rfl) ?_
  refine xs_step (fun K HC => xr_iconst HC.1 4 7 (n := (1)) (1 : Int32) rfl rfl rfl) ?_
  refine xs_step (fun K HC => xr_isub HC.1 5 8 rfl rfl) ?_
  exact xs_reti 6 rfl rfl (fun K q => q) (fun ty ht => by cases ht; rfl)
theorem s_M_full (v0 : Nat) (h : HP) : ∀ x, f_M_full v0 h = some x → hp_mo h x.2 ∧ ∀ g l, xx_M g l y_M_full prog_14_method_37_code 1 (some .int) 1 [av_R 11 (some v0)] h (some (av_I x.1)) x.2 :=
  xM_i (tb := tb_M_full) (b := false) (by decide +kernel) dt_M_full (fun _ => trivial) (Nat.le_of_ble_eq_true rfl) (fun hb => by cases hb) (t_M_full v0 h)
def tb_M_isAll : TBL := [(0, .iconst 1, 1), (1, .istore_n 1, 1), (2, .iconst 0, 1), (3, .istore_n 2, 1), (4, .iload_n 2, 1), (5, .aload_n 0, 1), (6, .getfield 401, 3), (9, .if_icmp .ge 28, 3), (12, .iload_n 1, 1), (13, .ifCond .eq 16, 3), (16, .aload_n 0, 1), (17, .getfield 82, 3), (20, .iload_n 2, 1), (21, .baload, 1), (22, .ifCond .eq 7, 3), (25, .iconst 1, 1), (26, .goto 4, 3), (29, .iconst 0, 1), (30, .istore_n 1, 1), (31, .iinc 2 1, 3), (34, .goto (-30), 3), (37, .iload_n 1, 1), (38, .ireturn, 1)]
theorem dt_M_isAll : ∀ q ∈ tb_M_isAll, decode prog_14_method_38_code q.1 = .ok (q.2.1, q.2.2) := by decide +kernel
set_option maxHeartbeats 4000000 in
set_option maxRecDepth 100000 in
theorem t_M_isAll_30 (v0 : Nat) (v2 : Int32) (s0 : Int32) (h : HP) : xx_S (xx_D "LampYardModel" tb_M_isAll 3 1 (some .boolean) false) (xx_z2 (fun s : (Int32 × Int32 × HP) => s.2.2) xz_i) (fun K => xx_L2 (fun s : (Int32 × Int32 × HP) => xx_X K 4 [(0, av_R 11 (some v0)), (1, av_I s.1), (2, av_I s.2.1)] [] (s.2.2)) (xL_i K)) 30 [(0, av_R 11 (some v0)), (2, av_I v2)] [av_I s0] h (f_M_isAll_30 v0 v2 s0 h) := by
  unfold f_M_isAll_30
  refine xs_step (fun K HC => xr_istore_n HC.1 18 31 (n := 1) (ix := 1) (lv' := [(0, av_R 11 (some v0)), (1, av_I s0), (2, av_I v2)]) rfl rfl rfl (by decide) rfl) ?_
  refine xs_gen (fun v2_2 ev2_2 => ?_)
  refine xs_step (fun K HC => xr_iinc HC.1 19 34 (ix := 2) (j := 2) (n := (1)) (x := v2) v2_2 (lv' := [(0, av_R 11 (some v0)), (1, av_I s0), (2, av_I v2_2)]) rfl (by rw [ev2_2]; rfl) rfl rfl (by decide) rfl) ?_
  refine xs_step (fun K HC => xr_goto HC.1 20 4 rfl (by decide)) ?_
  exact xs_back rfl (fun K q => q)
set_option maxHeartbeats 4000000 in
set_option maxRecDepth 100000 in
theorem t_M_isAll_29 (v0 : Nat) (v2 : Int32) (h : HP) : xx_S (xx_D "LampYardModel" tb_M_isAll 3 1 (some .boolean) false) (xx_z2 (fun s : (Int32 × Int32 × HP) => s.2.2) xz_i) (fun K => xx_L2 (fun s : (Int32 × Int32 × HP) => xx_X K 4 [(0, av_R 11 (some v0)), (1, av_I s.1), (2, av_I s.2.1)] [] (s.2.2)) (xL_i K)) 29 [(0, av_R 11 (some v0)), (2, av_I v2)] [] h (f_M_isAll_29 v0 v2 h) := by
  unfold f_M_isAll_29
  refine xs_step (fun K HC => xr_iconst HC.1 17 30 (n := (0)) (0 : Int32) rfl rfl rfl) ?_
  exact t_M_isAll_30 v0 v2 (0 : Int32) h
set_option maxHeartbeats 4000000 in
set_option maxRecDepth 100000 in
theorem t_M_isAll_4b (v0 : Nat) (v1 : Int32) (v2 : Int32) (h : HP) : xx_S (xx_D "LampYardModel" tb_M_isAll 3 1 (some .boolean) false) (xx_z2 (fun s : (Int32 × Int32 × HP) => s.2.2) xz_i) (fun K => xx_L2 (fun s : (Int32 × Int32 × HP) => xx_X K 4 [(0, av_R 11 (some v0)), (1, av_I s.1), (2, av_I s.2.1)] [] (s.2.2)) (xL_i K)) 4 [(0, av_R 11 (some v0)), (1, av_I v1), (2, av_I v2)] [] h (f_M_isAll_4b v0 v1 v2 h) := by
  unfold f_M_isAll_4b
  refine xs_step (fun K HC => xr_iload_n HC.1 4 5 (n := 2) (ix := 2) (j := 2) (x := v2) rfl rfl rfl rfl) ?_
  refine xs_step (fun K HC => xr_aload_n HC.1 5 6 (n := 0) (ix := 0) (j := 0) (c := 11) (x := v0) rfl rfl rfl rfl) ?_
  refine xs_step (fun K HC => xr_geti HC.1 6 9 11 33 rfl rfl wf_M_401 (by decide) fb_11_33 fc_11_33) ?_
  refine xs_ite (fun K HC => xr_icmp_ge HC.1 7 37 12 rfl (by decide) rfl) ?_ ?_
  · refine xs_step (fun K HC => xr_iload_n HC.1 21 38 (n := 1) (ix := 1) (j := 1) (x := v1) rfl rfl rfl rfl) ?_
    refine xs_chk (fun hz_1 => ?_)
    exact xs_reti 22 rfl rfl (fun K q => q) (fun ty ht => by cases ht; rcases hp_z01_or hz_1 with e9 | e9 <;> rw [e9] <;> rfl)
  refine xs_step (fun K HC => xr_iload_n HC.1 8 13 (n := 1) (ix := 1) (j := 1) (x := v1) rfl rfl rfl rfl) ?_
  refine xs_ite (fun K HC => xr_if_eq HC.1 9 29 16 rfl (by decide) rfl) ?_ ?_
  · refine xs_step (fun K HC => xr_sub (lv' := [(0, av_R 11 (some v0)), (2, av_I v2)]) [0, 2] rfl) ?_
    exact t_M_isAll_29 v0 v2 h
  refine xs_step (fun K HC => xr_aload_n HC.1 10 17 (n := 0) (ix := 0) (j := 0) (c := 11) (x := v0) rfl rfl rfl rfl) ?_
  refine xs_bind (fun q_3 eq_3 => ?_)
  refine xs_step (fun K HC => xr_getr HC.1 11 20 11 50 15 eq_3 rfl rfl wf_M_82 (by decide) fb_11_50 fc_11_50 fd_11_50) ?_
  refine xs_step (fun K HC => xr_iload_n HC.1 12 21 (n := 2) (ix := 2) (j := 2) (x := v2) rfl rfl rfl rfl) ?_
  refine xs_chk (fun hb_4 => ?_)
  refine xs_step (fun K HC => xr_zald HC.1 13 22 (hp_in_vp hb_4) rfl rfl) ?_
  refine xs_ite (fun K HC => xr_if_eq HC.1 14 29 25 rfl (by decide) rfl) ?_ ?_
  · refine xs_step (fun K HC => xr_sub (lv' := [(0, av_R 11 (some v0)), (2, av_I v2)]) [0, 2] rfl) ?_
    exact t_M_isAll_29 v0 v2 h
  refine xs_step (fun K HC => xr_iconst HC.1 15 26 (n := (1)) (1 : Int32) rfl rfl rfl) ?_
  refine xs_step (fun K HC => xr_goto HC.1 16 30 rfl (by decide)) ?_
  refine xs_step (fun K HC => xr_sub (lv' := [(0, av_R 11 (some v0)), (2, av_I v2)]) [0, 2] rfl) ?_
  exact t_M_isAll_30 v0 v2 (1 : Int32) h
theorem t_M_isAll_4 (v0 : Nat) (v1 : Int32) (v2 : Int32) (h : HP) : xx_S (xx_D "LampYardModel" tb_M_isAll 3 1 (some .boolean) false) xz_i (fun K => xL_i K) 4 [(0, av_R 11 (some v0)), (1, av_I v1), (2, av_I v2)] [] h (f_M_isAll_4 v0 v1 v2 h) :=
  xs_loop (zf := xz_i) (L := (fun K => xL_i K)) (fun s : (Int32 × Int32 × HP) => [(0, av_R 11 (some v0)), (1, av_I s.1), (2, av_I s.2.1)]) (fun s : (Int32 × Int32 × HP) => s.2.2) (fun s => t_M_isAll_4b v0 s.1 s.2.1 s.2.2) (v1, v2, h)
set_option maxHeartbeats 4000000 in
set_option maxRecDepth 100000 in
theorem t_M_isAll (v0 : Nat) (h : HP) : xx_S (xx_D "LampYardModel" tb_M_isAll 3 1 (some .boolean) false) xz_i (fun K => xL_i K) 0 [(0, av_R 11 (some v0))] [] h (f_M_isAll v0 h) := by
  unfold f_M_isAll
  refine xs_step (fun K HC => xr_iconst HC.1 0 1 (n := (1)) (1 : Int32) rfl rfl rfl) ?_
  refine xs_step (fun K HC => xr_istore_n HC.1 1 2 (n := 1) (ix := 1) (lv' := [(0, av_R 11 (some v0)), (1, av_I (1 : Int32))]) rfl rfl rfl (by decide) rfl) ?_
  refine xs_step (fun K HC => xr_iconst HC.1 2 3 (n := (0)) (0 : Int32) rfl rfl rfl) ?_
  refine xs_step (fun K HC => xr_istore_n HC.1 3 4 (n := 2) (ix := 2) (lv' := [(0, av_R 11 (some v0)), (1, av_I (1 : Int32)), (2, av_I (0 : Int32))]) rfl rfl rfl (by decide) rfl) ?_
  exact t_M_isAll_4 v0 (1 : Int32) (0 : Int32) h
theorem s_M_isAll (v0 : Nat) (h : HP) : ∀ x, f_M_isAll v0 h = some x → hp_mo h x.2 ∧ ∀ g l, xx_M g l y_M_isAll prog_14_method_38_code 3 (some .boolean) 1 [av_R 11 (some v0)] h (some (av_I x.1)) x.2 :=
  xM_i (tb := tb_M_isAll) (b := false) (by decide +kernel) dt_M_isAll (fun _ => trivial) (Nat.le_of_ble_eq_true rfl) (fun hb => by cases hb) (t_M_isAll v0 h)
def tb_M_worked : TBL := [(0, .iload_n 0, 1), (1, .tableswitch 116 20 27 #[47, 61, 116, 75, 86, 97, 108, 112], 47), (48, .iload_n 1, 1), (49, .ifCond .ne 7, 3), (52, .iload_n 2, 1), (53, .ifCond .eq 7, 3), (56, .iconst 1, 1), (57, .goto 4, 3), (60, .iconst 0, 1), (61, .ireturn, 1), (62, .iload_n 1, 1), (63, .ifCond .eq 11, 3), (66, .iload_n 2, 1), (67, .ifCond .eq 7, 3), (70, .iconst 1, 1), (71, .goto 4, 3), (74, .iconst 0, 1), (75, .ireturn, 1), (76, .iload_n 1, 1), (77, .iload_n 2, 1), (78, .if_icmp .ne 7, 3), (81, .iconst 1, 1), (82, .goto 4, 3), (85, .iconst 0, 1), (86, .ireturn, 1), (87, .iload_n 1, 1), (88, .iload_n 2, 1), (89, .if_icmp .ge 7, 3), (92, .iconst 1, 1), (93, .goto 4, 3), (96, .iconst 0, 1), (97, .ireturn, 1), (98, .iload_n 1, 1), (99, .iload_n 2, 1), (100, .if_icmp .le 7, 3), (103, .iconst 1, 1), (104, .goto 4, 3), (107, .iconst 0, 1), (108, .ireturn, 1), (109, .iload_n 1, 1), (110, .iload_n 2, 1), (111, .iadd, 1), (112, .ireturn, 1), (113, .iload_n 1, 1), (114, .iload_n 2, 1), (115, .isub, 1), (116, .ireturn, 1), (117, .iload_n 1, 1), (118, .iload_n 2, 1), (119, .imul, 1), (120, .ireturn, 1)]
theorem dt_M_worked : ∀ q ∈ tb_M_worked, decode prog_14_method_39_code q.1 = .ok (q.2.1, q.2.2) := by decide +kernel
set_option maxHeartbeats 4000000 in
set_option maxRecDepth 100000 in
theorem t_M_worked (v0 : Int32) (v1 : Int32) (v2 : Int32) (h : HP) : xx_S (xx_D "LampYardModel" tb_M_worked 3 1 (some .int) false) xz_i (fun K => xL_i K) 0 [(0, av_I v0), (1, av_I v1), (2, av_I v2)] [] h (f_M_worked v0 v1 v2 h) := by
  unfold f_M_worked
  refine xs_step (fun K HC => xr_iload_n HC.1 0 1 (n := 0) (ix := 0) (j := 0) (x := v0) rfl rfl rfl rfl) ?_
  refine xs_if (fun hc_1 => ?_) (fun hc_1 => ?_)
  · refine xs_step (fun K HC => xr_tabI HC.1 1 48 (20 : Int32) rfl hc_1 (by decide) (by decide) rfl (by decide)) ?_
    refine xs_step (fun K HC => xr_iload_n HC.1 2 49 (n := 1) (ix := 1) (j := 1) (x := v1) rfl rfl rfl rfl) ?_
    refine xs_ite (fun K HC a b => xr_if_ne HC.1 3 56 52 rfl (by decide) rfl b a) ?_ ?_
    · refine xs_step (fun K HC => xr_iload_n HC.1 4 53 (n := 2) (ix := 2) (j := 2) (x := v2) rfl rfl rfl rfl) ?_
      refine xs_ite (fun K HC => xr_if_eq HC.1 5 60 56 rfl (by decide) rfl) ?_ ?_
      · refine xs_step (fun K HC => xr_iconst HC.1 8 61 (n := (0)) (0 : Int32) rfl rfl rfl) ?_
        exact xs_reti 9 rfl rfl (fun K q => q) (fun ty ht => by cases ht; rfl)
      refine xs_step (fun K HC => xr_iconst HC.1 6 57 (n := (1)) (1 : Int32) rfl rfl rfl) ?_
      refine xs_step (fun K HC => xr_goto HC.1 7 61 rfl (by decide)) ?_
      exact xs_reti 9 rfl rfl (fun K q => q) (fun ty ht => by cases ht; rfl)
    refine xs_step (fun K HC => xr_iconst HC.1 6 57 (n := (1)) (1 : Int32) rfl rfl rfl) ?_
    refine xs_step (fun K HC => xr_goto HC.1 7 61 rfl (by decide)) ?_
    exact xs_reti 9 rfl rfl (fun K q => q) (fun ty ht => by cases ht; rfl)
  refine xs_if (fun hc_2 => ?_) (fun hc_2 => ?_)
  · refine xs_step (fun K HC => xr_tabI HC.1 1 62 (21 : Int32) rfl hc_2 (by decide) (by decide) rfl (by decide)) ?_
    refine xs_step (fun K HC => xr_iload_n HC.1 10 63 (n := 1) (ix := 1) (j := 1) (x := v1) rfl rfl rfl rfl) ?_
    refine xs_ite (fun K HC => xr_if_eq HC.1 11 74 66 rfl (by decide) rfl) ?_ ?_
    · refine xs_step (fun K HC => xr_iconst HC.1 16 75 (n := (0)) (0 : Int32) rfl rfl rfl) ?_
      exact xs_reti 17 rfl rfl (fun K q => q) (fun ty ht => by cases ht; rfl)
    refine xs_step (fun K HC => xr_iload_n HC.1 12 67 (n := 2) (ix := 2) (j := 2) (x := v2) rfl rfl rfl rfl) ?_
    refine xs_ite (fun K HC => xr_if_eq HC.1 13 74 70 rfl (by decide) rfl) ?_ ?_
    · refine xs_step (fun K HC => xr_iconst HC.1 16 75 (n := (0)) (0 : Int32) rfl rfl rfl) ?_
      exact xs_reti 17 rfl rfl (fun K q => q) (fun ty ht => by cases ht; rfl)
    refine xs_step (fun K HC => xr_iconst HC.1 14 71 (n := (1)) (1 : Int32) rfl rfl rfl) ?_
    refine xs_step (fun K HC => xr_goto HC.1 15 75 rfl (by decide)) ?_
    exact xs_reti 17 rfl rfl (fun K q => q) (fun ty ht => by cases ht; rfl)
  refine xs_if (fun hc_3 => ?_) (fun hc_3 => ?_)
  · refine xs_step (fun K HC => xr_tabI HC.1 1 117 (22 : Int32) rfl hc_3 (by decide) (by decide) rfl (by decide)) ?_
    refine xs_step (fun K HC => xr_iload_n HC.1 47 118 (n := 1) (ix := 1) (j := 1) (x := v1) rfl rfl rfl rfl) ?_
    refine xs_step (fun K HC => xr_iload_n HC.1 48 119 (n := 2) (ix := 2) (j := 2) (x := v2) rfl rfl rfl rfl) ?_
    refine xs_step (fun K HC => xr_imul HC.1 49 120 rfl rfl) ?_
    exact xs_reti 50 rfl rfl (fun K q => q) (fun ty ht => by cases ht; rfl)
  refine xs_if (fun hc_4 => ?_) (fun hc_4 => ?_)
  · refine xs_step (fun K HC => xr_tabI HC.1 1 76 (23 : Int32) rfl hc_4 (by decide) (by decide) rfl (by decide)) ?_
    refine xs_step (fun K HC => xr_iload_n HC.1 18 77 (n := 1) (ix := 1) (j := 1) (x := v1) rfl rfl rfl rfl) ?_
    refine xs_step (fun K HC => xr_iload_n HC.1 19 78 (n := 2) (ix := 2) (j := 2) (x := v2) rfl rfl rfl rfl) ?_
    refine xs_ite (fun K HC a b => xr_icmp_ne HC.1 20 85 81 rfl (by decide) rfl b a) ?_ ?_
    · refine xs_step (fun K HC => xr_iconst HC.1 21 82 (n := (1)) (1 : Int32) rfl rfl rfl) ?_
      refine xs_step (fun K HC => xr_goto HC.1 22 86 rfl (by decide)) ?_
      exact xs_reti 24 rfl rfl (fun K q => q) (fun ty ht => by cases ht; rfl)
    refine xs_step (fun K HC => xr_iconst HC.1 23 86 (n := (0)) (0 : Int32) rfl rfl rfl) ?_
    exact xs_reti 24 rfl rfl (fun K q => q) (fun ty ht => by cases ht; rfl)
  refine xs_if (fun hc_5 => ?_) (fun hc_5 => ?_)
  · refine xs_step (fun K HC => xr_tabI HC.1 1 87 (24 : Int32) rfl hc_5 (by decide) (by decide) rfl (by decide)) ?_
    refine xs_step (fun K HC => xr_iload_n HC.1 25 88 (n := 1) (ix := 1) (j := 1) (x := v1) rfl rfl rfl rfl) ?_
    refine xs_step (fun K HC => xr_iload_n HC.1 26 89 (n := 2) (ix := 2) (j := 2) (x := v2) rfl rfl rfl rfl) ?_
    refine xs_ite (fun K HC => xr_icmp_ge HC.1 27 96 92 rfl (by decide) rfl) ?_ ?_
    · refine xs_step (fun K HC => xr_iconst HC.1 30 97 (n := (0)) (0 : Int32) rfl rfl rfl) ?_
      exact xs_reti 31 rfl rfl (fun K q => q) (fun ty ht => by cases ht; rfl)
    refine xs_step (fun K HC => xr_iconst HC.1 28 93 (n := (1)) (1 : Int32) rfl rfl rfl) ?_
    refine xs_step (fun K HC => xr_goto HC.1 29 97 rfl (by decide)) ?_
    exact xs_reti 31 rfl rfl (fun K q => q) (fun ty ht => by cases ht; rfl)
  refine xs_if (fun hc_6 => ?_) (fun hc_6 => ?_)
  · refine xs_step (fun K HC => xr_tabI HC.1 1 98 (25 : Int32) rfl hc_6 (by decide) (by decide) rfl (by decide)) ?_
    refine xs_step (fun K HC => xr_iload_n HC.1 32 99 (n := 1) (ix := 1) (j := 1) (x := v1) rfl rfl rfl rfl) ?_
    refine xs_step (fun K HC => xr_iload_n HC.1 33 100 (n := 2) (ix := 2) (j := 2) (x := v2) rfl rfl rfl rfl) ?_
    refine xs_ite (fun K HC => xr_icmp_le HC.1 34 107 103 rfl (by decide) rfl) ?_ ?_
    · refine xs_step (fun K HC => xr_iconst HC.1 37 108 (n := (0)) (0 : Int32) rfl rfl rfl) ?_
      exact xs_reti 38 rfl rfl (fun K q => q) (fun ty ht => by cases ht; rfl)
    refine xs_step (fun K HC => xr_iconst HC.1 35 104 (n := (1)) (1 : Int32) rfl rfl rfl) ?_
    refine xs_step (fun K HC => xr_goto HC.1 36 108 rfl (by decide)) ?_
    exact xs_reti 38 rfl rfl (fun K q => q) (fun ty ht => by cases ht; rfl)
  refine xs_if (fun hc_7 => ?_) (fun hc_7 => ?_)
  · refine xs_step (fun K HC => xr_tabI HC.1 1 109 (26 : Int32) rfl hc_7 (by decide) (by decide) rfl (by decide)) ?_
    refine xs_step (fun K HC => xr_iload_n HC.1 39 110 (n := 1) (ix := 1) (j := 1) (x := v1) rfl rfl rfl rfl) ?_
    refine xs_step (fun K HC => xr_iload_n HC.1 40 111 (n := 2) (ix := 2) (j := 2) (x := v2) rfl rfl rfl rfl) ?_
    refine xs_step (fun K HC => xr_iadd HC.1 41 112 rfl rfl) ?_
    exact xs_reti 42 rfl rfl (fun K q => q) (fun ty ht => by cases ht; rfl)
  refine xs_if (fun hc_8 => ?_) (fun hc_8 => ?_)
  · refine xs_step (fun K HC => xr_tabI HC.1 1 113 (27 : Int32) rfl hc_8 (by decide) (by decide) rfl (by decide)) ?_
    refine xs_step (fun K HC => xr_iload_n HC.1 43 114 (n := 1) (ix := 1) (j := 1) (x := v1) rfl rfl rfl rfl) ?_
    refine xs_step (fun K HC => xr_iload_n HC.1 44 115 (n := 2) (ix := 2) (j := 2) (x := v2) rfl rfl rfl rfl) ?_
    refine xs_step (fun K HC => xr_isub HC.1 45 116 rfl rfl) ?_
    exact xs_reti 46 rfl rfl (fun K q => q) (fun ty ht => by cases ht; rfl)
  refine xs_step (fun K HC => xr_tabO HC.1 1 117 [(20 : Int32), (21 : Int32), (22 : Int32), (23 : Int32), (24 : Int32), (25 : Int32), (26 : Int32), (27 : Int32)] rfl (by decide) (by simp only [List.forall_mem_cons]; exact ⟨hc_1, hc_2, hc_3, hc_4, hc_5, hc_6, hc_7, hc_8, fun _ h9 => absurd h9 List.not_mem_nil⟩) (by decide)) ?_
  refine xs_step (fun K HC => xr_iload_n HC.1 47 118 (n := 1) (ix := 1) (j := 1) (x := v1) rfl rfl rfl rfl) ?_
  refine xs_step (fun K HC => xr_iload_n HC.1 48 119 (n := 2) (ix := 2) (j := 2) (x := v2) rfl rfl rfl rfl) ?_
  refine xs_step (fun K HC => xr_imul HC.1 49 120 rfl rfl) ?_
  exact xs_reti 50 rfl rfl (fun K q => q) (fun ty ht => by cases ht; rfl)
theorem s_M_worked (v0 : Int32) (v1 : Int32) (v2 : Int32) (h : HP) : ∀ x, f_M_worked v0 v1 v2 h = some x → hp_mo h x.2 ∧ ∀ g l, xx_M g l y_M_worked prog_14_method_39_code 3 (some .int) 1 [av_I v0, av_I v1, av_I v2] h (some (av_I x.1)) x.2 :=
  xM_i (tb := tb_M_worked) (b := false) (by decide +kernel) dt_M_worked (fun _ => trivial) (Nat.le_of_ble_eq_true rfl) (fun hb => by cases hb) (t_M_worked v0 v1 v2 h)
def tb_M_asked : TBL := [(0, .aload_n 0, 1), (1, .getfield 58, 3), (4, .iload_n 1, 1), (5, .iaload, 1), (6, .tableswitch 65 0 4 #[34, 41, 46, 53, 58], 34), (40, .aload_n 0, 1), (41, .getfield 61, 3), (44, .iload_n 1, 1), (45, .iaload, 1), (46, .ireturn, 1), (47, .aload_n 0, 1), (48, .getfield 413, 3), (51, .ireturn, 1), (52, .aload_n 0, 1), (53, .getfield 73, 3), (56, .iload_n 2, 1), (57, .iaload, 1), (58, .ireturn, 1), (59, .aload_n 0, 1), (60, .getfield 416, 3), (63, .ireturn, 1), (64, .aload_n 0, 1), (65, .getfield 76, 3), (68, .iload_n 2, 1), (69, .iaload, 1), (70, .ireturn, 1), (71, .aload_n 0, 1), (72, .getfield 401, 3), (75, .ireturn, 1)]
theorem dt_M_asked : ∀ q ∈ tb_M_asked, decode prog_14_method_40_code q.1 = .ok (q.2.1, q.2.2) := by decide +kernel
set_option maxHeartbeats 4000000 in
set_option maxRecDepth 100000 in
theorem t_M_asked (v0 : Nat) (v1 : Int32) (v2 : Int32) (h : HP) : xx_S (xx_D "LampYardModel" tb_M_asked 3 1 (some .int) false) xz_i (fun K => xL_i K) 0 [(0, av_R 11 (some v0)), (1, av_I v1), (2, av_I v2)] [] h (f_M_asked v0 v1 v2 h) := by
  unfold f_M_asked
  refine xs_step (fun K HC => xr_aload_n HC.1 0 1 (n := 0) (ix := 0) (j := 0) (c := 11) (x := v0) rfl rfl rfl rfl) ?_
  refine xs_bind (fun q_1 eq_1 => ?_)
  refine xs_step (fun K HC => xr_getr HC.1 1 4 11 39 13 eq_1 rfl rfl wf_M_58 (by decide) fb_11_39 fc_11_39 fd_11_39) ?_
  refine xs_step (fun K HC => xr_iload_n HC.1 2 5 (n := 1) (ix := 1) (j := 1) (x := v1) rfl rfl rfl rfl) ?_
  refine xs_chk (fun hb_2 => ?_)
  refine xs_step (fun K HC => xr_iald HC.1 3 6 (hp_in_vp hb_2) rfl rfl) ?_
  refine xs_topi (fun w_3 => ?_)
  refine xs_if (fun hc_6 => ?_) (fun hc_6 => ?_)
  · refine xs_step (fun K HC => xr_tabI HC.1 4 40 (0 : Int32) rfl hc_6 (by decide) (by decide) rfl (by decide)) ?_
    refine xs_step (fun K HC => xr_aload_n HC.1 5 41 (n := 0) (ix := 0) (j := 0) (c := 11) (x := v0) rfl rfl rfl rfl) ?_
    refine xs_bind (fun q_4 eq_4 => ?_)
    refine xs_step (fun K HC => xr_getr HC.1 6 44 11 40 13 eq_4 rfl rfl wf_M_61 (by decide) fb_11_40 fc_11_40 fd_11_40) ?_
    refine xs_step (fun K HC => xr_iload_n HC.1 7 45 (n := 1) (ix := 1) (j := 1) (x := v1) rfl rfl rfl rfl) ?_
    refine xs_chk (fun hb_5 => ?_)
    refine xs_step (fun K HC => xr_iald HC.1 8 46 (hp_in_vp hb_5) rfl rfl) ?_
    exact xs_reti 9 rfl rfl (fun K q => q) (fun ty ht => by cases ht; rfl)
  refine xs_if (fun hc_7 => ?_) (fun hc_7 => ?_)
  · refine xs_step (fun K HC => xr_tabI HC.1 4 47 (1 : Int32) rfl hc_7 (by decide) (by decide) rfl (by decide)) ?_
    refine xs_step (fun K HC => xr_aload_n HC.1 10 48 (n := 0) (ix := 0) (j := 0) (c := 11) (x := v0) rfl rfl rfl rfl) ?_
    refine xs_step (fun K HC => xr_geti HC.1 11 51 11 51 rfl rfl wf_M_413 (by decide) fb_11_51 fc_11_51) ?_
    exact xs_reti 12 rfl rfl (fun K q => q) (fun ty ht => by cases ht; rfl)
  refine xs_if (fun hc_10 => ?_) (fun hc_10 => ?_)
  · refine xs_step (fun K HC => xr_tabI HC.1 4 52 (2 : Int32) rfl hc_10 (by decide) (by decide) rfl (by decide)) ?_
    refine xs_step (fun K HC => xr_aload_n HC.1 13 53 (n := 0) (ix := 0) (j := 0) (c := 11) (x := v0) rfl rfl rfl rfl) ?_
    refine xs_bind (fun q_8 eq_8 => ?_)
    refine xs_step (fun K HC => xr_getr HC.1 14 56 11 47 13 eq_8 rfl rfl wf_M_73 (by decide) fb_11_47 fc_11_47 fd_11_47) ?_
    refine xs_step (fun K HC => xr_iload_n HC.1 15 57 (n := 2) (ix := 2) (j := 2) (x := v2) rfl rfl rfl rfl) ?_
    refine xs_chk (fun hb_9 => ?_)
    refine xs_step (fun K HC => xr_iald HC.1 16 58 (hp_in_vp hb_9) rfl rfl) ?_
    exact xs_reti 17 rfl rfl (fun K q => q) (fun ty ht => by cases ht; rfl)
  refine xs_if (fun hc_11 => ?_) (fun hc_11 => ?_)
  · refine xs_step (fun K HC => xr_tabI HC.1 4 59 (3 : Int32) rfl hc_11 (by decide) (by decide) rfl (by decide)) ?_
    refine xs_step (fun K HC => xr_aload_n HC.1 18 60 (n := 0) (ix := 0) (j := 0) (c := 11) (x := v0) rfl rfl rfl rfl) ?_
    refine xs_step (fun K HC => xr_geti HC.1 19 63 11 52 rfl rfl wf_M_416 (by decide) fb_11_52 fc_11_52) ?_
    exact xs_reti 20 rfl rfl (fun K q => q) (fun ty ht => by cases ht; rfl)
  refine xs_if (fun hc_14 => ?_) (fun hc_14 => ?_)
  · refine xs_step (fun K HC => xr_tabI HC.1 4 64 (4 : Int32) rfl hc_14 (by decide) (by decide) rfl (by decide)) ?_
    refine xs_step (fun K HC => xr_aload_n HC.1 21 65 (n := 0) (ix := 0) (j := 0) (c := 11) (x := v0) rfl rfl rfl rfl) ?_
    refine xs_bind (fun q_12 eq_12 => ?_)
    refine xs_step (fun K HC => xr_getr HC.1 22 68 11 48 13 eq_12 rfl rfl wf_M_76 (by decide) fb_11_48 fc_11_48 fd_11_48) ?_
    refine xs_step (fun K HC => xr_iload_n HC.1 23 69 (n := 2) (ix := 2) (j := 2) (x := v2) rfl rfl rfl rfl) ?_
    refine xs_chk (fun hb_13 => ?_)
    refine xs_step (fun K HC => xr_iald HC.1 24 70 (hp_in_vp hb_13) rfl rfl) ?_
    exact xs_reti 25 rfl rfl (fun K q => q) (fun ty ht => by cases ht; rfl)
  refine xs_step (fun K HC => xr_tabO HC.1 4 71 [(0 : Int32), (1 : Int32), (2 : Int32), (3 : Int32), (4 : Int32)] rfl (by decide) (by simp only [List.forall_mem_cons]; exact ⟨hc_6, hc_7, hc_10, hc_11, hc_14, fun _ h9 => absurd h9 List.not_mem_nil⟩) (by decide)) ?_
  refine xs_step (fun K HC => xr_aload_n HC.1 26 72 (n := 0) (ix := 0) (j := 0) (c := 11) (x := v0) rfl rfl rfl rfl) ?_
  refine xs_step (fun K HC => xr_geti HC.1 27 75 11 33 rfl rfl wf_M_401 (by decide) fb_11_33 fc_11_33) ?_
  exact xs_reti 28 rfl rfl (fun K q => q) (fun ty ht => by cases ht; rfl)
theorem s_M_asked (v0 : Nat) (v1 : Int32) (v2 : Int32) (h : HP) : ∀ x, f_M_asked v0 v1 v2 h = some x → hp_mo h x.2 ∧ ∀ g l, xx_M g l y_M_asked prog_14_method_40_code 3 (some .int) 1 [av_R 11 (some v0), av_I v1, av_I v2] h (some (av_I x.1)) x.2 :=
  xM_i (tb := tb_M_asked) (b := false) (by decide +kernel) dt_M_asked (fun _ => trivial) (Nat.le_of_ble_eq_true rfl) (fun hb => by cases hb) (t_M_asked v0 v1 v2 h)
def tb_M_worth : TBL := [(0, .iconst 0, 1), (1, .istore 4, 2), (3, .aload_n 0, 1), (4, .getfield 64, 3), (7, .iconst 3, 1), (8, .iload_n 1, 1), (9, .imul, 1), (10, .iload_n 2, 1), (11, .iadd, 1), (12, .iaload, 1), (13, .istore 5, 2), (15, .iload 5, 2), (17, .aload_n 0, 1), (18, .getfield 64, 3), (21, .iconst 3, 1), (22, .iload_n 1, 1), (23, .imul, 1), (24, .iload_n 2, 1), (25, .iadd, 1), (26, .iconst 1, 1), (27, .iadd, 1), (28, .iaload, 1), (29, .if_icmp .ge 120, 3), (32, .aload_n 0, 1), (33, .getfield 58, 3), (36, .iload 5, 2), (38, .iaload, 1), (39, .bipush 20, 2), (41, .if_icmp .ge 23, 3), (44, .aload_n 0, 1), (45, .getfield 70, 3), (48, .iload 4, 2), (50, .aload_n 0, 1), (51, .iload 5, 2), (53, .iload_n 3, 1), (54, .invokevirtual 419, 3), (57, .iastore, 1), (58, .iinc 4 1, 3), (61, .goto 82, 3), (64, .aload_n 0, 1), (65, .getfield 58, 3), (68, .iload 5, 2), (70, .iaload, 1), (71, .bipush 22, 2), (73, .if_icmp .ne 32, 3), (76, .aload_n 0, 1), (77, .getfield 70, 3), (80, .iload 4, 2), (82, .iconst 1, 1), (83, .isub, 1), (84, .aload_n 0, 1), (85, .getfield 70, 3), (88, .iload 4, 2), (90, .iconst 1, 1), (91, .isub, 1), (92, .iaload, 1), (93, .ifCond .ne 7, 3), (96, .iconst 1, 1), (97, .goto 4, 3), (100, .iconst 0, 1), (101, .iastore, 1), (102, .goto 41, 3), (105, .iinc 4 (-1), 3), (108, .aload_n 0, 1), (109, .getfield 70, 3), (112, .iload 4, 2), (114, .iconst 1, 1), (115, .isub, 1), (116, .aload_n 0, 1), (117, .getfield 58, 3), (120, .iload 5, 2), (122, .iaload, 1), (123, .aload_n 0, 1), (124, .getfield 70, 3), (127, .iload 4, 2), (129, .iconst 1, 1), (130, .isub, 1), (131, .iaload, 1), (132, .aload_n 0, 1), (133, .getfield 70, 3), (136, .iload 4, 2), (138, .iaload, 1), (139, .invokestatic 422, 3), (142, .iastore, 1), (143, .iinc 5 1, 3), (146, .goto (-131), 3), (149, .aload_n 0, 1), (150, .getfield 70, 3), (153, .iconst 0, 1), (154, .iaload, 1), (155, .ireturn, 1)]
theorem dt_M_worth : ∀ q ∈ tb_M_worth, decode prog_14_method_41_code q.1 = .ok (q.2.1, q.2.2) := by decide +kernel
set_option maxHeartbeats 4000000 in
set_option maxRecDepth 100000 in
theorem t_M_worth_143 (v0 : Nat) (v1 : Int32) (v2 : Int32) (v3 : Int32) (v4 : Int32) (v5 : Int32) (h : HP) : xx_S (xx_D "LampYardModel" tb_M_worth 6 2 (some .int) false) (xx_z2 (fun s : (Int32 × Int32 × HP) => s.2.2) xz_i) (fun K => xx_L2 (fun s : (Int32 × Int32 × HP) => xx_X K 15 [(0, av_R 11 (some v0)), (1, av_I v1), (2, av_I v2), (3, av_I v3), (4, av_I s.1), (5, av_I s.2.1)] [] (s.2.2)) (xL_i K)) 143 [(0, av_R 11 (some v0)), (1, av_I v1), (2, av_I v2), (3, av_I v3), (4, av_I v4), (5, av_I v5)] [] h (f_M_worth_143 v0 v1 v2 v3 v4 v5 h) := by
  unfold f_M_worth_143
  refine xs_gen (fun v5_17 ev5_17 => ?_)
  refine xs_step (fun K HC => xr_iinc HC.1 84 146 (ix := 5) (j := 5) (n := (1)) (x := v5) v5_17 (lv' := [(0, av_R 11 (some v0)), (1, av_I v1), (2, av_I v2), (3, av_I v3), (4, av_I v4), (5, av_I v5_17)]) rfl (by rw [ev5_17]; rfl) rfl rfl (by decide) rfl) ?_
  refine xs_step (fun K HC => xr_goto HC.1 85 15 rfl (by decide)) ?_
  exact xs_back rfl (fun K q => q)
set_option maxHeartbeats 4000000 in
set_option maxRecDepth 100000 in
theorem t_M_worth_101 (v0 : Nat) (v1 : Int32) (v2 : Int32) (v3 : Int32) (v4 : Int32) (v5 : Int32) (s0 : Int32) (s1 : Int32) (s2 : Nat) (h : HP) : xx_S (xx_D "LampYardModel" tb_M_worth 6 2 (some .int) false) (xx_z2 (fun s : (Int32 × Int32 × HP) => s.2.2) xz_i) (fun K => xx_L2 (fun s : (Int32 × Int32 × HP) => xx_X K 15 [(0, av_R 11 (some v0)), (1, av_I v1), (2, av_I v2), (3, av_I v3), (4, av_I s.1), (5, av_I s.2.1)] [] (s.2.2)) (xL_i K)) 101 [(0, av_R 11 (some v0)), (1, av_I v1), (2, av_I v2), (3, av_I v3), (4, av_I v4), (5, av_I v5)] [av_I s0, av_I s1, av_R 13 (some s2)] h (f_M_worth_101 v0 v1 v2 v3 v4 v5 s0 s1 s2 h) := by
  unfold f_M_worth_101
  refine xs_chk (fun hb_15 => ?_)
  refine xs_heap (hp_mo_si _ _ _ _) (fun K HC => xr_iast HC.1 60 102 (hp_in_vp hb_15) rfl rfl) (fun h_16 => ?_)
  refine xs_step (fun K HC => xr_goto HC.1 61 143 rfl (by decide)) ?_
  exact t_M_worth_143 v0 v1 v2 v3 v4 v5 h_16
set_option maxHeartbeats 4000000 in
set_option maxRecDepth 100000 in
theorem t_M_worth_15b (v0 : Nat) (v1 : Int32) (v2 : Int32) (v3 : Int32) (v4 : Int32) (v5 : Int32) (h : HP) : xx_S (xx_D "LampYardModel" tb_M_worth 6 2 (some .int) false) (xx_z2 (fun s : (Int32 × Int32 × HP) => s.2.2) xz_i) (fun K => xx_L2 (fun s : (Int32 × Int32 × HP) => xx_X K 15 [(0, av_R 11 (some v0)), (1, av_I v1), (2, av_I v2), (3, av_I v3), (4, av_I s.1), (5, av_I s.2.1)] [] (s.2.2)) (xL_i K)) 15 [(0, av_R 11 (some v0)), (1, av_I v1), (2, av_I v2), (3, av_I v3), (4, av_I v4), (5, av_I v5)] [] h (f_M_worth_15b v0 v1 v2 v3 v4 v5 h) := by
  unfold f_M_worth_15b
  refine xs_step (fun K HC => xr_iload HC.1 11 17 (ix := 5) (j := 5) (x := v5) rfl rfl rfl) ?_
  refine xs_step (fun K HC => xr_aload_n HC.1 12 18 (n := 0) (ix := 0) (j := 0) (c := 11) (x := v0) rfl rfl rfl rfl) ?_
  refine xs_bind (fun q_4 eq_4 => ?_)
  refine xs_step (fun K HC => xr_getr HC.1 13 21 11 41 13 eq_4 rfl rfl wf_M_64 (by decide) fb_11_41 fc_11_41 fd_11_41) ?_
  refine xs_step (fun K HC => xr_iconst HC.1 14 22 (n := (3)) (3 : Int32) rfl rfl rfl) ?_
  refine xs_step (fun K HC => xr_iload_n HC.1 15 23 (n := 1) (ix := 1) (j := 1) (x := v1) rfl rfl rfl rfl) ?_
  refine xs_step (fun K HC => xr_imul HC.1 16 24 rfl rfl) ?_
  refine xs_step (fun K HC => xr_iload_n HC.1 17 25 (n := 2) (ix := 2) (j := 2) (x := v2) rfl rfl rfl rfl) ?_
  refine xs_step (fun K HC => xr_iadd HC.1 18 26 rfl rfl) ?_
  refine xs_step (fun K HC => xr_iconst HC.1 19 27 (n := (1)) (1 : Int32) rfl rfl rfl) ?_
  refine xs_step (fun K HC => xr_iadd HC.1 20 28 rfl rfl) ?_
  refine xs_chk (fun hb_5 => ?_)
  refine xs_step (fun K HC => xr_iald HC.1 21 29 (hp_in_vp hb_5) rfl rfl) ?_
  refine xs_ite (fun K HC => xr_icmp_ge HC.1 22 149 32 rfl (by decide) rfl) ?_ ?_
  · refine xs_step (fun K HC => xr_aload_n HC.1 86 150 (n := 0) (ix := 0) (j := 0) (c := 11) (x := v0) rfl rfl rfl rfl) ?_
    refine xs_bind (fun q_6 eq_6 => ?_)
    refine xs_step (fun K HC => xr_getr HC.1 87 153 11 43 13 eq_6 rfl rfl wf_M_70 (by decide) fb_11_43 fc_11_43 fd_11_43) ?_
    refine xs_step (fun K HC => xr_iconst HC.1 88 154 (n := (0)) (0 : Int32) rfl rfl rfl) ?_
    refine xs_chk (fun hb_7 => ?_)
    refine xs_step (fun K HC => xr_iald HC.1 89 155 (hp_in_vp hb_7) rfl rfl) ?_
    exact xs_reti 90 rfl rfl (fun K q => q) (fun ty ht => by cases ht; rfl)
  refine xs_step (fun K HC => xr_aload_n HC.1 23 33 (n := 0) (ix := 0) (j := 0) (c := 11) (x := v0) rfl rfl rfl rfl) ?_
  refine xs_bind (fun q_8 eq_8 => ?_)
  refine xs_step (fun K HC => xr_getr HC.1 24 36 11 39 13 eq_8 rfl rfl wf_M_58 (by decide) fb_11_39 fc_11_39 fd_11_39) ?_
  refine xs_step (fun K HC => xr_iload HC.1 25 38 (ix := 5) (j := 5) (x := v5) rfl rfl rfl) ?_
  refine xs_chk (fun hb_9 => ?_)
  refine xs_step (fun K HC => xr_iald HC.1 26 39 (hp_in_vp hb_9) rfl rfl) ?_
  refine xs_step (fun K HC => xr_bipush HC.1 27 41 (n := (20)) (20 : Int32) rfl rfl rfl) ?_
  refine xs_ite (fun K HC => xr_icmp_ge HC.1 28 64 44 rfl (by decide) rfl) ?_ ?_
  · refine xs_step (fun K HC => xr_aload_n HC.1 39 65 (n := 0) (ix := 0) (j := 0) (c := 11) (x := v0) rfl rfl rfl rfl) ?_
    refine xs_bind (fun q_10 eq_10 => ?_)
    refine xs_step (fun K HC => xr_getr HC.1 40 68 11 39 13 eq_10 rfl rfl wf_M_58 (by decide) fb_11_39 fc_11_39 fd_11_39) ?_
    refine xs_step (fun K HC => xr_iload HC.1 41 70 (ix := 5) (j := 5) (x := v5) rfl rfl rfl) ?_
    refine xs_chk (fun hb_11 => ?_)
    refine xs_step (fun K HC => xr_iald HC.1 42 71 (hp_in_vp hb_11) rfl rfl) ?_
    refine xs_step (fun K HC => xr_bipush HC.1 43 73 (n := (22)) (22 : Int32) rfl rfl rfl) ?_
    refine xs_ite (fun K HC a b => xr_icmp_ne HC.1 44 105 76 rfl (by decide) rfl b a) ?_ ?_
    · refine xs_step (fun K HC => xr_aload_n HC.1 45 77 (n := 0) (ix := 0) (j := 0) (c := 11) (x := v0) rfl rfl rfl rfl) ?_
      refine xs_bind (fun q_12 eq_12 => ?_)
      refine xs_step (fun K HC => xr_getr HC.1 46 80 11 43 13 eq_12 rfl rfl wf_M_70 (by decide) fb_11_43 fc_11_43 fd_11_43) ?_
      refine xs_step (fun K HC => xr_iload HC.1 47 82 (ix := 4) (j := 4) (x := v4) rfl rfl rfl) ?_
      refine xs_step (fun K HC => xr_iconst HC.1 48 83 (n := (1)) (1 : Int32) rfl rfl rfl) ?_
      refine xs_step (fun K HC => xr_isub HC.1 49 84 rfl rfl) ?_
      refine xs_step (fun K HC => xr_aload_n HC.1 50 85 (n := 0) (ix := 0) (j := 0) (c := 11) (x := v0) rfl rfl rfl rfl) ?_
      refine xs_bind (fun q_13 eq_13 => ?_)
      refine xs_step (fun K HC => xr_getr HC.1 51 88 11 43 13 eq_13 rfl rfl wf_M_70 (by decide) fb_11_43 fc_11_43 fd_11_43) ?_
      refine xs_step (fun K HC => xr_iload HC.1 52 90 (ix := 4) (j := 4) (x := v4) rfl rfl rfl) ?_
      refine xs_step (fun K HC => xr_iconst HC.1 53 91 (n := (1)) (1 : Int32) rfl rfl rfl) ?_
      refine xs_step (fun K HC => xr_isub HC.1 54 92 rfl rfl) ?_
      refine xs_chk (fun hb_14 => ?_)
      refine xs_step (fun K HC => xr_iald HC.1 55 93 (hp_in_vp hb_14) rfl rfl) ?_
      refine xs_ite (fun K HC a b => xr_if_ne HC.1 56 100 96 rfl (by decide) rfl b a) ?_ ?_
      · refine xs_step (fun K HC => xr_iconst HC.1 57 97 (n := (1)) (1 : Int32) rfl rfl rfl) ?_
        refine xs_step (fun K HC => xr_goto HC.1 58 101 rfl (by decide)) ?_
        exact t_M_worth_101 v0 v1 v2 v3 v4 v5 (1 : Int32) (v4 - (1 : Int32)) q_12 h
      refine xs_step (fun K HC => xr_iconst HC.1 59 101 (n := (0)) (0 : Int32) rfl rfl rfl) ?_
      exact t_M_worth_101 v0 v1 v2 v3 v4 v5 (0 : Int32) (v4 - (1 : Int32)) q_12 h
    refine xs_gen (fun v4_18 ev4_18 => ?_)
    refine xs_step (fun K HC => xr_iinc HC.1 62 108 (ix := 4) (j := 4) (n := (-1)) (x := v4) v4_18 (lv' := [(0, av_R 11 (some v0)), (1, av_I v1), (2, av_I v2), (3, av_I v3), (4, av_I v4_18), (5, av_I v5)]) rfl (by rw [ev4_18]; rfl) rfl rfl (by decide) rfl) ?_
    refine xs_step (fun K HC => xr_aload_n HC.1 63 109 (n := 0) (ix := 0) (j := 0) (c := 11) (x := v0) rfl rfl rfl rfl) ?_
    refine xs_bind (fun q_19 eq_19 => ?_)
    refine xs_step (fun K HC => xr_getr HC.1 64 112 11 43 13 eq_19 rfl rfl wf_M_70 (by decide) fb_11_43 fc_11_43 fd_11_43) ?_
    refine xs_step (fun K HC => xr_iload HC.1 65 114 (ix := 4) (j := 4) (x := v4_18) rfl rfl rfl) ?_
    refine xs_step (fun K HC => xr_iconst HC.1 66 115 (n := (1)) (1 : Int32) rfl rfl rfl) ?_
    refine xs_step (fun K HC => xr_isub HC.1 67 116 rfl rfl) ?_
    refine xs_step (fun K HC => xr_aload_n HC.1 68 117 (n := 0) (ix := 0) (j := 0) (c := 11) (x := v0) rfl rfl rfl rfl) ?_
    refine xs_bind (fun q_20 eq_20 => ?_)
    refine xs_step (fun K HC => xr_getr HC.1 69 120 11 39 13 eq_20 rfl rfl wf_M_58 (by decide) fb_11_39 fc_11_39 fd_11_39) ?_
    refine xs_step (fun K HC => xr_iload HC.1 70 122 (ix := 5) (j := 5) (x := v5) rfl rfl rfl) ?_
    refine xs_chk (fun hb_21 => ?_)
    refine xs_step (fun K HC => xr_iald HC.1 71 123 (hp_in_vp hb_21) rfl rfl) ?_
    refine xs_step (fun K HC => xr_aload_n HC.1 72 124 (n := 0) (ix := 0) (j := 0) (c := 11) (x := v0) rfl rfl rfl rfl) ?_
    refine xs_bind (fun q_22 eq_22 => ?_)
    refine xs_step (fun K HC => xr_getr HC.1 73 127 11 43 13 eq_22 rfl rfl wf_M_70 (by decide) fb_11_43 fc_11_43 fd_11_43) ?_
    refine xs_step (fun K HC => xr_iload HC.1 74 129 (ix := 4) (j := 4) (x := v4_18) rfl rfl rfl) ?_
    refine xs_step (fun K HC => xr_iconst HC.1 75 130 (n := (1)) (1 : Int32) rfl rfl rfl) ?_
    refine xs_step (fun K HC => xr_isub HC.1 76 131 rfl rfl) ?_
    refine xs_chk (fun hb_23 => ?_)
    refine xs_step (fun K HC => xr_iald HC.1 77 132 (hp_in_vp hb_23) rfl rfl) ?_
    refine xs_step (fun K HC => xr_aload_n HC.1 78 133 (n := 0) (ix := 0) (j := 0) (c := 11) (x := v0) rfl rfl rfl rfl) ?_
    refine xs_bind (fun q_24 eq_24 => ?_)
    refine xs_step (fun K HC => xr_getr HC.1 79 136 11 43 13 eq_24 rfl rfl wf_M_70 (by decide) fb_11_43 fc_11_43 fd_11_43) ?_
    refine xs_step (fun K HC => xr_iload HC.1 80 138 (ix := 4) (j := 4) (x := v4_18) rfl rfl rfl) ?_
    refine xs_chk (fun hb_25 => ?_)
    refine xs_step (fun K HC => xr_iald HC.1 81 139 (hp_in_vp hb_25) rfl rfl) ?_
    refine xs_calli (s_M_worked (hp_i h q_20 (v5).toNatClampNeg) (hp_i h q_22 ((v4_18 - (1 : Int32))).toNatClampNeg) (hp_i h q_24 (v4_18).toNatClampNeg) h) (fun K HC x9 hM hmo hb => xr_callS HC.1 82 142 (av := [av_I (hp_i h q_20 (v5).toNatClampNeg), av_I (hp_i h q_22 ((v4_18 - (1 : Int32))).toNatClampNeg), av_I (hp_i h q_24 (v4_18).toNatClampNeg)]) (st := [av_I (v4_18 - (1 : Int32)), av_R 13 (some q_19)]) (hM (kg K) (cx_l (kx K))) hmo hb rfl rfl wm_M_422 wt_M_worked wn_M_worked wc_M_worked wh_M_worked (by decide) (by decide) (Nat.le_of_ble_eq_true rfl) rfl) (fun x_26 => ?_)
    refine xs_chk (fun hb_27 => ?_)
    refine xs_heap (hp_mo_si _ _ _ _) (fun K HC => xr_iast HC.1 83 143 (hp_in_vp hb_27) rfl rfl) (fun h_28 => ?_)
    exact t_M_worth_143 v0 v1 v2 v3 v4_18 v5 h_28
  refine xs_step (fun K HC => xr_aload_n HC.1 29 45 (n := 0) (ix := 0) (j := 0) (c := 11) (x := v0) rfl rfl rfl rfl) ?_
  refine xs_bind (fun q_29 eq_29 => ?_)
  refine xs_step (fun K HC => xr_getr HC.1 30 48 11 43 13 eq_29 rfl rfl wf_M_70 (by decide) fb_11_43 fc_11_43 fd_11_43) ?_
  refine xs_step (fun K HC => xr_iload HC.1 31 50 (ix := 4) (j := 4) (x := v4) rfl rfl rfl) ?_
  refine xs_step (fun K HC => xr_aload_n HC.1 32 51 (n := 0) (ix := 0) (j := 0) (c := 11) (x := v0) rfl rfl rfl rfl) ?_
  refine xs_step (fun K HC => xr_iload HC.1 33 53 (ix := 5) (j := 5) (x := v5) rfl rfl rfl) ?_
  refine xs_step (fun K HC => xr_iload_n HC.1 34 54 (n := 3) (ix := 3) (j := 3) (x := v3) rfl rfl rfl rfl) ?_
  refine xs_calli (s_M_asked v0 v5 v3 h) (fun K HC x9 hM hmo hb => xr_callV HC.1 35 57 (av := [av_I v5, av_I v3]) (st := [av_I v4, av_R 13 (some q_29)]) (hM (kg K) (cx_l (kx K))) hmo hb rfl rfl wm_M_419 wi_M_asked ws_M_asked wc_M_asked rfl wh_M_asked (by decide) (by decide) (by decide) (Nat.le_of_ble_eq_true rfl) rfl) (fun x_30 => ?_)
  refine xs_chk (fun hb_31 => ?_)
  refine xs_heap (hp_mo_si _ _ _ _) (fun K HC => xr_iast HC.1 36 58 (hp_in_vp hb_31) rfl rfl) (fun h_32 => ?_)
  refine xs_gen (fun v4_33 ev4_33 => ?_)
  refine xs_step (fun K HC => xr_iinc HC.1 37 61 (ix := 4) (j := 4) (n := (1)) (x := v4) v4_33 (lv' := [(0, av_R 11 (some v0)), (1, av_I v1), (2, av_I v2), (3, av_I v3), (4, av_I v4_33), (5, av_I v5)]) rfl (by rw [ev4_33]; rfl) rfl rfl (by decide) rfl) ?_
  refine xs_step (fun K HC => xr_goto HC.1 38 143 rfl (by decide)) ?_
  exact t_M_worth_143 v0 v1 v2 v3 v4_33 v5 h_32
theorem t_M_worth_15 (v0 : Nat) (v1 : Int32) (v2 : Int32) (v3 : Int32) (v4 : Int32) (v5 : Int32) (h : HP) : xx_S (xx_D "LampYardModel" tb_M_worth 6 2 (some .int) false) xz_i (fun K => xL_i K) 15 [(0, av_R 11 (some v0)), (1, av_I v1), (2, av_I v2), (3, av_I v3), (4, av_I v4), (5, av_I v5)] [] h (f_M_worth_15 v0 v1 v2 v3 v4 v5 h) :=
  xs_loop (zf := xz_i) (L := (fun K => xL_i K)) (fun s : (Int32 × Int32 × HP) => [(0, av_R 11 (some v0)), (1, av_I v1), (2, av_I v2), (3, av_I v3), (4, av_I s.1), (5, av_I s.2.1)]) (fun s : (Int32 × Int32 × HP) => s.2.2) (fun s => t_M_worth_15b v0 v1 v2 v3 s.1 s.2.1 s.2.2) (v4, v5, h)
set_option maxHeartbeats 4000000 in
set_option maxRecDepth 100000 in
theorem t_M_worth (v0 : Nat) (v1 : Int32) (v2 : Int32) (v3 : Int32) (h : HP) : xx_S (xx_D "LampYardModel" tb_M_worth 6 2 (some .int) false) xz_i (fun K => xL_i K) 0 [(0, av_R 11 (some v0)), (1, av_I v1), (2, av_I v2), (3, av_I v3)] [] h (f_M_worth v0 v1 v2 v3 h) := by
  unfold f_M_worth
  refine xs_step (fun K HC => xr_iconst HC.1 0 1 (n := (0)) (0 : Int32) rfl rfl rfl) ?_
  refine xs_step (fun K HC => xr_istore HC.1 1 3 (ix := 4) (lv' := [(0, av_R 11 (some v0)), (1, av_I v1), (2, av_I v2), (3, av_I v3), (4, av_I (0 : Int32))]) rfl rfl (by decide) rfl) ?_
  refine xs_step (fun K HC => xr_aload_n HC.1 2 4 (n := 0) (ix := 0) (j := 0) (c := 11) (x := v0) rfl rfl rfl rfl) ?_
  refine xs_bind (fun q_1 eq_1 => ?_)
  refine xs_step (fun K HC => xr_getr HC.1 3 7 11 41 13 eq_1 rfl rfl wf_M_64 (by decide) fb_11_41 fc_11_41 fd_11_41) ?_
  refine xs_step (fun K HC => xr_iconst HC.1 4 8 (n := (3)) (3 : Int32) rfl rfl rfl) ?_
  refine xs_step (fun K HC => xr_iload_n HC.1 5 9 (n := 1) (ix := 1) (j := 1) (x := v1) rfl rfl rfl rfl) ?_
  refine xs_step (fun K HC => xr_imul HC.1 6 10 rfl rfl) ?_
  refine xs_step (fun K HC => xr_iload_n HC.1 7 11 (n := 2) (ix := 2) (j := 2) (x := v2) rfl rfl rfl rfl) ?_
  refine xs_step (fun K HC => xr_iadd HC.1 8 12 rfl rfl) ?_
  refine xs_chk (fun hb_2 => ?_)
  refine xs_step (fun K HC => xr_iald HC.1 9 13 (hp_in_vp hb_2) rfl rfl) ?_
  refine xs_topi (fun v5_3 => ?_)
  refine xs_step (fun K HC => xr_istore HC.1 10 15 (ix := 5) (lv' := [(0, av_R 11 (some v0)), (1, av_I v1), (2, av_I v2), (3, av_I v3), (4, av_I (0 : Int32)), (5, av_I v5_3)]) rfl rfl (by decide) rfl) ?_
  exact t_M_worth_15 v0 v1 v2 v3 (0 : Int32) v5_3 h
theorem s_M_worth (v0 : Nat) (v1 : Int32) (v2 : Int32) (v3 : Int32) (h : HP) : ∀ x, f_M_worth v0 v1 v2 v3 h = some x → hp_mo h x.2 ∧ ∀ g l, xx_M g l y_M_worth prog_14_method_41_code 6 (some .int) 2 [av_R 11 (some v0), av_I v1, av_I v2, av_I v3] h (some (av_I x.1)) x.2 :=
  xM_i (tb := tb_M_worth) (b := false) (by decide +kernel) dt_M_worth (fun _ => trivial) (Nat.le_of_ble_eq_true rfl) (fun hb => by cases hb) (t_M_worth v0 v1 v2 v3 h)
