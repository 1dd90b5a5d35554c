def tb_M_endlessMany : TBL := [(0, .aload_n 0, 1), (1, .getfield 401, 3), (4, .ifCond .ne 5, 3), (7, .iconst 0, 1), (8, .ireturn, 1), (9, .aload_n 0, 1), (10, .invokevirtual 546, 3), (13, .iconst 0, 1), (14, .istore_n 1, 1), (15, .iload_n 1, 1), (16, .aload_n 0, 1), (17, .getfield 489, 3), (20, .if_icmp .ge 16, 3), (23, .aload_n 0, 1), (24, .getfield 124, 3), (27, .iload_n 1, 1), (28, .iconst 0, 1), (29, .iastore, 1), (30, .iinc 1 1, 3), (33, .goto (-18), 3), (36, .iconst 0, 1), (37, .istore_n 1, 1), (38, .iload_n 1, 1), (39, .aload_n 0, 1), (40, .getfield 489, 3), (43, .if_icmp .ge 73, 3), (46, .iconst 0, 1), (47, .istore_n 2, 1), (48, .iload_n 2, 1), (49, .aload_n 0, 1), (50, .getfield 401, 3), (53, .if_icmp .ge 57, 3), (56, .aload_n 0, 1), (57, .getfield 100, 3), (60, .bipush 6, 2), (62, .iload_n 1, 1), (63, .imul, 1), (64, .iload_n 2, 1), (65, .iadd, 1), (66, .iaload, 1), (67, .istore_n 3, 1), (68, .iload_n 3, 1), (69, .ifCond .lt 35, 3), (72, .aload_n 0, 1), (73, .getfield 121, 3), (76, .iload_n 3, 1), (77, .iaload, 1), (78, .aload_n 0, 1), (79, .getfield 121, 3), (82, .iload_n 1, 1), (83, .iaload, 1), (84, .if_icmp .ne 20, 3), (87, .aload_n 0, 1), (88, .getfield 124, 3), (91, .aload_n 0, 1), (92, .getfield 121, 3), (95, .iload_n 1, 1), (96, .iaload, 1), (97, .dup2, 1), (98, .iaload, 1), (99, .iconst 1, 1), (100, .iload_n 2, 1), (101, .ishl, 1), (102, .ior, 1), (103, .iastore, 1), (104, .iinc 2 1, 3), (107, .goto (-59), 3), (110, .iinc 1 1, 3), (113, .goto (-75), 3), (116, .iconst 0, 1), (117, .istore_n 1, 1), (118, .iconst 0, 1), (119, .istore_n 2, 1), (120, .iload_n 2, 1), (121, .aload_n 0, 1), (122, .getfield 489, 3), (125, .if_icmp .ge 39, 3), (128, .iload_n 1, 1), (129, .aload_n 0, 1), (130, .getfield 124, 3), (133, .aload_n 0, 1), (134, .getfield 121, 3), (137, .iload_n 2, 1), (138, .iaload, 1), (139, .iaload, 1), (140, .iconst 1, 1), (141, .aload_n 0, 1), (142, .getfield 401, 3), (145, .ishl, 1), (146, .iconst 1, 1), (147, .isub, 1), (148, .if_icmp .ne 7, 3), (151, .iconst 1, 1), (152, .goto 4, 3), (155, .iconst 0, 1), (156, .iadd, 1), (157, .istore_n 1, 1), (158, .iinc 2 1, 3), (161, .goto (-41), 3), (164, .iload_n 1, 1), (165, .ireturn, 1)]
theorem dt_M_endlessMany : ∀ q ∈ tb_M_endlessMany, decode prog_14_method_79_code q.1 = .ok (q.2.1, q.2.2) := by decide +kernel
set_option maxHeartbeats 4000000 in
set_option maxRecDepth 100000 in
theorem t_M_endlessMany_156 (v0 : Nat) (v2 : Int32) (s0 : Int32) (s1 : Int32) (h : HP) : xx_S (xx_D "LampYardModel" tb_M_endlessMany 4 3 (some .int) false) (xx_z2 (fun s : (Int32 × Int32 × HP) => s.2.2) xz_i) (fun K => xx_L2 (fun s : (Int32 × Int32 × HP) => xx_X K 120 [(0, av_R 11 (some v0)), (1, av_I s.1), (2, av_I s.2.1)] [] (s.2.2)) (xL_i K)) 156 [(0, av_R 11 (some v0)), (2, av_I v2)] [av_I s0, av_I s1] h (f_M_endlessMany_156 v0 v2 s0 s1 h) := by
  unfold f_M_endlessMany_156
  refine xs_step (fun K HC => xr_iadd HC.1 95 157 rfl rfl) ?_
  refine xs_topi (fun v1_6 => ?_)
  refine xs_step (fun K HC => xr_istore_n HC.1 96 158 (n := 1) (ix := 1) (lv' := [(0, av_R 11 (some v0)), (1, av_I v1_6), (2, av_I v2)]) rfl rfl rfl (by decide) rfl) ?_
  refine xs_gen (fun v2_7 ev2_7 => ?_)
  refine xs_step (fun K HC => xr_iinc HC.1 97 161 (ix := 2) (j := 2) (n := (1)) (x := v2) v2_7 (lv' := [(0, av_R 11 (some v0)), (1, av_I v1_6), (2, av_I v2_7)]) rfl (by rw [ev2_7]; rfl) rfl rfl (by decide) rfl) ?_
  refine xs_step (fun K HC => xr_goto HC.1 98 120 rfl (by decide)) ?_
  exact xs_back rfl (fun K q => q)
set_option maxHeartbeats 4000000 in
set_option maxRecDepth 100000 in
theorem t_M_endlessMany_120b (v0 : Nat) (v1 : Int32) (v2 : Int32) (h : HP) : xx_S (xx_D "LampYardModel" tb_M_endlessMany 4 3 (some .int) false) (xx_z2 (fun s : (Int32 × Int32 × HP) => s.2.2) xz_i) (fun K => xx_L2 (fun s : (Int32 × Int32 × HP) => xx_X K 120 [(0, av_R 11 (some v0)), (1, av_I s.1), (2, av_I s.2.1)] [] (s.2.2)) (xL_i K)) 120 [(0, av_R 11 (some v0)), (1, av_I v1), (2, av_I v2)] [] h (f_M_endlessMany_120b v0 v1 v2 h) := by
  unfold f_M_endlessMany_120b
  refine xs_step (fun K HC => xr_iload_n HC.1 73 121 (n := 2) (ix := 2) (j := 2) (x := v2) rfl rfl rfl rfl) ?_
  refine xs_step (fun K HC => xr_aload_n HC.1 74 122 (n := 0) (ix := 0) (j := 0) (c := 11) (x := v0) rfl rfl rfl rfl) ?_
  refine xs_step (fun K HC => xr_geti HC.1 75 125 11 65 rfl rfl wf_M_489 (by decide) fb_11_65 fc_11_65) ?_
  refine xs_ite (fun K HC => xr_icmp_ge HC.1 76 164 128 rfl (by decide) rfl) ?_ ?_
  · refine xs_step (fun K HC => xr_iload_n HC.1 99 165 (n := 1) (ix := 1) (j := 1) (x := v1) rfl rfl rfl rfl) ?_
    exact xs_reti 100 rfl rfl (fun K q => q) (fun ty ht => by cases ht; rfl)
  refine xs_step (fun K HC => xr_iload_n HC.1 77 129 (n := 1) (ix := 1) (j := 1) (x := v1) rfl rfl rfl rfl) ?_
  refine xs_step (fun K HC => xr_aload_n HC.1 78 130 (n := 0) (ix := 0) (j := 0) (c := 11) (x := v0) rfl rfl rfl rfl) ?_
  refine xs_bind (fun q_2 eq_2 => ?_)
  refine xs_step (fun K HC => xr_getr HC.1 79 133 11 75 13 eq_2 rfl rfl wf_M_124 (by decide) fb_11_75 fc_11_75 fd_11_75) ?_
  refine xs_step (fun K HC => xr_aload_n HC.1 80 134 (n := 0) (ix := 0) (j := 0) (c := 11) (x := v0) rfl rfl rfl rfl) ?_
  refine xs_bind (fun q_3 eq_3 => ?_)
  refine xs_step (fun K HC => xr_getr HC.1 81 137 11 74 13 eq_3 rfl rfl wf_M_121 (by decide) fb_11_74 fc_11_74 fd_11_74) ?_
  refine xs_step (fun K HC => xr_iload_n HC.1 82 138 (n := 2) (ix := 2) (j := 2) (x := v2) rfl rfl rfl rfl) ?_
  refine xs_chk (fun hb_4 => ?_)
  refine xs_step (fun K HC => xr_iald HC.1 83 139 (hp_in_vp hb_4) rfl rfl) ?_
  refine xs_chk (fun hb_5 => ?_)
  refine xs_step (fun K HC => xr_iald HC.1 84 140 (hp_in_vp hb_5) rfl rfl) ?_
  refine xs_step (fun K HC => xr_iconst HC.1 85 141 (n := (1)) (1 : Int32) rfl rfl rfl) ?_
  refine xs_step (fun K HC => xr_aload_n HC.1 86 142 (n := 0) (ix := 0) (j := 0) (c := 11) (x := v0) rfl rfl rfl rfl) ?_
  refine xs_step (fun K HC => xr_geti HC.1 87 145 11 33 rfl rfl wf_M_401 (by decide) fb_11_33 fc_11_33) ?_
  refine xs_step (fun K HC => xr_ishl HC.1 88 146 rfl rfl) ?_
  refine xs_step (fun K HC => xr_iconst HC.1 89 147 (n := (1)) (1 : Int32) rfl rfl rfl) ?_
  refine xs_step (fun K HC => xr_isub HC.1 90 148 rfl rfl) ?_
  refine xs_ite (fun K HC a b => xr_icmp_ne HC.1 91 155 151 rfl (by decide) rfl b a) ?_ ?_
  · refine xs_step (fun K HC => xr_iconst HC.1 92 152 (n := (1)) (1 : Int32) rfl rfl rfl) ?_
    refine xs_step (fun K HC => xr_goto HC.1 93 156 rfl (by decide)) ?_
    refine xs_step (fun K HC => xr_sub (lv' := [(0, av_R 11 (some v0)), (2, av_I v2)]) [0, 2] rfl) ?_
    exact t_M_endlessMany_156 v0 v2 (1 : Int32) v1 h
  refine xs_step (fun K HC => xr_iconst HC.1 94 156 (n := (0)) (0 : Int32) rfl rfl rfl) ?_
  refine xs_step (fun K HC => xr_sub (lv' := [(0, av_R 11 (some v0)), (2, av_I v2)]) [0, 2] rfl) ?_
  exact t_M_endlessMany_156 v0 v2 (0 : Int32) v1 h
theorem t_M_endlessMany_120 (v0 : Nat) (v1 : Int32) (v2 : Int32) (h : HP) : xx_S (xx_D "LampYardModel" tb_M_endlessMany 4 3 (some .int) false) xz_i (fun K => xL_i K) 120 [(0, av_R 11 (some v0)), (1, av_I v1), (2, av_I v2)] [] h (f_M_endlessMany_120 v0 v1 v2 h) :=
  xs_loop (zf := xz_i) (L := (fun K => xL_i K)) (fun s : (Int32 × Int32 × HP) => [(0, av_R 11 (some v0)), (1, av_I s.1), (2, av_I s.2.1)]) (fun s : (Int32 × Int32 × HP) => s.2.2) (fun s => t_M_endlessMany_120b v0 s.1 s.2.1 s.2.2) (v1, v2, h)
set_option maxHeartbeats 4000000 in
set_option maxRecDepth 100000 in
theorem t_M_endlessMany_116 (v0 : Nat) (h : HP) : xx_S (xx_D "LampYardModel" tb_M_endlessMany 4 3 (some .int) false) xz_i (fun K => xL_i K) 116 [(0, av_R 11 (some v0))] [] h (f_M_endlessMany_116 v0 h) := by
  unfold f_M_endlessMany_116
  refine xs_step (fun K HC => xr_iconst HC.1 69 117 (n := (0)) (0 : Int32) rfl rfl rfl) ?_
  refine xs_step (fun K HC => xr_istore_n HC.1 70 118 (n := 1) (ix := 1) (lv' := [(0, av_R 11 (some v0)), (1, av_I (0 : Int32))]) rfl rfl rfl (by decide) rfl) ?_
  refine xs_step (fun K HC => xr_iconst HC.1 71 119 (n := (0)) (0 : Int32) rfl rfl rfl) ?_
  refine xs_step (fun K HC => xr_istore_n HC.1 72 120 (n := 2) (ix := 2) (lv' := [(0, av_R 11 (some v0)), (1, av_I (0 : Int32)), (2, av_I (0 : Int32))]) rfl rfl rfl (by decide) rfl) ?_
  exact t_M_endlessMany_120 v0 (0 : Int32) (0 : Int32) h
set_option maxHeartbeats 4000000 in
set_option maxRecDepth 100000 in
theorem t_M_endlessMany_110 (v0 : Nat) (v1 : Int32) (h : HP) : xx_S (xx_D "LampYardModel" tb_M_endlessMany 4 3 (some .int) false) (xx_z2 (fun s : (Int32 × HP) => s.2) xz_i) (fun K => xx_L2 (fun s : (Int32 × HP) => xx_X K 38 [(0, av_R 11 (some v0)), (1, av_I s.1)] [] (s.2)) (xL_i K)) 110 [(0, av_R 11 (some v0)), (1, av_I v1)] [] h (f_M_endlessMany_110 v0 v1 h) := by
  unfold f_M_endlessMany_110
  refine xs_gen (fun v1_8 ev1_8 => ?_)
  refine xs_step (fun K HC => xr_iinc HC.1 67 113 (ix := 1) (j := 1) (n := (1)) (x := v1) v1_8 (lv' := [(0, av_R 11 (some v0)), (1, av_I v1_8)]) rfl (by rw [ev1_8]; rfl) rfl rfl (by decide) rfl) ?_
  refine xs_step (fun K HC => xr_goto HC.1 68 38 rfl (by decide)) ?_
  exact xs_back rfl (fun K q => q)
set_option maxHeartbeats 4000000 in
set_option maxRecDepth 100000 in
theorem t_M_endlessMany_104 (v0 : Nat) (v1 : Int32) (v2 : Int32) (h : HP) : xx_S (xx_D "LampYardModel" tb_M_endlessMany 4 3 (some .int) false) (xx_z2 (fun s : (Int32 × HP) => s.2) (xx_z2 (fun s : (Int32 × HP) => s.2) xz_i)) (fun K => xx_L2 (fun s : (Int32 × HP) => xx_X K 48 [(0, av_R 11 (some v0)), (1, av_I v1), (2, av_I s.1)] [] (s.2)) (xx_L2 (fun s : (Int32 × HP) => xx_X K 38 [(0, av_R 11 (some v0)), (1, av_I s.1)] [] (s.2)) (xL_i K))) 104 [(0, av_R 11 (some v0)), (1, av_I v1), (2, av_I v2)] [] h (f_M_endlessMany_104 v0 v1 v2 h) := by
  unfold f_M_endlessMany_104
  refine xs_gen (fun v2_12 ev2_12 => ?_)
  refine xs_step (fun K HC => xr_iinc HC.1 65 107 (ix := 2) (j := 2) (n := (1)) (x := v2) v2_12 (lv' := [(0, av_R 11 (some v0)), (1, av_I v1), (2, av_I v2_12)]) rfl (by rw [ev2_12]; rfl) rfl rfl (by decide) rfl) ?_
  refine xs_step (fun K HC => xr_goto HC.1 66 48 rfl (by decide)) ?_
  exact xs_back rfl (fun K q => q)
set_option maxHeartbeats 4000000 in
set_option maxRecDepth 100000 in
theorem t_M_endlessMany_48b (v0 : Nat) (v1 : Int32) (v2 : Int32) (h : HP) : xx_S (xx_D "LampYardModel" tb_M_endlessMany 4 3 (some .int) false) (xx_z2 (fun s : (Int32 × HP) => s.2) (xx_z2 (fun s : (Int32 × HP) => s.2) xz_i)) (fun K => xx_L2 (fun s : (Int32 × HP) => xx_X K 48 [(0, av_R 11 (some v0)), (1, av_I v1), (2, av_I s.1)] [] (s.2)) (xx_L2 (fun s : (Int32 × HP) => xx_X K 38 [(0, av_R 11 (some v0)), (1, av_I s.1)] [] (s.2)) (xL_i K))) 48 [(0, av_R 11 (some v0)), (1, av_I v1), (2, av_I v2)] [] h (f_M_endlessMany_48b v0 v1 v2 h) := by
  unfold f_M_endlessMany_48b
  refine xs_step (fun K HC => xr_iload_n HC.1 28 49 (n := 2) (ix := 2) (j := 2) (x := v2) rfl rfl rfl rfl) ?_
  refine xs_step (fun K HC => xr_aload_n HC.1 29 50 (n := 0) (ix := 0) (j := 0) (c := 11) (x := v0) rfl rfl rfl rfl) ?_
  refine xs_step (fun K HC => xr_geti HC.1 30 53 11 33 rfl rfl wf_M_401 (by decide) fb_11_33 fc_11_33) ?_
  refine xs_ite (fun K HC => xr_icmp_ge HC.1 31 110 56 rfl (by decide) rfl) ?_ ?_
  · refine xs_step (fun K HC => xr_sub (lv' := [(0, av_R 11 (some v0)), (1, av_I v1)]) [0, 1] rfl) ?_
    exact xs_map (fun _ => rfl) (fun _ _ q => q) (t_M_endlessMany_110 v0 v1 h)
  refine xs_step (fun K HC => xr_aload_n HC.1 32 57 (n := 0) (ix := 0) (j := 0) (c := 11) (x := v0) rfl rfl rfl rfl) ?_
  refine xs_bind (fun q_9 eq_9 => ?_)
  refine xs_step (fun K HC => xr_getr HC.1 33 60 11 64 13 eq_9 rfl rfl wf_M_100 (by decide) fb_11_64 fc_11_64 fd_11_64) ?_
  refine xs_step (fun K HC => xr_bipush HC.1 34 62 (n := (6)) (6 : Int32) rfl rfl rfl) ?_
  refine xs_step (fun K HC => xr_iload_n HC.1 35 63 (n := 1) (ix := 1) (j := 1) (x := v1) rfl rfl rfl rfl) ?_
  refine xs_step (fun K HC => xr_imul HC.1 36 64 rfl rfl) ?_
  refine xs_step (fun K HC => xr_iload_n HC.1 37 65 (n := 2) (ix := 2) (j := 2) (x := v2) rfl rfl rfl rfl) ?_
  refine xs_step (fun K HC => xr_iadd HC.1 38 66 rfl rfl) ?_
  refine xs_chk (fun hb_10 => ?_)
  refine xs_step (fun K HC => xr_iald HC.1 39 67 (hp_in_vp hb_10) rfl rfl) ?_
  refine xs_topi (fun v3_11 => ?_)
  refine xs_step (fun K HC => xr_istore_n HC.1 40 68 (n := 3) (ix := 3) (lv' := [(0, av_R 11 (some v0)), (1, av_I v1), (2, av_I v2), (3, av_I v3_11)]) rfl rfl rfl (by decide) rfl) ?_
  refine xs_step (fun K HC => xr_iload_n HC.1 41 69 (n := 3) (ix := 3) (j := 3) (x := v3_11) rfl rfl rfl rfl) ?_
  refine xs_ite (fun K HC => xr_if_lt HC.1 42 104 72 rfl (by decide) rfl) ?_ ?_
  · refine xs_step (fun K HC => xr_sub (lv' := [(0, av_R 11 (some v0)), (1, av_I v1), (2, av_I v2)]) [0, 1, 2] rfl) ?_
    exact t_M_endlessMany_104 v0 v1 v2 h
  refine xs_step (fun K HC => xr_aload_n HC.1 43 73 (n := 0) (ix := 0) (j := 0) (c := 11) (x := v0) rfl rfl rfl rfl) ?_
  refine xs_bind (fun q_13 eq_13 => ?_)
  refine xs_step (fun K HC => xr_getr HC.1 44 76 11 74 13 eq_13 rfl rfl wf_M_121 (by decide) fb_11_74 fc_11_74 fd_11_74) ?_
  refine xs_step (fun K HC => xr_iload_n HC.1 45 77 (n := 3) (ix := 3) (j := 3) (x := v3_11) rfl rfl rfl rfl) ?_
  refine xs_chk (fun hb_14 => ?_)
  refine xs_step (fun K HC => xr_iald HC.1 46 78 (hp_in_vp hb_14) rfl rfl) ?_
  refine xs_step (fun K HC => xr_aload_n HC.1 47 79 (n := 0) (ix := 0) (j := 0) (c := 11) (x := v0) rfl rfl rfl rfl) ?_
  refine xs_bind (fun q_15 eq_15 => ?_)
  refine xs_step (fun K HC => xr_getr HC.1 48 82 11 74 13 eq_15 rfl rfl wf_M_121 (by decide) fb_11_74 fc_11_74 fd_11_74) ?_
  refine xs_step (fun K HC => xr_iload_n HC.1 49 83 (n := 1) (ix := 1) (j := 1) (x := v1) rfl rfl rfl rfl) ?_
  refine xs_chk (fun hb_16 => ?_)
  refine xs_step (fun K HC => xr_iald HC.1 50 84 (hp_in_vp hb_16) rfl rfl) ?_
  refine xs_ite (fun K HC a b => xr_icmp_ne HC.1 51 104 87 rfl (by decide) rfl b a) ?_ ?_
  · refine xs_step (fun K HC => xr_aload_n HC.1 52 88 (n := 0) (ix := 0) (j := 0) (c := 11) (x := v0) rfl rfl rfl rfl) ?_
    refine xs_bind (fun q_17 eq_17 => ?_)
    refine xs_step (fun K HC => xr_getr HC.1 53 91 11 75 13 eq_17 rfl rfl wf_M_124 (by decide) fb_11_75 fc_11_75 fd_11_75) ?_
    refine xs_step (fun K HC => xr_aload_n HC.1 54 92 (n := 0) (ix := 0) (j := 0) (c := 11) (x := v0) rfl rfl rfl rfl) ?_
    refine xs_bind (fun q_18 eq_18 => ?_)
    refine xs_step (fun K HC => xr_getr HC.1 55 95 11 74 13 eq_18 rfl rfl wf_M_121 (by decide) fb_11_74 fc_11_74 fd_11_74) ?_
    refine xs_step (fun K HC => xr_iload_n HC.1 56 96 (n := 1) (ix := 1) (j := 1) (x := v1) rfl rfl rfl rfl) ?_
    refine xs_chk (fun hb_19 => ?_)
    refine xs_step (fun K HC => xr_iald HC.1 57 97 (hp_in_vp hb_19) rfl rfl) ?_
    refine xs_step (fun K HC => xr_dup2 HC.1 58 98 rfl rfl rfl rfl) ?_
    refine xs_chk (fun hb_20 => ?_)
    refine xs_step (fun K HC => xr_iald HC.1 59 99 (hp_in_vp hb_20) rfl rfl) ?_
    refine xs_step (fun K HC => xr_iconst HC.1 60 100 (n := (1)) (1 : Int32) rfl rfl rfl) ?_
    refine xs_step (fun K HC => xr_iload_n HC.1 61 101 (n := 2) (ix := 2) (j := 2) (x := v2) rfl rfl rfl rfl) ?_
    refine xs_step (fun K HC => xr_ishl HC.1 62 102 rfl rfl) ?_
    refine xs_step (fun K HC => xr_ior HC.1 63 103 rfl rfl) ?_
    refine xs_chk (fun hb_21 => ?_)
    refine xs_heap (hp_mo_si _ _ _ _) (fun K HC => xr_iast HC.1 64 104 (hp_in_vp hb_21) rfl rfl) (fun h_22 => ?_)
    refine xs_step (fun K HC => xr_sub (lv' := [(0, av_R 11 (some v0)), (1, av_I v1), (2, av_I v2)]) [0, 1, 2] rfl) ?_
    exact t_M_endlessMany_104 v0 v1 v2 h_22
  refine xs_step (fun K HC => xr_sub (lv' := [(0, av_R 11 (some v0)), (1, av_I v1), (2, av_I v2)]) [0, 1, 2] rfl) ?_
  exact t_M_endlessMany_104 v0 v1 v2 h
theorem t_M_endlessMany_48 (v0 : Nat) (v1 : Int32) (v2 : Int32) (h : HP) : xx_S (xx_D "LampYardModel" tb_M_endlessMany 4 3 (some .int) false) (xx_z2 (fun s : (Int32 × HP) => s.2) xz_i) (fun K => xx_L2 (fun s : (Int32 × HP) => xx_X K 38 [(0, av_R 11 (some v0)), (1, av_I s.1)] [] (s.2)) (xL_i K)) 48 [(0, av_R 11 (some v0)), (1, av_I v1), (2, av_I v2)] [] h (f_M_endlessMany_48 v0 v1 v2 h) :=
  xs_loop (zf := (xx_z2 (fun s : (Int32 × HP) => s.2) xz_i)) (L := (fun K => xx_L2 (fun s : (Int32 × HP) => xx_X K 38 [(0, av_R 11 (some v0)), (1, av_I s.1)] [] (s.2)) (xL_i K))) (fun s : (Int32 × HP) => [(0, av_R 11 (some v0)), (1, av_I v1), (2, av_I s.1)]) (fun s : (Int32 × HP) => s.2) (fun s => t_M_endlessMany_48b v0 v1 s.1 s.2) (v2, h)
set_option maxHeartbeats 4000000 in
set_option maxRecDepth 100000 in
theorem t_M_endlessMany_38b (v0 : Nat) (v1 : Int32) (h : HP) : xx_S (xx_D "LampYardModel" tb_M_endlessMany 4 3 (some .int) false) (xx_z2 (fun s : (Int32 × HP) => s.2) xz_i) (fun K => xx_L2 (fun s : (Int32 × HP) => xx_X K 38 [(0, av_R 11 (some v0)), (1, av_I s.1)] [] (s.2)) (xL_i K)) 38 [(0, av_R 11 (some v0)), (1, av_I v1)] [] h (f_M_endlessMany_38b v0 v1 h) := by
  unfold f_M_endlessMany_38b
  refine xs_step (fun K HC => xr_iload_n HC.1 22 39 (n := 1) (ix := 1) (j := 1) (x := v1) rfl rfl rfl rfl) ?_
  refine xs_step (fun K HC => xr_aload_n HC.1 23 40 (n := 0) (ix := 0) (j := 0) (c := 11) (x := v0) rfl rfl rfl rfl) ?_
  refine xs_step (fun K HC => xr_geti HC.1 24 43 11 65 rfl rfl wf_M_489 (by decide) fb_11_65 fc_11_65) ?_
  refine xs_ite (fun K HC => xr_icmp_ge HC.1 25 116 46 rfl (by decide) rfl) ?_ ?_
  · refine xs_step (fun K HC => xr_sub (lv' := [(0, av_R 11 (some v0))]) [0] rfl) ?_
    exact xs_map (fun _ => rfl) (fun _ _ q => q) (t_M_endlessMany_116 v0 h)
  refine xs_step (fun K HC => xr_iconst HC.1 26 47 (n := (0)) (0 : Int32) rfl rfl rfl) ?_
  refine xs_step (fun K HC => xr_istore_n HC.1 27 48 (n := 2) (ix := 2) (lv' := [(0, av_R 11 (some v0)), (1, av_I v1), (2, av_I (0 : Int32))]) rfl rfl rfl (by decide) rfl) ?_
  exact t_M_endlessMany_48 v0 v1 (0 : Int32) h
theorem t_M_endlessMany_38 (v0 : Nat) (v1 : Int32) (h : HP) : xx_S (xx_D "LampYardModel" tb_M_endlessMany 4 3 (some .int) false) xz_i (fun K => xL_i K) 38 [(0, av_R 11 (some v0)), (1, av_I v1)] [] h (f_M_endlessMany_38 v0 v1 h) :=
  xs_loop (zf := xz_i) (L := (fun K => xL_i K)) (fun s : (Int32 × HP) => [(0, av_R 11 (some v0)), (1, av_I s.1)]) (fun s : (Int32 × HP) => s.2) (fun s => t_M_endlessMany_38b v0 s.1 s.2) (v1, h)
set_option maxHeartbeats 4000000 in
set_option maxRecDepth 100000 in
theorem t_M_endlessMany_36 (v0 : Nat) (h : HP) : xx_S (xx_D "LampYardModel" tb_M_endlessMany 4 3 (some .int) false) xz_i (fun K => xL_i K) 36 [(0, av_R 11 (some v0))] [] h (f_M_endlessMany_36 v0 h) := by
  unfold f_M_endlessMany_36
  refine xs_step (fun K HC => xr_iconst HC.1 20 37 (n := (0)) (0 : Int32) rfl rfl rfl) ?_
  refine xs_step (fun K HC => xr_istore_n HC.1 21 38 (n := 1) (ix := 1) (lv' := [(0, av_R 11 (some v0)), (1, av_I (0 : Int32))]) rfl rfl rfl (by decide) rfl) ?_
  exact t_M_endlessMany_38 v0 (0 : Int32) h
set_option maxHeartbeats 4000000 in
set_option maxRecDepth 100000 in
theorem t_M_endlessMany_15b (v0 : Nat) (v1 : Int32) (h : HP) : xx_S (xx_D "LampYardModel" tb_M_endlessMany 4 3 (some .int) false) (xx_z2 (fun s : (Int32 × HP) => s.2) xz_i) (fun K => xx_L2 (fun s : (Int32 × HP) => xx_X K 15 [(0, av_R 11 (some v0)), (1, av_I s.1)] [] (s.2)) (xL_i K)) 15 [(0, av_R 11 (some v0)), (1, av_I v1)] [] h (f_M_endlessMany_15b v0 v1 h) := by
  unfold f_M_endlessMany_15b
  refine xs_step (fun K HC => xr_iload_n HC.1 9 16 (n := 1) (ix := 1) (j := 1) (x := v1) rfl rfl rfl rfl) ?_
  refine xs_step (fun K HC => xr_aload_n HC.1 10 17 (n := 0) (ix := 0) (j := 0) (c := 11) (x := v0) rfl rfl rfl rfl) ?_
  refine xs_step (fun K HC => xr_geti HC.1 11 20 11 65 rfl rfl wf_M_489 (by decide) fb_11_65 fc_11_65) ?_
  refine xs_ite (fun K HC => xr_icmp_ge HC.1 12 36 23 rfl (by decide) rfl) ?_ ?_
  · refine xs_step (fun K HC => xr_sub (lv' := [(0, av_R 11 (some v0))]) [0] rfl) ?_
    exact xs_map (fun _ => rfl) (fun _ _ q => q) (t_M_endlessMany_36 v0 h)
  refine xs_step (fun K HC => xr_aload_n HC.1 13 24 (n := 0) (ix := 0) (j := 0) (c := 11) (x := v0) rfl rfl rfl rfl) ?_
  refine xs_bind (fun q_23 eq_23 => ?_)
  refine xs_step (fun K HC => xr_getr HC.1 14 27 11 75 13 eq_23 rfl rfl wf_M_124 (by decide) fb_11_75 fc_11_75 fd_11_75) ?_
  refine xs_step (fun K HC => xr_iload_n HC.1 15 28 (n := 1) (ix := 1) (j := 1) (x := v1) rfl rfl rfl rfl) ?_
  refine xs_step (fun K HC => xr_iconst HC.1 16 29 (n := (0)) (0 : Int32) rfl rfl rfl) ?_
  refine xs_chk (fun hb_24 => ?_)
  refine xs_heap (hp_mo_si _ _ _ _) (fun K HC => xr_iast HC.1 17 30 (hp_in_vp hb_24) rfl rfl) (fun h_25 => ?_)
  refine xs_gen (fun v1_26 ev1_26 => ?_)
  refine xs_step (fun K HC => xr_iinc HC.1 18 33 (ix := 1) (j := 1) (n := (1)) (x := v1) v1_26 (lv' := [(0, av_R 11 (some v0)), (1, av_I v1_26)]) rfl (by rw [ev1_26]; rfl) rfl rfl (by decide) rfl) ?_
  refine xs_step (fun K HC => xr_goto HC.1 19 15 rfl (by decide)) ?_
  exact xs_back rfl (fun K q => q)
theorem t_M_endlessMany_15 (v0 : Nat) (v1 : Int32) (h : HP) : xx_S (xx_D "LampYardModel" tb_M_endlessMany 4 3 (some .int) false) xz_i (fun K => xL_i K) 15 [(0, av_R 11 (some v0)), (1, av_I v1)] [] h (f_M_endlessMany_15 v0 v1 h) :=
  xs_loop (zf := xz_i) (L := (fun K => xL_i K)) (fun s : (Int32 × HP) => [(0, av_R 11 (some v0)), (1, av_I s.1)]) (fun s : (Int32 × HP) => s.2) (fun s => t_M_endlessMany_15b v0 s.1 s.2) (v1, h)
set_option maxHeartbeats 4000000 in
set_option maxRecDepth 100000 in
theorem t_M_endlessMany (v0 : Nat) (h : HP) : xx_S (xx_D "LampYardModel" tb_M_endlessMany 4 3 (some .int) false) xz_i (fun K => xL_i K) 0 [(0, av_R 11 (some v0))] [] h (f_M_endlessMany v0 h) := by
  unfold f_M_endlessMany
  refine xs_step (fun K HC => xr_aload_n HC.1 0 1 (n := 0) (ix := 0) (j := 0) (c := 11) (x := v0) rfl rfl rfl rfl) ?_
  refine xs_step (fun K HC => xr_geti HC.1 1 4 11 33 rfl rfl wf_M_401 (by decide) fb_11_33 fc_11_33) ?_
  refine xs_ite (fun K HC a b => xr_if_ne HC.1 2 9 7 rfl (by decide) rfl b a) ?_ ?_
  · refine xs_step (fun K HC => xr_iconst HC.1 3 8 (n := (0)) (0 : Int32) rfl rfl rfl) ?_
    exact xs_reti 4 rfl rfl (fun K q => q) (fun ty ht => by cases ht; rfl)
  refine xs_step (fun K HC => xr_aload_n HC.1 5 10 (n := 0) (ix := 0) (j := 0) (c := 11) (x := v0) rfl rfl rfl rfl) ?_
  refine xs_callv (s_M_layParts v0 h) (fun K HC x9 hM hmo hb => xr_callV HC.1 6 13 (av := []) (st := []) (hM (kg K) (cx_l (kx K))) hmo hb rfl rfl wm_M_546 wi_M_layParts ws_M_layParts wc_M_layParts rfl wh_M_layParts (by decide) (by decide) (by decide) (Nat.le_of_ble_eq_true rfl) rfl) (fun x_1 => ?_)
  refine xs_step (fun K HC => xr_iconst HC.1 7 14 (n := (0)) (0 : Int32) rfl rfl rfl) ?_
  refine xs_step (fun K HC => xr_istore_n HC.1 8 15 (n := 1) (ix := 1) (lv' := [(0, av_R 11 (some v0)), (1, av_I (0 : Int32))]) rfl rfl rfl (by decide) rfl) ?_
  exact t_M_endlessMany_15 v0 (0 : Int32) x_1
theorem s_M_endlessMany (v0 : Nat) (h : HP) : ∀ x, f_M_endlessMany v0 h = some x → hp_mo h x.2 ∧ ∀ g l, xx_M g l y_M_endlessMany prog_14_method_79_code 4 (some .int) 3 [av_R 11 (some v0)] h (some (av_I x.1)) x.2 :=
  xM_i (tb := tb_M_endlessMany) (b := false) (by decide +kernel) dt_M_endlessMany (fun _ => trivial) (Nat.le_of_ble_eq_true rfl) (fun hb => by cases hb) (t_M_endlessMany v0 h)
def tb_M_ends : TBL := [(0, .aload_n 0, 1), (1, .iconst (-1), 1), (2, .invokevirtual 521, 3), (5, .ifCond .ne 8, 3), (8, .bipush (-2), 2), (10, .goto 15, 3), (13, .aload_n 0, 1), (14, .invokevirtual 549, 3), (17, .ifCond .ne 7, 3), (20, .iconst 1, 1), (21, .goto 4, 3), (24, .iconst 0, 1), (25, .ireturn, 1)]
theorem dt_M_ends : ∀ q ∈ tb_M_ends, decode prog_14_method_80_code q.1 = .ok (q.2.1, q.2.2) := by decide +kernel
set_option maxHeartbeats 4000000 in
set_option maxRecDepth 100000 in
theorem t_M_ends (v0 : Nat) (h : HP) : xx_S (xx_D "LampYardModel" tb_M_ends 1 8 (some .int) false) xz_i (fun K => xL_i K) 0 [(0, av_R 11 (some v0))] [] h (f_M_ends v0 h) := by
  unfold f_M_ends
  refine xs_step (fun K HC => xr_aload_n HC.1 0 1 (n := 0) (ix := 0) (j := 0) (c := 11) (x := v0) rfl rfl rfl rfl) ?_
  refine xs_step (fun K HC => xr_iconst HC.1 1 2 (n := (-1)) (-1 : Int32) rfl rfl rfl) ?_
  refine xs_calli (s_M_layPlan v0 (-1 : Int32) h) (fun K HC x9 hM hmo hb => xr_callV HC.1 2 5 (av := [av_I (-1 : Int32)]) (st := []) (hM (kg K) (cx_l (kx K))) hmo hb rfl rfl wm_M_521 wi_M_layPlan ws_M_layPlan wc_M_layPlan rfl wh_M_layPlan (by decide) (by decide) (by decide) (Nat.le_of_ble_eq_true rfl) rfl) (fun x_1 => ?_)
  refine xs_ite (fun K HC a b => xr_if_ne HC.1 3 13 8 rfl (by decide) rfl b a) ?_ ?_
  · refine xs_step (fun K HC => xr_bipush HC.1 4 10 (n := (-2)) (-2 : Int32) rfl rfl rfl) ?_
    refine xs_step (fun K HC => xr_goto HC.1 5 25 rfl (by decide)) ?_
    exact xs_reti 12 rfl rfl (fun K q => q) (fun ty ht => by cases ht; rfl)
  refine xs_step (fun K HC => xr_aload_n HC.1 6 14 (n := 0) (ix := 0) (j := 0) (c := 11) (x := v0) rfl rfl rfl rfl) ?_
  refine xs_calli (s_M_endlessMany v0 x_1.2) (fun K HC x9 hM hmo hb => xr_callV HC.1 7 17 (av := []) (st := []) (hM (kg K) (cx_l (kx K))) hmo hb rfl rfl wm_M_549 wi_M_endlessMany ws_M_endlessMany wc_M_endlessMany rfl wh_M_endlessMany (by decide) (by decide) (by decide) (Nat.le_of_ble_eq_true rfl) rfl) (fun x_2 => ?_)
  refine xs_ite (fun K HC a b => xr_if_ne HC.1 8 24 20 rfl (by decide) rfl b a) ?_ ?_
  · refine xs_step (fun K HC => xr_iconst HC.1 9 21 (n := (1)) (1 : Int32) rfl rfl rfl) ?_
    refine xs_step (fun K HC => xr_goto HC.1 10 25 rfl (by decide)) ?_
    exact xs_reti 12 rfl rfl (fun K q => q) (fun ty ht => by cases ht; rfl)
  refine xs_step (fun K HC => xr_iconst HC.1 11 25 (n := (0)) (0 : Int32) rfl rfl rfl) ?_
  exact xs_reti 12 rfl rfl (fun K q => q) (fun ty ht => by cases ht; rfl)
theorem s_M_ends (v0 : Nat) (h : HP) : ∀ x, f_M_ends v0 h = some x → hp_mo h x.2 ∧ ∀ g l, xx_M g l y_M_ends prog_14_method_80_code 1 (some .int) 8 [av_R 11 (some v0)] h (some (av_I x.1)) x.2 :=
  xM_i (tb := tb_M_ends) (b := false) (by decide +kernel) dt_M_ends (fun _ => trivial) (Nat.le_of_ble_eq_true rfl) (fun hb => by cases hb) (t_M_ends v0 h)
def tb_M_endless : TBL := [(0, .aload_n 0, 1), (1, .iconst (-1), 1), (2, .invokevirtual 521, 3), (5, .ifCond .ne 8, 3), (8, .bipush (-2), 2), (10, .goto 7, 3), (13, .aload_n 0, 1), (14, .invokevirtual 549, 3), (17, .ireturn, 1)]
theorem dt_M_endless : ∀ q ∈ tb_M_endless, decode prog_14_method_81_code q.1 = .ok (q.2.1, q.2.2) := by decide +kernel
set_option maxHeartbeats 4000000 in
set_option maxRecDepth 100000 in
theorem t_M_endless (v0 : Nat) (h : HP) : xx_S (xx_D "LampYardModel" tb_M_endless 1 8 (some .int) false) xz_i (fun K => xL_i K) 0 [(0, av_R 11 (some v0))] [] h (f_M_endless v0 h) := by
  unfold f_M_endless
  refine xs_step (fun K HC => xr_aload_n HC.1 0 1 (n := 0) (ix := 0) (j := 0) (c := 11) (x := v0) rfl rfl rfl rfl) ?_
  refine xs_step (fun K HC => xr_iconst HC.1 1 2 (n := (-1)) (-1 : Int32) rfl rfl rfl) ?_
  refine xs_calli (s_M_layPlan v0 (-1 : Int32) h) (fun K HC x9 hM hmo hb => xr_callV HC.1 2 5 (av := [av_I (-1 : Int32)]) (st := []) (hM (kg K) (cx_l (kx K))) hmo hb rfl rfl wm_M_521 wi_M_layPlan ws_M_layPlan wc_M_layPlan rfl wh_M_layPlan (by decide) (by decide) (by decide) (Nat.le_of_ble_eq_true rfl) rfl) (fun x_1 => ?_)
  refine xs_ite (fun K HC a b => xr_if_ne HC.1 3 13 8 rfl (by decide) rfl b a) ?_ ?_
  · refine xs_step (fun K HC => xr_bipush HC.1 4 10 (n := (-2)) (-2 : Int32) rfl rfl rfl) ?_
    refine xs_step (fun K HC => xr_goto HC.1 5 17 rfl (by decide)) ?_
    exact xs_reti 8 rfl rfl (fun K q => q) (fun ty ht => by cases ht; rfl)
  refine xs_step (fun K HC => xr_aload_n HC.1 6 14 (n := 0) (ix := 0) (j := 0) (c := 11) (x := v0) rfl rfl rfl rfl) ?_
  refine xs_calli (s_M_endlessMany v0 x_1.2) (fun K HC x9 hM hmo hb => xr_callV HC.1 7 17 (av := []) (st := []) (hM (kg K) (cx_l (kx K))) hmo hb rfl rfl wm_M_549 wi_M_endlessMany ws_M_endlessMany wc_M_endlessMany rfl wh_M_endlessMany (by decide) (by decide) (by decide) (Nat.le_of_ble_eq_true rfl) rfl) (fun x_2 => ?_)
  exact xs_reti 8 rfl rfl (fun K q => q) (fun ty ht => by cases ht; rfl)
theorem s_M_endless (v0 : Nat) (h : HP) : ∀ x, f_M_endless v0 h = some x → hp_mo h x.2 ∧ ∀ g l, xx_M g l y_M_endless prog_14_method_81_code 1 (some .int) 8 [av_R 11 (some v0)] h (some (av_I x.1)) x.2 :=
  xM_i (tb := tb_M_endless) (b := false) (by decide +kernel) dt_M_endless (fun _ => trivial) (Nat.le_of_ble_eq_true rfl) (fun hb => by cases hb) (t_M_endless v0 h)
def tb_M_idle : TBL := [(0, .aload_n 0, 1), (1, .iconst (-1), 1), (2, .invokevirtual 521, 3), (5, .ifCond .ne 6, 3), (8, .bipush (-2), 2), (10, .ireturn, 1), (11, .iconst 1, 1), (12, .aload_n 0, 1), (13, .getfield 401, 3), (16, .ishl, 1), (17, .iconst 1, 1), (18, .isub, 1), (19, .istore_n 1, 1), (20, .aload_n 0, 1), (21, .invokevirtual 512, 3), (24, .iconst 0, 1), (25, .istore_n 2, 1), (26, .iconst 0, 1), (27, .istore_n 3, 1), (28, .iload_n 3, 1), (29, .aload_n 0, 1), (30, .getfield 489, 3), (33, .if_icmp .ge 67, 3), (36, .iconst 0, 1), (37, .istore 4, 2), (39, .iload 4, 2), (41, .aload_n 0, 1), (42, .getfield 401, 3), (45, .if_icmp .ge 49, 3), (48, .aload_n 0, 1), (49, .aload_n 0, 1), (50, .getfield 94, 3), (53, .iload_n 3, 1), (54, .laload, 1), (55, .invokevirtual 498, 3), (58, .aload_n 0, 1), (59, .iload 4, 2), (61, .invokevirtual 463, 3), (64, .istore_n 2, 1), (65, .aload_n 0, 1), (66, .getfield 429, 3), (69, .ifCond .ne 10, 3), (72, .aload_n 0, 1), (73, .getfield 436, 3), (76, .ifCond .eq 12, 3), (79, .iload_n 1, 1), (80, .iconst 1, 1), (81, .iload 4, 2), (83, .ishl, 1), (84, .iconst (-1), 1), (85, .ixor, 1), (86, .iand, 1), (87, .istore_n 1, 1), (88, .iinc 4 1, 3), (91, .goto (-52), 3), (94, .iinc 3 1, 3), (97, .goto (-69), 3), (100, .aload_n 0, 1), (101, .invokevirtual 518, 3), (104, .iload_n 1, 1), (105, .ireturn, 1)]
theorem dt_M_idle : ∀ q ∈ tb_M_idle, decode prog_14_method_82_code q.1 = .ok (q.2.1, q.2.2) := by decide +kernel
set_option maxHeartbeats 4000000 in
set_option maxRecDepth 100000 in
theorem t_M_idle_100 (v0 : Nat) (v1 : Int32) (h : HP) : xx_S (xx_D "LampYardModel" tb_M_idle 5 8 (some .int) false) xz_i (fun K => xL_i K) 100 [(0, av_R 11 (some v0)), (1, av_I v1)] [] h (f_M_idle_100 v0 v1 h) := by
  unfold f_M_idle_100
  refine xs_step (fun K HC => xr_aload_n HC.1 57 101 (n := 0) (ix := 0) (j := 0) (c := 11) (x := v0) rfl rfl rfl rfl) ?_
  refine xs_callv (s_M_bring v0 h) (fun K HC x9 hM hmo hb => xr_callV HC.1 58 104 (av := []) (st := []) (hM (kg K) (cx_l (kx K))) hmo hb rfl rfl wm_M_518 wi_M_bring ws_M_bring wc_M_bring rfl wh_M_bring (by decide) (by decide) (by decide) (Nat.le_of_ble_eq_true rfl) rfl) (fun x_4 => ?_)
  refine xs_step (fun K HC => xr_iload_n HC.1 59 105 (n := 1) (ix := 1) (j := 1) (x := v1) rfl rfl rfl rfl) ?_
  exact xs_reti 60 rfl rfl (fun K q => q) (fun ty ht => by cases ht; rfl)
set_option maxHeartbeats 4000000 in
set_option maxRecDepth 100000 in
theorem t_M_idle_94 (v0 : Nat) (v1 : Int32) (v3 : Int32) (h : HP) : xx_S (xx_D "LampYardModel" tb_M_idle 5 8 (some .int) false) (xx_z2 (fun s : (Int32 × Int32 × HP) => s.2.2) xz_i) (fun K => xx_L2 (fun s : (Int32 × Int32 × HP) => xx_X K 28 [(0, av_R 11 (some v0)), (1, av_I s.1), (3, av_I s.2.1)] [] (s.2.2)) (xL_i K)) 94 [(0, av_R 11 (some v0)), (1, av_I v1), (3, av_I v3)] [] h (f_M_idle_94 v0 v1 v3 h) := by
  unfold f_M_idle_94
  refine xs_gen (fun v3_5 ev3_5 => ?_)
  refine xs_step (fun K HC => xr_iinc HC.1 55 97 (ix := 3) (j := 2) (n := (1)) (x := v3) v3_5 (lv' := [(0, av_R 11 (some v0)), (1, av_I v1), (3, av_I v3_5)]) rfl (by rw [ev3_5]; rfl) rfl rfl (by decide) rfl) ?_
  refine xs_step (fun K HC => xr_goto HC.1 56 28 rfl (by decide)) ?_
  exact xs_back rfl (fun K q => q)
set_option maxHeartbeats 4000000 in
set_option maxRecDepth 100000 in
theorem t_M_idle_88 (v0 : Nat) (v1 : Int32) (v3 : Int32) (v4 : Int32) (h : HP) : xx_S (xx_D "LampYardModel" tb_M_idle 5 8 (some .int) false) (xx_z2 (fun s : (Int32 × Int32 × HP) => s.2.2) (xx_z2 (fun s : (Int32 × Int32 × HP) => s.2.2) xz_i)) (fun K => xx_L2 (fun s : (Int32 × Int32 × HP) => xx_X K 39 [(0, av_R 11 (some v0)), (1, av_I s.1), (3, av_I v3), (4, av_I s.2.1)] [] (s.2.2)) (xx_L2 (fun s : (Int32 × Int32 × HP) => xx_X K 28 [(0, av_R 11 (some v0)), (1, av_I s.1), (3, av_I s.2.1)] [] (s.2.2)) (xL_i K))) 88 [(0, av_R 11 (some v0)), (1, av_I v1), (3, av_I v3), (4, av_I v4)] [] h (f_M_idle_88 v0 v1 v3 v4 h) := by
  unfold f_M_idle_88
  refine xs_gen (fun v4_10 ev4_10 => ?_)
  refine xs_step (fun K HC => xr_iinc HC.1 53 91 (ix := 4) (j := 3) (n := (1)) (x := v4) v4_10 (lv' := [(0, av_R 11 (some v0)), (1, av_I v1), (3, av_I v3), (4, av_I v4_10)]) rfl (by rw [ev4_10]; rfl) rfl rfl (by decide) rfl) ?_
  refine xs_step (fun K HC => xr_goto HC.1 54 39 rfl (by decide)) ?_
  exact xs_back rfl (fun K q => q)
set_option maxHeartbeats 4000000 in
set_option maxRecDepth 100000 in
theorem t_M_idle_79 (v0 : Nat) (v1 : Int32) (v3 : Int32) (v4 : Int32) (h : HP) : xx_S (xx_D "LampYardModel" tb_M_idle 5 8 (some .int) false) (xx_z2 (fun s : (Int32 × Int32 × HP) => s.2.2) (xx_z2 (fun s : (Int32 × Int32 × HP) => s.2.2) xz_i)) (fun K => xx_L2 (fun s : (Int32 × Int32 × HP) => xx_X K 39 [(0, av_R 11 (some v0)), (1, av_I s.1), (3, av_I v3), (4, av_I s.2.1)] [] (s.2.2)) (xx_L2 (fun s : (Int32 × Int32 × HP) => xx_X K 28 [(0, av_R 11 (some v0)), (1, av_I s.1), (3, av_I s.2.1)] [] (s.2.2)) (xL_i K))) 79 [(0, av_R 11 (some v0)), (1, av_I v1), (3, av_I v3), (4, av_I v4)] [] h (f_M_idle_79 v0 v1 v3 v4 h) := by
  unfold f_M_idle_79
  refine xs_step (fun K HC => xr_iload_n HC.1 45 80 (n := 1) (ix := 1) (j := 1) (x := v1) rfl rfl rfl rfl) ?_
  refine xs_step (fun K HC => xr_iconst HC.1 46 81 (n := (1)) (1 : Int32) rfl rfl rfl) ?_
  refine xs_step (fun K HC => xr_iload HC.1 47 83 (ix := 4) (j := 3) (x := v4) rfl rfl rfl) ?_
  refine xs_step (fun K HC => xr_ishl HC.1 48 84 rfl rfl) ?_
  refine xs_step (fun K HC => xr_iconst HC.1 49 85 (n := (-1)) (-1 : Int32) rfl rfl rfl) ?_
  refine xs_step (fun K HC => xr_ixor HC.1 50 86 rfl rfl) ?_
  refine xs_step (fun K HC => xr_iand HC.1 51 87 rfl rfl) ?_
  refine xs_topi (fun v1_11 => ?_)
  refine xs_step (fun K HC => xr_istore_n HC.1 52 88 (n := 1) (ix := 1) (lv' := [(0, av_R 11 (some v0)), (1, av_I v1_11), (3, av_I v3), (4, av_I v4)]) rfl rfl rfl (by decide) rfl) ?_
  exact t_M_idle_88 v0 v1_11 v3 v4 h
set_option maxHeartbeats 4000000 in
set_option maxRecDepth 100000 in
theorem t_M_idle_39b (v0 : Nat) (v3 : Int32) (v1 : Int32) (v4 : Int32) (h : HP) : xx_S (xx_D "LampYardModel" tb_M_idle 5 8 (some .int) false) (xx_z2 (fun s : (Int32 × Int32 × HP) => s.2.2) (xx_z2 (fun s : (Int32 × Int32 × HP) => s.2.2) xz_i)) (fun K => xx_L2 (fun s : (Int32 × Int32 × HP) => xx_X K 39 [(0, av_R 11 (some v0)), (1, av_I s.1), (3, av_I v3), (4, av_I s.2.1)] [] (s.2.2)) (xx_L2 (fun s : (Int32 × Int32 × HP) => xx_X K 28 [(0, av_R 11 (some v0)), (1, av_I s.1), (3, av_I s.2.1)] [] (s.2.2)) (xL_i K))) 39 [(0, av_R 11 (some v0)), (1, av_I v1), (3, av_I v3), (4, av_I v4)] [] h (f_M_idle_39b v0 v3 v1 v4 h) := by
  unfold f_M_idle_39b
  refine xs_step (fun K HC => xr_iload HC.1 25 41 (ix := 4) (j := 3) (x := v4) rfl rfl rfl) ?_
  refine xs_step (fun K HC => xr_aload_n HC.1 26 42 (n := 0) (ix := 0) (j := 0) (c := 11) (x := v0) rfl rfl rfl rfl) ?_
  refine xs_step (fun K HC => xr_geti HC.1 27 45 11 33 rfl rfl wf_M_401 (by decide) fb_11_33 fc_11_33) ?_
  refine xs_ite (fun K HC => xr_icmp_ge HC.1 28 94 48 rfl (by decide) rfl) ?_ ?_
  · refine xs_step (fun K HC => xr_sub (lv' := [(0, av_R 11 (some v0)), (1, av_I v1), (3, av_I v3)]) [0, 1, 2] rfl) ?_
    exact xs_map (fun _ => rfl) (fun _ _ q => q) (t_M_idle_94 v0 v1 v3 h)
  refine xs_step (fun K HC => xr_aload_n HC.1 29 49 (n := 0) (ix := 0) (j := 0) (c := 11) (x := v0) rfl rfl rfl rfl) ?_
  refine xs_step (fun K HC => xr_aload_n HC.1 30 50 (n := 0) (ix := 0) (j := 0) (c := 11) (x := v0) rfl rfl rfl rfl) ?_
  refine xs_bind (fun q_6 eq_6 => ?_)
  refine xs_step (fun K HC => xr_getr HC.1 31 53 11 62 14 eq_6 rfl rfl wf_M_94 (by decide) fb_11_62 fc_11_62 fd_11_62) ?_
  refine xs_step (fun K HC => xr_iload_n HC.1 32 54 (n := 3) (ix := 3) (j := 2) (x := v3) rfl rfl rfl rfl) ?_
  refine xs_chk (fun hb_7 => ?_)
  refine xs_step (fun K HC => xr_lald HC.1 33 55 (hp_in_vp hb_7) rfl rfl) ?_
  refine xs_callv (s_M_unpack v0 (hp_l h q_6 (v3).toNatClampNeg) h) (fun K HC x9 hM hmo hb => xr_callV HC.1 34 58 (av := [av_L (hp_l h q_6 (v3).toNatClampNeg)]) (st := []) (hM (kg K) (cx_l (kx K))) hmo hb rfl rfl wm_M_498 wi_M_unpack ws_M_unpack wc_M_unpack rfl wh_M_unpack (by decide) (by decide) (by decide) (Nat.le_of_ble_eq_true rfl) rfl) (fun x_8 => ?_)
  refine xs_step (fun K HC => xr_aload_n HC.1 35 59 (n := 0) (ix := 0) (j := 0) (c := 11) (x := v0) rfl rfl rfl rfl) ?_
  refine xs_step (fun K HC => xr_iload HC.1 36 61 (ix := 4) (j := 3) (x := v4) rfl rfl rfl) ?_
  refine xs_calli (s_M_go v0 v4 x_8) (fun K HC x9 hM hmo hb => xr_callV HC.1 37 64 (av := [av_I v4]) (st := []) (hM (kg K) (cx_l (kx K))) hmo hb rfl rfl wm_M_463 wi_M_go ws_M_go wc_M_go rfl wh_M_go (by decide) (by decide) (by decide) (Nat.le_of_ble_eq_true rfl) rfl) (fun x_9 => ?_)
  refine xs_step (fun K HC => xr_istore_n HC.1 38 65 (n := 2) (ix := 2) (lv' := [(0, av_R 11 (some v0)), (1, av_I v1), (2, av_I x_9.1), (3, av_I v3), (4, av_I v4)]) rfl rfl rfl (by decide) rfl) ?_
  refine xs_step (fun K HC => xr_aload_n HC.1 39 66 (n := 0) (ix := 0) (j := 0) (c := 11) (x := v0) rfl rfl rfl rfl) ?_
  refine xs_step (fun K HC => xr_geti HC.1 40 69 11 53 rfl rfl wf_M_429 (by decide) fb_11_53 fc_11_53) ?_
  refine xs_ite (fun K HC a b => xr_if_ne HC.1 41 79 72 rfl (by decide) rfl b a) ?_ ?_
  · refine xs_step (fun K HC => xr_aload_n HC.1 42 73 (n := 0) (ix := 0) (j := 0) (c := 11) (x := v0) rfl rfl rfl rfl) ?_
    refine xs_step (fun K HC => xr_geti HC.1 43 76 11 54 rfl rfl wf_M_436 (by decide) fb_11_54 fc_11_54) ?_
    refine xs_ite (fun K HC => xr_if_eq HC.1 44 88 79 rfl (by decide) rfl) ?_ ?_
    · refine xs_step (fun K HC => xr_sub (lv' := [(0, av_R 11 (some v0)), (1, av_I v1), (3, av_I v3), (4, av_I v4)]) [0, 1, 3, 4] rfl) ?_
      exact t_M_idle_88 v0 v1 v3 v4 x_9.2
    refine xs_step (fun K HC => xr_sub (lv' := [(0, av_R 11 (some v0)), (1, av_I v1), (3, av_I v3), (4, av_I v4)]) [0, 1, 3, 4] rfl) ?_
    exact t_M_idle_79 v0 v1 v3 v4 x_9.2
  refine xs_step (fun K HC => xr_sub (lv' := [(0, av_R 11 (some v0)), (1, av_I v1), (3, av_I v3), (4, av_I v4)]) [0, 1, 3, 4] rfl) ?_
  exact t_M_idle_79 v0 v1 v3 v4 x_9.2
theorem t_M_idle_39 (v0 : Nat) (v3 : Int32) (v1 : Int32) (v4 : Int32) (h : HP) : xx_S (xx_D "LampYardModel" tb_M_idle 5 8 (some .int) false) (xx_z2 (fun s : (Int32 × Int32 × HP) => s.2.2) xz_i) (fun K => xx_L2 (fun s : (Int32 × Int32 × HP) => xx_X K 28 [(0, av_R 11 (some v0)), (1, av_I s.1), (3, av_I s.2.1)] [] (s.2.2)) (xL_i K)) 39 [(0, av_R 11 (some v0)), (1, av_I v1), (3, av_I v3), (4, av_I v4)] [] h (f_M_idle_39 v0 v3 v1 v4 h) :=
  xs_loop (zf := (xx_z2 (fun s : (Int32 × Int32 × HP) => s.2.2) xz_i)) (L := (fun K => xx_L2 (fun s : (Int32 × Int32 × HP) => xx_X K 28 [(0, av_R 11 (some v0)), (1, av_I s.1), (3, av_I s.2.1)] [] (s.2.2)) (xL_i K))) (fun s : (Int32 × Int32 × HP) => [(0, av_R 11 (some v0)), (1, av_I s.1), (3, av_I v3), (4, av_I s.2.1)]) (fun s : (Int32 × Int32 × HP) => s.2.2) (fun s => t_M_idle_39b v0 v3 s.1 s.2.1 s.2.2) (v1, v4, h)
set_option maxHeartbeats 4000000 in
set_option maxRecDepth 100000 in
theorem t_M_idle_28b (v0 : Nat) (v1 : Int32) (v3 : Int32) (h : HP) : xx_S (xx_D "LampYardModel" tb_M_idle 5 8 (some .int) false) (xx_z2 (fun s : (Int32 × Int32 × HP) => s.2.2) xz_i) (fun K => xx_L2 (fun s : (Int32 × Int32 × HP) => xx_X K 28 [(0, av_R 11 (some v0)), (1, av_I s.1), (3, av_I s.2.1)] [] (s.2.2)) (xL_i K)) 28 [(0, av_R 11 (some v0)), (1, av_I v1), (3, av_I v3)] [] h (f_M_idle_28b v0 v1 v3 h) := by
  unfold f_M_idle_28b
  refine xs_step (fun K HC => xr_iload_n HC.1 19 29 (n := 3) (ix := 3) (j := 2) (x := v3) rfl rfl rfl rfl) ?_
  refine xs_step (fun K HC => xr_aload_n HC.1 20 30 (n := 0) (ix := 0) (j := 0) (c := 11) (x := v0) rfl rfl rfl rfl) ?_
  refine xs_step (fun K HC => xr_geti HC.1 21 33 11 65 rfl rfl wf_M_489 (by decide) fb_11_65 fc_11_65) ?_
  refine xs_ite (fun K HC => xr_icmp_ge HC.1 22 100 36 rfl (by decide) rfl) ?_ ?_
  · refine xs_step (fun K HC => xr_sub (lv' := [(0, av_R 11 (some v0)), (1, av_I v1)]) [0, 1] rfl) ?_
    exact xs_map (fun _ => rfl) (fun _ _ q => q) (t_M_idle_100 v0 v1 h)
  refine xs_step (fun K HC => xr_iconst HC.1 23 37 (n := (0)) (0 : Int32) rfl rfl rfl) ?_
  refine xs_step (fun K HC => xr_istore HC.1 24 39 (ix := 4) (lv' := [(0, av_R 11 (some v0)), (1, av_I v1), (3, av_I v3), (4, av_I (0 : Int32))]) rfl rfl (by decide) rfl) ?_
  exact t_M_idle_39 v0 v3 v1 (0 : Int32) h
theorem t_M_idle_28 (v0 : Nat) (v1 : Int32) (v3 : Int32) (h : HP) : xx_S (xx_D "LampYardModel" tb_M_idle 5 8 (some .int) false) xz_i (fun K => xL_i K) 28 [(0, av_R 11 (some v0)), (1, av_I v1), (3, av_I v3)] [] h (f_M_idle_28 v0 v1 v3 h) :=
  xs_loop (zf := xz_i) (L := (fun K => xL_i K)) (fun s : (Int32 × Int32 × HP) => [(0, av_R 11 (some v0)), (1, av_I s.1), (3, av_I s.2.1)]) (fun s : (Int32 × Int32 × HP) => s.2.2) (fun s => t_M_idle_28b v0 s.1 s.2.1 s.2.2) (v1, v3, h)
set_option maxHeartbeats 4000000 in
set_option maxRecDepth 100000 in
theorem t_M_idle (v0 : Nat) (h : HP) : xx_S (xx_D "LampYardModel" tb_M_idle 5 8 (some .int) false) xz_i (fun K => xL_i K) 0 [(0, av_R 11 (some v0))] [] h (f_M_idle v0 h) := by
  unfold f_M_idle
  refine xs_step (fun K HC => xr_aload_n HC.1 0 1 (n := 0) (ix := 0) (j := 0) (c := 11) (x := v0) rfl rfl rfl rfl) ?_
  refine xs_step (fun K HC => xr_iconst HC.1 1 2 (n := (-1)) (-1 : Int32) rfl rfl rfl) ?_
  refine xs_calli (s_M_layPlan v0 (-1 : Int32) h) (fun K HC x9 hM hmo hb => xr_callV HC.1 2 5 (av := [av_I (-1 : Int32)]) (st := []) (hM (kg K) (cx_l (kx K))) hmo hb rfl rfl wm_M_521 wi_M_layPlan ws_M_layPlan wc_M_layPlan rfl wh_M_layPlan (by decide) (by decide) (by decide) (Nat.le_of_ble_eq_true rfl) rfl) (fun x_1 => ?_)
  refine xs_ite (fun K HC a b => xr_if_ne HC.1 3 11 8 rfl (by decide) rfl b a) ?_ ?_
  · refine xs_step (fun K HC => xr_bipush HC.1 4 10 (n := (-2)) (-2 : Int32) rfl rfl rfl) ?_
    exact xs_reti 5 rfl rfl (fun K q => q) (fun ty ht => by cases ht; rfl)
  refine xs_step (fun K HC => xr_iconst HC.1 6 12 (n := (1)) (1 : Int32) rfl rfl rfl) ?_
  refine xs_step (fun K HC => xr_aload_n HC.1 7 13 (n := 0) (ix := 0) (j := 0) (c := 11) (x := v0) rfl rfl rfl rfl) ?_
  refine xs_step (fun K HC => xr_geti HC.1 8 16 11 33 rfl rfl wf_M_401 (by decide) fb_11_33 fc_11_33) ?_
  refine xs_step (fun K HC => xr_ishl HC.1 9 17 rfl rfl) ?_
  refine xs_step (fun K HC => xr_iconst HC.1 10 18 (n := (1)) (1 : Int32) rfl rfl rfl) ?_
  refine xs_step (fun K HC => xr_isub HC.1 11 19 rfl rfl) ?_
  refine xs_topi (fun v1_2 => ?_)
  refine xs_step (fun K HC => xr_istore_n HC.1 12 20 (n := 1) (ix := 1) (lv' := [(0, av_R 11 (some v0)), (1, av_I v1_2)]) rfl rfl rfl (by decide) rfl) ?_
  refine xs_step (fun K HC => xr_aload_n HC.1 13 21 (n := 0) (ix := 0) (j := 0) (c := 11) (x := v0) rfl rfl rfl rfl) ?_
  refine xs_callv (s_M_put v0 x_1.2) (fun K HC x9 hM hmo hb => xr_callV HC.1 14 24 (av := []) (st := []) (hM (kg K) (cx_l (kx K))) hmo hb rfl rfl wm_M_512 wi_M_put ws_M_put wc_M_put rfl wh_M_put (by decide) (by decide) (by decide) (Nat.le_of_ble_eq_true rfl) rfl) (fun x_3 => ?_)
  refine xs_step (fun K HC => xr_iconst HC.1 15 25 (n := (0)) (0 : Int32) rfl rfl rfl) ?_
  refine xs_step (fun K HC => xr_istore_n HC.1 16 26 (n := 2) (ix := 2) (lv' := [(0, av_R 11 (some v0)), (1, av_I v1_2), (2, av_I (0 : Int32))]) rfl rfl rfl (by decide) rfl) ?_
  refine xs_step (fun K HC => xr_iconst HC.1 17 27 (n := (0)) (0 : Int32) rfl rfl rfl) ?_
  refine xs_step (fun K HC => xr_istore_n HC.1 18 28 (n := 3) (ix := 3) (lv' := [(0, av_R 11 (some v0)), (1, av_I v1_2), (2, av_I (0 : Int32)), (3, av_I (0 : Int32))]) rfl rfl rfl (by decide) rfl) ?_
  refine xs_step (fun K HC => xr_sub (lv' := [(0, av_R 11 (some v0)), (1, av_I v1_2), (3, av_I (0 : Int32))]) [0, 1, 3] rfl) ?_
  exact t_M_idle_28 v0 v1_2 (0 : Int32) x_3
theorem s_M_idle (v0 : Nat) (h : HP) : ∀ x, f_M_idle v0 h = some x → hp_mo h x.2 ∧ ∀ g l, xx_M g l y_M_idle prog_14_method_82_code 5 (some .int) 8 [av_R 11 (some v0)] h (some (av_I x.1)) x.2 :=
  xM_i (tb := tb_M_idle) (b := false) (by decide +kernel) dt_M_idle (fun _ => trivial) (Nat.le_of_ble_eq_true rfl) (fun hb => by cases hb) (t_M_idle v0 h)
def tb_M_most : TBL := [(0, .aload_n 0, 1), (1, .iload_n 1, 1), (2, .invokevirtual 460, 3), (5, .ifCond .ne 5, 3), (8, .iconst (-1), 1), (9, .ireturn, 1), (10, .aload_n 0, 1), (11, .iconst (-1), 1), (12, .invokevirtual 521, 3), (15, .ifCond .ne 6, 3), (18, .bipush (-2), 2), (20, .ireturn, 1), (21, .iconst 0, 1), (22, .istore_n 2, 1), (23, .iconst 0, 1), (24, .istore_n 3, 1), (25, .iload_n 3, 1), (26, .aload_n 0, 1), (27, .getfield 489, 3), (30, .if_icmp .ge 43, 3), (33, .aload_n 0, 1), (34, .getfield 94, 3), (37, .iload_n 3, 1), (38, .laload, 1), (39, .bipush 7, 2), (41, .bipush 8, 2), (43, .iload_n 1, 1), (44, .imul, 1), (45, .iadd, 1), (46, .lshr, 1), (47, .ldc2_w 552, 3), (50, .land, 1), (51, .l2i, 1), (52, .istore 4, 2), (54, .iload 4, 2), (56, .iload_n 2, 1), (57, .if_icmp .le 8, 3), (60, .iload 4, 2), (62, .goto 4, 3), (65, .iload_n 2, 1), (66, .istore_n 2, 1), (67, .iinc 3 1, 3), (70, .goto (-45), 3), (73, .iload_n 2, 1), (74, .ireturn, 1)]
theorem dt_M_most : ∀ q ∈ tb_M_most, decode prog_14_method_83_code q.1 = .ok (q.2.1, q.2.2) := by decide +kernel
set_option maxHeartbeats 4000000 in
set_option maxRecDepth 100000 in
theorem t_M_most_66 (v0 : Nat) (v1 : Int32) (v3 : Int32) (s0 : Int32) (h : HP) : xx_S (xx_D "LampYardModel" tb_M_most 5 8 (some .int) false) (xx_z2 (fun s : (Int32 × Int32 × HP) => s.2.2) xz_i) (fun K => xx_L2 (fun s : (Int32 × Int32 × HP) => xx_X K 25 [(0, av_R 11 (some v0)), (1, av_I v1), (2, av_I s.1), (3, av_I s.2.1)] [] (s.2.2)) (xL_i K)) 66 [(0, av_R 11 (some v0)), (1, av_I v1), (3, av_I v3)] [av_I s0] h (f_M_most_66 v0 v1 v3 s0 h) := by
  unfold f_M_most_66
  refine xs_step (fun K HC => xr_istore_n HC.1 40 67 (n := 2) (ix := 2) (lv' := [(0, av_R 11 (some v0)), (1, av_I v1), (2, av_I s0), (3, av_I v3)]) rfl rfl rfl (by decide) rfl) ?_
  refine xs_gen (fun v3_6 ev3_6 => ?_)
  refine xs_step (fun K HC => xr_iinc HC.1 41 70 (ix := 3) (j := 3) (n := (1)) (x := v3) v3_6 (lv' := [(0, av_R 11 (some v0)), (1, av_I v1), (2, av_I s0), (3, av_I v3_6)]) rfl (by rw [ev3_6]; rfl) rfl rfl (by decide) rfl) ?_
  refine xs_step (fun K HC => xr_goto HC.1 42 25 rfl (by decide)) ?_
  exact xs_back rfl (fun K q => q)
set_option maxHeartbeats 4000000 in
set_option maxRecDepth 100000 in
theorem t_M_most_25b (v0 : Nat) (v1 : Int32) (v2 : Int32) (v3 : Int32) (h : HP) : xx_S (xx_D "LampYardModel" tb_M_most 5 8 (some .int) false) (xx_z2 (fun s : (Int32 × Int32 × HP) => s.2.2) xz_i) (fun K => xx_L2 (fun s : (Int32 × Int32 × HP) => xx_X K 25 [(0, av_R 11 (some v0)), (1, av_I v1), (2, av_I s.1), (3, av_I s.2.1)] [] (s.2.2)) (xL_i K)) 25 [(0, av_R 11 (some v0)), (1, av_I v1), (2, av_I v2), (3, av_I v3)] [] h (f_M_most_25b v0 v1 v2 v3 h) := by
  unfold f_M_most_25b
  refine xs_step (fun K HC => xr_iload_n HC.1 16 26 (n := 3) (ix := 3) (j := 3) (x := v3) rfl rfl rfl rfl) ?_
  refine xs_step (fun K HC => xr_aload_n HC.1 17 27 (n := 0) (ix := 0) (j := 0) (c := 11) (x := v0) rfl rfl rfl rfl) ?_
  refine xs_step (fun K HC => xr_geti HC.1 18 30 11 65 rfl rfl wf_M_489 (by decide) fb_11_65 fc_11_65) ?_
  refine xs_ite (fun K HC => xr_icmp_ge HC.1 19 73 33 rfl (by decide) rfl) ?_ ?_
  · refine xs_step (fun K HC => xr_iload_n HC.1 43 74 (n := 2) (ix := 2) (j := 2) (x := v2) rfl rfl rfl rfl) ?_
    exact xs_reti 44 rfl rfl (fun K q => q) (fun ty ht => by cases ht; rfl)
  refine xs_step (fun K HC => xr_aload_n HC.1 20 34 (n := 0) (ix := 0) (j := 0) (c := 11) (x := v0) rfl rfl rfl rfl) ?_
  refine xs_bind (fun q_3 eq_3 => ?_)
  refine xs_step (fun K HC => xr_getr HC.1 21 37 11 62 14 eq_3 rfl rfl wf_M_94 (by decide) fb_11_62 fc_11_62 fd_11_62) ?_
  refine xs_step (fun K HC => xr_iload_n HC.1 22 38 (n := 3) (ix := 3) (j := 3) (x := v3) rfl rfl rfl rfl) ?_
  refine xs_chk (fun hb_4 => ?_)
  refine xs_step (fun K HC => xr_lald HC.1 23 39 (hp_in_vp hb_4) rfl rfl) ?_
  refine xs_step (fun K HC => xr_bipush HC.1 24 41 (n := (7)) (7 : Int32) rfl rfl rfl) ?_
  refine xs_step (fun K HC => xr_bipush HC.1 25 43 (n := (8)) (8 : Int32) rfl rfl rfl) ?_
  refine xs_step (fun K HC => xr_iload_n HC.1 26 44 (n := 1) (ix := 1) (j := 1) (x := v1) rfl rfl rfl rfl) ?_
  refine xs_step (fun K HC => xr_imul HC.1 27 45 rfl rfl) ?_
  refine xs_step (fun K HC => xr_iadd HC.1 28 46 rfl rfl) ?_
  refine xs_step (fun K HC => xr_lshr HC.1 29 47 rfl rfl) ?_
  refine xs_step (fun K HC => xr_ldc2 HC.1 30 50 wk_M_552 rfl rfl) ?_
  refine xs_step (fun K HC => xr_land HC.1 31 51 rfl rfl) ?_
  refine xs_step (fun K HC => xr_l2i HC.1 32 52 rfl rfl) ?_
  refine xs_topi (fun v4_5 => ?_)
  refine xs_step (fun K HC => xr_istore HC.1 33 54 (ix := 4) (lv' := [(0, av_R 11 (some v0)), (1, av_I v1), (2, av_I v2), (3, av_I v3), (4, av_I v4_5)]) rfl rfl (by decide) rfl) ?_
  refine xs_step (fun K HC => xr_iload HC.1 34 56 (ix := 4) (j := 4) (x := v4_5) rfl rfl rfl) ?_
  refine xs_step (fun K HC => xr_iload_n HC.1 35 57 (n := 2) (ix := 2) (j := 2) (x := v2) rfl rfl rfl rfl) ?_
  refine xs_ite (fun K HC => xr_icmp_le HC.1 36 65 60 rfl (by decide) rfl) ?_ ?_
  · refine xs_step (fun K HC => xr_iload_n HC.1 39 66 (n := 2) (ix := 2) (j := 2) (x := v2) rfl rfl rfl rfl) ?_
    refine xs_step (fun K HC => xr_sub (lv' := [(0, av_R 11 (some v0)), (1, av_I v1), (3, av_I v3)]) [0, 1, 3] rfl) ?_
    exact t_M_most_66 v0 v1 v3 v2 h
  refine xs_step (fun K HC => xr_iload HC.1 37 62 (ix := 4) (j := 4) (x := v4_5) rfl rfl rfl) ?_
  refine xs_step (fun K HC => xr_goto HC.1 38 66 rfl (by decide)) ?_
  refine xs_step (fun K HC => xr_sub (lv' := [(0, av_R 11 (some v0)), (1, av_I v1), (3, av_I v3)]) [0, 1, 3] rfl) ?_
  exact t_M_most_66 v0 v1 v3 v4_5 h
theorem t_M_most_25 (v0 : Nat) (v1 : Int32) (v2 : Int32) (v3 : Int32) (h : HP) : xx_S (xx_D "LampYardModel" tb_M_most 5 8 (some .int) false) xz_i (fun K => xL_i K) 25 [(0, av_R 11 (some v0)), (1, av_I v1), (2, av_I v2), (3, av_I v3)] [] h (f_M_most_25 v0 v1 v2 v3 h) :=
  xs_loop (zf := xz_i) (L := (fun K => xL_i K)) (fun s : (Int32 × Int32 × HP) => [(0, av_R 11 (some v0)), (1, av_I v1), (2, av_I s.1), (3, av_I s.2.1)]) (fun s : (Int32 × Int32 × HP) => s.2.2) (fun s => t_M_most_25b v0 v1 s.1 s.2.1 s.2.2) (v2, v3, h)
set_option maxHeartbeats 4000000 in
set_option maxRecDepth 100000 in
theorem t_M_most (v0 : Nat) (v1 : Int32) (h : HP) : xx_S (xx_D "LampYardModel" tb_M_most 5 8 (some .int) false) xz_i (fun K => xL_i K) 0 [(0, av_R 11 (some v0)), (1, av_I v1)] [] h (f_M_most v0 v1 h) := by
  unfold f_M_most
  refine xs_step (fun K HC => xr_aload_n HC.1 0 1 (n := 0) (ix := 0) (j := 0) (c := 11) (x := v0) rfl rfl rfl rfl) ?_
  refine xs_step (fun K HC => xr_iload_n HC.1 1 2 (n := 1) (ix := 1) (j := 1) (x := v1) rfl rfl rfl rfl) ?_
  refine xs_calli (s_M_isMan v0 v1 h) (fun K HC x9 hM hmo hb => xr_callV HC.1 2 5 (av := [av_I v1]) (st := []) (hM (kg K) (cx_l (kx K))) hmo hb rfl rfl wm_M_460 wi_M_isMan ws_M_isMan wc_M_isMan rfl wh_M_isMan (by decide) (by decide) (by decide) (Nat.le_of_ble_eq_true rfl) rfl) (fun x_1 => ?_)
  refine xs_ite (fun K HC a b => xr_if_ne HC.1 3 10 8 rfl (by decide) rfl b a) ?_ ?_
  · refine xs_step (fun K HC => xr_iconst HC.1 4 9 (n := (-1)) (-1 : Int32) rfl rfl rfl) ?_
    exact xs_reti 5 rfl rfl (fun K q => q) (fun ty ht => by cases ht; rfl)
  refine xs_step (fun K HC => xr_aload_n HC.1 6 11 (n := 0) (ix := 0) (j := 0) (c := 11) (x := v0) rfl rfl rfl rfl) ?_
  refine xs_step (fun K HC => xr_iconst HC.1 7 12 (n := (-1)) (-1 : Int32) rfl rfl rfl) ?_
  refine xs_calli (s_M_layPlan v0 (-1 : Int32) x_1.2) (fun K HC x9 hM hmo hb => xr_callV HC.1 8 15 (av := [av_I (-1 : Int32)]) (st := []) (hM (kg K) (cx_l (kx K))) hmo hb rfl rfl wm_M_521 wi_M_layPlan ws_M_layPlan wc_M_layPlan rfl wh_M_layPlan (by decide) (by decide) (by decide) (Nat.le_of_ble_eq_true rfl) rfl) (fun x_2 => ?_)
  refine xs_ite (fun K HC a b => xr_if_ne HC.1 9 21 18 rfl (by decide) rfl b a) ?_ ?_
  · refine xs_step (fun K HC => xr_bipush HC.1 10 20 (n := (-2)) (-2 : Int32) rfl rfl rfl) ?_
    exact xs_reti 11 rfl rfl (fun K q => q) (fun ty ht => by cases ht; rfl)
  refine xs_step (fun K HC => xr_iconst HC.1 12 22 (n := (0)) (0 : Int32) rfl rfl rfl) ?_
  refine xs_step (fun K HC => xr_istore_n HC.1 13 23 (n := 2) (ix := 2) (lv' := [(0, av_R 11 (some v0)), (1, av_I v1), (2, av_I (0 : Int32))]) rfl rfl rfl (by decide) rfl) ?_
  refine xs_step (fun K HC => xr_iconst HC.1 14 24 (n := (0)) (0 : Int32) rfl rfl rfl) ?_
  refine xs_step (fun K HC => xr_istore_n HC.1 15 25 (n := 3) (ix := 3) (lv' := [(0, av_R 11 (some v0)), (1, av_I v1), (2, av_I (0 : Int32)), (3, av_I (0 : Int32))]) rfl rfl rfl (by decide) rfl) ?_
  exact t_M_most_25 v0 v1 (0 : Int32) (0 : Int32) x_2.2
theorem s_M_most (v0 : Nat) (v1 : Int32) (h : HP) : ∀ x, f_M_most v0 v1 h = some x → hp_mo h x.2 ∧ ∀ g l, xx_M g l y_M_most prog_14_method_83_code 5 (some .int) 8 [av_R 11 (some v0), av_I v1] h (some (av_I x.1)) x.2 :=
  xM_i (tb := tb_M_most) (b := false) (by decide +kernel) dt_M_most (fun _ => trivial) (Nat.le_of_ble_eq_true rfl) (fun hb => by cases hb) (t_M_most v0 v1 h)
def tb_M_common : TBL := [(0, .lload_n 0, 1), (1, .lstore 4, 2), (3, .lload_n 2, 1), (4, .lstore 6, 2), (6, .lload 6, 2), (8, .lconst 0, 1), (9, .lcmp, 1), (10, .ifCond .le 21, 3), (13, .lload 4, 2), (15, .lload 6, 2), (17, .lrem, 1), (18, .lstore 8, 2), (20, .lload 6, 2), (22, .lstore 4, 2), (24, .lload 8, 2), (26, .lstore 6, 2), (28, .goto (-22), 3), (31, .lload 4, 2), (33, .lreturn, 1)]
theorem dt_M_common : ∀ q ∈ tb_M_common, decode prog_14_method_84_code q.1 = .ok (q.2.1, q.2.2) := by decide +kernel
set_option maxHeartbeats 4000000 in
set_option maxRecDepth 100000 in
theorem t_M_common_6b (v4 : Int64) (v6 : Int64) (h : HP) : xx_S (xx_D "LampYardModel" tb_M_common 10 1 (some .long) false) (xx_z2 (fun s : (Int64 × Int64 × HP) => s.2.2) xz_l) (fun K => xx_L2 (fun s : (Int64 × Int64 × HP) => xx_X K 6 [(4, av_L s.1), (6, av_L s.2.1)] [] (s.2.2)) (xL_l K)) 6 [(4, av_L v4), (6, av_L v6)] [] h (f_M_common_6b v4 v6 h) := by
  unfold f_M_common_6b
  refine xs_step (fun K HC => xr_lload HC.1 4 8 (ix := 6) (j := 1) (x := v6) rfl rfl rfl) ?_
  refine xs_step (fun K HC => xr_lconst HC.1 5 9 (n := 0) (0 : Int64) rfl rfl rfl) ?_
  refine xs_step (fun K HC => xr_lcmp HC.1 6 10 rfl rfl) ?_
  refine xs_ite (fun K HC => xr_if_le HC.1 7 31 13 rfl (by decide) rfl) ?_ ?_
  · refine xs_step (fun K HC => xr_lload HC.1 17 33 (ix := 4) (j := 0) (x := v4) rfl rfl rfl) ?_
    exact xs_retl 18 rfl rfl (fun K q => q)
  refine xs_step (fun K HC => xr_lload HC.1 8 15 (ix := 4) (j := 0) (x := v4) rfl rfl rfl) ?_
  refine xs_step (fun K HC => xr_lload HC.1 9 17 (ix := 6) (j := 1) (x := v6) rfl rfl rfl) ?_
  refine xs_chk (fun hn_1 => ?_)
  refine xs_step (fun K HC => xr_lrem HC.1 10 18 hn_1 rfl rfl) ?_
  refine xs_topl (fun v8_2 => ?_)
  refine xs_step (fun K HC => xr_lstore HC.1 11 20 (ix := 8) (lv' := [(4, av_L v4), (6, av_L v6), (8, av_L v8_2)]) rfl rfl (by decide) rfl) ?_
  refine xs_step (fun K HC => xr_lload HC.1 12 22 (ix := 6) (j := 1) (x := v6) rfl rfl rfl) ?_
  refine xs_step (fun K HC => xr_lstore HC.1 13 24 (ix := 4) (lv' := [(4, av_L v6), (6, av_L v6), (8, av_L v8_2)]) rfl rfl (by decide) rfl) ?_
  refine xs_step (fun K HC => xr_lload HC.1 14 26 (ix := 8) (j := 2) (x := v8_2) rfl rfl rfl) ?_
  refine xs_step (fun K HC => xr_lstore HC.1 15 28 (ix := 6) (lv' := [(4, av_L v6), (6, av_L v8_2), (8, av_L v8_2)]) rfl rfl (by decide) rfl) ?_
  refine xs_step (fun K HC => xr_goto HC.1 16 6 rfl (by decide)) ?_
  refine xs_step (fun K HC => xr_sub (lv' := [(4, av_L v6), (6, av_L v8_2)]) [0, 1] rfl) ?_
  exact xs_back rfl (fun K q => q)
theorem t_M_common_6 (v4 : Int64) (v6 : Int64) (h : HP) : xx_S (xx_D "LampYardModel" tb_M_common 10 1 (some .long) false) xz_l (fun K => xL_l K) 6 [(4, av_L v4), (6, av_L v6)] [] h (f_M_common_6 v4 v6 h) :=
  xs_loop (zf := xz_l) (L := (fun K => xL_l K)) (fun s : (Int64 × Int64 × HP) => [(4, av_L s.1), (6, av_L s.2.1)]) (fun s : (Int64 × Int64 × HP) => s.2.2) (fun s => t_M_common_6b s.1 s.2.1 s.2.2) (v4, v6, h)
set_option maxHeartbeats 4000000 in
set_option maxRecDepth 100000 in
theorem t_M_common (v0 : Int64) (v2 : Int64) (h : HP) : xx_S (xx_D "LampYardModel" tb_M_common 10 1 (some .long) false) xz_l (fun K => xL_l K) 0 [(0, av_L v0), (2, av_L v2)] [] h (f_M_common v0 v2 h) := by
  unfold f_M_common
  refine xs_step (fun K HC => xr_lload_n HC.1 0 1 (n := 0) (ix := 0) (j := 0) (x := v0) rfl rfl rfl rfl) ?_
  refine xs_step (fun K HC => xr_lstore HC.1 1 3 (ix := 4) (lv' := [(0, av_L v0), (2, av_L v2), (4, av_L v0)]) rfl rfl (by decide) rfl) ?_
  refine xs_step (fun K HC => xr_lload_n HC.1 2 4 (n := 2) (ix := 2) (j := 1) (x := v2) rfl rfl rfl rfl) ?_
  refine xs_step (fun K HC => xr_lstore HC.1 3 6 (ix := 6) (lv' := [(0, av_L v0), (2, av_L v2), (4, av_L v0), (6, av_L v2)]) rfl rfl (by decide) rfl) ?_
  refine xs_step (fun K HC => xr_sub (lv' := [(4, av_L v0), (6, av_L v2)]) [2, 3] rfl) ?_
  exact t_M_common_6 v0 v2 h
theorem s_M_common (v0 : Int64) (v2 : Int64) (h : HP) : ∀ x, f_M_common v0 v2 h = some x → hp_mo h x.2 ∧ ∀ g l, xx_M g l y_M_common prog_14_method_84_code 10 (some .long) 1 [av_L v0, av_L v2] h (some (av_L x.1)) x.2 :=
  xM_l (tb := tb_M_common) (b := false) (by decide +kernel) dt_M_common (fun _ => trivial) (Nat.le_of_ble_eq_true rfl) (fun hb => by cases hb) (t_M_common v0 v2 h)
def tb_M_partOf : TBL := [(0, .lload_n 2, 1), (1, .lload_n 0, 1), (2, .invokestatic 554, 3), (5, .lstore 5, 2), (7, .iload 4, 2), (9, .ifCond .ne 10, 3), (12, .lload_n 0, 1), (13, .lload 5, 2), (15, .ldiv, 1), (16, .goto 7, 3), (19, .lload_n 2, 1), (20, .lload 5, 2), (22, .ldiv, 1), (23, .lreturn, 1)]
theorem dt_M_partOf : ∀ q ∈ tb_M_partOf, decode prog_14_method_85_code q.1 = .ok (q.2.1, q.2.2) := by decide +kernel
set_option maxHeartbeats 4000000 in
set_option maxRecDepth 100000 in
theorem t_M_partOf (v0 : Int64) (v2 : Int64) (v4 : Int32) (h : HP) : xx_S (xx_D "LampYardModel" tb_M_partOf 7 2 (some .long) false) xz_l (fun K => xL_l K) 0 [(0, av_L v0), (2, av_L v2), (4, av_I v4)] [] h (f_M_partOf v0 v2 v4 h) := by
  unfold f_M_partOf
  refine xs_step (fun K HC => xr_lload_n HC.1 0 1 (n := 2) (ix := 2) (j := 1) (x := v2) rfl rfl rfl rfl) ?_
  refine xs_step (fun K HC => xr_lload_n HC.1 1 2 (n := 0) (ix := 0) (j := 0) (x := v0) rfl rfl rfl rfl) ?_
  refine xs_calll (s_M_common v2 v0 h) (fun K HC x9 hM hmo hb => xr_callS HC.1 2 5 (av := [av_L v2, av_L v0]) (st := []) (hM (kg K) (cx_l (kx K))) hmo hb rfl rfl wm_M_554 wt_M_common wn_M_common wc_M_common wh_M_common (by decide) (by decide) (Nat.le_of_ble_eq_true rfl) rfl) (fun x_1 => ?_)
  refine xs_step (fun K HC => xr_lstore HC.1 3 7 (ix := 5) (lv' := [(0, av_L v0), (2, av_L v2), (4, av_I v4), (5, av_L x_1.1)]) rfl rfl (by decide) rfl) ?_
  refine xs_step (fun K HC => xr_iload HC.1 4 9 (ix := 4) (j := 2) (x := v4) rfl rfl rfl) ?_
  refine xs_ite (fun K HC a b => xr_if_ne HC.1 5 19 12 rfl (by decide) rfl b a) ?_ ?_
  · refine xs_step (fun K HC => xr_lload_n HC.1 6 13 (n := 0) (ix := 0) (j := 0) (x := v0) rfl rfl rfl rfl) ?_
    refine xs_step (fun K HC => xr_lload HC.1 7 15 (ix := 5) (j := 3) (x := x_1.1) rfl rfl rfl) ?_
    refine xs_chk (fun hn_2 => ?_)
    refine xs_step (fun K HC => xr_ldiv HC.1 8 16 hn_2 rfl rfl) ?_
    refine xs_step (fun K HC => xr_goto HC.1 9 23 rfl (by decide)) ?_
    exact xs_retl 13 rfl rfl (fun K q => q)
  refine xs_step (fun K HC => xr_lload_n HC.1 10 20 (n := 2) (ix := 2) (j := 1) (x := v2) rfl rfl rfl rfl) ?_
  refine xs_step (fun K HC => xr_lload HC.1 11 22 (ix := 5) (j := 3) (x := x_1.1) rfl rfl rfl) ?_
  refine xs_chk (fun hn_3 => ?_)
  refine xs_step (fun K HC => xr_ldiv HC.1 12 23 hn_3 rfl rfl) ?_
  exact xs_retl 13 rfl rfl (fun K q => q)
theorem s_M_partOf (v0 : Int64) (v2 : Int64) (v4 : Int32) (h : HP) : ∀ x, f_M_partOf v0 v2 v4 h = some x → hp_mo h x.2 ∧ ∀ g l, xx_M g l y_M_partOf prog_14_method_85_code 7 (some .long) 2 [av_L v0, av_L v2, av_I v4] h (some (av_L x.1)) x.2 :=
  xM_l (tb := tb_M_partOf) (b := false) (by decide +kernel) dt_M_partOf (fun _ => trivial) (Nat.le_of_ble_eq_true rfl) (fun hb => by cases hb) (t_M_partOf v0 v2 v4 h)
def tb_M_isPart : TBL := [(0, .iload_n 0, 1), (1, .ifCond .eq 8, 3), (4, .iload_n 0, 1), (5, .iconst 1, 1), (6, .if_icmp .ne 7, 3), (9, .iconst 1, 1), (10, .goto 4, 3), (13, .iconst 0, 1), (14, .ireturn, 1)]
theorem dt_M_isPart : ∀ q ∈ tb_M_isPart, decode prog_14_method_86_code q.1 = .ok (q.2.1, q.2.2) := by decide +kernel
set_option maxHeartbeats 4000000 in
set_option maxRecDepth 100000 in
theorem t_M_isPart (v0 : Int32) (h : HP) : xx_S (xx_D "LampYardModel" tb_M_isPart 1 1 (some .boolean) false) xz_i (fun K => xL_i K) 0 [(0, av_I v0)] [] h (f_M_isPart v0 h) := by
  unfold f_M_isPart
  refine xs_step (fun K HC => xr_iload_n HC.1 0 1 (n := 0) (ix := 0) (j := 0) (x := v0) rfl rfl rfl rfl) ?_
  refine xs_ite (fun K HC => xr_if_eq HC.1 1 9 4 rfl (by decide) rfl) ?_ ?_
  · refine xs_step (fun K HC => xr_iconst HC.1 5 10 (n := (1)) (1 : Int32) rfl rfl rfl) ?_
    refine xs_step (fun K HC => xr_goto HC.1 6 14 rfl (by decide)) ?_
    exact xs_reti 8 rfl rfl (fun K q => q) (fun ty ht => by cases ht; rfl)
  refine xs_step (fun K HC => xr_iload_n HC.1 2 5 (n := 0) (ix := 0) (j := 0) (x := v0) rfl rfl rfl rfl) ?_
  refine xs_step (fun K HC => xr_iconst HC.1 3 6 (n := (1)) (1 : Int32) rfl rfl rfl) ?_
  refine xs_ite (fun K HC a b => xr_icmp_ne HC.1 4 13 9 rfl (by decide) rfl b a) ?_ ?_
  · refine xs_step (fun K HC => xr_iconst HC.1 5 10 (n := (1)) (1 : Int32) rfl rfl rfl) ?_
    refine xs_step (fun K HC => xr_goto HC.1 6 14 rfl (by decide)) ?_
    exact xs_reti 8 rfl rfl (fun K q => q) (fun ty ht => by cases ht; rfl)
  refine xs_step (fun K HC => xr_iconst HC.1 7 14 (n := (0)) (0 : Int32) rfl rfl rfl) ?_
  exact xs_reti 8 rfl rfl (fun K q => q) (fun ty ht => by cases ht; rfl)
theorem s_M_isPart (v0 : Int32) (h : HP) : ∀ x, f_M_isPart v0 h = some x → hp_mo h x.2 ∧ ∀ g l, xx_M g l y_M_isPart prog_14_method_86_code 1 (some .boolean) 1 [av_I v0] h (some (av_I x.1)) x.2 :=
  xM_i (tb := tb_M_isPart) (b := false) (by decide +kernel) dt_M_isPart (fun _ => trivial) (Nat.le_of_ble_eq_true rfl) (fun hb => by cases hb) (t_M_isPart v0 h)
