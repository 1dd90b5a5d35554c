def tb_M_layBack : TBL := [(0, .iconst 0, 1), (1, .istore_n 1, 1), (2, .iload_n 1, 1), (3, .aload_n 0, 1), (4, .getfield 489, 3), (7, .if_icmp .gt 16, 3), (10, .aload_n 0, 1), (11, .getfield 106, 3), (14, .iload_n 1, 1), (15, .iconst 0, 1), (16, .iastore, 1), (17, .iinc 1 1, 3), (20, .goto (-18), 3), (23, .iconst 0, 1), (24, .istore_n 1, 1), (25, .iload_n 1, 1), (26, .bipush 6, 2), (28, .aload_n 0, 1), (29, .getfield 489, 3), (32, .imul, 1), (33, .if_icmp .ge 46, 3), (36, .iload_n 1, 1), (37, .bipush 6, 2), (39, .irem, 1), (40, .aload_n 0, 1), (41, .getfield 401, 3), (44, .if_icmp .ge 29, 3), (47, .aload_n 0, 1), (48, .getfield 100, 3), (51, .iload_n 1, 1), (52, .iaload, 1), (53, .ifCond .lt 20, 3), (56, .aload_n 0, 1), (57, .getfield 106, 3), (60, .aload_n 0, 1), (61, .getfield 100, 3), (64, .iload_n 1, 1), (65, .iaload, 1), (66, .iconst 1, 1), (67, .iadd, 1), (68, .dup2, 1), (69, .iaload, 1), (70, .iconst 1, 1), (71, .iadd, 1), (72, .iastore, 1), (73, .iinc 1 1, 3), (76, .goto (-51), 3), (79, .iconst 0, 1), (80, .istore_n 1, 1), (81, .iload_n 1, 1), (82, .aload_n 0, 1), (83, .getfield 489, 3), (86, .if_icmp .ge 33, 3), (89, .aload_n 0, 1), (90, .getfield 106, 3), (93, .iload_n 1, 1), (94, .iconst 1, 1), (95, .iadd, 1), (96, .dup2, 1), (97, .iaload, 1), (98, .aload_n 0, 1), (99, .getfield 106, 3), (102, .iload_n 1, 1), (103, .iaload, 1), (104, .iadd, 1), (105, .iastore, 1), (106, .aload_n 0, 1), (107, .getfield 118, 3), (110, .iload_n 1, 1), (111, .iconst 0, 1), (112, .iastore, 1), (113, .iinc 1 1, 3), (116, .goto (-35), 3), (119, .iconst 0, 1), (120, .istore_n 1, 1), (121, .iload_n 1, 1), (122, .bipush 6, 2), (124, .aload_n 0, 1), (125, .getfield 489, 3), (128, .imul, 1), (129, .if_icmp .ge 79, 3), (132, .iload_n 1, 1), (133, .bipush 6, 2), (135, .irem, 1), (136, .aload_n 0, 1), (137, .getfield 401, 3), (140, .if_icmp .ge 62, 3), (143, .aload_n 0, 1), (144, .getfield 100, 3), (147, .iload_n 1, 1), (148, .iaload, 1), (149, .ifCond .ge 6, 3), (152, .goto 50, 3), (155, .aload_n 0, 1), (156, .getfield 109, 3), (159, .aload_n 0, 1), (160, .getfield 106, 3), (163, .aload_n 0, 1), (164, .getfield 100, 3), (167, .iload_n 1, 1), (168, .iaload, 1), (169, .iaload, 1), (170, .aload_n 0, 1), (171, .getfield 118, 3), (174, .aload_n 0, 1), (175, .getfield 100, 3), (178, .iload_n 1, 1), (179, .iaload, 1), (180, .iaload, 1), (181, .iadd, 1), (182, .iload_n 1, 1), (183, .bipush 6, 2), (185, .idiv, 1), (186, .iastore, 1), (187, .aload_n 0, 1), (188, .getfield 118, 3), (191, .aload_n 0, 1), (192, .getfield 100, 3), (195, .iload_n 1, 1), (196, .iaload, 1), (197, .dup2, 1), (198, .iaload, 1), (199, .iconst 1, 1), (200, .iadd, 1), (201, .iastore, 1), (202, .iinc 1 1, 3), (205, .goto (-84), 3), (208, .return_, 1)]
theorem dt_M_layBack : ∀ q ∈ tb_M_layBack, decode prog_14_method_76_code q.1 = .ok (q.2.1, q.2.2) := by decide +kernel
set_option maxHeartbeats 4000000 in
set_option maxRecDepth 100000 in
theorem t_M_layBack_202 (v0 : Nat) (v1 : Int32) (h : HP) : xx_S (xx_D "LampYardModel" tb_M_layBack 2 1 none false) (xx_z2 (fun s : (Int32 × HP) => s.2) xz_v) (fun K => xx_L2 (fun s : (Int32 × HP) => xx_X K 121 [(0, av_R 11 (some v0)), (1, av_I s.1)] [] (s.2)) (xL_v K)) 202 [(0, av_R 11 (some v0)), (1, av_I v1)] [] h (f_M_layBack_202 v0 v1 h) := by
  unfold f_M_layBack_202
  refine xs_gen (fun v1_1 ev1_1 => ?_)
  refine xs_step (fun K HC => xr_iinc HC.1 125 205 (ix := 1) (j := 1) (n := (1)) (x := v1) v1_1 (lv' := [(0, av_R 11 (some v0)), (1, av_I v1_1)]) rfl (by rw [ev1_1]; rfl) rfl rfl (by decide) rfl) ?_
  refine xs_step (fun K HC => xr_goto HC.1 126 121 rfl (by decide)) ?_
  exact xs_back rfl (fun K q => q)
set_option maxHeartbeats 4000000 in
set_option maxRecDepth 100000 in
theorem t_M_layBack_121b (v0 : Nat) (v1 : Int32) (h : HP) : xx_S (xx_D "LampYardModel" tb_M_layBack 2 1 none false) (xx_z2 (fun s : (Int32 × HP) => s.2) xz_v) (fun K => xx_L2 (fun s : (Int32 × HP) => xx_X K 121 [(0, av_R 11 (some v0)), (1, av_I s.1)] [] (s.2)) (xL_v K)) 121 [(0, av_R 11 (some v0)), (1, av_I v1)] [] h (f_M_layBack_121b v0 v1 h) := by
  unfold f_M_layBack_121b
  refine xs_step (fun K HC => xr_iload_n HC.1 75 122 (n := 1) (ix := 1) (j := 1) (x := v1) rfl rfl rfl rfl) ?_
  refine xs_step (fun K HC => xr_bipush HC.1 76 124 (n := (6)) (6 : Int32) rfl rfl rfl) ?_
  refine xs_step (fun K HC => xr_aload_n HC.1 77 125 (n := 0) (ix := 0) (j := 0) (c := 11) (x := v0) rfl rfl rfl rfl) ?_
  refine xs_step (fun K HC => xr_geti HC.1 78 128 11 65 rfl rfl wf_M_489 (by decide) fb_11_65 fc_11_65) ?_
  refine xs_step (fun K HC => xr_imul HC.1 79 129 rfl rfl) ?_
  refine xs_ite (fun K HC => xr_icmp_ge HC.1 80 208 132 rfl (by decide) rfl) ?_ ?_
  · exact xs_ret 127 rfl rfl (fun K q => q)
  refine xs_step (fun K HC => xr_iload_n HC.1 81 133 (n := 1) (ix := 1) (j := 1) (x := v1) rfl rfl rfl rfl) ?_
  refine xs_step (fun K HC => xr_bipush HC.1 82 135 (n := (6)) (6 : Int32) rfl rfl rfl) ?_
  refine xs_step (fun K HC => xr_irem HC.1 83 136 (by decide) rfl rfl) ?_
  refine xs_step (fun K HC => xr_aload_n HC.1 84 137 (n := 0) (ix := 0) (j := 0) (c := 11) (x := v0) rfl rfl rfl rfl) ?_
  refine xs_step (fun K HC => xr_geti HC.1 85 140 11 33 rfl rfl wf_M_401 (by decide) fb_11_33 fc_11_33) ?_
  refine xs_ite (fun K HC => xr_icmp_ge HC.1 86 202 143 rfl (by decide) rfl) ?_ ?_
  · exact t_M_layBack_202 v0 v1 h
  refine xs_step (fun K HC => xr_aload_n HC.1 87 144 (n := 0) (ix := 0) (j := 0) (c := 11) (x := v0) rfl rfl rfl rfl) ?_
  refine xs_bind (fun q_2 eq_2 => ?_)
  refine xs_step (fun K HC => xr_getr HC.1 88 147 11 64 13 eq_2 rfl rfl wf_M_100 (by decide) fb_11_64 fc_11_64 fd_11_64) ?_
  refine xs_step (fun K HC => xr_iload_n HC.1 89 148 (n := 1) (ix := 1) (j := 1) (x := v1) rfl rfl rfl rfl) ?_
  refine xs_chk (fun hb_3 => ?_)
  refine xs_step (fun K HC => xr_iald HC.1 90 149 (hp_in_vp hb_3) rfl rfl) ?_
  refine xs_ite (fun K HC => xr_if_ge HC.1 91 155 152 rfl (by decide) rfl) ?_ ?_
  · refine xs_step (fun K HC => xr_aload_n HC.1 93 156 (n := 0) (ix := 0) (j := 0) (c := 11) (x := v0) rfl rfl rfl rfl) ?_
    refine xs_bind (fun q_4 eq_4 => ?_)
    refine xs_step (fun K HC => xr_getr HC.1 94 159 11 70 13 eq_4 rfl rfl wf_M_109 (by decide) fb_11_70 fc_11_70 fd_11_70) ?_
    refine xs_step (fun K HC => xr_aload_n HC.1 95 160 (n := 0) (ix := 0) (j := 0) (c := 11) (x := v0) rfl rfl rfl rfl) ?_
    refine xs_bind (fun q_5 eq_5 => ?_)
    refine xs_step (fun K HC => xr_getr HC.1 96 163 11 69 13 eq_5 rfl rfl wf_M_106 (by decide) fb_11_69 fc_11_69 fd_11_69) ?_
    refine xs_step (fun K HC => xr_aload_n HC.1 97 164 (n := 0) (ix := 0) (j := 0) (c := 11) (x := v0) rfl rfl rfl rfl) ?_
    refine xs_bind (fun q_6 eq_6 => ?_)
    refine xs_step (fun K HC => xr_getr HC.1 98 167 11 64 13 eq_6 rfl rfl wf_M_100 (by decide) fb_11_64 fc_11_64 fd_11_64) ?_
    refine xs_step (fun K HC => xr_iload_n HC.1 99 168 (n := 1) (ix := 1) (j := 1) (x := v1) rfl rfl rfl rfl) ?_
    refine xs_chk (fun hb_7 => ?_)
    refine xs_step (fun K HC => xr_iald HC.1 100 169 (hp_in_vp hb_7) rfl rfl) ?_
    refine xs_chk (fun hb_8 => ?_)
    refine xs_step (fun K HC => xr_iald HC.1 101 170 (hp_in_vp hb_8) rfl rfl) ?_
    refine xs_step (fun K HC => xr_aload_n HC.1 102 171 (n := 0) (ix := 0) (j := 0) (c := 11) (x := v0) rfl rfl rfl rfl) ?_
    refine xs_bind (fun q_9 eq_9 => ?_)
    refine xs_step (fun K HC => xr_getr HC.1 103 174 11 73 13 eq_9 rfl rfl wf_M_118 (by decide) fb_11_73 fc_11_73 fd_11_73) ?_
    refine xs_step (fun K HC => xr_aload_n HC.1 104 175 (n := 0) (ix := 0) (j := 0) (c := 11) (x := v0) rfl rfl rfl rfl) ?_
    refine xs_bind (fun q_10 eq_10 => ?_)
    refine xs_step (fun K HC => xr_getr HC.1 105 178 11 64 13 eq_10 rfl rfl wf_M_100 (by decide) fb_11_64 fc_11_64 fd_11_64) ?_
    refine xs_step (fun K HC => xr_iload_n HC.1 106 179 (n := 1) (ix := 1) (j := 1) (x := v1) rfl rfl rfl rfl) ?_
    refine xs_chk (fun hb_11 => ?_)
    refine xs_step (fun K HC => xr_iald HC.1 107 180 (hp_in_vp hb_11) rfl rfl) ?_
    refine xs_chk (fun hb_12 => ?_)
    refine xs_step (fun K HC => xr_iald HC.1 108 181 (hp_in_vp hb_12) rfl rfl) ?_
    refine xs_step (fun K HC => xr_iadd HC.1 109 182 rfl rfl) ?_
    refine xs_step (fun K HC => xr_iload_n HC.1 110 183 (n := 1) (ix := 1) (j := 1) (x := v1) rfl rfl rfl rfl) ?_
    refine xs_step (fun K HC => xr_bipush HC.1 111 185 (n := (6)) (6 : Int32) rfl rfl rfl) ?_
    refine xs_step (fun K HC => xr_idiv HC.1 112 186 (by decide) rfl rfl) ?_
    refine xs_chk (fun hb_13 => ?_)
    refine xs_heap (hp_mo_si _ _ _ _) (fun K HC => xr_iast HC.1 113 187 (hp_in_vp hb_13) rfl rfl) (fun h_14 => ?_)
    refine xs_step (fun K HC => xr_aload_n HC.1 114 188 (n := 0) (ix := 0) (j := 0) (c := 11) (x := v0) rfl rfl rfl rfl) ?_
    refine xs_bind (fun q_15 eq_15 => ?_)
    refine xs_step (fun K HC => xr_getr HC.1 115 191 11 73 13 eq_15 rfl rfl wf_M_118 (by decide) fb_11_73 fc_11_73 fd_11_73) ?_
    refine xs_step (fun K HC => xr_aload_n HC.1 116 192 (n := 0) (ix := 0) (j := 0) (c := 11) (x := v0) rfl rfl rfl rfl) ?_
    refine xs_bind (fun q_16 eq_16 => ?_)
    refine xs_step (fun K HC => xr_getr HC.1 117 195 11 64 13 eq_16 rfl rfl wf_M_100 (by decide) fb_11_64 fc_11_64 fd_11_64) ?_
    refine xs_step (fun K HC => xr_iload_n HC.1 118 196 (n := 1) (ix := 1) (j := 1) (x := v1) rfl rfl rfl rfl) ?_
    refine xs_chk (fun hb_17 => ?_)
    refine xs_step (fun K HC => xr_iald HC.1 119 197 (hp_in_vp hb_17) rfl rfl) ?_
    refine xs_step (fun K HC => xr_dup2 HC.1 120 198 rfl rfl rfl rfl) ?_
    refine xs_chk (fun hb_18 => ?_)
    refine xs_step (fun K HC => xr_iald HC.1 121 199 (hp_in_vp hb_18) rfl rfl) ?_
    refine xs_step (fun K HC => xr_iconst HC.1 122 200 (n := (1)) (1 : Int32) rfl rfl rfl) ?_
    refine xs_step (fun K HC => xr_iadd HC.1 123 201 rfl rfl) ?_
    refine xs_chk (fun hb_19 => ?_)
    refine xs_heap (hp_mo_si _ _ _ _) (fun K HC => xr_iast HC.1 124 202 (hp_in_vp hb_19) rfl rfl) (fun h_20 => ?_)
    exact t_M_layBack_202 v0 v1 h_20
  refine xs_step (fun K HC => xr_goto HC.1 92 202 rfl (by decide)) ?_
  exact t_M_layBack_202 v0 v1 h
theorem t_M_layBack_121 (v0 : Nat) (v1 : Int32) (h : HP) : xx_S (xx_D "LampYardModel" tb_M_layBack 2 1 none false) xz_v (fun K => xL_v K) 121 [(0, av_R 11 (some v0)), (1, av_I v1)] [] h (f_M_layBack_121 v0 v1 h) :=
  xs_loop (zf := xz_v) (L := (fun K => xL_v K)) (fun s : (Int32 × HP) => [(0, av_R 11 (some v0)), (1, av_I s.1)]) (fun s : (Int32 × HP) => s.2) (fun s => t_M_layBack_121b v0 s.1 s.2) (v1, h)
set_option maxHeartbeats 4000000 in
set_option maxRecDepth 100000 in
theorem t_M_layBack_119 (v0 : Nat) (h : HP) : xx_S (xx_D "LampYardModel" tb_M_layBack 2 1 none false) xz_v (fun K => xL_v K) 119 [(0, av_R 11 (some v0))] [] h (f_M_layBack_119 v0 h) := by
  unfold f_M_layBack_119
  refine xs_step (fun K HC => xr_iconst HC.1 73 120 (n := (0)) (0 : Int32) rfl rfl rfl) ?_
  refine xs_step (fun K HC => xr_istore_n HC.1 74 121 (n := 1) (ix := 1) (lv' := [(0, av_R 11 (some v0)), (1, av_I (0 : Int32))]) rfl rfl rfl (by decide) rfl) ?_
  exact t_M_layBack_121 v0 (0 : Int32) h
set_option maxHeartbeats 4000000 in
set_option maxRecDepth 100000 in
theorem t_M_layBack_81b (v0 : Nat) (v1 : Int32) (h : HP) : xx_S (xx_D "LampYardModel" tb_M_layBack 2 1 none false) (xx_z2 (fun s : (Int32 × HP) => s.2) xz_v) (fun K => xx_L2 (fun s : (Int32 × HP) => xx_X K 81 [(0, av_R 11 (some v0)), (1, av_I s.1)] [] (s.2)) (xL_v K)) 81 [(0, av_R 11 (some v0)), (1, av_I v1)] [] h (f_M_layBack_81b v0 v1 h) := by
  unfold f_M_layBack_81b
  refine xs_step (fun K HC => xr_iload_n HC.1 49 82 (n := 1) (ix := 1) (j := 1) (x := v1) rfl rfl rfl rfl) ?_
  refine xs_step (fun K HC => xr_aload_n HC.1 50 83 (n := 0) (ix := 0) (j := 0) (c := 11) (x := v0) rfl rfl rfl rfl) ?_
  refine xs_step (fun K HC => xr_geti HC.1 51 86 11 65 rfl rfl wf_M_489 (by decide) fb_11_65 fc_11_65) ?_
  refine xs_ite (fun K HC => xr_icmp_ge HC.1 52 119 89 rfl (by decide) rfl) ?_ ?_
  · refine xs_step (fun K HC => xr_sub (lv' := [(0, av_R 11 (some v0))]) [0] rfl) ?_
    exact xs_map (fun _ => rfl) (fun _ _ q => q) (t_M_layBack_119 v0 h)
  refine xs_step (fun K HC => xr_aload_n HC.1 53 90 (n := 0) (ix := 0) (j := 0) (c := 11) (x := v0) rfl rfl rfl rfl) ?_
  refine xs_bind (fun q_21 eq_21 => ?_)
  refine xs_step (fun K HC => xr_getr HC.1 54 93 11 69 13 eq_21 rfl rfl wf_M_106 (by decide) fb_11_69 fc_11_69 fd_11_69) ?_
  refine xs_step (fun K HC => xr_iload_n HC.1 55 94 (n := 1) (ix := 1) (j := 1) (x := v1) rfl rfl rfl rfl) ?_
  refine xs_step (fun K HC => xr_iconst HC.1 56 95 (n := (1)) (1 : Int32) rfl rfl rfl) ?_
  refine xs_step (fun K HC => xr_iadd HC.1 57 96 rfl rfl) ?_
  refine xs_step (fun K HC => xr_dup2 HC.1 58 97 rfl rfl rfl rfl) ?_
  refine xs_chk (fun hb_22 => ?_)
  refine xs_step (fun K HC => xr_iald HC.1 59 98 (hp_in_vp hb_22) rfl rfl) ?_
  refine xs_step (fun K HC => xr_aload_n HC.1 60 99 (n := 0) (ix := 0) (j := 0) (c := 11) (x := v0) rfl rfl rfl rfl) ?_
  refine xs_bind (fun q_23 eq_23 => ?_)
  refine xs_step (fun K HC => xr_getr HC.1 61 102 11 69 13 eq_23 rfl rfl wf_M_106 (by decide) fb_11_69 fc_11_69 fd_11_69) ?_
  refine xs_step (fun K HC => xr_iload_n HC.1 62 103 (n := 1) (ix := 1) (j := 1) (x := v1) rfl rfl rfl rfl) ?_
  refine xs_chk (fun hb_24 => ?_)
  refine xs_step (fun K HC => xr_iald HC.1 63 104 (hp_in_vp hb_24) rfl rfl) ?_
  refine xs_step (fun K HC => xr_iadd HC.1 64 105 rfl rfl) ?_
  refine xs_chk (fun hb_25 => ?_)
  refine xs_heap (hp_mo_si _ _ _ _) (fun K HC => xr_iast HC.1 65 106 (hp_in_vp hb_25) rfl rfl) (fun h_26 => ?_)
  refine xs_step (fun K HC => xr_aload_n HC.1 66 107 (n := 0) (ix := 0) (j := 0) (c := 11) (x := v0) rfl rfl rfl rfl) ?_
  refine xs_bind (fun q_27 eq_27 => ?_)
  refine xs_step (fun K HC => xr_getr HC.1 67 110 11 73 13 eq_27 rfl rfl wf_M_118 (by decide) fb_11_73 fc_11_73 fd_11_73) ?_
  refine xs_step (fun K HC => xr_iload_n HC.1 68 111 (n := 1) (ix := 1) (j := 1) (x := v1) rfl rfl rfl rfl) ?_
  refine xs_step (fun K HC => xr_iconst HC.1 69 112 (n := (0)) (0 : Int32) rfl rfl rfl) ?_
  refine xs_chk (fun hb_28 => ?_)
  refine xs_heap (hp_mo_si _ _ _ _) (fun K HC => xr_iast HC.1 70 113 (hp_in_vp hb_28) rfl rfl) (fun h_29 => ?_)
  refine xs_gen (fun v1_30 ev1_30 => ?_)
  refine xs_step (fun K HC => xr_iinc HC.1 71 116 (ix := 1) (j := 1) (n := (1)) (x := v1) v1_30 (lv' := [(0, av_R 11 (some v0)), (1, av_I v1_30)]) rfl (by rw [ev1_30]; rfl) rfl rfl (by decide) rfl) ?_
  refine xs_step (fun K HC => xr_goto HC.1 72 81 rfl (by decide)) ?_
  exact xs_back rfl (fun K q => q)
theorem t_M_layBack_81 (v0 : Nat) (v1 : Int32) (h : HP) : xx_S (xx_D "LampYardModel" tb_M_layBack 2 1 none false) xz_v (fun K => xL_v K) 81 [(0, av_R 11 (some v0)), (1, av_I v1)] [] h (f_M_layBack_81 v0 v1 h) :=
  xs_loop (zf := xz_v) (L := (fun K => xL_v K)) (fun s : (Int32 × HP) => [(0, av_R 11 (some v0)), (1, av_I s.1)]) (fun s : (Int32 × HP) => s.2) (fun s => t_M_layBack_81b v0 s.1 s.2) (v1, h)
set_option maxHeartbeats 4000000 in
set_option maxRecDepth 100000 in
theorem t_M_layBack_79 (v0 : Nat) (h : HP) : xx_S (xx_D "LampYardModel" tb_M_layBack 2 1 none false) xz_v (fun K => xL_v K) 79 [(0, av_R 11 (some v0))] [] h (f_M_layBack_79 v0 h) := by
  unfold f_M_layBack_79
  refine xs_step (fun K HC => xr_iconst HC.1 47 80 (n := (0)) (0 : Int32) rfl rfl rfl) ?_
  refine xs_step (fun K HC => xr_istore_n HC.1 48 81 (n := 1) (ix := 1) (lv' := [(0, av_R 11 (some v0)), (1, av_I (0 : Int32))]) rfl rfl rfl (by decide) rfl) ?_
  exact t_M_layBack_81 v0 (0 : Int32) h
set_option maxHeartbeats 4000000 in
set_option maxRecDepth 100000 in
theorem t_M_layBack_73 (v0 : Nat) (v1 : Int32) (h : HP) : xx_S (xx_D "LampYardModel" tb_M_layBack 2 1 none false) (xx_z2 (fun s : (Int32 × HP) => s.2) xz_v) (fun K => xx_L2 (fun s : (Int32 × HP) => xx_X K 25 [(0, av_R 11 (some v0)), (1, av_I s.1)] [] (s.2)) (xL_v K)) 73 [(0, av_R 11 (some v0)), (1, av_I v1)] [] h (f_M_layBack_73 v0 v1 h) := by
  unfold f_M_layBack_73
  refine xs_gen (fun v1_31 ev1_31 => ?_)
  refine xs_step (fun K HC => xr_iinc HC.1 45 76 (ix := 1) (j := 1) (n := (1)) (x := v1) v1_31 (lv' := [(0, av_R 11 (some v0)), (1, av_I v1_31)]) rfl (by rw [ev1_31]; rfl) rfl rfl (by decide) rfl) ?_
  refine xs_step (fun K HC => xr_goto HC.1 46 25 rfl (by decide)) ?_
  exact xs_back rfl (fun K q => q)
set_option maxHeartbeats 4000000 in
set_option maxRecDepth 100000 in
theorem t_M_layBack_25b (v0 : Nat) (v1 : Int32) (h : HP) : xx_S (xx_D "LampYardModel" tb_M_layBack 2 1 none false) (xx_z2 (fun s : (Int32 × HP) => s.2) xz_v) (fun K => xx_L2 (fun s : (Int32 × HP) => xx_X K 25 [(0, av_R 11 (some v0)), (1, av_I s.1)] [] (s.2)) (xL_v K)) 25 [(0, av_R 11 (some v0)), (1, av_I v1)] [] h (f_M_layBack_25b v0 v1 h) := by
  unfold f_M_layBack_25b
  refine xs_step (fun K HC => xr_iload_n HC.1 15 26 (n := 1) (ix := 1) (j := 1) (x := v1) rfl rfl rfl rfl) ?_
  refine xs_step (fun K HC => xr_bipush HC.1 16 28 (n := (6)) (6 : Int32) rfl rfl rfl) ?_
  refine xs_step (fun K HC => xr_aload_n HC.1 17 29 (n := 0) (ix := 0) (j := 0) (c := 11) (x := v0) rfl rfl rfl rfl) ?_
  refine xs_step (fun K HC => xr_geti HC.1 18 32 11 65 rfl rfl wf_M_489 (by decide) fb_11_65 fc_11_65) ?_
  refine xs_step (fun K HC => xr_imul HC.1 19 33 rfl rfl) ?_
  refine xs_ite (fun K HC => xr_icmp_ge HC.1 20 79 36 rfl (by decide) rfl) ?_ ?_
  · refine xs_step (fun K HC => xr_sub (lv' := [(0, av_R 11 (some v0))]) [0] rfl) ?_
    exact xs_map (fun _ => rfl) (fun _ _ q => q) (t_M_layBack_79 v0 h)
  refine xs_step (fun K HC => xr_iload_n HC.1 21 37 (n := 1) (ix := 1) (j := 1) (x := v1) rfl rfl rfl rfl) ?_
  refine xs_step (fun K HC => xr_bipush HC.1 22 39 (n := (6)) (6 : Int32) rfl rfl rfl) ?_
  refine xs_step (fun K HC => xr_irem HC.1 23 40 (by decide) rfl rfl) ?_
  refine xs_step (fun K HC => xr_aload_n HC.1 24 41 (n := 0) (ix := 0) (j := 0) (c := 11) (x := v0) rfl rfl rfl rfl) ?_
  refine xs_step (fun K HC => xr_geti HC.1 25 44 11 33 rfl rfl wf_M_401 (by decide) fb_11_33 fc_11_33) ?_
  refine xs_ite (fun K HC => xr_icmp_ge HC.1 26 73 47 rfl (by decide) rfl) ?_ ?_
  · exact t_M_layBack_73 v0 v1 h
  refine xs_step (fun K HC => xr_aload_n HC.1 27 48 (n := 0) (ix := 0) (j := 0) (c := 11) (x := v0) rfl rfl rfl rfl) ?_
  refine xs_bind (fun q_32 eq_32 => ?_)
  refine xs_step (fun K HC => xr_getr HC.1 28 51 11 64 13 eq_32 rfl rfl wf_M_100 (by decide) fb_11_64 fc_11_64 fd_11_64) ?_
  refine xs_step (fun K HC => xr_iload_n HC.1 29 52 (n := 1) (ix := 1) (j := 1) (x := v1) rfl rfl rfl rfl) ?_
  refine xs_chk (fun hb_33 => ?_)
  refine xs_step (fun K HC => xr_iald HC.1 30 53 (hp_in_vp hb_33) rfl rfl) ?_
  refine xs_ite (fun K HC => xr_if_lt HC.1 31 73 56 rfl (by decide) rfl) ?_ ?_
  · exact t_M_layBack_73 v0 v1 h
  refine xs_step (fun K HC => xr_aload_n HC.1 32 57 (n := 0) (ix := 0) (j := 0) (c := 11) (x := v0) rfl rfl rfl rfl) ?_
  refine xs_bind (fun q_34 eq_34 => ?_)
  refine xs_step (fun K HC => xr_getr HC.1 33 60 11 69 13 eq_34 rfl rfl wf_M_106 (by decide) fb_11_69 fc_11_69 fd_11_69) ?_
  refine xs_step (fun K HC => xr_aload_n HC.1 34 61 (n := 0) (ix := 0) (j := 0) (c := 11) (x := v0) rfl rfl rfl rfl) ?_
  refine xs_bind (fun q_35 eq_35 => ?_)
  refine xs_step (fun K HC => xr_getr HC.1 35 64 11 64 13 eq_35 rfl rfl wf_M_100 (by decide) fb_11_64 fc_11_64 fd_11_64) ?_
  refine xs_step (fun K HC => xr_iload_n HC.1 36 65 (n := 1) (ix := 1) (j := 1) (x := v1) rfl rfl rfl rfl) ?_
  refine xs_chk (fun hb_36 => ?_)
  refine xs_step (fun K HC => xr_iald HC.1 37 66 (hp_in_vp hb_36) rfl rfl) ?_
  refine xs_step (fun K HC => xr_iconst HC.1 38 67 (n := (1)) (1 : Int32) rfl rfl rfl) ?_
  refine xs_step (fun K HC => xr_iadd HC.1 39 68 rfl rfl) ?_
  refine xs_step (fun K HC => xr_dup2 HC.1 40 69 rfl rfl rfl rfl) ?_
  refine xs_chk (fun hb_37 => ?_)
  refine xs_step (fun K HC => xr_iald HC.1 41 70 (hp_in_vp hb_37) rfl rfl) ?_
  refine xs_step (fun K HC => xr_iconst HC.1 42 71 (n := (1)) (1 : Int32) rfl rfl rfl) ?_
  refine xs_step (fun K HC => xr_iadd HC.1 43 72 rfl rfl) ?_
  refine xs_chk (fun hb_38 => ?_)
  refine xs_heap (hp_mo_si _ _ _ _) (fun K HC => xr_iast HC.1 44 73 (hp_in_vp hb_38) rfl rfl) (fun h_39 => ?_)
  exact t_M_layBack_73 v0 v1 h_39
theorem t_M_layBack_25 (v0 : Nat) (v1 : Int32) (h : HP) : xx_S (xx_D "LampYardModel" tb_M_layBack 2 1 none false) xz_v (fun K => xL_v K) 25 [(0, av_R 11 (some v0)), (1, av_I v1)] [] h (f_M_layBack_25 v0 v1 h) :=
  xs_loop (zf := xz_v) (L := (fun K => xL_v K)) (fun s : (Int32 × HP) => [(0, av_R 11 (some v0)), (1, av_I s.1)]) (fun s : (Int32 × HP) => s.2) (fun s => t_M_layBack_25b v0 s.1 s.2) (v1, h)
set_option maxHeartbeats 4000000 in
set_option maxRecDepth 100000 in
theorem t_M_layBack_23 (v0 : Nat) (h : HP) : xx_S (xx_D "LampYardModel" tb_M_layBack 2 1 none false) xz_v (fun K => xL_v K) 23 [(0, av_R 11 (some v0))] [] h (f_M_layBack_23 v0 h) := by
  unfold f_M_layBack_23
  refine xs_step (fun K HC => xr_iconst HC.1 13 24 (n := (0)) (0 : Int32) rfl rfl rfl) ?_
  refine xs_step (fun K HC => xr_istore_n HC.1 14 25 (n := 1) (ix := 1) (lv' := [(0, av_R 11 (some v0)), (1, av_I (0 : Int32))]) rfl rfl rfl (by decide) rfl) ?_
  exact t_M_layBack_25 v0 (0 : Int32) h
set_option maxHeartbeats 4000000 in
set_option maxRecDepth 100000 in
theorem t_M_layBack_2b (v0 : Nat) (v1 : Int32) (h : HP) : xx_S (xx_D "LampYardModel" tb_M_layBack 2 1 none false) (xx_z2 (fun s : (Int32 × HP) => s.2) xz_v) (fun K => xx_L2 (fun s : (Int32 × HP) => xx_X K 2 [(0, av_R 11 (some v0)), (1, av_I s.1)] [] (s.2)) (xL_v K)) 2 [(0, av_R 11 (some v0)), (1, av_I v1)] [] h (f_M_layBack_2b v0 v1 h) := by
  unfold f_M_layBack_2b
  refine xs_step (fun K HC => xr_iload_n HC.1 2 3 (n := 1) (ix := 1) (j := 1) (x := v1) rfl rfl rfl rfl) ?_
  refine xs_step (fun K HC => xr_aload_n HC.1 3 4 (n := 0) (ix := 0) (j := 0) (c := 11) (x := v0) rfl rfl rfl rfl) ?_
  refine xs_step (fun K HC => xr_geti HC.1 4 7 11 65 rfl rfl wf_M_489 (by decide) fb_11_65 fc_11_65) ?_
  refine xs_ite (fun K HC => xr_icmp_gt HC.1 5 23 10 rfl (by decide) rfl) ?_ ?_
  · refine xs_step (fun K HC => xr_sub (lv' := [(0, av_R 11 (some v0))]) [0] rfl) ?_
    exact xs_map (fun _ => rfl) (fun _ _ q => q) (t_M_layBack_23 v0 h)
  refine xs_step (fun K HC => xr_aload_n HC.1 6 11 (n := 0) (ix := 0) (j := 0) (c := 11) (x := v0) rfl rfl rfl rfl) ?_
  refine xs_bind (fun q_40 eq_40 => ?_)
  refine xs_step (fun K HC => xr_getr HC.1 7 14 11 69 13 eq_40 rfl rfl wf_M_106 (by decide) fb_11_69 fc_11_69 fd_11_69) ?_
  refine xs_step (fun K HC => xr_iload_n HC.1 8 15 (n := 1) (ix := 1) (j := 1) (x := v1) rfl rfl rfl rfl) ?_
  refine xs_step (fun K HC => xr_iconst HC.1 9 16 (n := (0)) (0 : Int32) rfl rfl rfl) ?_
  refine xs_chk (fun hb_41 => ?_)
  refine xs_heap (hp_mo_si _ _ _ _) (fun K HC => xr_iast HC.1 10 17 (hp_in_vp hb_41) rfl rfl) (fun h_42 => ?_)
  refine xs_gen (fun v1_43 ev1_43 => ?_)
  refine xs_step (fun K HC => xr_iinc HC.1 11 20 (ix := 1) (j := 1) (n := (1)) (x := v1) v1_43 (lv' := [(0, av_R 11 (some v0)), (1, av_I v1_43)]) rfl (by rw [ev1_43]; rfl) rfl rfl (by decide) rfl) ?_
  refine xs_step (fun K HC => xr_goto HC.1 12 2 rfl (by decide)) ?_
  exact xs_back rfl (fun K q => q)
theorem t_M_layBack_2 (v0 : Nat) (v1 : Int32) (h : HP) : xx_S (xx_D "LampYardModel" tb_M_layBack 2 1 none false) xz_v (fun K => xL_v K) 2 [(0, av_R 11 (some v0)), (1, av_I v1)] [] h (f_M_layBack_2 v0 v1 h) :=
  xs_loop (zf := xz_v) (L := (fun K => xL_v K)) (fun s : (Int32 × HP) => [(0, av_R 11 (some v0)), (1, av_I s.1)]) (fun s : (Int32 × HP) => s.2) (fun s => t_M_layBack_2b v0 s.1 s.2) (v1, h)
set_option maxHeartbeats 4000000 in
set_option maxRecDepth 100000 in
theorem t_M_layBack (v0 : Nat) (h : HP) : xx_S (xx_D "LampYardModel" tb_M_layBack 2 1 none false) xz_v (fun K => xL_v K) 0 [(0, av_R 11 (some v0))] [] h (f_M_layBack v0 h) := by
  unfold f_M_layBack
  refine xs_step (fun K HC => xr_iconst HC.1 0 1 (n := (0)) (0 : Int32) rfl rfl rfl) ?_
  refine xs_step (fun K HC => xr_istore_n HC.1 1 2 (n := 1) (ix := 1) (lv' := [(0, av_R 11 (some v0)), (1, av_I (0 : Int32))]) rfl rfl rfl (by decide) rfl) ?_
  exact t_M_layBack_2 v0 (0 : Int32) h
theorem s_M_layBack (v0 : Nat) (h : HP) : ∀ x, f_M_layBack v0 h = some x → hp_mo h x ∧ ∀ g l, xx_M g l y_M_layBack prog_14_method_76_code 2 none 1 [av_R 11 (some v0)] h none x :=
  xM_v (tb := tb_M_layBack) (b := false) (by decide +kernel) dt_M_layBack trivial (Nat.le_of_ble_eq_true rfl) (fun hb => by cases hb) (t_M_layBack v0 h)
def tb_M_layOrder : TBL := [(0, .iconst 0, 1), (1, .istore_n 1, 1), (2, .iconst 0, 1), (3, .istore_n 2, 1), (4, .iload_n 2, 1), (5, .aload_n 0, 1), (6, .getfield 489, 3), (9, .if_icmp .ge 16, 3), (12, .aload_n 0, 1), (13, .getfield 118, 3), (16, .iload_n 2, 1), (17, .iconst (-1), 1), (18, .iastore, 1), (19, .iinc 2 1, 3), (22, .goto (-18), 3), (25, .iconst 0, 1), (26, .istore_n 2, 1), (27, .iload_n 2, 1), (28, .aload_n 0, 1), (29, .getfield 489, 3), (32, .if_icmp .ge 151, 3), (35, .aload_n 0, 1), (36, .getfield 118, 3), (39, .iload_n 2, 1), (40, .iaload, 1), (41, .ifCond .lt 6, 3), (44, .goto 133, 3), (47, .iconst 0, 1), (48, .istore_n 3, 1), (49, .aload_n 0, 1), (50, .getfield 115, 3), (53, .iconst 0, 1), (54, .iload_n 2, 1), (55, .iastore, 1), (56, .aload_n 0, 1), (57, .getfield 118, 3), (60, .iload_n 2, 1), (61, .iconst 0, 1), (62, .iastore, 1), (63, .iload_n 3, 1), (64, .ifCond .lt 113, 3), (67, .aload_n 0, 1), (68, .getfield 115, 3), (71, .iload_n 3, 1), (72, .iaload, 1), (73, .istore 4, 2), (75, .aload_n 0, 1), (76, .getfield 118, 3), (79, .iload 4, 2), (81, .iaload, 1), (82, .aload_n 0, 1), (83, .getfield 401, 3), (86, .if_icmp .ne 20, 3), (89, .aload_n 0, 1), (90, .getfield 112, 3), (93, .iload_n 1, 1), (94, .iload 4, 2), (96, .iastore, 1), (97, .iinc 1 1, 3), (100, .iinc 3 (-1), 3), (103, .goto (-40), 3), (106, .aload_n 0, 1), (107, .getfield 100, 3), (110, .bipush 6, 2), (112, .iload 4, 2), (114, .imul, 1), (115, .aload_n 0, 1), (116, .getfield 118, 3), (119, .iload 4, 2), (121, .iaload, 1), (122, .iadd, 1), (123, .iaload, 1), (124, .istore 5, 2), (126, .aload_n 0, 1), (127, .getfield 118, 3), (130, .iload 4, 2), (132, .dup2, 1), (133, .iaload, 1), (134, .iconst 1, 1), (135, .iadd, 1), (136, .iastore, 1), (137, .iload 5, 2), (139, .ifCond .lt (-76), 3), (142, .aload_n 0, 1), (143, .getfield 118, 3), (146, .iload 5, 2), (148, .iaload, 1), (149, .ifCond .lt 6, 3), (152, .goto (-89), 3), (155, .iinc 3 1, 3), (158, .aload_n 0, 1), (159, .getfield 115, 3), (162, .iload_n 3, 1), (163, .iload 5, 2), (165, .iastore, 1), (166, .aload_n 0, 1), (167, .getfield 118, 3), (170, .iload 5, 2), (172, .iconst 0, 1), (173, .iastore, 1), (174, .goto (-111), 3), (177, .iinc 2 1, 3), (180, .goto (-153), 3), (183, .return_, 1)]
theorem dt_M_layOrder : ∀ q ∈ tb_M_layOrder, decode prog_14_method_77_code q.1 = .ok (q.2.1, q.2.2) := by decide +kernel
set_option maxHeartbeats 4000000 in
set_option maxRecDepth 100000 in
theorem t_M_layOrder_177 (v0 : Nat) (v1 : Int32) (v2 : Int32) (h : HP) : xx_S (xx_D "LampYardModel" tb_M_layOrder 6 1 none false) (xx_z2 (fun s : (Int32 × Int32 × HP) => s.2.2) xz_v) (fun K => xx_L2 (fun s : (Int32 × Int32 × HP) => xx_X K 27 [(0, av_R 11 (some v0)), (1, av_I s.1), (2, av_I s.2.1)] [] (s.2.2)) (xL_v K)) 177 [(0, av_R 11 (some v0)), (1, av_I v1), (2, av_I v2)] [] h (f_M_layOrder_177 v0 v1 v2 h) := by
  unfold f_M_layOrder_177
  refine xs_gen (fun v2_9 ev2_9 => ?_)
  refine xs_step (fun K HC => xr_iinc HC.1 101 180 (ix := 2) (j := 2) (n := (1)) (x := v2) v2_9 (lv' := [(0, av_R 11 (some v0)), (1, av_I v1), (2, av_I v2_9)]) rfl (by rw [ev2_9]; rfl) rfl rfl (by decide) rfl) ?_
  refine xs_step (fun K HC => xr_goto HC.1 102 27 rfl (by decide)) ?_
  exact xs_back rfl (fun K q => q)
set_option maxHeartbeats 4000000 in
set_option maxRecDepth 100000 in
theorem t_M_layOrder_63b (v0 : Nat) (v2 : Int32) (v1 : Int32) (v3 : Int32) (h : HP) : xx_S (xx_D "LampYardModel" tb_M_layOrder 6 1 none false) (xx_z2 (fun s : (Int32 × Int32 × HP) => s.2.2) (xx_z2 (fun s : (Int32 × Int32 × HP) => s.2.2) xz_v)) (fun K => xx_L2 (fun s : (Int32 × Int32 × HP) => xx_X K 63 [(0, av_R 11 (some v0)), (1, av_I s.1), (2, av_I v2), (3, av_I s.2.1)] [] (s.2.2)) (xx_L2 (fun s : (Int32 × Int32 × HP) => xx_X K 27 [(0, av_R 11 (some v0)), (1, av_I s.1), (2, av_I s.2.1)] [] (s.2.2)) (xL_v K))) 63 [(0, av_R 11 (some v0)), (1, av_I v1), (2, av_I v2), (3, av_I v3)] [] h (f_M_layOrder_63b v0 v2 v1 v3 h) := by
  unfold f_M_layOrder_63b
  refine xs_step (fun K HC => xr_iload_n HC.1 39 64 (n := 3) (ix := 3) (j := 3) (x := v3) rfl rfl rfl rfl) ?_
  refine xs_ite (fun K HC => xr_if_lt HC.1 40 177 67 rfl (by decide) rfl) ?_ ?_
  · refine xs_step (fun K HC => xr_sub (lv' := [(0, av_R 11 (some v0)), (1, av_I v1), (2, av_I v2)]) [0, 1, 2] rfl) ?_
    exact xs_map (fun _ => rfl) (fun _ _ q => q) (t_M_layOrder_177 v0 v1 v2 h)
  refine xs_step (fun K HC => xr_aload_n HC.1 41 68 (n := 0) (ix := 0) (j := 0) (c := 11) (x := v0) rfl rfl rfl rfl) ?_
  refine xs_bind (fun q_10 eq_10 => ?_)
  refine xs_step (fun K HC => xr_getr HC.1 42 71 11 72 13 eq_10 rfl rfl wf_M_115 (by decide) fb_11_72 fc_11_72 fd_11_72) ?_
  refine xs_step (fun K HC => xr_iload_n HC.1 43 72 (n := 3) (ix := 3) (j := 3) (x := v3) rfl rfl rfl rfl) ?_
  refine xs_chk (fun hb_11 => ?_)
  refine xs_step (fun K HC => xr_iald HC.1 44 73 (hp_in_vp hb_11) rfl rfl) ?_
  refine xs_topi (fun v4_12 => ?_)
  refine xs_step (fun K HC => xr_istore HC.1 45 75 (ix := 4) (lv' := [(0, av_R 11 (some v0)), (1, av_I v1), (2, av_I v2), (3, av_I v3), (4, av_I v4_12)]) rfl rfl (by decide) rfl) ?_
  refine xs_step (fun K HC => xr_aload_n HC.1 46 76 (n := 0) (ix := 0) (j := 0) (c := 11) (x := v0) rfl rfl rfl rfl) ?_
  refine xs_bind (fun q_13 eq_13 => ?_)
  refine xs_step (fun K HC => xr_getr HC.1 47 79 11 73 13 eq_13 rfl rfl wf_M_118 (by decide) fb_11_73 fc_11_73 fd_11_73) ?_
  refine xs_step (fun K HC => xr_iload HC.1 48 81 (ix := 4) (j := 4) (x := v4_12) rfl rfl rfl) ?_
  refine xs_chk (fun hb_14 => ?_)
  refine xs_step (fun K HC => xr_iald HC.1 49 82 (hp_in_vp hb_14) rfl rfl) ?_
  refine xs_step (fun K HC => xr_aload_n HC.1 50 83 (n := 0) (ix := 0) (j := 0) (c := 11) (x := v0) rfl rfl rfl rfl) ?_
  refine xs_step (fun K HC => xr_geti HC.1 51 86 11 33 rfl rfl wf_M_401 (by decide) fb_11_33 fc_11_33) ?_
  refine xs_ite (fun K HC a b => xr_icmp_ne HC.1 52 106 89 rfl (by decide) rfl b a) ?_ ?_
  · refine xs_step (fun K HC => xr_aload_n HC.1 53 90 (n := 0) (ix := 0) (j := 0) (c := 11) (x := v0) rfl rfl rfl rfl) ?_
    refine xs_bind (fun q_15 eq_15 => ?_)
    refine xs_step (fun K HC => xr_getr HC.1 54 93 11 71 13 eq_15 rfl rfl wf_M_112 (by decide) fb_11_71 fc_11_71 fd_11_71) ?_
    refine xs_step (fun K HC => xr_iload_n HC.1 55 94 (n := 1) (ix := 1) (j := 1) (x := v1) rfl rfl rfl rfl) ?_
    refine xs_step (fun K HC => xr_iload HC.1 56 96 (ix := 4) (j := 4) (x := v4_12) rfl rfl rfl) ?_
    refine xs_chk (fun hb_16 => ?_)
    refine xs_heap (hp_mo_si _ _ _ _) (fun K HC => xr_iast HC.1 57 97 (hp_in_vp hb_16) rfl rfl) (fun h_17 => ?_)
    refine xs_gen (fun v1_18 ev1_18 => ?_)
    refine xs_step (fun K HC => xr_iinc HC.1 58 100 (ix := 1) (j := 1) (n := (1)) (x := v1) v1_18 (lv' := [(0, av_R 11 (some v0)), (1, av_I v1_18), (2, av_I v2), (3, av_I v3), (4, av_I v4_12)]) rfl (by rw [ev1_18]; rfl) rfl rfl (by decide) rfl) ?_
    refine xs_gen (fun v3_19 ev3_19 => ?_)
    refine xs_step (fun K HC => xr_iinc HC.1 59 103 (ix := 3) (j := 3) (n := (-1)) (x := v3) v3_19 (lv' := [(0, av_R 11 (some v0)), (1, av_I v1_18), (2, av_I v2), (3, av_I v3_19), (4, av_I v4_12)]) rfl (by rw [ev3_19]; rfl) rfl rfl (by decide) rfl) ?_
    refine xs_step (fun K HC => xr_goto HC.1 60 63 rfl (by decide)) ?_
    refine xs_step (fun K HC => xr_sub (lv' := [(0, av_R 11 (some v0)), (1, av_I v1_18), (2, av_I v2), (3, av_I v3_19)]) [0, 1, 2, 3] rfl) ?_
    exact xs_back rfl (fun K q => q)
  refine xs_step (fun K HC => xr_aload_n HC.1 61 107 (n := 0) (ix := 0) (j := 0) (c := 11) (x := v0) rfl rfl rfl rfl) ?_
  refine xs_bind (fun q_20 eq_20 => ?_)
  refine xs_step (fun K HC => xr_getr HC.1 62 110 11 64 13 eq_20 rfl rfl wf_M_100 (by decide) fb_11_64 fc_11_64 fd_11_64) ?_
  refine xs_step (fun K HC => xr_bipush HC.1 63 112 (n := (6)) (6 : Int32) rfl rfl rfl) ?_
  refine xs_step (fun K HC => xr_iload HC.1 64 114 (ix := 4) (j := 4) (x := v4_12) rfl rfl rfl) ?_
  refine xs_step (fun K HC => xr_imul HC.1 65 115 rfl rfl) ?_
  refine xs_step (fun K HC => xr_aload_n HC.1 66 116 (n := 0) (ix := 0) (j := 0) (c := 11) (x := v0) rfl rfl rfl rfl) ?_
  refine xs_bind (fun q_21 eq_21 => ?_)
  refine xs_step (fun K HC => xr_getr HC.1 67 119 11 73 13 eq_21 rfl rfl wf_M_118 (by decide) fb_11_73 fc_11_73 fd_11_73) ?_
  refine xs_step (fun K HC => xr_iload HC.1 68 121 (ix := 4) (j := 4) (x := v4_12) rfl rfl rfl) ?_
  refine xs_chk (fun hb_22 => ?_)
  refine xs_step (fun K HC => xr_iald HC.1 69 122 (hp_in_vp hb_22) rfl rfl) ?_
  refine xs_step (fun K HC => xr_iadd HC.1 70 123 rfl rfl) ?_
  refine xs_chk (fun hb_23 => ?_)
  refine xs_step (fun K HC => xr_iald HC.1 71 124 (hp_in_vp hb_23) rfl rfl) ?_
  refine xs_topi (fun v5_24 => ?_)
  refine xs_step (fun K HC => xr_istore HC.1 72 126 (ix := 5) (lv' := [(0, av_R 11 (some v0)), (1, av_I v1), (2, av_I v2), (3, av_I v3), (4, av_I v4_12), (5, av_I v5_24)]) rfl rfl (by decide) rfl) ?_
  refine xs_step (fun K HC => xr_aload_n HC.1 73 127 (n := 0) (ix := 0) (j := 0) (c := 11) (x := v0) rfl rfl rfl rfl) ?_
  refine xs_bind (fun q_25 eq_25 => ?_)
  refine xs_step (fun K HC => xr_getr HC.1 74 130 11 73 13 eq_25 rfl rfl wf_M_118 (by decide) fb_11_73 fc_11_73 fd_11_73) ?_
  refine xs_step (fun K HC => xr_iload HC.1 75 132 (ix := 4) (j := 4) (x := v4_12) rfl rfl rfl) ?_
  refine xs_step (fun K HC => xr_dup2 HC.1 76 133 rfl rfl rfl rfl) ?_
  refine xs_chk (fun hb_26 => ?_)
  refine xs_step (fun K HC => xr_iald HC.1 77 134 (hp_in_vp hb_26) rfl rfl) ?_
  refine xs_step (fun K HC => xr_iconst HC.1 78 135 (n := (1)) (1 : Int32) rfl rfl rfl) ?_
  refine xs_step (fun K HC => xr_iadd HC.1 79 136 rfl rfl) ?_
  refine xs_chk (fun hb_27 => ?_)
  refine xs_heap (hp_mo_si _ _ _ _) (fun K HC => xr_iast HC.1 80 137 (hp_in_vp hb_27) rfl rfl) (fun h_28 => ?_)
  refine xs_step (fun K HC => xr_iload HC.1 81 139 (ix := 5) (j := 5) (x := v5_24) rfl rfl rfl) ?_
  refine xs_ite (fun K HC => xr_if_lt HC.1 82 63 142 rfl (by decide) rfl) ?_ ?_
  · refine xs_step (fun K HC => xr_sub (lv' := [(0, av_R 11 (some v0)), (1, av_I v1), (2, av_I v2), (3, av_I v3)]) [0, 1, 2, 3] rfl) ?_
    exact xs_back rfl (fun K q => q)
  refine xs_step (fun K HC => xr_aload_n HC.1 83 143 (n := 0) (ix := 0) (j := 0) (c := 11) (x := v0) rfl rfl rfl rfl) ?_
  refine xs_bind (fun q_29 eq_29 => ?_)
  refine xs_step (fun K HC => xr_getr HC.1 84 146 11 73 13 eq_29 rfl rfl wf_M_118 (by decide) fb_11_73 fc_11_73 fd_11_73) ?_
  refine xs_step (fun K HC => xr_iload HC.1 85 148 (ix := 5) (j := 5) (x := v5_24) rfl rfl rfl) ?_
  refine xs_chk (fun hb_30 => ?_)
  refine xs_step (fun K HC => xr_iald HC.1 86 149 (hp_in_vp hb_30) rfl rfl) ?_
  refine xs_ite (fun K HC => xr_if_lt HC.1 87 155 152 rfl (by decide) rfl) ?_ ?_
  · refine xs_gen (fun v3_31 ev3_31 => ?_)
    refine xs_step (fun K HC => xr_iinc HC.1 89 158 (ix := 3) (j := 3) (n := (1)) (x := v3) v3_31 (lv' := [(0, av_R 11 (some v0)), (1, av_I v1), (2, av_I v2), (3, av_I v3_31), (4, av_I v4_12), (5, av_I v5_24)]) rfl (by rw [ev3_31]; rfl) rfl rfl (by decide) rfl) ?_
    refine xs_step (fun K HC => xr_aload_n HC.1 90 159 (n := 0) (ix := 0) (j := 0) (c := 11) (x := v0) rfl rfl rfl rfl) ?_
    refine xs_bind (fun q_32 eq_32 => ?_)
    refine xs_step (fun K HC => xr_getr HC.1 91 162 11 72 13 eq_32 rfl rfl wf_M_115 (by decide) fb_11_72 fc_11_72 fd_11_72) ?_
    refine xs_step (fun K HC => xr_iload_n HC.1 92 163 (n := 3) (ix := 3) (j := 3) (x := v3_31) rfl rfl rfl rfl) ?_
    refine xs_step (fun K HC => xr_iload HC.1 93 165 (ix := 5) (j := 5) (x := v5_24) rfl rfl rfl) ?_
    refine xs_chk (fun hb_33 => ?_)
    refine xs_heap (hp_mo_si _ _ _ _) (fun K HC => xr_iast HC.1 94 166 (hp_in_vp hb_33) rfl rfl) (fun h_34 => ?_)
    refine xs_step (fun K HC => xr_aload_n HC.1 95 167 (n := 0) (ix := 0) (j := 0) (c := 11) (x := v0) rfl rfl rfl rfl) ?_
    refine xs_bind (fun q_35 eq_35 => ?_)
    refine xs_step (fun K HC => xr_getr HC.1 96 170 11 73 13 eq_35 rfl rfl wf_M_118 (by decide) fb_11_73 fc_11_73 fd_11_73) ?_
    refine xs_step (fun K HC => xr_iload HC.1 97 172 (ix := 5) (j := 5) (x := v5_24) rfl rfl rfl) ?_
    refine xs_step (fun K HC => xr_iconst HC.1 98 173 (n := (0)) (0 : Int32) rfl rfl rfl) ?_
    refine xs_chk (fun hb_36 => ?_)
    refine xs_heap (hp_mo_si _ _ _ _) (fun K HC => xr_iast HC.1 99 174 (hp_in_vp hb_36) rfl rfl) (fun h_37 => ?_)
    refine xs_step (fun K HC => xr_goto HC.1 100 63 rfl (by decide)) ?_
    refine xs_step (fun K HC => xr_sub (lv' := [(0, av_R 11 (some v0)), (1, av_I v1), (2, av_I v2), (3, av_I v3_31)]) [0, 1, 2, 3] rfl) ?_
    exact xs_back rfl (fun K q => q)
  refine xs_step (fun K HC => xr_goto HC.1 88 63 rfl (by decide)) ?_
  refine xs_step (fun K HC => xr_sub (lv' := [(0, av_R 11 (some v0)), (1, av_I v1), (2, av_I v2), (3, av_I v3)]) [0, 1, 2, 3] rfl) ?_
  exact xs_back rfl (fun K q => q)
theorem t_M_layOrder_63 (v0 : Nat) (v2 : Int32) (v1 : Int32) (v3 : Int32) (h : HP) : xx_S (xx_D "LampYardModel" tb_M_layOrder 6 1 none false) (xx_z2 (fun s : (Int32 × Int32 × HP) => s.2.2) xz_v) (fun K => xx_L2 (fun s : (Int32 × Int32 × HP) => xx_X K 27 [(0, av_R 11 (some v0)), (1, av_I s.1), (2, av_I s.2.1)] [] (s.2.2)) (xL_v K)) 63 [(0, av_R 11 (some v0)), (1, av_I v1), (2, av_I v2), (3, av_I v3)] [] h (f_M_layOrder_63 v0 v2 v1 v3 h) :=
  xs_loop (zf := (xx_z2 (fun s : (Int32 × Int32 × HP) => s.2.2) xz_v)) (L := (fun K => xx_L2 (fun s : (Int32 × Int32 × HP) => xx_X K 27 [(0, av_R 11 (some v0)), (1, av_I s.1), (2, av_I s.2.1)] [] (s.2.2)) (xL_v K))) (fun s : (Int32 × Int32 × HP) => [(0, av_R 11 (some v0)), (1, av_I s.1), (2, av_I v2), (3, av_I s.2.1)]) (fun s : (Int32 × Int32 × HP) => s.2.2) (fun s => t_M_layOrder_63b v0 v2 s.1 s.2.1 s.2.2) (v1, v3, h)
set_option maxHeartbeats 4000000 in
set_option maxRecDepth 100000 in
theorem t_M_layOrder_27b (v0 : Nat) (v1 : Int32) (v2 : Int32) (h : HP) : xx_S (xx_D "LampYardModel" tb_M_layOrder 6 1 none false) (xx_z2 (fun s : (Int32 × Int32 × HP) => s.2.2) xz_v) (fun K => xx_L2 (fun s : (Int32 × Int32 × HP) => xx_X K 27 [(0, av_R 11 (some v0)), (1, av_I s.1), (2, av_I s.2.1)] [] (s.2.2)) (xL_v K)) 27 [(0, av_R 11 (some v0)), (1, av_I v1), (2, av_I v2)] [] h (f_M_layOrder_27b v0 v1 v2 h) := by
  unfold f_M_layOrder_27b
  refine xs_step (fun K HC => xr_iload_n HC.1 17 28 (n := 2) (ix := 2) (j := 2) (x := v2) rfl rfl rfl rfl) ?_
  refine xs_step (fun K HC => xr_aload_n HC.1 18 29 (n := 0) (ix := 0) (j := 0) (c := 11) (x := v0) rfl rfl rfl rfl) ?_
  refine xs_step (fun K HC => xr_geti HC.1 19 32 11 65 rfl rfl wf_M_489 (by decide) fb_11_65 fc_11_65) ?_
  refine xs_ite (fun K HC => xr_icmp_ge HC.1 20 183 35 rfl (by decide) rfl) ?_ ?_
  · exact xs_ret 103 rfl rfl (fun K q => q)
  refine xs_step (fun K HC => xr_aload_n HC.1 21 36 (n := 0) (ix := 0) (j := 0) (c := 11) (x := v0) rfl rfl rfl rfl) ?_
  refine xs_bind (fun q_1 eq_1 => ?_)
  refine xs_step (fun K HC => xr_getr HC.1 22 39 11 73 13 eq_1 rfl rfl wf_M_118 (by decide) fb_11_73 fc_11_73 fd_11_73) ?_
  refine xs_step (fun K HC => xr_iload_n HC.1 23 40 (n := 2) (ix := 2) (j := 2) (x := v2) rfl rfl rfl rfl) ?_
  refine xs_chk (fun hb_2 => ?_)
  refine xs_step (fun K HC => xr_iald HC.1 24 41 (hp_in_vp hb_2) rfl rfl) ?_
  refine xs_ite (fun K HC => xr_if_lt HC.1 25 47 44 rfl (by decide) rfl) ?_ ?_
  · refine xs_step (fun K HC => xr_iconst HC.1 27 48 (n := (0)) (0 : Int32) rfl rfl rfl) ?_
    refine xs_step (fun K HC => xr_istore_n HC.1 28 49 (n := 3) (ix := 3) (lv' := [(0, av_R 11 (some v0)), (1, av_I v1), (2, av_I v2), (3, av_I (0 : Int32))]) rfl rfl rfl (by decide) rfl) ?_
    refine xs_step (fun K HC => xr_aload_n HC.1 29 50 (n := 0) (ix := 0) (j := 0) (c := 11) (x := v0) rfl rfl rfl rfl) ?_
    refine xs_bind (fun q_3 eq_3 => ?_)
    refine xs_step (fun K HC => xr_getr HC.1 30 53 11 72 13 eq_3 rfl rfl wf_M_115 (by decide) fb_11_72 fc_11_72 fd_11_72) ?_
    refine xs_step (fun K HC => xr_iconst HC.1 31 54 (n := (0)) (0 : Int32) rfl rfl rfl) ?_
    refine xs_step (fun K HC => xr_iload_n HC.1 32 55 (n := 2) (ix := 2) (j := 2) (x := v2) rfl rfl rfl rfl) ?_
    refine xs_chk (fun hb_4 => ?_)
    refine xs_heap (hp_mo_si _ _ _ _) (fun K HC => xr_iast HC.1 33 56 (hp_in_vp hb_4) rfl rfl) (fun h_5 => ?_)
    refine xs_step (fun K HC => xr_aload_n HC.1 34 57 (n := 0) (ix := 0) (j := 0) (c := 11) (x := v0) rfl rfl rfl rfl) ?_
    refine xs_bind (fun q_6 eq_6 => ?_)
    refine xs_step (fun K HC => xr_getr HC.1 35 60 11 73 13 eq_6 rfl rfl wf_M_118 (by decide) fb_11_73 fc_11_73 fd_11_73) ?_
    refine xs_step (fun K HC => xr_iload_n HC.1 36 61 (n := 2) (ix := 2) (j := 2) (x := v2) rfl rfl rfl rfl) ?_
    refine xs_step (fun K HC => xr_iconst HC.1 37 62 (n := (0)) (0 : Int32) rfl rfl rfl) ?_
    refine xs_chk (fun hb_7 => ?_)
    refine xs_heap (hp_mo_si _ _ _ _) (fun K HC => xr_iast HC.1 38 63 (hp_in_vp hb_7) rfl rfl) (fun h_8 => ?_)
    exact t_M_layOrder_63 v0 v2 v1 (0 : Int32) h_8
  refine xs_step (fun K HC => xr_goto HC.1 26 177 rfl (by decide)) ?_
  exact t_M_layOrder_177 v0 v1 v2 h
theorem t_M_layOrder_27 (v0 : Nat) (v1 : Int32) (v2 : Int32) (h : HP) : xx_S (xx_D "LampYardModel" tb_M_layOrder 6 1 none false) xz_v (fun K => xL_v K) 27 [(0, av_R 11 (some v0)), (1, av_I v1), (2, av_I v2)] [] h (f_M_layOrder_27 v0 v1 v2 h) :=
  xs_loop (zf := xz_v) (L := (fun K => xL_v K)) (fun s : (Int32 × Int32 × HP) => [(0, av_R 11 (some v0)), (1, av_I s.1), (2, av_I s.2.1)]) (fun s : (Int32 × Int32 × HP) => s.2.2) (fun s => t_M_layOrder_27b v0 s.1 s.2.1 s.2.2) (v1, v2, h)
set_option maxHeartbeats 4000000 in
set_option maxRecDepth 100000 in
theorem t_M_layOrder_25 (v0 : Nat) (v1 : Int32) (h : HP) : xx_S (xx_D "LampYardModel" tb_M_layOrder 6 1 none false) xz_v (fun K => xL_v K) 25 [(0, av_R 11 (some v0)), (1, av_I v1)] [] h (f_M_layOrder_25 v0 v1 h) := by
  unfold f_M_layOrder_25
  refine xs_step (fun K HC => xr_iconst HC.1 15 26 (n := (0)) (0 : Int32) rfl rfl rfl) ?_
  refine xs_step (fun K HC => xr_istore_n HC.1 16 27 (n := 2) (ix := 2) (lv' := [(0, av_R 11 (some v0)), (1, av_I v1), (2, av_I (0 : Int32))]) rfl rfl rfl (by decide) rfl) ?_
  exact t_M_layOrder_27 v0 v1 (0 : Int32) h
set_option maxHeartbeats 4000000 in
set_option maxRecDepth 100000 in
theorem t_M_layOrder_4b (v0 : Nat) (v1 : Int32) (v2 : Int32) (h : HP) : xx_S (xx_D "LampYardModel" tb_M_layOrder 6 1 none false) (xx_z2 (fun s : (Int32 × HP) => s.2) xz_v) (fun K => xx_L2 (fun s : (Int32 × HP) => xx_X K 4 [(0, av_R 11 (some v0)), (1, av_I v1), (2, av_I s.1)] [] (s.2)) (xL_v K)) 4 [(0, av_R 11 (some v0)), (1, av_I v1), (2, av_I v2)] [] h (f_M_layOrder_4b v0 v1 v2 h) := by
  unfold f_M_layOrder_4b
  refine xs_step (fun K HC => xr_iload_n HC.1 4 5 (n := 2) (ix := 2) (j := 2) (x := v2) rfl rfl rfl rfl) ?_
  refine xs_step (fun K HC => xr_aload_n HC.1 5 6 (n := 0) (ix := 0) (j := 0) (c := 11) (x := v0) rfl rfl rfl rfl) ?_
  refine xs_step (fun K HC => xr_geti HC.1 6 9 11 65 rfl rfl wf_M_489 (by decide) fb_11_65 fc_11_65) ?_
  refine xs_ite (fun K HC => xr_icmp_ge HC.1 7 25 12 rfl (by decide) rfl) ?_ ?_
  · refine xs_step (fun K HC => xr_sub (lv' := [(0, av_R 11 (some v0)), (1, av_I v1)]) [0, 1] rfl) ?_
    exact xs_map (fun _ => rfl) (fun _ _ q => q) (t_M_layOrder_25 v0 v1 h)
  refine xs_step (fun K HC => xr_aload_n HC.1 8 13 (n := 0) (ix := 0) (j := 0) (c := 11) (x := v0) rfl rfl rfl rfl) ?_
  refine xs_bind (fun q_38 eq_38 => ?_)
  refine xs_step (fun K HC => xr_getr HC.1 9 16 11 73 13 eq_38 rfl rfl wf_M_118 (by decide) fb_11_73 fc_11_73 fd_11_73) ?_
  refine xs_step (fun K HC => xr_iload_n HC.1 10 17 (n := 2) (ix := 2) (j := 2) (x := v2) rfl rfl rfl rfl) ?_
  refine xs_step (fun K HC => xr_iconst HC.1 11 18 (n := (-1)) (-1 : Int32) rfl rfl rfl) ?_
  refine xs_chk (fun hb_39 => ?_)
  refine xs_heap (hp_mo_si _ _ _ _) (fun K HC => xr_iast HC.1 12 19 (hp_in_vp hb_39) rfl rfl) (fun h_40 => ?_)
  refine xs_gen (fun v2_41 ev2_41 => ?_)
  refine xs_step (fun K HC => xr_iinc HC.1 13 22 (ix := 2) (j := 2) (n := (1)) (x := v2) v2_41 (lv' := [(0, av_R 11 (some v0)), (1, av_I v1), (2, av_I v2_41)]) rfl (by rw [ev2_41]; rfl) rfl rfl (by decide) rfl) ?_
  refine xs_step (fun K HC => xr_goto HC.1 14 4 rfl (by decide)) ?_
  exact xs_back rfl (fun K q => q)
theorem t_M_layOrder_4 (v0 : Nat) (v1 : Int32) (v2 : Int32) (h : HP) : xx_S (xx_D "LampYardModel" tb_M_layOrder 6 1 none false) xz_v (fun K => xL_v K) 4 [(0, av_R 11 (some v0)), (1, av_I v1), (2, av_I v2)] [] h (f_M_layOrder_4 v0 v1 v2 h) :=
  xs_loop (zf := xz_v) (L := (fun K => xL_v K)) (fun s : (Int32 × HP) => [(0, av_R 11 (some v0)), (1, av_I v1), (2, av_I s.1)]) (fun s : (Int32 × HP) => s.2) (fun s => t_M_layOrder_4b v0 v1 s.1 s.2) (v2, h)
set_option maxHeartbeats 4000000 in
set_option maxRecDepth 100000 in
theorem t_M_layOrder (v0 : Nat) (h : HP) : xx_S (xx_D "LampYardModel" tb_M_layOrder 6 1 none false) xz_v (fun K => xL_v K) 0 [(0, av_R 11 (some v0))] [] h (f_M_layOrder v0 h) := by
  unfold f_M_layOrder
  refine xs_step (fun K HC => xr_iconst HC.1 0 1 (n := (0)) (0 : Int32) rfl rfl rfl) ?_
  refine xs_step (fun K HC => xr_istore_n HC.1 1 2 (n := 1) (ix := 1) (lv' := [(0, av_R 11 (some v0)), (1, av_I (0 : Int32))]) rfl rfl rfl (by decide) rfl) ?_
  refine xs_step (fun K HC => xr_iconst HC.1 2 3 (n := (0)) (0 : Int32) rfl rfl rfl) ?_
  refine xs_step (fun K HC => xr_istore_n HC.1 3 4 (n := 2) (ix := 2) (lv' := [(0, av_R 11 (some v0)), (1, av_I (0 : Int32)), (2, av_I (0 : Int32))]) rfl rfl rfl (by decide) rfl) ?_
  exact t_M_layOrder_4 v0 (0 : Int32) (0 : Int32) h
theorem s_M_layOrder (v0 : Nat) (h : HP) : ∀ x, f_M_layOrder v0 h = some x → hp_mo h x ∧ ∀ g l, xx_M g l y_M_layOrder prog_14_method_77_code 6 none 1 [av_R 11 (some v0)] h none x :=
  xM_v (tb := tb_M_layOrder) (b := false) (by decide +kernel) dt_M_layOrder trivial (Nat.le_of_ble_eq_true rfl) (fun hb => by cases hb) (t_M_layOrder v0 h)
def tb_M_layParts : TBL := [(0, .aload_n 0, 1), (1, .invokevirtual 540, 3), (4, .aload_n 0, 1), (5, .invokevirtual 543, 3), (8, .iconst 0, 1), (9, .istore_n 1, 1), (10, .iload_n 1, 1), (11, .aload_n 0, 1), (12, .getfield 489, 3), (15, .if_icmp .ge 16, 3), (18, .aload_n 0, 1), (19, .getfield 121, 3), (22, .iload_n 1, 1), (23, .iconst (-1), 1), (24, .iastore, 1), (25, .iinc 1 1, 3), (28, .goto (-18), 3), (31, .aload_n 0, 1), (32, .getfield 489, 3), (35, .iconst 1, 1), (36, .isub, 1), (37, .istore_n 1, 1), (38, .iload_n 1, 1), (39, .ifCond .lt 153, 3), (42, .aload_n 0, 1), (43, .getfield 121, 3), (46, .aload_n 0, 1), (47, .getfield 112, 3), (50, .iload_n 1, 1), (51, .iaload, 1), (52, .iaload, 1), (53, .ifCond .lt 6, 3), (56, .goto 130, 3), (59, .iconst 0, 1), (60, .istore_n 2, 1), (61, .aload_n 0, 1), (62, .getfield 115, 3), (65, .iconst 0, 1), (66, .aload_n 0, 1), (67, .getfield 112, 3), (70, .iload_n 1, 1), (71, .iaload, 1), (72, .iastore, 1), (73, .aload_n 0, 1), (74, .getfield 121, 3), (77, .aload_n 0, 1), (78, .getfield 112, 3), (81, .iload_n 1, 1), (82, .iaload, 1), (83, .aload_n 0, 1), (84, .getfield 112, 3), (87, .iload_n 1, 1), (88, .iaload, 1), (89, .iastore, 1), (90, .iload_n 2, 1), (91, .ifCond .lt 95, 3), (94, .aload_n 0, 1), (95, .getfield 115, 3), (98, .iload_n 2, 1), (99, .iaload, 1), (100, .istore_n 3, 1), (101, .iinc 2 (-1), 3), (104, .aload_n 0, 1), (105, .getfield 106, 3), (108, .iload_n 3, 1), (109, .iaload, 1), (110, .istore 4, 2), (112, .iload 4, 2), (114, .aload_n 0, 1), (115, .getfield 106, 3), (118, .iload_n 3, 1), (119, .iconst 1, 1), (120, .iadd, 1), (121, .iaload, 1), (122, .if_icmp .ge 61, 3), (125, .aload_n 0, 1), (126, .getfield 121, 3), (129, .aload_n 0, 1), (130, .getfield 109, 3), (133, .iload 4, 2), (135, .iaload, 1), (136, .iaload, 1), (137, .ifCond .lt 6, 3), (140, .goto 37, 3), (143, .aload_n 0, 1), (144, .getfield 121, 3), (147, .aload_n 0, 1), (148, .getfield 109, 3), (151, .iload 4, 2), (153, .iaload, 1), (154, .aload_n 0, 1), (155, .getfield 112, 3), (158, .iload_n 1, 1), (159, .iaload, 1), (160, .iastore, 1), (161, .iinc 2 1, 3), (164, .aload_n 0, 1), (165, .getfield 115, 3), (168, .iload_n 2, 1), (169, .aload_n 0, 1), (170, .getfield 109, 3), (173, .iload 4, 2), (175, .iaload, 1), (176, .iastore, 1), (177, .iinc 4 1, 3), (180, .goto (-68), 3), (183, .goto (-93), 3), (186, .iinc 1 (-1), 3), (189, .goto (-151), 3), (192, .return_, 1)]
theorem dt_M_layParts : ∀ q ∈ tb_M_layParts, decode prog_14_method_78_code q.1 = .ok (q.2.1, q.2.2) := by decide +kernel
set_option maxHeartbeats 4000000 in
set_option maxRecDepth 100000 in
theorem t_M_layParts_186 (v0 : Nat) (v1 : Int32) (h : HP) : xx_S (xx_D "LampYardModel" tb_M_layParts 5 2 none false) (xx_z2 (fun s : (Int32 × HP) => s.2) xz_v) (fun K => xx_L2 (fun s : (Int32 × HP) => xx_X K 38 [(0, av_R 11 (some v0)), (1, av_I s.1)] [] (s.2)) (xL_v K)) 186 [(0, av_R 11 (some v0)), (1, av_I v1)] [] h (f_M_layParts_186 v0 v1 h) := by
  unfold f_M_layParts_186
  refine xs_gen (fun v1_20 ev1_20 => ?_)
  refine xs_step (fun K HC => xr_iinc HC.1 107 189 (ix := 1) (j := 1) (n := (-1)) (x := v1) v1_20 (lv' := [(0, av_R 11 (some v0)), (1, av_I v1_20)]) rfl (by rw [ev1_20]; rfl) rfl rfl (by decide) rfl) ?_
  refine xs_step (fun K HC => xr_goto HC.1 108 38 rfl (by decide)) ?_
  exact xs_back rfl (fun K q => q)
set_option maxHeartbeats 4000000 in
set_option maxRecDepth 100000 in
theorem t_M_layParts_183 (v0 : Nat) (v1 : Int32) (v2 : Int32) (h : HP) : xx_S (xx_D "LampYardModel" tb_M_layParts 5 2 none false) (xx_z2 (fun s : (Int32 × HP) => s.2) (xx_z2 (fun s : (Int32 × HP) => s.2) xz_v)) (fun K => xx_L2 (fun s : (Int32 × HP) => xx_X K 90 [(0, av_R 11 (some v0)), (1, av_I v1), (2, av_I s.1)] [] (s.2)) (xx_L2 (fun s : (Int32 × HP) => xx_X K 38 [(0, av_R 11 (some v0)), (1, av_I s.1)] [] (s.2)) (xL_v K))) 183 [(0, av_R 11 (some v0)), (1, av_I v1), (2, av_I v2)] [] h (f_M_layParts_183 v0 v1 v2 h) := by
  unfold f_M_layParts_183
  refine xs_step (fun K HC => xr_goto HC.1 106 90 rfl (by decide)) ?_
  exact xs_back rfl (fun K q => q)
set_option maxHeartbeats 4000000 in
set_option maxRecDepth 100000 in
theorem t_M_layParts_177 (v0 : Nat) (v1 : Int32) (v2 : Int32) (v3 : Int32) (v4 : Int32) (h : HP) : xx_S (xx_D "LampYardModel" tb_M_layParts 5 2 none false) (xx_z2 (fun s : (Int32 × Int32 × HP) => s.2.2) (xx_z2 (fun s : (Int32 × HP) => s.2) (xx_z2 (fun s : (Int32 × HP) => s.2) xz_v))) (fun K => xx_L2 (fun s : (Int32 × Int32 × HP) => xx_X K 112 [(0, av_R 11 (some v0)), (1, av_I v1), (2, av_I s.1), (3, av_I v3), (4, av_I s.2.1)] [] (s.2.2)) (xx_L2 (fun s : (Int32 × HP) => xx_X K 90 [(0, av_R 11 (some v0)), (1, av_I v1), (2, av_I s.1)] [] (s.2)) (xx_L2 (fun s : (Int32 × HP) => xx_X K 38 [(0, av_R 11 (some v0)), (1, av_I s.1)] [] (s.2)) (xL_v K)))) 177 [(0, av_R 11 (some v0)), (1, av_I v1), (2, av_I v2), (3, av_I v3), (4, av_I v4)] [] h (f_M_layParts_177 v0 v1 v2 v3 v4 h) := by
  unfold f_M_layParts_177
  refine xs_gen (fun v4_47 ev4_47 => ?_)
  refine xs_step (fun K HC => xr_iinc HC.1 104 180 (ix := 4) (j := 4) (n := (1)) (x := v4) v4_47 (lv' := [(0, av_R 11 (some v0)), (1, av_I v1), (2, av_I v2), (3, av_I v3), (4, av_I v4_47)]) rfl (by rw [ev4_47]; rfl) rfl rfl (by decide) rfl) ?_
  refine xs_step (fun K HC => xr_goto HC.1 105 112 rfl (by decide)) ?_
  exact xs_back rfl (fun K q => q)
set_option maxHeartbeats 4000000 in
set_option maxRecDepth 100000 in
theorem t_M_layParts_112b (v0 : Nat) (v1 : Int32) (v3 : Int32) (v2 : Int32) (v4 : Int32) (h : HP) : xx_S (xx_D "LampYardModel" tb_M_layParts 5 2 none false) (xx_z2 (fun s : (Int32 × Int32 × HP) => s.2.2) (xx_z2 (fun s : (Int32 × HP) => s.2) (xx_z2 (fun s : (Int32 × HP) => s.2) xz_v))) (fun K => xx_L2 (fun s : (Int32 × Int32 × HP) => xx_X K 112 [(0, av_R 11 (some v0)), (1, av_I v1), (2, av_I s.1), (3, av_I v3), (4, av_I s.2.1)] [] (s.2.2)) (xx_L2 (fun s : (Int32 × HP) => xx_X K 90 [(0, av_R 11 (some v0)), (1, av_I v1), (2, av_I s.1)] [] (s.2)) (xx_L2 (fun s : (Int32 × HP) => xx_X K 38 [(0, av_R 11 (some v0)), (1, av_I s.1)] [] (s.2)) (xL_v K)))) 112 [(0, av_R 11 (some v0)), (1, av_I v1), (2, av_I v2), (3, av_I v3), (4, av_I v4)] [] h (f_M_layParts_112b v0 v1 v3 v2 v4 h) := by
  unfold f_M_layParts_112b
  refine xs_step (fun K HC => xr_iload HC.1 67 114 (ix := 4) (j := 4) (x := v4) rfl rfl rfl) ?_
  refine xs_step (fun K HC => xr_aload_n HC.1 68 115 (n := 0) (ix := 0) (j := 0) (c := 11) (x := v0) rfl rfl rfl rfl) ?_
  refine xs_bind (fun q_28 eq_28 => ?_)
  refine xs_step (fun K HC => xr_getr HC.1 69 118 11 69 13 eq_28 rfl rfl wf_M_106 (by decide) fb_11_69 fc_11_69 fd_11_69) ?_
  refine xs_step (fun K HC => xr_iload_n HC.1 70 119 (n := 3) (ix := 3) (j := 3) (x := v3) rfl rfl rfl rfl) ?_
  refine xs_step (fun K HC => xr_iconst HC.1 71 120 (n := (1)) (1 : Int32) rfl rfl rfl) ?_
  refine xs_step (fun K HC => xr_iadd HC.1 72 121 rfl rfl) ?_
  refine xs_chk (fun hb_29 => ?_)
  refine xs_step (fun K HC => xr_iald HC.1 73 122 (hp_in_vp hb_29) rfl rfl) ?_
  refine xs_ite (fun K HC => xr_icmp_ge HC.1 74 183 125 rfl (by decide) rfl) ?_ ?_
  · refine xs_step (fun K HC => xr_sub (lv' := [(0, av_R 11 (some v0)), (1, av_I v1), (2, av_I v2)]) [0, 1, 2] rfl) ?_
    exact xs_map (fun _ => rfl) (fun _ _ q => q) (t_M_layParts_183 v0 v1 v2 h)
  refine xs_step (fun K HC => xr_aload_n HC.1 75 126 (n := 0) (ix := 0) (j := 0) (c := 11) (x := v0) rfl rfl rfl rfl) ?_
  refine xs_bind (fun q_30 eq_30 => ?_)
  refine xs_step (fun K HC => xr_getr HC.1 76 129 11 74 13 eq_30 rfl rfl wf_M_121 (by decide) fb_11_74 fc_11_74 fd_11_74) ?_
  refine xs_step (fun K HC => xr_aload_n HC.1 77 130 (n := 0) (ix := 0) (j := 0) (c := 11) (x := v0) rfl rfl rfl rfl) ?_
  refine xs_bind (fun q_31 eq_31 => ?_)
  refine xs_step (fun K HC => xr_getr HC.1 78 133 11 70 13 eq_31 rfl rfl wf_M_109 (by decide) fb_11_70 fc_11_70 fd_11_70) ?_
  refine xs_step (fun K HC => xr_iload HC.1 79 135 (ix := 4) (j := 4) (x := v4) rfl rfl rfl) ?_
  refine xs_chk (fun hb_32 => ?_)
  refine xs_step (fun K HC => xr_iald HC.1 80 136 (hp_in_vp hb_32) rfl rfl) ?_
  refine xs_chk (fun hb_33 => ?_)
  refine xs_step (fun K HC => xr_iald HC.1 81 137 (hp_in_vp hb_33) rfl rfl) ?_
  refine xs_ite (fun K HC => xr_if_lt HC.1 82 143 140 rfl (by decide) rfl) ?_ ?_
  · refine xs_step (fun K HC => xr_aload_n HC.1 84 144 (n := 0) (ix := 0) (j := 0) (c := 11) (x := v0) rfl rfl rfl rfl) ?_
    refine xs_bind (fun q_34 eq_34 => ?_)
    refine xs_step (fun K HC => xr_getr HC.1 85 147 11 74 13 eq_34 rfl rfl wf_M_121 (by decide) fb_11_74 fc_11_74 fd_11_74) ?_
    refine xs_step (fun K HC => xr_aload_n HC.1 86 148 (n := 0) (ix := 0) (j := 0) (c := 11) (x := v0) rfl rfl rfl rfl) ?_
    refine xs_bind (fun q_35 eq_35 => ?_)
    refine xs_step (fun K HC => xr_getr HC.1 87 151 11 70 13 eq_35 rfl rfl wf_M_109 (by decide) fb_11_70 fc_11_70 fd_11_70) ?_
    refine xs_step (fun K HC => xr_iload HC.1 88 153 (ix := 4) (j := 4) (x := v4) rfl rfl rfl) ?_
    refine xs_chk (fun hb_36 => ?_)
    refine xs_step (fun K HC => xr_iald HC.1 89 154 (hp_in_vp hb_36) rfl rfl) ?_
    refine xs_step (fun K HC => xr_aload_n HC.1 90 155 (n := 0) (ix := 0) (j := 0) (c := 11) (x := v0) rfl rfl rfl rfl) ?_
    refine xs_bind (fun q_37 eq_37 => ?_)
    refine xs_step (fun K HC => xr_getr HC.1 91 158 11 71 13 eq_37 rfl rfl wf_M_112 (by decide) fb_11_71 fc_11_71 fd_11_71) ?_
    refine xs_step (fun K HC => xr_iload_n HC.1 92 159 (n := 1) (ix := 1) (j := 1) (x := v1) rfl rfl rfl rfl) ?_
    refine xs_chk (fun hb_38 => ?_)
    refine xs_step (fun K HC => xr_iald HC.1 93 160 (hp_in_vp hb_38) rfl rfl) ?_
    refine xs_chk (fun hb_39 => ?_)
    refine xs_heap (hp_mo_si _ _ _ _) (fun K HC => xr_iast HC.1 94 161 (hp_in_vp hb_39) rfl rfl) (fun h_40 => ?_)
    refine xs_gen (fun v2_41 ev2_41 => ?_)
    refine xs_step (fun K HC => xr_iinc HC.1 95 164 (ix := 2) (j := 2) (n := (1)) (x := v2) v2_41 (lv' := [(0, av_R 11 (some v0)), (1, av_I v1), (2, av_I v2_41), (3, av_I v3), (4, av_I v4)]) rfl (by rw [ev2_41]; rfl) rfl rfl (by decide) rfl) ?_
    refine xs_step (fun K HC => xr_aload_n HC.1 96 165 (n := 0) (ix := 0) (j := 0) (c := 11) (x := v0) rfl rfl rfl rfl) ?_
    refine xs_bind (fun q_42 eq_42 => ?_)
    refine xs_step (fun K HC => xr_getr HC.1 97 168 11 72 13 eq_42 rfl rfl wf_M_115 (by decide) fb_11_72 fc_11_72 fd_11_72) ?_
    refine xs_step (fun K HC => xr_iload_n HC.1 98 169 (n := 2) (ix := 2) (j := 2) (x := v2_41) rfl rfl rfl rfl) ?_
    refine xs_step (fun K HC => xr_aload_n HC.1 99 170 (n := 0) (ix := 0) (j := 0) (c := 11) (x := v0) rfl rfl rfl rfl) ?_
    refine xs_bind (fun q_43 eq_43 => ?_)
    refine xs_step (fun K HC => xr_getr HC.1 100 173 11 70 13 eq_43 rfl rfl wf_M_109 (by decide) fb_11_70 fc_11_70 fd_11_70) ?_
    refine xs_step (fun K HC => xr_iload HC.1 101 175 (ix := 4) (j := 4) (x := v4) rfl rfl rfl) ?_
    refine xs_chk (fun hb_44 => ?_)
    refine xs_step (fun K HC => xr_iald HC.1 102 176 (hp_in_vp hb_44) rfl rfl) ?_
    refine xs_chk (fun hb_45 => ?_)
    refine xs_heap (hp_mo_si _ _ _ _) (fun K HC => xr_iast HC.1 103 177 (hp_in_vp hb_45) rfl rfl) (fun h_46 => ?_)
    exact t_M_layParts_177 v0 v1 v2_41 v3 v4 h_46
  refine xs_step (fun K HC => xr_goto HC.1 83 177 rfl (by decide)) ?_
  exact t_M_layParts_177 v0 v1 v2 v3 v4 h
theorem t_M_layParts_112 (v0 : Nat) (v1 : Int32) (v3 : Int32) (v2 : Int32) (v4 : Int32) (h : HP) : xx_S (xx_D "LampYardModel" tb_M_layParts 5 2 none false) (xx_z2 (fun s : (Int32 × HP) => s.2) (xx_z2 (fun s : (Int32 × HP) => s.2) xz_v)) (fun K => xx_L2 (fun s : (Int32 × HP) => xx_X K 90 [(0, av_R 11 (some v0)), (1, av_I v1), (2, av_I s.1)] [] (s.2)) (xx_L2 (fun s : (Int32 × HP) => xx_X K 38 [(0, av_R 11 (some v0)), (1, av_I s.1)] [] (s.2)) (xL_v K))) 112 [(0, av_R 11 (some v0)), (1, av_I v1), (2, av_I v2), (3, av_I v3), (4, av_I v4)] [] h (f_M_layParts_112 v0 v1 v3 v2 v4 h) :=
  xs_loop (zf := (xx_z2 (fun s : (Int32 × HP) => s.2) (xx_z2 (fun s : (Int32 × HP) => s.2) xz_v))) (L := (fun K => xx_L2 (fun s : (Int32 × HP) => xx_X K 90 [(0, av_R 11 (some v0)), (1, av_I v1), (2, av_I s.1)] [] (s.2)) (xx_L2 (fun s : (Int32 × HP) => xx_X K 38 [(0, av_R 11 (some v0)), (1, av_I s.1)] [] (s.2)) (xL_v K)))) (fun s : (Int32 × Int32 × HP) => [(0, av_R 11 (some v0)), (1, av_I v1), (2, av_I s.1), (3, av_I v3), (4, av_I s.2.1)]) (fun s : (Int32 × Int32 × HP) => s.2.2) (fun s => t_M_layParts_112b v0 v1 v3 s.1 s.2.1 s.2.2) (v2, v4, h)
set_option maxHeartbeats 4000000 in
set_option maxRecDepth 100000 in
theorem t_M_layParts_90b (v0 : Nat) (v1 : Int32) (v2 : Int32) (h : HP) : xx_S (xx_D "LampYardModel" tb_M_layParts 5 2 none false) (xx_z2 (fun s : (Int32 × HP) => s.2) (xx_z2 (fun s : (Int32 × HP) => s.2) xz_v)) (fun K => xx_L2 (fun s : (Int32 × HP) => xx_X K 90 [(0, av_R 11 (some v0)), (1, av_I v1), (2, av_I s.1)] [] (s.2)) (xx_L2 (fun s : (Int32 × HP) => xx_X K 38 [(0, av_R 11 (some v0)), (1, av_I s.1)] [] (s.2)) (xL_v K))) 90 [(0, av_R 11 (some v0)), (1, av_I v1), (2, av_I v2)] [] h (f_M_layParts_90b v0 v1 v2 h) := by
  unfold f_M_layParts_90b
  refine xs_step (fun K HC => xr_iload_n HC.1 54 91 (n := 2) (ix := 2) (j := 2) (x := v2) rfl rfl rfl rfl) ?_
  refine xs_ite (fun K HC => xr_if_lt HC.1 55 186 94 rfl (by decide) rfl) ?_ ?_
  · refine xs_step (fun K HC => xr_sub (lv' := [(0, av_R 11 (some v0)), (1, av_I v1)]) [0, 1] rfl) ?_
    exact xs_map (fun _ => rfl) (fun _ _ q => q) (t_M_layParts_186 v0 v1 h)
  refine xs_step (fun K HC => xr_aload_n HC.1 56 95 (n := 0) (ix := 0) (j := 0) (c := 11) (x := v0) rfl rfl rfl rfl) ?_
  refine xs_bind (fun q_21 eq_21 => ?_)
  refine xs_step (fun K HC => xr_getr HC.1 57 98 11 72 13 eq_21 rfl rfl wf_M_115 (by decide) fb_11_72 fc_11_72 fd_11_72) ?_
  refine xs_step (fun K HC => xr_iload_n HC.1 58 99 (n := 2) (ix := 2) (j := 2) (x := v2) rfl rfl rfl rfl) ?_
  refine xs_chk (fun hb_22 => ?_)
  refine xs_step (fun K HC => xr_iald HC.1 59 100 (hp_in_vp hb_22) rfl rfl) ?_
  refine xs_topi (fun v3_23 => ?_)
  refine xs_step (fun K HC => xr_istore_n HC.1 60 101 (n := 3) (ix := 3) (lv' := [(0, av_R 11 (some v0)), (1, av_I v1), (2, av_I v2), (3, av_I v3_23)]) rfl rfl rfl (by decide) rfl) ?_
  refine xs_gen (fun v2_24 ev2_24 => ?_)
  refine xs_step (fun K HC => xr_iinc HC.1 61 104 (ix := 2) (j := 2) (n := (-1)) (x := v2) v2_24 (lv' := [(0, av_R 11 (some v0)), (1, av_I v1), (2, av_I v2_24), (3, av_I v3_23)]) rfl (by rw [ev2_24]; rfl) rfl rfl (by decide) rfl) ?_
  refine xs_step (fun K HC => xr_aload_n HC.1 62 105 (n := 0) (ix := 0) (j := 0) (c := 11) (x := v0) rfl rfl rfl rfl) ?_
  refine xs_bind (fun q_25 eq_25 => ?_)
  refine xs_step (fun K HC => xr_getr HC.1 63 108 11 69 13 eq_25 rfl rfl wf_M_106 (by decide) fb_11_69 fc_11_69 fd_11_69) ?_
  refine xs_step (fun K HC => xr_iload_n HC.1 64 109 (n := 3) (ix := 3) (j := 3) (x := v3_23) rfl rfl rfl rfl) ?_
  refine xs_chk (fun hb_26 => ?_)
  refine xs_step (fun K HC => xr_iald HC.1 65 110 (hp_in_vp hb_26) rfl rfl) ?_
  refine xs_topi (fun v4_27 => ?_)
  refine xs_step (fun K HC => xr_istore HC.1 66 112 (ix := 4) (lv' := [(0, av_R 11 (some v0)), (1, av_I v1), (2, av_I v2_24), (3, av_I v3_23), (4, av_I v4_27)]) rfl rfl (by decide) rfl) ?_
  exact t_M_layParts_112 v0 v1 v3_23 v2_24 v4_27 h
theorem t_M_layParts_90 (v0 : Nat) (v1 : Int32) (v2 : Int32) (h : HP) : xx_S (xx_D "LampYardModel" tb_M_layParts 5 2 none false) (xx_z2 (fun s : (Int32 × HP) => s.2) xz_v) (fun K => xx_L2 (fun s : (Int32 × HP) => xx_X K 38 [(0, av_R 11 (some v0)), (1, av_I s.1)] [] (s.2)) (xL_v K)) 90 [(0, av_R 11 (some v0)), (1, av_I v1), (2, av_I v2)] [] h (f_M_layParts_90 v0 v1 v2 h) :=
  xs_loop (zf := (xx_z2 (fun s : (Int32 × HP) => s.2) xz_v)) (L := (fun K => xx_L2 (fun s : (Int32 × HP) => xx_X K 38 [(0, av_R 11 (some v0)), (1, av_I s.1)] [] (s.2)) (xL_v K))) (fun s : (Int32 × HP) => [(0, av_R 11 (some v0)), (1, av_I v1), (2, av_I s.1)]) (fun s : (Int32 × HP) => s.2) (fun s => t_M_layParts_90b v0 v1 s.1 s.2) (v2, h)
set_option maxHeartbeats 4000000 in
set_option maxRecDepth 100000 in
theorem t_M_layParts_38b (v0 : Nat) (v1 : Int32) (h : HP) : xx_S (xx_D "LampYardModel" tb_M_layParts 5 2 none false) (xx_z2 (fun s : (Int32 × HP) => s.2) xz_v) (fun K => xx_L2 (fun s : (Int32 × HP) => xx_X K 38 [(0, av_R 11 (some v0)), (1, av_I s.1)] [] (s.2)) (xL_v K)) 38 [(0, av_R 11 (some v0)), (1, av_I v1)] [] h (f_M_layParts_38b v0 v1 h) := by
  unfold f_M_layParts_38b
  refine xs_step (fun K HC => xr_iload_n HC.1 22 39 (n := 1) (ix := 1) (j := 1) (x := v1) rfl rfl rfl rfl) ?_
  refine xs_ite (fun K HC => xr_if_lt HC.1 23 192 42 rfl (by decide) rfl) ?_ ?_
  · exact xs_ret 109 rfl rfl (fun K q => q)
  refine xs_step (fun K HC => xr_aload_n HC.1 24 43 (n := 0) (ix := 0) (j := 0) (c := 11) (x := v0) rfl rfl rfl rfl) ?_
  refine xs_bind (fun q_4 eq_4 => ?_)
  refine xs_step (fun K HC => xr_getr HC.1 25 46 11 74 13 eq_4 rfl rfl wf_M_121 (by decide) fb_11_74 fc_11_74 fd_11_74) ?_
  refine xs_step (fun K HC => xr_aload_n HC.1 26 47 (n := 0) (ix := 0) (j := 0) (c := 11) (x := v0) rfl rfl rfl rfl) ?_
  refine xs_bind (fun q_5 eq_5 => ?_)
  refine xs_step (fun K HC => xr_getr HC.1 27 50 11 71 13 eq_5 rfl rfl wf_M_112 (by decide) fb_11_71 fc_11_71 fd_11_71) ?_
  refine xs_step (fun K HC => xr_iload_n HC.1 28 51 (n := 1) (ix := 1) (j := 1) (x := v1) rfl rfl rfl rfl) ?_
  refine xs_chk (fun hb_6 => ?_)
  refine xs_step (fun K HC => xr_iald HC.1 29 52 (hp_in_vp hb_6) rfl rfl) ?_
  refine xs_chk (fun hb_7 => ?_)
  refine xs_step (fun K HC => xr_iald HC.1 30 53 (hp_in_vp hb_7) rfl rfl) ?_
  refine xs_ite (fun K HC => xr_if_lt HC.1 31 59 56 rfl (by decide) rfl) ?_ ?_
  · refine xs_step (fun K HC => xr_iconst HC.1 33 60 (n := (0)) (0 : Int32) rfl rfl rfl) ?_
    refine xs_step (fun K HC => xr_istore_n HC.1 34 61 (n := 2) (ix := 2) (lv' := [(0, av_R 11 (some v0)), (1, av_I v1), (2, av_I (0 : Int32))]) rfl rfl rfl (by decide) rfl) ?_
    refine xs_step (fun K HC => xr_aload_n HC.1 35 62 (n := 0) (ix := 0) (j := 0) (c := 11) (x := v0) rfl rfl rfl rfl) ?_
    refine xs_bind (fun q_8 eq_8 => ?_)
    refine xs_step (fun K HC => xr_getr HC.1 36 65 11 72 13 eq_8 rfl rfl wf_M_115 (by decide) fb_11_72 fc_11_72 fd_11_72) ?_
    refine xs_step (fun K HC => xr_iconst HC.1 37 66 (n := (0)) (0 : Int32) rfl rfl rfl) ?_
    refine xs_step (fun K HC => xr_aload_n HC.1 38 67 (n := 0) (ix := 0) (j := 0) (c := 11) (x := v0) rfl rfl rfl rfl) ?_
    refine xs_bind (fun q_9 eq_9 => ?_)
    refine xs_step (fun K HC => xr_getr HC.1 39 70 11 71 13 eq_9 rfl rfl wf_M_112 (by decide) fb_11_71 fc_11_71 fd_11_71) ?_
    refine xs_step (fun K HC => xr_iload_n HC.1 40 71 (n := 1) (ix := 1) (j := 1) (x := v1) rfl rfl rfl rfl) ?_
    refine xs_chk (fun hb_10 => ?_)
    refine xs_step (fun K HC => xr_iald HC.1 41 72 (hp_in_vp hb_10) rfl rfl) ?_
    refine xs_chk (fun hb_11 => ?_)
    refine xs_heap (hp_mo_si _ _ _ _) (fun K HC => xr_iast HC.1 42 73 (hp_in_vp hb_11) rfl rfl) (fun h_12 => ?_)
    refine xs_step (fun K HC => xr_aload_n HC.1 43 74 (n := 0) (ix := 0) (j := 0) (c := 11) (x := v0) rfl rfl rfl rfl) ?_
    refine xs_bind (fun q_13 eq_13 => ?_)
    refine xs_step (fun K HC => xr_getr HC.1 44 77 11 74 13 eq_13 rfl rfl wf_M_121 (by decide) fb_11_74 fc_11_74 fd_11_74) ?_
    refine xs_step (fun K HC => xr_aload_n HC.1 45 78 (n := 0) (ix := 0) (j := 0) (c := 11) (x := v0) rfl rfl rfl rfl) ?_
    refine xs_bind (fun q_14 eq_14 => ?_)
    refine xs_step (fun K HC => xr_getr HC.1 46 81 11 71 13 eq_14 rfl rfl wf_M_112 (by decide) fb_11_71 fc_11_71 fd_11_71) ?_
    refine xs_step (fun K HC => xr_iload_n HC.1 47 82 (n := 1) (ix := 1) (j := 1) (x := v1) rfl rfl rfl rfl) ?_
    refine xs_chk (fun hb_15 => ?_)
    refine xs_step (fun K HC => xr_iald HC.1 48 83 (hp_in_vp hb_15) rfl rfl) ?_
    refine xs_step (fun K HC => xr_aload_n HC.1 49 84 (n := 0) (ix := 0) (j := 0) (c := 11) (x := v0) rfl rfl rfl rfl) ?_
    refine xs_bind (fun q_16 eq_16 => ?_)
    refine xs_step (fun K HC => xr_getr HC.1 50 87 11 71 13 eq_16 rfl rfl wf_M_112 (by decide) fb_11_71 fc_11_71 fd_11_71) ?_
    refine xs_step (fun K HC => xr_iload_n HC.1 51 88 (n := 1) (ix := 1) (j := 1) (x := v1) rfl rfl rfl rfl) ?_
    refine xs_chk (fun hb_17 => ?_)
    refine xs_step (fun K HC => xr_iald HC.1 52 89 (hp_in_vp hb_17) rfl rfl) ?_
    refine xs_chk (fun hb_18 => ?_)
    refine xs_heap (hp_mo_si _ _ _ _) (fun K HC => xr_iast HC.1 53 90 (hp_in_vp hb_18) rfl rfl) (fun h_19 => ?_)
    exact t_M_layParts_90 v0 v1 (0 : Int32) h_19
  refine xs_step (fun K HC => xr_goto HC.1 32 186 rfl (by decide)) ?_
  exact t_M_layParts_186 v0 v1 h
theorem t_M_layParts_38 (v0 : Nat) (v1 : Int32) (h : HP) : xx_S (xx_D "LampYardModel" tb_M_layParts 5 2 none false) xz_v (fun K => xL_v K) 38 [(0, av_R 11 (some v0)), (1, av_I v1)] [] h (f_M_layParts_38 v0 v1 h) :=
  xs_loop (zf := xz_v) (L := (fun K => xL_v K)) (fun s : (Int32 × HP) => [(0, av_R 11 (some v0)), (1, av_I s.1)]) (fun s : (Int32 × HP) => s.2) (fun s => t_M_layParts_38b v0 s.1 s.2) (v1, h)
set_option maxHeartbeats 4000000 in
set_option maxRecDepth 100000 in
theorem t_M_layParts_31 (v0 : Nat) (h : HP) : xx_S (xx_D "LampYardModel" tb_M_layParts 5 2 none false) xz_v (fun K => xL_v K) 31 [(0, av_R 11 (some v0))] [] h (f_M_layParts_31 v0 h) := by
  unfold f_M_layParts_31
  refine xs_step (fun K HC => xr_aload_n HC.1 17 32 (n := 0) (ix := 0) (j := 0) (c := 11) (x := v0) rfl rfl rfl rfl) ?_
  refine xs_step (fun K HC => xr_geti HC.1 18 35 11 65 rfl rfl wf_M_489 (by decide) fb_11_65 fc_11_65) ?_
  refine xs_step (fun K HC => xr_iconst HC.1 19 36 (n := (1)) (1 : Int32) rfl rfl rfl) ?_
  refine xs_step (fun K HC => xr_isub HC.1 20 37 rfl rfl) ?_
  refine xs_topi (fun v1_3 => ?_)
  refine xs_step (fun K HC => xr_istore_n HC.1 21 38 (n := 1) (ix := 1) (lv' := [(0, av_R 11 (some v0)), (1, av_I v1_3)]) rfl rfl rfl (by decide) rfl) ?_
  exact t_M_layParts_38 v0 v1_3 h
set_option maxHeartbeats 4000000 in
set_option maxRecDepth 100000 in
theorem t_M_layParts_10b (v0 : Nat) (v1 : Int32) (h : HP) : xx_S (xx_D "LampYardModel" tb_M_layParts 5 2 none false) (xx_z2 (fun s : (Int32 × HP) => s.2) xz_v) (fun K => xx_L2 (fun s : (Int32 × HP) => xx_X K 10 [(0, av_R 11 (some v0)), (1, av_I s.1)] [] (s.2)) (xL_v K)) 10 [(0, av_R 11 (some v0)), (1, av_I v1)] [] h (f_M_layParts_10b v0 v1 h) := by
  unfold f_M_layParts_10b
  refine xs_step (fun K HC => xr_iload_n HC.1 6 11 (n := 1) (ix := 1) (j := 1) (x := v1) rfl rfl rfl rfl) ?_
  refine xs_step (fun K HC => xr_aload_n HC.1 7 12 (n := 0) (ix := 0) (j := 0) (c := 11) (x := v0) rfl rfl rfl rfl) ?_
  refine xs_step (fun K HC => xr_geti HC.1 8 15 11 65 rfl rfl wf_M_489 (by decide) fb_11_65 fc_11_65) ?_
  refine xs_ite (fun K HC => xr_icmp_ge HC.1 9 31 18 rfl (by decide) rfl) ?_ ?_
  · refine xs_step (fun K HC => xr_sub (lv' := [(0, av_R 11 (some v0))]) [0] rfl) ?_
    exact xs_map (fun _ => rfl) (fun _ _ q => q) (t_M_layParts_31 v0 h)
  refine xs_step (fun K HC => xr_aload_n HC.1 10 19 (n := 0) (ix := 0) (j := 0) (c := 11) (x := v0) rfl rfl rfl rfl) ?_
  refine xs_bind (fun q_48 eq_48 => ?_)
  refine xs_step (fun K HC => xr_getr HC.1 11 22 11 74 13 eq_48 rfl rfl wf_M_121 (by decide) fb_11_74 fc_11_74 fd_11_74) ?_
  refine xs_step (fun K HC => xr_iload_n HC.1 12 23 (n := 1) (ix := 1) (j := 1) (x := v1) rfl rfl rfl rfl) ?_
  refine xs_step (fun K HC => xr_iconst HC.1 13 24 (n := (-1)) (-1 : Int32) rfl rfl rfl) ?_
  refine xs_chk (fun hb_49 => ?_)
  refine xs_heap (hp_mo_si _ _ _ _) (fun K HC => xr_iast HC.1 14 25 (hp_in_vp hb_49) rfl rfl) (fun h_50 => ?_)
  refine xs_gen (fun v1_51 ev1_51 => ?_)
  refine xs_step (fun K HC => xr_iinc HC.1 15 28 (ix := 1) (j := 1) (n := (1)) (x := v1) v1_51 (lv' := [(0, av_R 11 (some v0)), (1, av_I v1_51)]) rfl (by rw [ev1_51]; rfl) rfl rfl (by decide) rfl) ?_
  refine xs_step (fun K HC => xr_goto HC.1 16 10 rfl (by decide)) ?_
  exact xs_back rfl (fun K q => q)
theorem t_M_layParts_10 (v0 : Nat) (v1 : Int32) (h : HP) : xx_S (xx_D "LampYardModel" tb_M_layParts 5 2 none false) xz_v (fun K => xL_v K) 10 [(0, av_R 11 (some v0)), (1, av_I v1)] [] h (f_M_layParts_10 v0 v1 h) :=
  xs_loop (zf := xz_v) (L := (fun K => xL_v K)) (fun s : (Int32 × HP) => [(0, av_R 11 (some v0)), (1, av_I s.1)]) (fun s : (Int32 × HP) => s.2) (fun s => t_M_layParts_10b v0 s.1 s.2) (v1, h)
set_option maxHeartbeats 4000000 in
set_option maxRecDepth 100000 in
theorem t_M_layParts (v0 : Nat) (h : HP) : xx_S (xx_D "LampYardModel" tb_M_layParts 5 2 none false) xz_v (fun K => xL_v K) 0 [(0, av_R 11 (some v0))] [] h (f_M_layParts v0 h) := by
  unfold f_M_layParts
  refine xs_step (fun K HC => xr_aload_n HC.1 0 1 (n := 0) (ix := 0) (j := 0) (c := 11) (x := v0) rfl rfl rfl rfl) ?_
  refine xs_callv (s_M_layBack v0 h) (fun K HC x9 hM hmo hb => xr_callV HC.1 1 4 (av := []) (st := []) (hM (kg K) (cx_l (kx K))) hmo hb rfl rfl wm_M_540 wi_M_layBack ws_M_layBack wc_M_layBack rfl wh_M_layBack (by decide) (by decide) (by decide) (Nat.le_of_ble_eq_true rfl) rfl) (fun x_1 => ?_)
  refine xs_step (fun K HC => xr_aload_n HC.1 2 5 (n := 0) (ix := 0) (j := 0) (c := 11) (x := v0) rfl rfl rfl rfl) ?_
  refine xs_callv (s_M_layOrder v0 x_1) (fun K HC x9 hM hmo hb => xr_callV HC.1 3 8 (av := []) (st := []) (hM (kg K) (cx_l (kx K))) hmo hb rfl rfl wm_M_543 wi_M_layOrder ws_M_layOrder wc_M_layOrder rfl wh_M_layOrder (by decide) (by decide) (by decide) (Nat.le_of_ble_eq_true rfl) rfl) (fun x_2 => ?_)
  refine xs_step (fun K HC => xr_iconst HC.1 4 9 (n := (0)) (0 : Int32) rfl rfl rfl) ?_
  refine xs_step (fun K HC => xr_istore_n HC.1 5 10 (n := 1) (ix := 1) (lv' := [(0, av_R 11 (some v0)), (1, av_I (0 : Int32))]) rfl rfl rfl (by decide) rfl) ?_
  exact t_M_layParts_10 v0 (0 : Int32) x_2
theorem s_M_layParts (v0 : Nat) (h : HP) : ∀ x, f_M_layParts v0 h = some x → hp_mo h x ∧ ∀ g l, xx_M g l y_M_layParts prog_14_method_78_code 5 none 2 [av_R 11 (some v0)] h none x :=
  xM_v (tb := tb_M_layParts) (b := false) (by decide +kernel) dt_M_layParts trivial (Nat.le_of_ble_eq_true rfl) (fun hb => by cases hb) (t_M_layParts v0 h)
