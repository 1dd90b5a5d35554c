def tb_M_agrees : TBL := [(0, .aload_n 0, 1), (1, .iload_n 2, 1), (2, .invokevirtual 584, 3), (5, .istore_n 3, 1), (6, .iconst (-1), 1), (7, .istore 4, 2), (9, .iconst 1, 1), (10, .istore 5, 2), (12, .iconst 0, 1), (13, .istore 6, 2), (15, .iload 6, 2), (17, .bipush 100, 2), (19, .if_icmp .ge 28, 3), (22, .aload_n 0, 1), (23, .getfield 148, 3), (26, .iload 6, 2), (28, .iaload, 1), (29, .ifCond .lt 8, 3), (32, .iload 6, 2), (34, .goto 5, 3), (37, .iload 4, 2), (39, .istore 4, 2), (41, .iinc 6 1, 3), (44, .goto (-29), 3), (47, .iconst 0, 1), (48, .istore 6, 2), (50, .iload 6, 2), (52, .iload 4, 2), (54, .if_icmp .gt 31, 3), (57, .iload 5, 2), (59, .ifCond .eq 17, 3), (62, .aload_n 0, 1), (63, .getfield 148, 3), (66, .iload 6, 2), (68, .iaload, 1), (69, .ifCond .lt 7, 3), (72, .iconst 1, 1), (73, .goto 4, 3), (76, .iconst 0, 1), (77, .istore 5, 2), (79, .iinc 6 1, 3), (82, .goto (-32), 3), (85, .aload_n 0, 1), (86, .iload_n 1, 1), (87, .invokevirtual 457, 3), (90, .ifCond .eq 17, 3), (93, .iload 4, 2), (95, .ifCond .lt 12, 3), (98, .iload 5, 2), (100, .ifCond .eq 7, 3), (103, .iload_n 3, 1), (104, .ifCond .ge 5, 3), (107, .iconst (-1), 1), (108, .ireturn, 1), (109, .aload_n 0, 1), (110, .invokevirtual 512, 3), (113, .aload_n 0, 1), (114, .iload_n 1, 1), (115, .invokevirtual 448, 3), (118, .iconst 1, 1), (119, .istore 6, 2), (121, .iconst 0, 1), (122, .istore 7, 2), (124, .iload 7, 2), (126, .iload 4, 2), (128, .if_icmp .gt 52, 3), (131, .iload 6, 2), (133, .ifCond .eq 47, 3), (136, .aload_n 0, 1), (137, .aload_n 0, 1), (138, .getfield 148, 3), (141, .iload 7, 2), (143, .iaload, 1), (144, .invokevirtual 463, 3), (147, .istore 8, 2), (149, .iload 8, 2), (151, .ifCond .eq 16, 3), (154, .iload 8, 2), (156, .iconst 1, 1), (157, .if_icmp .ne 14, 3), (160, .iload 7, 2), (162, .iload 4, 2), (164, .if_icmp .ne 7, 3), (167, .iconst 1, 1), (168, .goto 4, 3), (171, .iconst 0, 1), (172, .istore 6, 2), (174, .iinc 7 1, 3), (177, .goto (-53), 3), (180, .aload_n 0, 1), (181, .invokevirtual 518, 3), (184, .iload 6, 2), (186, .ifCond .eq 7, 3), (189, .iconst 1, 1), (190, .goto 4, 3), (193, .iconst 0, 1), (194, .ireturn, 1)]
theorem dt_M_agrees : ∀ q ∈ tb_M_agrees, decode prog_14_method_101_code q.1 = .ok (q.2.1, q.2.2) := by decide +kernel
set_option maxHeartbeats 4000000 in
set_option maxRecDepth 100000 in
theorem t_M_agrees_180 (v0 : Nat) (v6 : Int32) (h : HP) : xx_S (xx_D "LampYardModel" tb_M_agrees 9 5 (some .int) false) xz_i (fun K => xL_i K) 180 [(0, av_R 11 (some v0)), (6, av_I v6)] [] h (f_M_agrees_180 v0 v6 h) := by
  unfold f_M_agrees_180
  refine xs_step (fun K HC => xr_aload_n HC.1 89 181 (n := 0) (ix := 0) (j := 0) (c := 11) (x := v0) rfl rfl rfl rfl) ?_
  refine xs_callv (s_M_bring v0 h) (fun K HC x9 hM hmo hb => xr_callV HC.1 90 184 (av := []) (st := []) (hM (kg K) (cx_l (kx K))) hmo hb rfl rfl wm_M_518 wi_M_bring ws_M_bring wc_M_bring rfl wh_M_bring (by decide) (by decide) (by decide) (Nat.le_of_ble_eq_true rfl) rfl) (fun x_5 => ?_)
  refine xs_step (fun K HC => xr_iload HC.1 91 186 (ix := 6) (j := 1) (x := v6) rfl rfl rfl) ?_
  refine xs_ite (fun K HC => xr_if_eq HC.1 92 193 189 rfl (by decide) rfl) ?_ ?_
  · refine xs_step (fun K HC => xr_iconst HC.1 95 194 (n := (0)) (0 : Int32) rfl rfl rfl) ?_
    exact xs_reti 96 rfl rfl (fun K q => q) (fun ty ht => by cases ht; rfl)
  refine xs_step (fun K HC => xr_iconst HC.1 93 190 (n := (1)) (1 : Int32) rfl rfl rfl) ?_
  refine xs_step (fun K HC => xr_goto HC.1 94 194 rfl (by decide)) ?_
  exact xs_reti 96 rfl rfl (fun K q => q) (fun ty ht => by cases ht; rfl)
set_option maxHeartbeats 4000000 in
set_option maxRecDepth 100000 in
theorem t_M_agrees_172 (v0 : Nat) (v4 : Int32) (v7 : Int32) (s0 : Int32) (h : HP) : xx_S (xx_D "LampYardModel" tb_M_agrees 9 5 (some .int) false) (xx_z2 (fun s : (Int32 × Int32 × HP) => s.2.2) xz_i) (fun K => xx_L2 (fun s : (Int32 × Int32 × HP) => xx_X K 124 [(0, av_R 11 (some v0)), (4, av_I v4), (6, av_I s.1), (7, av_I s.2.1)] [] (s.2.2)) (xL_i K)) 172 [(0, av_R 11 (some v0)), (4, av_I v4), (7, av_I v7)] [av_I s0] h (f_M_agrees_172 v0 v4 v7 s0 h) := by
  unfold f_M_agrees_172
  refine xs_step (fun K HC => xr_istore HC.1 86 174 (ix := 6) (lv' := [(0, av_R 11 (some v0)), (4, av_I v4), (6, av_I s0), (7, av_I v7)]) rfl rfl (by decide) rfl) ?_
  refine xs_gen (fun v7_9 ev7_9 => ?_)
  refine xs_step (fun K HC => xr_iinc HC.1 87 177 (ix := 7) (j := 3) (n := (1)) (x := v7) v7_9 (lv' := [(0, av_R 11 (some v0)), (4, av_I v4), (6, av_I s0), (7, av_I v7_9)]) rfl (by rw [ev7_9]; rfl) rfl rfl (by decide) rfl) ?_
  refine xs_step (fun K HC => xr_goto HC.1 88 124 rfl (by decide)) ?_
  exact xs_back rfl (fun K q => q)
set_option maxHeartbeats 4000000 in
set_option maxRecDepth 100000 in
theorem t_M_agrees_167 (v0 : Nat) (v4 : Int32) (v7 : Int32) (h : HP) : xx_S (xx_D "LampYardModel" tb_M_agrees 9 5 (some .int) false) (xx_z2 (fun s : (Int32 × Int32 × HP) => s.2.2) xz_i) (fun K => xx_L2 (fun s : (Int32 × Int32 × HP) => xx_X K 124 [(0, av_R 11 (some v0)), (4, av_I v4), (6, av_I s.1), (7, av_I s.2.1)] [] (s.2.2)) (xL_i K)) 167 [(0, av_R 11 (some v0)), (4, av_I v4), (7, av_I v7)] [] h (f_M_agrees_167 v0 v4 v7 h) := by
  unfold f_M_agrees_167
  refine xs_step (fun K HC => xr_iconst HC.1 83 168 (n := (1)) (1 : Int32) rfl rfl rfl) ?_
  refine xs_step (fun K HC => xr_goto HC.1 84 172 rfl (by decide)) ?_
  exact t_M_agrees_172 v0 v4 v7 (1 : Int32) h
set_option maxHeartbeats 4000000 in
set_option maxRecDepth 100000 in
theorem t_M_agrees_171 (v0 : Nat) (v4 : Int32) (v7 : Int32) (h : HP) : xx_S (xx_D "LampYardModel" tb_M_agrees 9 5 (some .int) false) (xx_z2 (fun s : (Int32 × Int32 × HP) => s.2.2) xz_i) (fun K => xx_L2 (fun s : (Int32 × Int32 × HP) => xx_X K 124 [(0, av_R 11 (some v0)), (4, av_I v4), (6, av_I s.1), (7, av_I s.2.1)] [] (s.2.2)) (xL_i K)) 171 [(0, av_R 11 (some v0)), (4, av_I v4), (7, av_I v7)] [] h (f_M_agrees_171 v0 v4 v7 h) := by
  unfold f_M_agrees_171
  refine xs_step (fun K HC => xr_iconst HC.1 85 172 (n := (0)) (0 : Int32) rfl rfl rfl) ?_
  exact t_M_agrees_172 v0 v4 v7 (0 : Int32) h
set_option maxHeartbeats 4000000 in
set_option maxRecDepth 100000 in
theorem t_M_agrees_124b (v0 : Nat) (v4 : Int32) (v6 : Int32) (v7 : Int32) (h : HP) : xx_S (xx_D "LampYardModel" tb_M_agrees 9 5 (some .int) false) (xx_z2 (fun s : (Int32 × Int32 × HP) => s.2.2) xz_i) (fun K => xx_L2 (fun s : (Int32 × Int32 × HP) => xx_X K 124 [(0, av_R 11 (some v0)), (4, av_I v4), (6, av_I s.1), (7, av_I s.2.1)] [] (s.2.2)) (xL_i K)) 124 [(0, av_R 11 (some v0)), (4, av_I v4), (6, av_I v6), (7, av_I v7)] [] h (f_M_agrees_124b v0 v4 v6 v7 h) := by
  unfold f_M_agrees_124b
  refine xs_step (fun K HC => xr_iload HC.1 63 126 (ix := 7) (j := 3) (x := v7) rfl rfl rfl) ?_
  refine xs_step (fun K HC => xr_iload HC.1 64 128 (ix := 4) (j := 1) (x := v4) rfl rfl rfl) ?_
  refine xs_ite (fun K HC => xr_icmp_gt HC.1 65 180 131 rfl (by decide) rfl) ?_ ?_
  · refine xs_step (fun K HC => xr_sub (lv' := [(0, av_R 11 (some v0)), (6, av_I v6)]) [0, 2] rfl) ?_
    exact xs_map (fun _ => rfl) (fun _ _ q => q) (t_M_agrees_180 v0 v6 h)
  refine xs_step (fun K HC => xr_iload HC.1 66 133 (ix := 6) (j := 2) (x := v6) rfl rfl rfl) ?_
  refine xs_ite (fun K HC => xr_if_eq HC.1 67 180 136 rfl (by decide) rfl) ?_ ?_
  · refine xs_step (fun K HC => xr_sub (lv' := [(0, av_R 11 (some v0)), (6, av_I v6)]) [0, 2] rfl) ?_
    exact xs_map (fun _ => rfl) (fun _ _ q => q) (t_M_agrees_180 v0 v6 h)
  refine xs_step (fun K HC => xr_aload_n HC.1 68 137 (n := 0) (ix := 0) (j := 0) (c := 11) (x := v0) rfl rfl rfl rfl) ?_
  refine xs_step (fun K HC => xr_aload_n HC.1 69 138 (n := 0) (ix := 0) (j := 0) (c := 11) (x := v0) rfl rfl rfl rfl) ?_
  refine xs_bind (fun q_6 eq_6 => ?_)
  refine xs_step (fun K HC => xr_getr HC.1 70 141 11 83 13 eq_6 rfl rfl wf_M_148 (by decide) fb_11_83 fc_11_83 fd_11_83) ?_
  refine xs_step (fun K HC => xr_iload HC.1 71 143 (ix := 7) (j := 3) (x := v7) rfl rfl rfl) ?_
  refine xs_chk (fun hb_7 => ?_)
  refine xs_step (fun K HC => xr_iald HC.1 72 144 (hp_in_vp hb_7) rfl rfl) ?_
  refine xs_calli (s_M_go v0 (hp_i h q_6 (v7).toNatClampNeg) h) (fun K HC x9 hM hmo hb => xr_callV HC.1 73 147 (av := [av_I (hp_i h q_6 (v7).toNatClampNeg)]) (st := []) (hM (kg K) (cx_l (kx K))) hmo hb rfl rfl wm_M_463 wi_M_go ws_M_go wc_M_go rfl wh_M_go (by decide) (by decide) (by decide) (Nat.le_of_ble_eq_true rfl) rfl) (fun x_8 => ?_)
  refine xs_step (fun K HC => xr_istore HC.1 74 149 (ix := 8) (lv' := [(0, av_R 11 (some v0)), (4, av_I v4), (6, av_I v6), (7, av_I v7), (8, av_I x_8.1)]) rfl rfl (by decide) rfl) ?_
  refine xs_step (fun K HC => xr_iload HC.1 75 151 (ix := 8) (j := 4) (x := x_8.1) rfl rfl rfl) ?_
  refine xs_ite (fun K HC => xr_if_eq HC.1 76 167 154 rfl (by decide) rfl) ?_ ?_
  · refine xs_step (fun K HC => xr_sub (lv' := [(0, av_R 11 (some v0)), (4, av_I v4), (7, av_I v7)]) [0, 1, 3] rfl) ?_
    exact t_M_agrees_167 v0 v4 v7 x_8.2
  refine xs_step (fun K HC => xr_iload HC.1 77 156 (ix := 8) (j := 4) (x := x_8.1) rfl rfl rfl) ?_
  refine xs_step (fun K HC => xr_iconst HC.1 78 157 (n := (1)) (1 : Int32) rfl rfl rfl) ?_
  refine xs_ite (fun K HC a b => xr_icmp_ne HC.1 79 171 160 rfl (by decide) rfl b a) ?_ ?_
  · refine xs_step (fun K HC => xr_iload HC.1 80 162 (ix := 7) (j := 3) (x := v7) rfl rfl rfl) ?_
    refine xs_step (fun K HC => xr_iload HC.1 81 164 (ix := 4) (j := 1) (x := v4) rfl rfl rfl) ?_
    refine xs_ite (fun K HC a b => xr_icmp_ne HC.1 82 171 167 rfl (by decide) rfl b a) ?_ ?_
    · refine xs_step (fun K HC => xr_sub (lv' := [(0, av_R 11 (some v0)), (4, av_I v4), (7, av_I v7)]) [0, 1, 3] rfl) ?_
      exact t_M_agrees_167 v0 v4 v7 x_8.2
    refine xs_step (fun K HC => xr_sub (lv' := [(0, av_R 11 (some v0)), (4, av_I v4), (7, av_I v7)]) [0, 1, 3] rfl) ?_
    exact t_M_agrees_171 v0 v4 v7 x_8.2
  refine xs_step (fun K HC => xr_sub (lv' := [(0, av_R 11 (some v0)), (4, av_I v4), (7, av_I v7)]) [0, 1, 3] rfl) ?_
  exact t_M_agrees_171 v0 v4 v7 x_8.2
theorem t_M_agrees_124 (v0 : Nat) (v4 : Int32) (v6 : Int32) (v7 : Int32) (h : HP) : xx_S (xx_D "LampYardModel" tb_M_agrees 9 5 (some .int) false) xz_i (fun K => xL_i K) 124 [(0, av_R 11 (some v0)), (4, av_I v4), (6, av_I v6), (7, av_I v7)] [] h (f_M_agrees_124 v0 v4 v6 v7 h) :=
  xs_loop (zf := xz_i) (L := (fun K => xL_i K)) (fun s : (Int32 × Int32 × HP) => [(0, av_R 11 (some v0)), (4, av_I v4), (6, av_I s.1), (7, av_I s.2.1)]) (fun s : (Int32 × Int32 × HP) => s.2.2) (fun s => t_M_agrees_124b v0 v4 s.1 s.2.1 s.2.2) (v6, v7, h)
set_option maxHeartbeats 4000000 in
set_option maxRecDepth 100000 in
theorem t_M_agrees_85 (v0 : Nat) (v1 : Int32) (v3 : Int32) (v4 : Int32) (v5 : Int32) (h : HP) : xx_S (xx_D "LampYardModel" tb_M_agrees 9 5 (some .int) false) xz_i (fun K => xL_i K) 85 [(0, av_R 11 (some v0)), (1, av_I v1), (3, av_I v3), (4, av_I v4), (5, av_I v5)] [] h (f_M_agrees_85 v0 v1 v3 v4 v5 h) := by
  unfold f_M_agrees_85
  refine xs_step (fun K HC => xr_aload_n HC.1 42 86 (n := 0) (ix := 0) (j := 0) (c := 11) (x := v0) rfl rfl rfl rfl) ?_
  refine xs_step (fun K HC => xr_iload_n HC.1 43 87 (n := 1) (ix := 1) (j := 1) (x := v1) rfl rfl rfl rfl) ?_
  refine xs_calli (s_M_isLight v0 v1 h) (fun K HC x9 hM hmo hb => xr_callV HC.1 44 90 (av := [av_I v1]) (st := []) (hM (kg K) (cx_l (kx K))) hmo hb rfl rfl wm_M_457 wi_M_isLight ws_M_isLight wc_M_isLight rfl wh_M_isLight (by decide) (by decide) (by decide) (Nat.le_of_ble_eq_true rfl) rfl) (fun x_2 => ?_)
  refine xs_ite (fun K HC => xr_if_eq HC.1 45 107 93 rfl (by decide) rfl) ?_ ?_
  · refine xs_step (fun K HC => xr_iconst HC.1 52 108 (n := (-1)) (-1 : Int32) rfl rfl rfl) ?_
    exact xs_reti 53 rfl rfl (fun K q => q) (fun ty ht => by cases ht; rfl)
  refine xs_step (fun K HC => xr_iload HC.1 46 95 (ix := 4) (j := 3) (x := v4) rfl rfl rfl) ?_
  refine xs_ite (fun K HC => xr_if_lt HC.1 47 107 98 rfl (by decide) rfl) ?_ ?_
  · refine xs_step (fun K HC => xr_iconst HC.1 52 108 (n := (-1)) (-1 : Int32) rfl rfl rfl) ?_
    exact xs_reti 53 rfl rfl (fun K q => q) (fun ty ht => by cases ht; rfl)
  refine xs_step (fun K HC => xr_iload HC.1 48 100 (ix := 5) (j := 4) (x := v5) rfl rfl rfl) ?_
  refine xs_ite (fun K HC => xr_if_eq HC.1 49 107 103 rfl (by decide) rfl) ?_ ?_
  · refine xs_step (fun K HC => xr_iconst HC.1 52 108 (n := (-1)) (-1 : Int32) rfl rfl rfl) ?_
    exact xs_reti 53 rfl rfl (fun K q => q) (fun ty ht => by cases ht; rfl)
  refine xs_step (fun K HC => xr_iload_n HC.1 50 104 (n := 3) (ix := 3) (j := 2) (x := v3) rfl rfl rfl rfl) ?_
  refine xs_ite (fun K HC => xr_if_ge HC.1 51 109 107 rfl (by decide) rfl) ?_ ?_
  · refine xs_step (fun K HC => xr_aload_n HC.1 54 110 (n := 0) (ix := 0) (j := 0) (c := 11) (x := v0) rfl rfl rfl rfl) ?_
    refine xs_callv (s_M_put v0 x_2.2) (fun K HC x9 hM hmo hb => xr_callV HC.1 55 113 (av := []) (st := []) (hM (kg K) (cx_l (kx K))) hmo hb rfl rfl wm_M_512 wi_M_put ws_M_put wc_M_put rfl wh_M_put (by decide) (by decide) (by decide) (Nat.le_of_ble_eq_true rfl) rfl) (fun x_3 => ?_)
    refine xs_step (fun K HC => xr_aload_n HC.1 56 114 (n := 0) (ix := 0) (j := 0) (c := 11) (x := v0) rfl rfl rfl rfl) ?_
    refine xs_step (fun K HC => xr_iload_n HC.1 57 115 (n := 1) (ix := 1) (j := 1) (x := v1) rfl rfl rfl rfl) ?_
    refine xs_callv (s_M_fresh v0 v1 x_3) (fun K HC x9 hM hmo hb => xr_callV HC.1 58 118 (av := [av_I v1]) (st := []) (hM (kg K) (cx_l (kx K))) hmo hb rfl rfl wm_M_448 wi_M_fresh ws_M_fresh wc_M_fresh rfl wh_M_fresh (by decide) (by decide) (by decide) (Nat.le_of_ble_eq_true rfl) rfl) (fun x_4 => ?_)
    refine xs_step (fun K HC => xr_iconst HC.1 59 119 (n := (1)) (1 : Int32) rfl rfl rfl) ?_
    refine xs_step (fun K HC => xr_istore HC.1 60 121 (ix := 6) (lv' := [(0, av_R 11 (some v0)), (1, av_I v1), (3, av_I v3), (4, av_I v4), (5, av_I v5), (6, av_I (1 : Int32))]) rfl rfl (by decide) rfl) ?_
    refine xs_step (fun K HC => xr_iconst HC.1 61 122 (n := (0)) (0 : Int32) rfl rfl rfl) ?_
    refine xs_step (fun K HC => xr_istore HC.1 62 124 (ix := 7) (lv' := [(0, av_R 11 (some v0)), (1, av_I v1), (3, av_I v3), (4, av_I v4), (5, av_I v5), (6, av_I (1 : Int32)), (7, av_I (0 : Int32))]) rfl rfl (by decide) rfl) ?_
    refine xs_step (fun K HC => xr_sub (lv' := [(0, av_R 11 (some v0)), (4, av_I v4), (6, av_I (1 : Int32)), (7, av_I (0 : Int32))]) [0, 3, 5, 6] rfl) ?_
    exact t_M_agrees_124 v0 v4 (1 : Int32) (0 : Int32) x_4
  refine xs_step (fun K HC => xr_iconst HC.1 52 108 (n := (-1)) (-1 : Int32) rfl rfl rfl) ?_
  exact xs_reti 53 rfl rfl (fun K q => q) (fun ty ht => by cases ht; rfl)
set_option maxHeartbeats 4000000 in
set_option maxRecDepth 100000 in
theorem t_M_agrees_77 (v0 : Nat) (v1 : Int32) (v3 : Int32) (v4 : Int32) (v6 : Int32) (s0 : Int32) (h : HP) : xx_S (xx_D "LampYardModel" tb_M_agrees 9 5 (some .int) false) (xx_z2 (fun s : (Int32 × Int32 × HP) => s.2.2) xz_i) (fun K => xx_L2 (fun s : (Int32 × Int32 × HP) => xx_X K 50 [(0, av_R 11 (some v0)), (1, av_I v1), (3, av_I v3), (4, av_I v4), (5, av_I s.1), (6, av_I s.2.1)] [] (s.2.2)) (xL_i K)) 77 [(0, av_R 11 (some v0)), (1, av_I v1), (3, av_I v3), (4, av_I v4), (6, av_I v6)] [av_I s0] h (f_M_agrees_77 v0 v1 v3 v4 v6 s0 h) := by
  unfold f_M_agrees_77
  refine xs_step (fun K HC => xr_istore HC.1 39 79 (ix := 5) (lv' := [(0, av_R 11 (some v0)), (1, av_I v1), (3, av_I v3), (4, av_I v4), (5, av_I s0), (6, av_I v6)]) rfl rfl (by decide) rfl) ?_
  refine xs_gen (fun v6_10 ev6_10 => ?_)
  refine xs_step (fun K HC => xr_iinc HC.1 40 82 (ix := 6) (j := 5) (n := (1)) (x := v6) v6_10 (lv' := [(0, av_R 11 (some v0)), (1, av_I v1), (3, av_I v3), (4, av_I v4), (5, av_I s0), (6, av_I v6_10)]) rfl (by rw [ev6_10]; rfl) rfl rfl (by decide) rfl) ?_
  refine xs_step (fun K HC => xr_goto HC.1 41 50 rfl (by decide)) ?_
  exact xs_back rfl (fun K q => q)
set_option maxHeartbeats 4000000 in
set_option maxRecDepth 100000 in
theorem t_M_agrees_76 (v0 : Nat) (v1 : Int32) (v3 : Int32) (v4 : Int32) (v6 : Int32) (h : HP) : xx_S (xx_D "LampYardModel" tb_M_agrees 9 5 (some .int) false) (xx_z2 (fun s : (Int32 × Int32 × HP) => s.2.2) xz_i) (fun K => xx_L2 (fun s : (Int32 × Int32 × HP) => xx_X K 50 [(0, av_R 11 (some v0)), (1, av_I v1), (3, av_I v3), (4, av_I v4), (5, av_I s.1), (6, av_I s.2.1)] [] (s.2.2)) (xL_i K)) 76 [(0, av_R 11 (some v0)), (1, av_I v1), (3, av_I v3), (4, av_I v4), (6, av_I v6)] [] h (f_M_agrees_76 v0 v1 v3 v4 v6 h) := by
  unfold f_M_agrees_76
  refine xs_step (fun K HC => xr_iconst HC.1 38 77 (n := (0)) (0 : Int32) rfl rfl rfl) ?_
  exact t_M_agrees_77 v0 v1 v3 v4 v6 (0 : Int32) h
set_option maxHeartbeats 4000000 in
set_option maxRecDepth 100000 in
theorem t_M_agrees_50b (v0 : Nat) (v1 : Int32) (v3 : Int32) (v4 : Int32) (v5 : Int32) (v6 : Int32) (h : HP) : xx_S (xx_D "LampYardModel" tb_M_agrees 9 5 (some .int) false) (xx_z2 (fun s : (Int32 × Int32 × HP) => s.2.2) xz_i) (fun K => xx_L2 (fun s : (Int32 × Int32 × HP) => xx_X K 50 [(0, av_R 11 (some v0)), (1, av_I v1), (3, av_I v3), (4, av_I v4), (5, av_I s.1), (6, av_I s.2.1)] [] (s.2.2)) (xL_i K)) 50 [(0, av_R 11 (some v0)), (1, av_I v1), (3, av_I v3), (4, av_I v4), (5, av_I v5), (6, av_I v6)] [] h (f_M_agrees_50b v0 v1 v3 v4 v5 v6 h) := by
  unfold f_M_agrees_50b
  refine xs_step (fun K HC => xr_iload HC.1 26 52 (ix := 6) (j := 5) (x := v6) rfl rfl rfl) ?_
  refine xs_step (fun K HC => xr_iload HC.1 27 54 (ix := 4) (j := 3) (x := v4) rfl rfl rfl) ?_
  refine xs_ite (fun K HC => xr_icmp_gt HC.1 28 85 57 rfl (by decide) rfl) ?_ ?_
  · refine xs_step (fun K HC => xr_sub (lv' := [(0, av_R 11 (some v0)), (1, av_I v1), (3, av_I v3), (4, av_I v4), (5, av_I v5)]) [0, 1, 2, 3, 4] rfl) ?_
    exact xs_map (fun _ => rfl) (fun _ _ q => q) (t_M_agrees_85 v0 v1 v3 v4 v5 h)
  refine xs_step (fun K HC => xr_iload HC.1 29 59 (ix := 5) (j := 4) (x := v5) rfl rfl rfl) ?_
  refine xs_ite (fun K HC => xr_if_eq HC.1 30 76 62 rfl (by decide) rfl) ?_ ?_
  · refine xs_step (fun K HC => xr_sub (lv' := [(0, av_R 11 (some v0)), (1, av_I v1), (3, av_I v3), (4, av_I v4), (6, av_I v6)]) [0, 1, 2, 3, 5] rfl) ?_
    exact t_M_agrees_76 v0 v1 v3 v4 v6 h
  refine xs_step (fun K HC => xr_aload_n HC.1 31 63 (n := 0) (ix := 0) (j := 0) (c := 11) (x := v0) rfl rfl rfl rfl) ?_
  refine xs_bind (fun q_11 eq_11 => ?_)
  refine xs_step (fun K HC => xr_getr HC.1 32 66 11 83 13 eq_11 rfl rfl wf_M_148 (by decide) fb_11_83 fc_11_83 fd_11_83) ?_
  refine xs_step (fun K HC => xr_iload HC.1 33 68 (ix := 6) (j := 5) (x := v6) rfl rfl rfl) ?_
  refine xs_chk (fun hb_12 => ?_)
  refine xs_step (fun K HC => xr_iald HC.1 34 69 (hp_in_vp hb_12) rfl rfl) ?_
  refine xs_ite (fun K HC => xr_if_lt HC.1 35 76 72 rfl (by decide) rfl) ?_ ?_
  · refine xs_step (fun K HC => xr_sub (lv' := [(0, av_R 11 (some v0)), (1, av_I v1), (3, av_I v3), (4, av_I v4), (6, av_I v6)]) [0, 1, 2, 3, 5] rfl) ?_
    exact t_M_agrees_76 v0 v1 v3 v4 v6 h
  refine xs_step (fun K HC => xr_iconst HC.1 36 73 (n := (1)) (1 : Int32) rfl rfl rfl) ?_
  refine xs_step (fun K HC => xr_goto HC.1 37 77 rfl (by decide)) ?_
  refine xs_step (fun K HC => xr_sub (lv' := [(0, av_R 11 (some v0)), (1, av_I v1), (3, av_I v3), (4, av_I v4), (6, av_I v6)]) [0, 1, 2, 3, 5] rfl) ?_
  exact t_M_agrees_77 v0 v1 v3 v4 v6 (1 : Int32) h
theorem t_M_agrees_50 (v0 : Nat) (v1 : Int32) (v3 : Int32) (v4 : Int32) (v5 : Int32) (v6 : Int32) (h : HP) : xx_S (xx_D "LampYardModel" tb_M_agrees 9 5 (some .int) false) xz_i (fun K => xL_i K) 50 [(0, av_R 11 (some v0)), (1, av_I v1), (3, av_I v3), (4, av_I v4), (5, av_I v5), (6, av_I v6)] [] h (f_M_agrees_50 v0 v1 v3 v4 v5 v6 h) :=
  xs_loop (zf := xz_i) (L := (fun K => xL_i K)) (fun s : (Int32 × Int32 × HP) => [(0, av_R 11 (some v0)), (1, av_I v1), (3, av_I v3), (4, av_I v4), (5, av_I s.1), (6, av_I s.2.1)]) (fun s : (Int32 × Int32 × HP) => s.2.2) (fun s => t_M_agrees_50b v0 v1 v3 v4 s.1 s.2.1 s.2.2) (v5, v6, h)
set_option maxHeartbeats 4000000 in
set_option maxRecDepth 100000 in
theorem t_M_agrees_47 (v0 : Nat) (v1 : Int32) (v3 : Int32) (v4 : Int32) (v5 : Int32) (h : HP) : xx_S (xx_D "LampYardModel" tb_M_agrees 9 5 (some .int) false) xz_i (fun K => xL_i K) 47 [(0, av_R 11 (some v0)), (1, av_I v1), (3, av_I v3), (4, av_I v4), (5, av_I v5)] [] h (f_M_agrees_47 v0 v1 v3 v4 v5 h) := by
  unfold f_M_agrees_47
  refine xs_step (fun K HC => xr_iconst HC.1 24 48 (n := (0)) (0 : Int32) rfl rfl rfl) ?_
  refine xs_step (fun K HC => xr_istore HC.1 25 50 (ix := 6) (lv' := [(0, av_R 11 (some v0)), (1, av_I v1), (3, av_I v3), (4, av_I v4), (5, av_I v5), (6, av_I (0 : Int32))]) rfl rfl (by decide) rfl) ?_
  exact t_M_agrees_50 v0 v1 v3 v4 v5 (0 : Int32) h
set_option maxHeartbeats 4000000 in
set_option maxRecDepth 100000 in
theorem t_M_agrees_39 (v0 : Nat) (v1 : Int32) (v3 : Int32) (v5 : Int32) (v6 : Int32) (s0 : Int32) (h : HP) : xx_S (xx_D "LampYardModel" tb_M_agrees 9 5 (some .int) false) (xx_z2 (fun s : (Int32 × Int32 × HP) => s.2.2) xz_i) (fun K => xx_L2 (fun s : (Int32 × Int32 × HP) => xx_X K 15 [(0, av_R 11 (some v0)), (1, av_I v1), (3, av_I v3), (4, av_I s.1), (5, av_I v5), (6, av_I s.2.1)] [] (s.2.2)) (xL_i K)) 39 [(0, av_R 11 (some v0)), (1, av_I v1), (3, av_I v3), (5, av_I v5), (6, av_I v6)] [av_I s0] h (f_M_agrees_39 v0 v1 v3 v5 v6 s0 h) := by
  unfold f_M_agrees_39
  refine xs_step (fun K HC => xr_istore HC.1 21 41 (ix := 4) (lv' := [(0, av_R 11 (some v0)), (1, av_I v1), (3, av_I v3), (4, av_I s0), (5, av_I v5), (6, av_I v6)]) rfl rfl (by decide) rfl) ?_
  refine xs_gen (fun v6_15 ev6_15 => ?_)
  refine xs_step (fun K HC => xr_iinc HC.1 22 44 (ix := 6) (j := 5) (n := (1)) (x := v6) v6_15 (lv' := [(0, av_R 11 (some v0)), (1, av_I v1), (3, av_I v3), (4, av_I s0), (5, av_I v5), (6, av_I v6_15)]) rfl (by rw [ev6_15]; rfl) rfl rfl (by decide) rfl) ?_
  refine xs_step (fun K HC => xr_goto HC.1 23 15 rfl (by decide)) ?_
  exact xs_back rfl (fun K q => q)
set_option maxHeartbeats 4000000 in
set_option maxRecDepth 100000 in
theorem t_M_agrees_15b (v0 : Nat) (v1 : Int32) (v3 : Int32) (v5 : Int32) (v4 : Int32) (v6 : Int32) (h : HP) : xx_S (xx_D "LampYardModel" tb_M_agrees 9 5 (some .int) false) (xx_z2 (fun s : (Int32 × Int32 × HP) => s.2.2) xz_i) (fun K => xx_L2 (fun s : (Int32 × Int32 × HP) => xx_X K 15 [(0, av_R 11 (some v0)), (1, av_I v1), (3, av_I v3), (4, av_I s.1), (5, av_I v5), (6, av_I s.2.1)] [] (s.2.2)) (xL_i K)) 15 [(0, av_R 11 (some v0)), (1, av_I v1), (3, av_I v3), (4, av_I v4), (5, av_I v5), (6, av_I v6)] [] h (f_M_agrees_15b v0 v1 v3 v5 v4 v6 h) := by
  unfold f_M_agrees_15b
  refine xs_step (fun K HC => xr_iload HC.1 10 17 (ix := 6) (j := 5) (x := v6) rfl rfl rfl) ?_
  refine xs_step (fun K HC => xr_bipush HC.1 11 19 (n := (100)) (100 : Int32) rfl rfl rfl) ?_
  refine xs_ite (fun K HC => xr_icmp_ge HC.1 12 47 22 rfl (by decide) rfl) ?_ ?_
  · refine xs_step (fun K HC => xr_sub (lv' := [(0, av_R 11 (some v0)), (1, av_I v1), (3, av_I v3), (4, av_I v4), (5, av_I v5)]) [0, 1, 2, 3, 4] rfl) ?_
    exact xs_map (fun _ => rfl) (fun _ _ q => q) (t_M_agrees_47 v0 v1 v3 v4 v5 h)
  refine xs_step (fun K HC => xr_aload_n HC.1 13 23 (n := 0) (ix := 0) (j := 0) (c := 11) (x := v0) rfl rfl rfl rfl) ?_
  refine xs_bind (fun q_13 eq_13 => ?_)
  refine xs_step (fun K HC => xr_getr HC.1 14 26 11 83 13 eq_13 rfl rfl wf_M_148 (by decide) fb_11_83 fc_11_83 fd_11_83) ?_
  refine xs_step (fun K HC => xr_iload HC.1 15 28 (ix := 6) (j := 5) (x := v6) rfl rfl rfl) ?_
  refine xs_chk (fun hb_14 => ?_)
  refine xs_step (fun K HC => xr_iald HC.1 16 29 (hp_in_vp hb_14) rfl rfl) ?_
  refine xs_ite (fun K HC => xr_if_lt HC.1 17 37 32 rfl (by decide) rfl) ?_ ?_
  · refine xs_step (fun K HC => xr_iload HC.1 20 39 (ix := 4) (j := 3) (x := v4) rfl rfl rfl) ?_
    refine xs_step (fun K HC => xr_sub (lv' := [(0, av_R 11 (some v0)), (1, av_I v1), (3, av_I v3), (5, av_I v5), (6, av_I v6)]) [0, 1, 2, 4, 5] rfl) ?_
    exact t_M_agrees_39 v0 v1 v3 v5 v6 v4 h
  refine xs_step (fun K HC => xr_iload HC.1 18 34 (ix := 6) (j := 5) (x := v6) rfl rfl rfl) ?_
  refine xs_step (fun K HC => xr_goto HC.1 19 39 rfl (by decide)) ?_
  refine xs_step (fun K HC => xr_sub (lv' := [(0, av_R 11 (some v0)), (1, av_I v1), (3, av_I v3), (5, av_I v5), (6, av_I v6)]) [0, 1, 2, 4, 5] rfl) ?_
  exact t_M_agrees_39 v0 v1 v3 v5 v6 v6 h
theorem t_M_agrees_15 (v0 : Nat) (v1 : Int32) (v3 : Int32) (v5 : Int32) (v4 : Int32) (v6 : Int32) (h : HP) : xx_S (xx_D "LampYardModel" tb_M_agrees 9 5 (some .int) false) xz_i (fun K => xL_i K) 15 [(0, av_R 11 (some v0)), (1, av_I v1), (3, av_I v3), (4, av_I v4), (5, av_I v5), (6, av_I v6)] [] h (f_M_agrees_15 v0 v1 v3 v5 v4 v6 h) :=
  xs_loop (zf := xz_i) (L := (fun K => xL_i K)) (fun s : (Int32 × Int32 × HP) => [(0, av_R 11 (some v0)), (1, av_I v1), (3, av_I v3), (4, av_I s.1), (5, av_I v5), (6, av_I s.2.1)]) (fun s : (Int32 × Int32 × HP) => s.2.2) (fun s => t_M_agrees_15b v0 v1 v3 v5 s.1 s.2.1 s.2.2) (v4, v6, h)
set_option maxHeartbeats 4000000 in
set_option maxRecDepth 100000 in
theorem t_M_agrees (v0 : Nat) (v1 : Int32) (v2 : Int32) (h : HP) : xx_S (xx_D "LampYardModel" tb_M_agrees 9 5 (some .int) false) xz_i (fun K => xL_i K) 0 [(0, av_R 11 (some v0)), (1, av_I v1), (2, av_I v2)] [] h (f_M_agrees v0 v1 v2 h) := by
  unfold f_M_agrees
  refine xs_step (fun K HC => xr_aload_n HC.1 0 1 (n := 0) (ix := 0) (j := 0) (c := 11) (x := v0) rfl rfl rfl rfl) ?_
  refine xs_step (fun K HC => xr_iload_n HC.1 1 2 (n := 2) (ix := 2) (j := 2) (x := v2) rfl rfl rfl rfl) ?_
  refine xs_calli (s_M_layLogs v0 v2 h) (fun K HC x9 hM hmo hb => xr_callV HC.1 2 5 (av := [av_I v2]) (st := []) (hM (kg K) (cx_l (kx K))) hmo hb rfl rfl wm_M_584 wi_M_layLogs ws_M_layLogs wc_M_layLogs rfl wh_M_layLogs (by decide) (by decide) (by decide) (Nat.le_of_ble_eq_true rfl) rfl) (fun x_1 => ?_)
  refine xs_step (fun K HC => xr_istore_n HC.1 3 6 (n := 3) (ix := 3) (lv' := [(0, av_R 11 (some v0)), (1, av_I v1), (2, av_I v2), (3, av_I x_1.1)]) rfl rfl rfl (by decide) rfl) ?_
  refine xs_step (fun K HC => xr_iconst HC.1 4 7 (n := (-1)) (-1 : Int32) rfl rfl rfl) ?_
  refine xs_step (fun K HC => xr_istore HC.1 5 9 (ix := 4) (lv' := [(0, av_R 11 (some v0)), (1, av_I v1), (2, av_I v2), (3, av_I x_1.1), (4, av_I (-1 : Int32))]) rfl rfl (by decide) rfl) ?_
  refine xs_step (fun K HC => xr_iconst HC.1 6 10 (n := (1)) (1 : Int32) rfl rfl rfl) ?_
  refine xs_step (fun K HC => xr_istore HC.1 7 12 (ix := 5) (lv' := [(0, av_R 11 (some v0)), (1, av_I v1), (2, av_I v2), (3, av_I x_1.1), (4, av_I (-1 : Int32)), (5, av_I (1 : Int32))]) rfl rfl (by decide) rfl) ?_
  refine xs_step (fun K HC => xr_iconst HC.1 8 13 (n := (0)) (0 : Int32) rfl rfl rfl) ?_
  refine xs_step (fun K HC => xr_istore HC.1 9 15 (ix := 6) (lv' := [(0, av_R 11 (some v0)), (1, av_I v1), (2, av_I v2), (3, av_I x_1.1), (4, av_I (-1 : Int32)), (5, av_I (1 : Int32)), (6, av_I (0 : Int32))]) rfl rfl (by decide) rfl) ?_
  refine xs_step (fun K HC => xr_sub (lv' := [(0, av_R 11 (some v0)), (1, av_I v1), (3, av_I x_1.1), (4, av_I (-1 : Int32)), (5, av_I (1 : Int32)), (6, av_I (0 : Int32))]) [0, 1, 3, 4, 5, 6] rfl) ?_
  exact t_M_agrees_15 v0 v1 x_1.1 (1 : Int32) (-1 : Int32) (0 : Int32) x_1.2
theorem s_M_agrees (v0 : Nat) (v1 : Int32) (v2 : Int32) (h : HP) : ∀ x, f_M_agrees v0 v1 v2 h = some x → hp_mo h x.2 ∧ ∀ g l, xx_M g l y_M_agrees prog_14_method_101_code 9 (some .int) 5 [av_R 11 (some v0), av_I v1, av_I v2] h (some (av_I x.1)) x.2 :=
  xM_i (tb := tb_M_agrees) (b := false) (by decide +kernel) dt_M_agrees (fun _ => trivial) (Nat.le_of_ble_eq_true rfl) (fun hb => by cases hb) (t_M_agrees v0 v1 v2 h)
def tb_M_isBox : TBL := [(0, .iload_n 0, 1), (1, .ifCond .lt 12, 3), (4, .iload_n 0, 1), (5, .iconst 3, 1), (6, .if_icmp .ge 7, 3), (9, .iconst 1, 1), (10, .goto 4, 3), (13, .iconst 0, 1), (14, .ireturn, 1)]
theorem dt_M_isBox : ∀ q ∈ tb_M_isBox, decode prog_14_method_102_code q.1 = .ok (q.2.1, q.2.2) := by decide +kernel
set_option maxHeartbeats 4000000 in
set_option maxRecDepth 100000 in
theorem t_M_isBox (v0 : Int32) (h : HP) : xx_S (xx_D "LampYardModel" tb_M_isBox 1 1 (some .boolean) false) xz_i (fun K => xL_i K) 0 [(0, av_I v0)] [] h (f_M_isBox v0 h) := by
  unfold f_M_isBox
  refine xs_step (fun K HC => xr_iload_n HC.1 0 1 (n := 0) (ix := 0) (j := 0) (x := v0) rfl rfl rfl rfl) ?_
  refine xs_ite (fun K HC => xr_if_lt HC.1 1 13 4 rfl (by decide) rfl) ?_ ?_
  · refine xs_step (fun K HC => xr_iconst HC.1 7 14 (n := (0)) (0 : Int32) rfl rfl rfl) ?_
    exact xs_reti 8 rfl rfl (fun K q => q) (fun ty ht => by cases ht; rfl)
  refine xs_step (fun K HC => xr_iload_n HC.1 2 5 (n := 0) (ix := 0) (j := 0) (x := v0) rfl rfl rfl rfl) ?_
  refine xs_step (fun K HC => xr_iconst HC.1 3 6 (n := (3)) (3 : Int32) rfl rfl rfl) ?_
  refine xs_ite (fun K HC => xr_icmp_ge HC.1 4 13 9 rfl (by decide) rfl) ?_ ?_
  · refine xs_step (fun K HC => xr_iconst HC.1 7 14 (n := (0)) (0 : Int32) rfl rfl rfl) ?_
    exact xs_reti 8 rfl rfl (fun K q => q) (fun ty ht => by cases ht; rfl)
  refine xs_step (fun K HC => xr_iconst HC.1 5 10 (n := (1)) (1 : Int32) rfl rfl rfl) ?_
  refine xs_step (fun K HC => xr_goto HC.1 6 14 rfl (by decide)) ?_
  exact xs_reti 8 rfl rfl (fun K q => q) (fun ty ht => by cases ht; rfl)
theorem s_M_isBox (v0 : Int32) (h : HP) : ∀ x, f_M_isBox v0 h = some x → hp_mo h x.2 ∧ ∀ g l, xx_M g l y_M_isBox prog_14_method_102_code 1 (some .boolean) 1 [av_I v0] h (some (av_I x.1)) x.2 :=
  xM_i (tb := tb_M_isBox) (b := false) (by decide +kernel) dt_M_isBox (fun _ => trivial) (Nat.le_of_ble_eq_true rfl) (fun hb => by cases hb) (t_M_isBox v0 h)
def tb_M_image : TBL := [(0, .iload_n 1, 1), (1, .invokestatic 587, 3), (4, .ifCond .ne 5, 3), (7, .iconst (-1), 1), (8, .ireturn, 1), (9, .aload_n 0, 1), (10, .getfield 154, 3), (13, .iload_n 1, 1), (14, .iconst 1, 1), (15, .bastore, 1), (16, .aload_n 0, 1), (17, .getfield 157, 3), (20, .iload_n 1, 1), (21, .aload_n 0, 1), (22, .getfield 454, 3), (25, .bastore, 1), (26, .aload_n 0, 1), (27, .getfield 172, 3), (30, .iload_n 1, 1), (31, .aload_n 0, 1), (32, .getfield 413, 3), (35, .iastore, 1), (36, .aload_n 0, 1), (37, .getfield 175, 3), (40, .iload_n 1, 1), (41, .aload_n 0, 1), (42, .getfield 416, 3), (45, .iastore, 1), (46, .aload_n 0, 1), (47, .getfield 178, 3), (50, .iload_n 1, 1), (51, .aload_n 0, 1), (52, .getfield 451, 3), (55, .iastore, 1), (56, .iconst 0, 1), (57, .istore_n 2, 1), (58, .iload_n 2, 1), (59, .bipush 6, 2), (61, .if_icmp .ge 77, 3), (64, .aload_n 0, 1), (65, .getfield 163, 3), (68, .bipush 6, 2), (70, .iload_n 1, 1), (71, .imul, 1), (72, .iload_n 2, 1), (73, .iadd, 1), (74, .aload_n 0, 1), (75, .getfield 73, 3), (78, .iload_n 2, 1), (79, .iaload, 1), (80, .iastore, 1), (81, .aload_n 0, 1), (82, .getfield 166, 3), (85, .bipush 6, 2), (87, .iload_n 1, 1), (88, .imul, 1), (89, .iload_n 2, 1), (90, .iadd, 1), (91, .aload_n 0, 1), (92, .getfield 76, 3), (95, .iload_n 2, 1), (96, .iaload, 1), (97, .iastore, 1), (98, .aload_n 0, 1), (99, .getfield 160, 3), (102, .bipush 6, 2), (104, .iload_n 1, 1), (105, .imul, 1), (106, .iload_n 2, 1), (107, .iadd, 1), (108, .aload_n 0, 1), (109, .getfield 82, 3), (112, .iload_n 2, 1), (113, .baload, 1), (114, .bastore, 1), (115, .aload_n 0, 1), (116, .getfield 169, 3), (119, .bipush 6, 2), (121, .iload_n 1, 1), (122, .imul, 1), (123, .iload_n 2, 1), (124, .iadd, 1), (125, .aload_n 0, 1), (126, .getfield 79, 3), (129, .iload_n 2, 1), (130, .iaload, 1), (131, .iastore, 1), (132, .iinc 2 1, 3), (135, .goto (-77), 3), (138, .aload_n 0, 1), (139, .getfield 451, 3), (142, .ireturn, 1)]
theorem dt_M_image : ∀ q ∈ tb_M_image, decode prog_14_method_103_code q.1 = .ok (q.2.1, q.2.2) := by decide +kernel
set_option maxHeartbeats 4000000 in
set_option maxRecDepth 100000 in
theorem t_M_image_58b (v0 : Nat) (v1 : Int32) (v2 : Int32) (h : HP) : xx_S (xx_D "LampYardModel" tb_M_image 3 2 (some .int) false) (xx_z2 (fun s : (Int32 × HP) => s.2) xz_i) (fun K => xx_L2 (fun s : (Int32 × HP) => xx_X K 58 [(0, av_R 11 (some v0)), (1, av_I v1), (2, av_I s.1)] [] (s.2)) (xL_i K)) 58 [(0, av_R 11 (some v0)), (1, av_I v1), (2, av_I v2)] [] h (f_M_image_58b v0 v1 v2 h) := by
  unfold f_M_image_58b
  refine xs_step (fun K HC => xr_iload_n HC.1 36 59 (n := 2) (ix := 2) (j := 2) (x := v2) rfl rfl rfl rfl) ?_
  refine xs_step (fun K HC => xr_bipush HC.1 37 61 (n := (6)) (6 : Int32) rfl rfl rfl) ?_
  refine xs_ite (fun K HC => xr_icmp_ge HC.1 38 138 64 rfl (by decide) rfl) ?_ ?_
  · refine xs_step (fun K HC => xr_aload_n HC.1 89 139 (n := 0) (ix := 0) (j := 0) (c := 11) (x := v0) rfl rfl rfl rfl) ?_
    refine xs_step (fun K HC => xr_geti HC.1 90 142 11 55 rfl rfl wf_M_451 (by decide) fb_11_55 fc_11_55) ?_
    exact xs_reti 91 rfl rfl (fun K q => q) (fun ty ht => by cases ht; rfl)
  refine xs_step (fun K HC => xr_aload_n HC.1 39 65 (n := 0) (ix := 0) (j := 0) (c := 11) (x := v0) rfl rfl rfl rfl) ?_
  refine xs_bind (fun q_17 eq_17 => ?_)
  refine xs_step (fun K HC => xr_getr HC.1 40 68 11 90 13 eq_17 rfl rfl wf_M_163 (by decide) fb_11_90 fc_11_90 fd_11_90) ?_
  refine xs_step (fun K HC => xr_bipush HC.1 41 70 (n := (6)) (6 : Int32) rfl rfl rfl) ?_
  refine xs_step (fun K HC => xr_iload_n HC.1 42 71 (n := 1) (ix := 1) (j := 1) (x := v1) rfl rfl rfl rfl) ?_
  refine xs_step (fun K HC => xr_imul HC.1 43 72 rfl rfl) ?_
  refine xs_step (fun K HC => xr_iload_n HC.1 44 73 (n := 2) (ix := 2) (j := 2) (x := v2) rfl rfl rfl rfl) ?_
  refine xs_step (fun K HC => xr_iadd HC.1 45 74 rfl rfl) ?_
  refine xs_step (fun K HC => xr_aload_n HC.1 46 75 (n := 0) (ix := 0) (j := 0) (c := 11) (x := v0) rfl rfl rfl rfl) ?_
  refine xs_bind (fun q_18 eq_18 => ?_)
  refine xs_step (fun K HC => xr_getr HC.1 47 78 11 47 13 eq_18 rfl rfl wf_M_73 (by decide) fb_11_47 fc_11_47 fd_11_47) ?_
  refine xs_step (fun K HC => xr_iload_n HC.1 48 79 (n := 2) (ix := 2) (j := 2) (x := v2) rfl rfl rfl rfl) ?_
  refine xs_chk (fun hb_19 => ?_)
  refine xs_step (fun K HC => xr_iald HC.1 49 80 (hp_in_vp hb_19) rfl rfl) ?_
  refine xs_chk (fun hb_20 => ?_)
  refine xs_heap (hp_mo_si _ _ _ _) (fun K HC => xr_iast HC.1 50 81 (hp_in_vp hb_20) rfl rfl) (fun h_21 => ?_)
  refine xs_step (fun K HC => xr_aload_n HC.1 51 82 (n := 0) (ix := 0) (j := 0) (c := 11) (x := v0) rfl rfl rfl rfl) ?_
  refine xs_bind (fun q_22 eq_22 => ?_)
  refine xs_step (fun K HC => xr_getr HC.1 52 85 11 91 13 eq_22 rfl rfl wf_M_166 (by decide) fb_11_91 fc_11_91 fd_11_91) ?_
  refine xs_step (fun K HC => xr_bipush HC.1 53 87 (n := (6)) (6 : Int32) rfl rfl rfl) ?_
  refine xs_step (fun K HC => xr_iload_n HC.1 54 88 (n := 1) (ix := 1) (j := 1) (x := v1) rfl rfl rfl rfl) ?_
  refine xs_step (fun K HC => xr_imul HC.1 55 89 rfl rfl) ?_
  refine xs_step (fun K HC => xr_iload_n HC.1 56 90 (n := 2) (ix := 2) (j := 2) (x := v2) rfl rfl rfl rfl) ?_
  refine xs_step (fun K HC => xr_iadd HC.1 57 91 rfl rfl) ?_
  refine xs_step (fun K HC => xr_aload_n HC.1 58 92 (n := 0) (ix := 0) (j := 0) (c := 11) (x := v0) rfl rfl rfl rfl) ?_
  refine xs_bind (fun q_23 eq_23 => ?_)
  refine xs_step (fun K HC => xr_getr HC.1 59 95 11 48 13 eq_23 rfl rfl wf_M_76 (by decide) fb_11_48 fc_11_48 fd_11_48) ?_
  refine xs_step (fun K HC => xr_iload_n HC.1 60 96 (n := 2) (ix := 2) (j := 2) (x := v2) rfl rfl rfl rfl) ?_
  refine xs_chk (fun hb_24 => ?_)
  refine xs_step (fun K HC => xr_iald HC.1 61 97 (hp_in_vp hb_24) rfl rfl) ?_
  refine xs_chk (fun hb_25 => ?_)
  refine xs_heap (hp_mo_si _ _ _ _) (fun K HC => xr_iast HC.1 62 98 (hp_in_vp hb_25) rfl rfl) (fun h_26 => ?_)
  refine xs_step (fun K HC => xr_aload_n HC.1 63 99 (n := 0) (ix := 0) (j := 0) (c := 11) (x := v0) rfl rfl rfl rfl) ?_
  refine xs_bind (fun q_27 eq_27 => ?_)
  refine xs_step (fun K HC => xr_getr HC.1 64 102 11 89 15 eq_27 rfl rfl wf_M_160 (by decide) fb_11_89 fc_11_89 fd_11_89) ?_
  refine xs_step (fun K HC => xr_bipush HC.1 65 104 (n := (6)) (6 : Int32) rfl rfl rfl) ?_
  refine xs_step (fun K HC => xr_iload_n HC.1 66 105 (n := 1) (ix := 1) (j := 1) (x := v1) rfl rfl rfl rfl) ?_
  refine xs_step (fun K HC => xr_imul HC.1 67 106 rfl rfl) ?_
  refine xs_step (fun K HC => xr_iload_n HC.1 68 107 (n := 2) (ix := 2) (j := 2) (x := v2) rfl rfl rfl rfl) ?_
  refine xs_step (fun K HC => xr_iadd HC.1 69 108 rfl rfl) ?_
  refine xs_step (fun K HC => xr_aload_n HC.1 70 109 (n := 0) (ix := 0) (j := 0) (c := 11) (x := v0) rfl rfl rfl rfl) ?_
  refine xs_bind (fun q_28 eq_28 => ?_)
  refine xs_step (fun K HC => xr_getr HC.1 71 112 11 50 15 eq_28 rfl rfl wf_M_82 (by decide) fb_11_50 fc_11_50 fd_11_50) ?_
  refine xs_step (fun K HC => xr_iload_n HC.1 72 113 (n := 2) (ix := 2) (j := 2) (x := v2) rfl rfl rfl rfl) ?_
  refine xs_chk (fun hb_29 => ?_)
  refine xs_step (fun K HC => xr_zald HC.1 73 114 (hp_in_vp hb_29) rfl rfl) ?_
  refine xs_chk (fun hb_30 => ?_)
  refine xs_heap (hp_mo_si _ _ _ _) (fun K HC => xr_zast HC.1 74 115 (hp_in_vp hb_30) rfl rfl) (fun h_31 => ?_)
  refine xs_step (fun K HC => xr_aload_n HC.1 75 116 (n := 0) (ix := 0) (j := 0) (c := 11) (x := v0) rfl rfl rfl rfl) ?_
  refine xs_bind (fun q_32 eq_32 => ?_)
  refine xs_step (fun K HC => xr_getr HC.1 76 119 11 92 13 eq_32 rfl rfl wf_M_169 (by decide) fb_11_92 fc_11_92 fd_11_92) ?_
  refine xs_step (fun K HC => xr_bipush HC.1 77 121 (n := (6)) (6 : Int32) rfl rfl rfl) ?_
  refine xs_step (fun K HC => xr_iload_n HC.1 78 122 (n := 1) (ix := 1) (j := 1) (x := v1) rfl rfl rfl rfl) ?_
  refine xs_step (fun K HC => xr_imul HC.1 79 123 rfl rfl) ?_
  refine xs_step (fun K HC => xr_iload_n HC.1 80 124 (n := 2) (ix := 2) (j := 2) (x := v2) rfl rfl rfl rfl) ?_
  refine xs_step (fun K HC => xr_iadd HC.1 81 125 rfl rfl) ?_
  refine xs_step (fun K HC => xr_aload_n HC.1 82 126 (n := 0) (ix := 0) (j := 0) (c := 11) (x := v0) rfl rfl rfl rfl) ?_
  refine xs_bind (fun q_33 eq_33 => ?_)
  refine xs_step (fun K HC => xr_getr HC.1 83 129 11 49 13 eq_33 rfl rfl wf_M_79 (by decide) fb_11_49 fc_11_49 fd_11_49) ?_
  refine xs_step (fun K HC => xr_iload_n HC.1 84 130 (n := 2) (ix := 2) (j := 2) (x := v2) rfl rfl rfl rfl) ?_
  refine xs_chk (fun hb_34 => ?_)
  refine xs_step (fun K HC => xr_iald HC.1 85 131 (hp_in_vp hb_34) rfl rfl) ?_
  refine xs_chk (fun hb_35 => ?_)
  refine xs_heap (hp_mo_si _ _ _ _) (fun K HC => xr_iast HC.1 86 132 (hp_in_vp hb_35) rfl rfl) (fun h_36 => ?_)
  refine xs_gen (fun v2_37 ev2_37 => ?_)
  refine xs_step (fun K HC => xr_iinc HC.1 87 135 (ix := 2) (j := 2) (n := (1)) (x := v2) v2_37 (lv' := [(0, av_R 11 (some v0)), (1, av_I v1), (2, av_I v2_37)]) rfl (by rw [ev2_37]; rfl) rfl rfl (by decide) rfl) ?_
  refine xs_step (fun K HC => xr_goto HC.1 88 58 rfl (by decide)) ?_
  exact xs_back rfl (fun K q => q)
theorem t_M_image_58 (v0 : Nat) (v1 : Int32) (v2 : Int32) (h : HP) : xx_S (xx_D "LampYardModel" tb_M_image 3 2 (some .int) false) xz_i (fun K => xL_i K) 58 [(0, av_R 11 (some v0)), (1, av_I v1), (2, av_I v2)] [] h (f_M_image_58 v0 v1 v2 h) :=
  xs_loop (zf := xz_i) (L := (fun K => xL_i K)) (fun s : (Int32 × HP) => [(0, av_R 11 (some v0)), (1, av_I v1), (2, av_I s.1)]) (fun s : (Int32 × HP) => s.2) (fun s => t_M_image_58b v0 v1 s.1 s.2) (v2, h)
set_option maxHeartbeats 4000000 in
set_option maxRecDepth 100000 in
theorem t_M_image (v0 : Nat) (v1 : Int32) (h : HP) : xx_S (xx_D "LampYardModel" tb_M_image 3 2 (some .int) false) xz_i (fun K => xL_i K) 0 [(0, av_R 11 (some v0)), (1, av_I v1)] [] h (f_M_image v0 v1 h) := by
  unfold f_M_image
  refine xs_step (fun K HC => xr_iload_n HC.1 0 1 (n := 1) (ix := 1) (j := 1) (x := v1) rfl rfl rfl rfl) ?_
  refine xs_calli (s_M_isBox v1 h) (fun K HC x9 hM hmo hb => xr_callS HC.1 1 4 (av := [av_I v1]) (st := []) (hM (kg K) (cx_l (kx K))) hmo hb rfl rfl wm_M_587 wt_M_isBox wn_M_isBox wc_M_isBox wh_M_isBox (by decide) (by decide) (Nat.le_of_ble_eq_true rfl) rfl) (fun x_1 => ?_)
  refine xs_ite (fun K HC a b => xr_if_ne HC.1 2 9 7 rfl (by decide) rfl b a) ?_ ?_
  · refine xs_step (fun K HC => xr_iconst HC.1 3 8 (n := (-1)) (-1 : Int32) rfl rfl rfl) ?_
    exact xs_reti 4 rfl rfl (fun K q => q) (fun ty ht => by cases ht; rfl)
  refine xs_step (fun K HC => xr_aload_n HC.1 5 10 (n := 0) (ix := 0) (j := 0) (c := 11) (x := v0) rfl rfl rfl rfl) ?_
  refine xs_bind (fun q_2 eq_2 => ?_)
  refine xs_step (fun K HC => xr_getr HC.1 6 13 11 87 15 eq_2 rfl rfl wf_M_154 (by decide) fb_11_87 fc_11_87 fd_11_87) ?_
  refine xs_step (fun K HC => xr_iload_n HC.1 7 14 (n := 1) (ix := 1) (j := 1) (x := v1) rfl rfl rfl rfl) ?_
  refine xs_step (fun K HC => xr_iconst HC.1 8 15 (n := (1)) (1 : Int32) rfl rfl rfl) ?_
  refine xs_chk (fun hb_3 => ?_)
  refine xs_heap (hp_mo_si _ _ _ _) (fun K HC => xr_zast HC.1 9 16 (hp_in_vp hb_3) rfl rfl) (fun h_4 => ?_)
  refine xs_step (fun K HC => xr_aload_n HC.1 10 17 (n := 0) (ix := 0) (j := 0) (c := 11) (x := v0) rfl rfl rfl rfl) ?_
  refine xs_bind (fun q_5 eq_5 => ?_)
  refine xs_step (fun K HC => xr_getr HC.1 11 20 11 88 15 eq_5 rfl rfl wf_M_157 (by decide) fb_11_88 fc_11_88 fd_11_88) ?_
  refine xs_step (fun K HC => xr_iload_n HC.1 12 21 (n := 1) (ix := 1) (j := 1) (x := v1) rfl rfl rfl rfl) ?_
  refine xs_step (fun K HC => xr_aload_n HC.1 13 22 (n := 0) (ix := 0) (j := 0) (c := 11) (x := v0) rfl rfl rfl rfl) ?_
  refine xs_step (fun K HC => xr_geti HC.1 14 25 11 56 rfl rfl wf_M_454 (by decide) fb_11_56 fc_11_56) ?_
  refine xs_chk (fun hb_6 => ?_)
  refine xs_heap (hp_mo_si _ _ _ _) (fun K HC => xr_zast HC.1 15 26 (hp_in_vp hb_6) rfl rfl) (fun h_7 => ?_)
  refine xs_step (fun K HC => xr_aload_n HC.1 16 27 (n := 0) (ix := 0) (j := 0) (c := 11) (x := v0) rfl rfl rfl rfl) ?_
  refine xs_bind (fun q_8 eq_8 => ?_)
  refine xs_step (fun K HC => xr_getr HC.1 17 30 11 93 13 eq_8 rfl rfl wf_M_172 (by decide) fb_11_93 fc_11_93 fd_11_93) ?_
  refine xs_step (fun K HC => xr_iload_n HC.1 18 31 (n := 1) (ix := 1) (j := 1) (x := v1) rfl rfl rfl rfl) ?_
  refine xs_step (fun K HC => xr_aload_n HC.1 19 32 (n := 0) (ix := 0) (j := 0) (c := 11) (x := v0) rfl rfl rfl rfl) ?_
  refine xs_step (fun K HC => xr_geti HC.1 20 35 11 51 rfl rfl wf_M_413 (by decide) fb_11_51 fc_11_51) ?_
  refine xs_chk (fun hb_9 => ?_)
  refine xs_heap (hp_mo_si _ _ _ _) (fun K HC => xr_iast HC.1 21 36 (hp_in_vp hb_9) rfl rfl) (fun h_10 => ?_)
  refine xs_step (fun K HC => xr_aload_n HC.1 22 37 (n := 0) (ix := 0) (j := 0) (c := 11) (x := v0) rfl rfl rfl rfl) ?_
  refine xs_bind (fun q_11 eq_11 => ?_)
  refine xs_step (fun K HC => xr_getr HC.1 23 40 11 94 13 eq_11 rfl rfl wf_M_175 (by decide) fb_11_94 fc_11_94 fd_11_94) ?_
  refine xs_step (fun K HC => xr_iload_n HC.1 24 41 (n := 1) (ix := 1) (j := 1) (x := v1) rfl rfl rfl rfl) ?_
  refine xs_step (fun K HC => xr_aload_n HC.1 25 42 (n := 0) (ix := 0) (j := 0) (c := 11) (x := v0) rfl rfl rfl rfl) ?_
  refine xs_step (fun K HC => xr_geti HC.1 26 45 11 52 rfl rfl wf_M_416 (by decide) fb_11_52 fc_11_52) ?_
  refine xs_chk (fun hb_12 => ?_)
  refine xs_heap (hp_mo_si _ _ _ _) (fun K HC => xr_iast HC.1 27 46 (hp_in_vp hb_12) rfl rfl) (fun h_13 => ?_)
  refine xs_step (fun K HC => xr_aload_n HC.1 28 47 (n := 0) (ix := 0) (j := 0) (c := 11) (x := v0) rfl rfl rfl rfl) ?_
  refine xs_bind (fun q_14 eq_14 => ?_)
  refine xs_step (fun K HC => xr_getr HC.1 29 50 11 95 13 eq_14 rfl rfl wf_M_178 (by decide) fb_11_95 fc_11_95 fd_11_95) ?_
  refine xs_step (fun K HC => xr_iload_n HC.1 30 51 (n := 1) (ix := 1) (j := 1) (x := v1) rfl rfl rfl rfl) ?_
  refine xs_step (fun K HC => xr_aload_n HC.1 31 52 (n := 0) (ix := 0) (j := 0) (c := 11) (x := v0) rfl rfl rfl rfl) ?_
  refine xs_step (fun K HC => xr_geti HC.1 32 55 11 55 rfl rfl wf_M_451 (by decide) fb_11_55 fc_11_55) ?_
  refine xs_chk (fun hb_15 => ?_)
  refine xs_heap (hp_mo_si _ _ _ _) (fun K HC => xr_iast HC.1 33 56 (hp_in_vp hb_15) rfl rfl) (fun h_16 => ?_)
  refine xs_step (fun K HC => xr_iconst HC.1 34 57 (n := (0)) (0 : Int32) rfl rfl rfl) ?_
  refine xs_step (fun K HC => xr_istore_n HC.1 35 58 (n := 2) (ix := 2) (lv' := [(0, av_R 11 (some v0)), (1, av_I v1), (2, av_I (0 : Int32))]) rfl rfl rfl (by decide) rfl) ?_
  exact t_M_image_58 v0 v1 (0 : Int32) h_16
theorem s_M_image (v0 : Nat) (v1 : Int32) (h : HP) : ∀ x, f_M_image v0 v1 h = some x → hp_mo h x.2 ∧ ∀ g l, xx_M g l y_M_image prog_14_method_103_code 3 (some .int) 2 [av_R 11 (some v0), av_I v1] h (some (av_I x.1)) x.2 :=
  xM_i (tb := tb_M_image) (b := false) (by decide +kernel) dt_M_image (fun _ => trivial) (Nat.le_of_ble_eq_true rfl) (fun hb => by cases hb) (t_M_image v0 v1 h)
def tb_M_back : TBL := [(0, .iload_n 1, 1), (1, .invokestatic 587, 3), (4, .ifCond .eq 12, 3), (7, .aload_n 0, 1), (8, .getfield 154, 3), (11, .iload_n 1, 1), (12, .baload, 1), (13, .ifCond .ne 5, 3), (16, .iconst (-1), 1), (17, .ireturn, 1), (18, .aload_n 0, 1), (19, .aload_n 0, 1), (20, .getfield 157, 3), (23, .iload_n 1, 1), (24, .baload, 1), (25, .putfield 454, 3), (28, .aload_n 0, 1), (29, .aload_n 0, 1), (30, .getfield 172, 3), (33, .iload_n 1, 1), (34, .iaload, 1), (35, .putfield 413, 3), (38, .aload_n 0, 1), (39, .aload_n 0, 1), (40, .getfield 175, 3), (43, .iload_n 1, 1), (44, .iaload, 1), (45, .putfield 416, 3), (48, .aload_n 0, 1), (49, .aload_n 0, 1), (50, .getfield 178, 3), (53, .iload_n 1, 1), (54, .iaload, 1), (55, .putfield 451, 3), (58, .iconst 0, 1), (59, .istore_n 2, 1), (60, .iload_n 2, 1), (61, .bipush 6, 2), (63, .if_icmp .ge 77, 3), (66, .aload_n 0, 1), (67, .getfield 73, 3), (70, .iload_n 2, 1), (71, .aload_n 0, 1), (72, .getfield 163, 3), (75, .bipush 6, 2), (77, .iload_n 1, 1), (78, .imul, 1), (79, .iload_n 2, 1), (80, .iadd, 1), (81, .iaload, 1), (82, .iastore, 1), (83, .aload_n 0, 1), (84, .getfield 76, 3), (87, .iload_n 2, 1), (88, .aload_n 0, 1), (89, .getfield 166, 3), (92, .bipush 6, 2), (94, .iload_n 1, 1), (95, .imul, 1), (96, .iload_n 2, 1), (97, .iadd, 1), (98, .iaload, 1), (99, .iastore, 1), (100, .aload_n 0, 1), (101, .getfield 82, 3), (104, .iload_n 2, 1), (105, .aload_n 0, 1), (106, .getfield 160, 3), (109, .bipush 6, 2), (111, .iload_n 1, 1), (112, .imul, 1), (113, .iload_n 2, 1), (114, .iadd, 1), (115, .baload, 1), (116, .bastore, 1), (117, .aload_n 0, 1), (118, .getfield 79, 3), (121, .iload_n 2, 1), (122, .aload_n 0, 1), (123, .getfield 169, 3), (126, .bipush 6, 2), (128, .iload_n 1, 1), (129, .imul, 1), (130, .iload_n 2, 1), (131, .iadd, 1), (132, .iaload, 1), (133, .iastore, 1), (134, .iinc 2 1, 3), (137, .goto (-77), 3), (140, .aload_n 0, 1), (141, .getfield 451, 3), (144, .ireturn, 1)]
theorem dt_M_back : ∀ q ∈ tb_M_back, decode prog_14_method_104_code q.1 = .ok (q.2.1, q.2.2) := by decide +kernel
set_option maxHeartbeats 4000000 in
set_option maxRecDepth 100000 in
theorem t_M_back_60b (v0 : Nat) (v1 : Int32) (v2 : Int32) (h : HP) : xx_S (xx_D "LampYardModel" tb_M_back 3 2 (some .int) false) (xx_z2 (fun s : (Int32 × HP) => s.2) xz_i) (fun K => xx_L2 (fun s : (Int32 × HP) => xx_X K 60 [(0, av_R 11 (some v0)), (1, av_I v1), (2, av_I s.1)] [] (s.2)) (xL_i K)) 60 [(0, av_R 11 (some v0)), (1, av_I v1), (2, av_I v2)] [] h (f_M_back_60b v0 v1 v2 h) := by
  unfold f_M_back_60b
  refine xs_step (fun K HC => xr_iload_n HC.1 36 61 (n := 2) (ix := 2) (j := 2) (x := v2) rfl rfl rfl rfl) ?_
  refine xs_step (fun K HC => xr_bipush HC.1 37 63 (n := (6)) (6 : Int32) rfl rfl rfl) ?_
  refine xs_ite (fun K HC => xr_icmp_ge HC.1 38 140 66 rfl (by decide) rfl) ?_ ?_
  · refine xs_step (fun K HC => xr_aload_n HC.1 89 141 (n := 0) (ix := 0) (j := 0) (c := 11) (x := v0) rfl rfl rfl rfl) ?_
    refine xs_step (fun K HC => xr_geti HC.1 90 144 11 55 rfl rfl wf_M_451 (by decide) fb_11_55 fc_11_55) ?_
    exact xs_reti 91 rfl rfl (fun K q => q) (fun ty ht => by cases ht; rfl)
  refine xs_step (fun K HC => xr_aload_n HC.1 39 67 (n := 0) (ix := 0) (j := 0) (c := 11) (x := v0) rfl rfl rfl rfl) ?_
  refine xs_bind (fun q_17 eq_17 => ?_)
  refine xs_step (fun K HC => xr_getr HC.1 40 70 11 47 13 eq_17 rfl rfl wf_M_73 (by decide) fb_11_47 fc_11_47 fd_11_47) ?_
  refine xs_step (fun K HC => xr_iload_n HC.1 41 71 (n := 2) (ix := 2) (j := 2) (x := v2) rfl rfl rfl rfl) ?_
  refine xs_step (fun K HC => xr_aload_n HC.1 42 72 (n := 0) (ix := 0) (j := 0) (c := 11) (x := v0) rfl rfl rfl rfl) ?_
  refine xs_bind (fun q_18 eq_18 => ?_)
  refine xs_step (fun K HC => xr_getr HC.1 43 75 11 90 13 eq_18 rfl rfl wf_M_163 (by decide) fb_11_90 fc_11_90 fd_11_90) ?_
  refine xs_step (fun K HC => xr_bipush HC.1 44 77 (n := (6)) (6 : Int32) rfl rfl rfl) ?_
  refine xs_step (fun K HC => xr_iload_n HC.1 45 78 (n := 1) (ix := 1) (j := 1) (x := v1) rfl rfl rfl rfl) ?_
  refine xs_step (fun K HC => xr_imul HC.1 46 79 rfl rfl) ?_
  refine xs_step (fun K HC => xr_iload_n HC.1 47 80 (n := 2) (ix := 2) (j := 2) (x := v2) rfl rfl rfl rfl) ?_
  refine xs_step (fun K HC => xr_iadd HC.1 48 81 rfl rfl) ?_
  refine xs_chk (fun hb_19 => ?_)
  refine xs_step (fun K HC => xr_iald HC.1 49 82 (hp_in_vp hb_19) rfl rfl) ?_
  refine xs_chk (fun hb_20 => ?_)
  refine xs_heap (hp_mo_si _ _ _ _) (fun K HC => xr_iast HC.1 50 83 (hp_in_vp hb_20) rfl rfl) (fun h_21 => ?_)
  refine xs_step (fun K HC => xr_aload_n HC.1 51 84 (n := 0) (ix := 0) (j := 0) (c := 11) (x := v0) rfl rfl rfl rfl) ?_
  refine xs_bind (fun q_22 eq_22 => ?_)
  refine xs_step (fun K HC => xr_getr HC.1 52 87 11 48 13 eq_22 rfl rfl wf_M_76 (by decide) fb_11_48 fc_11_48 fd_11_48) ?_
  refine xs_step (fun K HC => xr_iload_n HC.1 53 88 (n := 2) (ix := 2) (j := 2) (x := v2) rfl rfl rfl rfl) ?_
  refine xs_step (fun K HC => xr_aload_n HC.1 54 89 (n := 0) (ix := 0) (j := 0) (c := 11) (x := v0) rfl rfl rfl rfl) ?_
  refine xs_bind (fun q_23 eq_23 => ?_)
  refine xs_step (fun K HC => xr_getr HC.1 55 92 11 91 13 eq_23 rfl rfl wf_M_166 (by decide) fb_11_91 fc_11_91 fd_11_91) ?_
  refine xs_step (fun K HC => xr_bipush HC.1 56 94 (n := (6)) (6 : Int32) rfl rfl rfl) ?_
  refine xs_step (fun K HC => xr_iload_n HC.1 57 95 (n := 1) (ix := 1) (j := 1) (x := v1) rfl rfl rfl rfl) ?_
  refine xs_step (fun K HC => xr_imul HC.1 58 96 rfl rfl) ?_
  refine xs_step (fun K HC => xr_iload_n HC.1 59 97 (n := 2) (ix := 2) (j := 2) (x := v2) rfl rfl rfl rfl) ?_
  refine xs_step (fun K HC => xr_iadd HC.1 60 98 rfl rfl) ?_
  refine xs_chk (fun hb_24 => ?_)
  refine xs_step (fun K HC => xr_iald HC.1 61 99 (hp_in_vp hb_24) rfl rfl) ?_
  refine xs_chk (fun hb_25 => ?_)
  refine xs_heap (hp_mo_si _ _ _ _) (fun K HC => xr_iast HC.1 62 100 (hp_in_vp hb_25) rfl rfl) (fun h_26 => ?_)
  refine xs_step (fun K HC => xr_aload_n HC.1 63 101 (n := 0) (ix := 0) (j := 0) (c := 11) (x := v0) rfl rfl rfl rfl) ?_
  refine xs_bind (fun q_27 eq_27 => ?_)
  refine xs_step (fun K HC => xr_getr HC.1 64 104 11 50 15 eq_27 rfl rfl wf_M_82 (by decide) fb_11_50 fc_11_50 fd_11_50) ?_
  refine xs_step (fun K HC => xr_iload_n HC.1 65 105 (n := 2) (ix := 2) (j := 2) (x := v2) rfl rfl rfl rfl) ?_
  refine xs_step (fun K HC => xr_aload_n HC.1 66 106 (n := 0) (ix := 0) (j := 0) (c := 11) (x := v0) rfl rfl rfl rfl) ?_
  refine xs_bind (fun q_28 eq_28 => ?_)
  refine xs_step (fun K HC => xr_getr HC.1 67 109 11 89 15 eq_28 rfl rfl wf_M_160 (by decide) fb_11_89 fc_11_89 fd_11_89) ?_
  refine xs_step (fun K HC => xr_bipush HC.1 68 111 (n := (6)) (6 : Int32) rfl rfl rfl) ?_
  refine xs_step (fun K HC => xr_iload_n HC.1 69 112 (n := 1) (ix := 1) (j := 1) (x := v1) rfl rfl rfl rfl) ?_
  refine xs_step (fun K HC => xr_imul HC.1 70 113 rfl rfl) ?_
  refine xs_step (fun K HC => xr_iload_n HC.1 71 114 (n := 2) (ix := 2) (j := 2) (x := v2) rfl rfl rfl rfl) ?_
  refine xs_step (fun K HC => xr_iadd HC.1 72 115 rfl rfl) ?_
  refine xs_chk (fun hb_29 => ?_)
  refine xs_step (fun K HC => xr_zald HC.1 73 116 (hp_in_vp hb_29) rfl rfl) ?_
  refine xs_chk (fun hb_30 => ?_)
  refine xs_heap (hp_mo_si _ _ _ _) (fun K HC => xr_zast HC.1 74 117 (hp_in_vp hb_30) rfl rfl) (fun h_31 => ?_)
  refine xs_step (fun K HC => xr_aload_n HC.1 75 118 (n := 0) (ix := 0) (j := 0) (c := 11) (x := v0) rfl rfl rfl rfl) ?_
  refine xs_bind (fun q_32 eq_32 => ?_)
  refine xs_step (fun K HC => xr_getr HC.1 76 121 11 49 13 eq_32 rfl rfl wf_M_79 (by decide) fb_11_49 fc_11_49 fd_11_49) ?_
  refine xs_step (fun K HC => xr_iload_n HC.1 77 122 (n := 2) (ix := 2) (j := 2) (x := v2) rfl rfl rfl rfl) ?_
  refine xs_step (fun K HC => xr_aload_n HC.1 78 123 (n := 0) (ix := 0) (j := 0) (c := 11) (x := v0) rfl rfl rfl rfl) ?_
  refine xs_bind (fun q_33 eq_33 => ?_)
  refine xs_step (fun K HC => xr_getr HC.1 79 126 11 92 13 eq_33 rfl rfl wf_M_169 (by decide) fb_11_92 fc_11_92 fd_11_92) ?_
  refine xs_step (fun K HC => xr_bipush HC.1 80 128 (n := (6)) (6 : Int32) rfl rfl rfl) ?_
  refine xs_step (fun K HC => xr_iload_n HC.1 81 129 (n := 1) (ix := 1) (j := 1) (x := v1) rfl rfl rfl rfl) ?_
  refine xs_step (fun K HC => xr_imul HC.1 82 130 rfl rfl) ?_
  refine xs_step (fun K HC => xr_iload_n HC.1 83 131 (n := 2) (ix := 2) (j := 2) (x := v2) rfl rfl rfl rfl) ?_
  refine xs_step (fun K HC => xr_iadd HC.1 84 132 rfl rfl) ?_
  refine xs_chk (fun hb_34 => ?_)
  refine xs_step (fun K HC => xr_iald HC.1 85 133 (hp_in_vp hb_34) rfl rfl) ?_
  refine xs_chk (fun hb_35 => ?_)
  refine xs_heap (hp_mo_si _ _ _ _) (fun K HC => xr_iast HC.1 86 134 (hp_in_vp hb_35) rfl rfl) (fun h_36 => ?_)
  refine xs_gen (fun v2_37 ev2_37 => ?_)
  refine xs_step (fun K HC => xr_iinc HC.1 87 137 (ix := 2) (j := 2) (n := (1)) (x := v2) v2_37 (lv' := [(0, av_R 11 (some v0)), (1, av_I v1), (2, av_I v2_37)]) rfl (by rw [ev2_37]; rfl) rfl rfl (by decide) rfl) ?_
  refine xs_step (fun K HC => xr_goto HC.1 88 60 rfl (by decide)) ?_
  exact xs_back rfl (fun K q => q)
theorem t_M_back_60 (v0 : Nat) (v1 : Int32) (v2 : Int32) (h : HP) : xx_S (xx_D "LampYardModel" tb_M_back 3 2 (some .int) false) xz_i (fun K => xL_i K) 60 [(0, av_R 11 (some v0)), (1, av_I v1), (2, av_I v2)] [] h (f_M_back_60 v0 v1 v2 h) :=
  xs_loop (zf := xz_i) (L := (fun K => xL_i K)) (fun s : (Int32 × HP) => [(0, av_R 11 (some v0)), (1, av_I v1), (2, av_I s.1)]) (fun s : (Int32 × HP) => s.2) (fun s => t_M_back_60b v0 v1 s.1 s.2) (v2, h)
set_option maxHeartbeats 4000000 in
set_option maxRecDepth 100000 in
theorem t_M_back (v0 : Nat) (v1 : Int32) (h : HP) : xx_S (xx_D "LampYardModel" tb_M_back 3 2 (some .int) false) xz_i (fun K => xL_i K) 0 [(0, av_R 11 (some v0)), (1, av_I v1)] [] h (f_M_back v0 v1 h) := by
  unfold f_M_back
  refine xs_step (fun K HC => xr_iload_n HC.1 0 1 (n := 1) (ix := 1) (j := 1) (x := v1) rfl rfl rfl rfl) ?_
  refine xs_calli (s_M_isBox v1 h) (fun K HC x9 hM hmo hb => xr_callS HC.1 1 4 (av := [av_I v1]) (st := []) (hM (kg K) (cx_l (kx K))) hmo hb rfl rfl wm_M_587 wt_M_isBox wn_M_isBox wc_M_isBox wh_M_isBox (by decide) (by decide) (Nat.le_of_ble_eq_true rfl) rfl) (fun x_1 => ?_)
  refine xs_ite (fun K HC => xr_if_eq HC.1 2 16 7 rfl (by decide) rfl) ?_ ?_
  · refine xs_step (fun K HC => xr_iconst HC.1 8 17 (n := (-1)) (-1 : Int32) rfl rfl rfl) ?_
    exact xs_reti 9 rfl rfl (fun K q => q) (fun ty ht => by cases ht; rfl)
  refine xs_step (fun K HC => xr_aload_n HC.1 3 8 (n := 0) (ix := 0) (j := 0) (c := 11) (x := v0) rfl rfl rfl rfl) ?_
  refine xs_bind (fun q_2 eq_2 => ?_)
  refine xs_step (fun K HC => xr_getr HC.1 4 11 11 87 15 eq_2 rfl rfl wf_M_154 (by decide) fb_11_87 fc_11_87 fd_11_87) ?_
  refine xs_step (fun K HC => xr_iload_n HC.1 5 12 (n := 1) (ix := 1) (j := 1) (x := v1) rfl rfl rfl rfl) ?_
  refine xs_chk (fun hb_3 => ?_)
  refine xs_step (fun K HC => xr_zald HC.1 6 13 (hp_in_vp hb_3) rfl rfl) ?_
  refine xs_ite (fun K HC a b => xr_if_ne HC.1 7 18 16 rfl (by decide) rfl b a) ?_ ?_
  · refine xs_step (fun K HC => xr_iconst HC.1 8 17 (n := (-1)) (-1 : Int32) rfl rfl rfl) ?_
    exact xs_reti 9 rfl rfl (fun K q => q) (fun ty ht => by cases ht; rfl)
  refine xs_step (fun K HC => xr_aload_n HC.1 10 19 (n := 0) (ix := 0) (j := 0) (c := 11) (x := v0) rfl rfl rfl rfl) ?_
  refine xs_step (fun K HC => xr_aload_n HC.1 11 20 (n := 0) (ix := 0) (j := 0) (c := 11) (x := v0) rfl rfl rfl rfl) ?_
  refine xs_bind (fun q_4 eq_4 => ?_)
  refine xs_step (fun K HC => xr_getr HC.1 12 23 11 88 15 eq_4 rfl rfl wf_M_157 (by decide) fb_11_88 fc_11_88 fd_11_88) ?_
  refine xs_step (fun K HC => xr_iload_n HC.1 13 24 (n := 1) (ix := 1) (j := 1) (x := v1) rfl rfl rfl rfl) ?_
  refine xs_chk (fun hb_5 => ?_)
  refine xs_step (fun K HC => xr_zald HC.1 14 25 (hp_in_vp hb_5) rfl rfl) ?_
  refine xs_chk (fun hz_7 => ?_)
  refine xs_heap (hp_mo_si _ _ _ _) (fun K HC => xr_putz HC.1 15 28 11 56 (hp_z01_or hz_7) rfl rfl wf_M_454 (by decide) fb_11_56 fn_11_56 fy_11_56) (fun h_6 => ?_)
  refine xs_step (fun K HC => xr_aload_n HC.1 16 29 (n := 0) (ix := 0) (j := 0) (c := 11) (x := v0) rfl rfl rfl rfl) ?_
  refine xs_step (fun K HC => xr_aload_n HC.1 17 30 (n := 0) (ix := 0) (j := 0) (c := 11) (x := v0) rfl rfl rfl rfl) ?_
  refine xs_bind (fun q_8 eq_8 => ?_)
  refine xs_step (fun K HC => xr_getr HC.1 18 33 11 93 13 eq_8 rfl rfl wf_M_172 (by decide) fb_11_93 fc_11_93 fd_11_93) ?_
  refine xs_step (fun K HC => xr_iload_n HC.1 19 34 (n := 1) (ix := 1) (j := 1) (x := v1) rfl rfl rfl rfl) ?_
  refine xs_chk (fun hb_9 => ?_)
  refine xs_step (fun K HC => xr_iald HC.1 20 35 (hp_in_vp hb_9) rfl rfl) ?_
  refine xs_heap (hp_mo_si _ _ _ _) (fun K HC => xr_puti HC.1 21 38 11 51 rfl rfl wf_M_413 (by decide) fb_11_51 fn_11_51 fy_11_51) (fun h_10 => ?_)
  refine xs_step (fun K HC => xr_aload_n HC.1 22 39 (n := 0) (ix := 0) (j := 0) (c := 11) (x := v0) rfl rfl rfl rfl) ?_
  refine xs_step (fun K HC => xr_aload_n HC.1 23 40 (n := 0) (ix := 0) (j := 0) (c := 11) (x := v0) rfl rfl rfl rfl) ?_
  refine xs_bind (fun q_11 eq_11 => ?_)
  refine xs_step (fun K HC => xr_getr HC.1 24 43 11 94 13 eq_11 rfl rfl wf_M_175 (by decide) fb_11_94 fc_11_94 fd_11_94) ?_
  refine xs_step (fun K HC => xr_iload_n HC.1 25 44 (n := 1) (ix := 1) (j := 1) (x := v1) rfl rfl rfl rfl) ?_
  refine xs_chk (fun hb_12 => ?_)
  refine xs_step (fun K HC => xr_iald HC.1 26 45 (hp_in_vp hb_12) rfl rfl) ?_
  refine xs_heap (hp_mo_si _ _ _ _) (fun K HC => xr_puti HC.1 27 48 11 52 rfl rfl wf_M_416 (by decide) fb_11_52 fn_11_52 fy_11_52) (fun h_13 => ?_)
  refine xs_step (fun K HC => xr_aload_n HC.1 28 49 (n := 0) (ix := 0) (j := 0) (c := 11) (x := v0) rfl rfl rfl rfl) ?_
  refine xs_step (fun K HC => xr_aload_n HC.1 29 50 (n := 0) (ix := 0) (j := 0) (c := 11) (x := v0) rfl rfl rfl rfl) ?_
  refine xs_bind (fun q_14 eq_14 => ?_)
  refine xs_step (fun K HC => xr_getr HC.1 30 53 11 95 13 eq_14 rfl rfl wf_M_178 (by decide) fb_11_95 fc_11_95 fd_11_95) ?_
  refine xs_step (fun K HC => xr_iload_n HC.1 31 54 (n := 1) (ix := 1) (j := 1) (x := v1) rfl rfl rfl rfl) ?_
  refine xs_chk (fun hb_15 => ?_)
  refine xs_step (fun K HC => xr_iald HC.1 32 55 (hp_in_vp hb_15) rfl rfl) ?_
  refine xs_heap (hp_mo_si _ _ _ _) (fun K HC => xr_puti HC.1 33 58 11 55 rfl rfl wf_M_451 (by decide) fb_11_55 fn_11_55 fy_11_55) (fun h_16 => ?_)
  refine xs_step (fun K HC => xr_iconst HC.1 34 59 (n := (0)) (0 : Int32) rfl rfl rfl) ?_
  refine xs_step (fun K HC => xr_istore_n HC.1 35 60 (n := 2) (ix := 2) (lv' := [(0, av_R 11 (some v0)), (1, av_I v1), (2, av_I (0 : Int32))]) rfl rfl rfl (by decide) rfl) ?_
  exact t_M_back_60 v0 v1 (0 : Int32) h_16
theorem s_M_back (v0 : Nat) (v1 : Int32) (h : HP) : ∀ x, f_M_back v0 v1 h = some x → hp_mo h x.2 ∧ ∀ g l, xx_M g l y_M_back prog_14_method_104_code 3 (some .int) 2 [av_R 11 (some v0), av_I v1] h (some (av_I x.1)) x.2 :=
  xM_i (tb := tb_M_back) (b := false) (by decide +kernel) dt_M_back (fun _ => trivial) (Nat.le_of_ble_eq_true rfl) (fun hb => by cases hb) (t_M_back v0 v1 h)
def tb_M_about : TBL := [(0, .iload_n 1, 1), (1, .tableswitch 113 0 9 #[55, 60, 65, 70, 75, 80, 93, 98, 103, 108], 55), (56, .aload_n 0, 1), (57, .getfield 401, 3), (60, .ireturn, 1), (61, .aload_n 0, 1), (62, .getfield 398, 3), (65, .ireturn, 1), (66, .aload_n 0, 1), (67, .getfield 404, 3), (70, .ireturn, 1), (71, .aload_n 0, 1), (72, .getfield 451, 3), (75, .ireturn, 1), (76, .aload_n 0, 1), (77, .getfield 413, 3), (80, .ireturn, 1), (81, .aload_n 0, 1), (82, .getfield 454, 3), (85, .ifCond .eq 7, 3), (88, .iconst 1, 1), (89, .goto 4, 3), (92, .iconst 0, 1), (93, .ireturn, 1), (94, .aload_n 0, 1), (95, .getfield 410, 3), (98, .ireturn, 1), (99, .aload_n 0, 1), (100, .getfield 580, 3), (103, .ireturn, 1), (104, .aload_n 0, 1), (105, .getfield 188, 3), (108, .ireturn, 1), (109, .aload_n 0, 1), (110, .getfield 407, 3), (113, .ireturn, 1), (114, .iconst (-1), 1), (115, .ireturn, 1)]
theorem dt_M_about : ∀ q ∈ tb_M_about, decode prog_14_method_105_code q.1 = .ok (q.2.1, q.2.2) := by decide +kernel
set_option maxHeartbeats 4000000 in
set_option maxRecDepth 100000 in
theorem t_M_about (v0 : Nat) (v1 : Int32) (h : HP) : xx_S (xx_D "LampYardModel" tb_M_about 2 1 (some .int) false) xz_i (fun K => xL_i K) 0 [(0, av_R 11 (some v0)), (1, av_I v1)] [] h (f_M_about v0 v1 h) := by
  unfold f_M_about
  refine xs_step (fun K HC => xr_iload_n HC.1 0 1 (n := 1) (ix := 1) (j := 1) (x := v1) rfl rfl rfl rfl) ?_
  refine xs_if (fun hc_1 => ?_) (fun hc_1 => ?_)
  · refine xs_step (fun K HC => xr_tabI HC.1 1 56 (0 : Int32) rfl hc_1 (by decide) (by decide) rfl (by decide)) ?_
    refine xs_step (fun K HC => xr_aload_n HC.1 2 57 (n := 0) (ix := 0) (j := 0) (c := 11) (x := v0) rfl rfl rfl rfl) ?_
    refine xs_step (fun K HC => xr_geti HC.1 3 60 11 33 rfl rfl wf_M_401 (by decide) fb_11_33 fc_11_33) ?_
    exact xs_reti 4 rfl rfl (fun K q => q) (fun ty ht => by cases ht; rfl)
  refine xs_if (fun hc_2 => ?_) (fun hc_2 => ?_)
  · refine xs_step (fun K HC => xr_tabI HC.1 1 61 (1 : Int32) rfl hc_2 (by decide) (by decide) rfl (by decide)) ?_
    refine xs_step (fun K HC => xr_aload_n HC.1 5 62 (n := 0) (ix := 0) (j := 0) (c := 11) (x := v0) rfl rfl rfl rfl) ?_
    refine xs_step (fun K HC => xr_geti HC.1 6 65 11 32 rfl rfl wf_M_398 (by decide) fb_11_32 fc_11_32) ?_
    exact xs_reti 7 rfl rfl (fun K q => q) (fun ty ht => by cases ht; rfl)
  refine xs_if (fun hc_3 => ?_) (fun hc_3 => ?_)
  · refine xs_step (fun K HC => xr_tabI HC.1 1 66 (2 : Int32) rfl hc_3 (by decide) (by decide) rfl (by decide)) ?_
    refine xs_step (fun K HC => xr_aload_n HC.1 8 67 (n := 0) (ix := 0) (j := 0) (c := 11) (x := v0) rfl rfl rfl rfl) ?_
    refine xs_step (fun K HC => xr_geti HC.1 9 70 11 34 rfl rfl wf_M_404 (by decide) fb_11_34 fc_11_34) ?_
    exact xs_reti 10 rfl rfl (fun K q => q) (fun ty ht => by cases ht; rfl)
  refine xs_if (fun hc_4 => ?_) (fun hc_4 => ?_)
  · refine xs_step (fun K HC => xr_tabI HC.1 1 71 (3 : Int32) rfl hc_4 (by decide) (by decide) rfl (by decide)) ?_
    refine xs_step (fun K HC => xr_aload_n HC.1 11 72 (n := 0) (ix := 0) (j := 0) (c := 11) (x := v0) rfl rfl rfl rfl) ?_
    refine xs_step (fun K HC => xr_geti HC.1 12 75 11 55 rfl rfl wf_M_451 (by decide) fb_11_55 fc_11_55) ?_
    exact xs_reti 13 rfl rfl (fun K q => q) (fun ty ht => by cases ht; rfl)
  refine xs_if (fun hc_5 => ?_) (fun hc_5 => ?_)
  · refine xs_step (fun K HC => xr_tabI HC.1 1 76 (4 : Int32) rfl hc_5 (by decide) (by decide) rfl (by decide)) ?_
    refine xs_step (fun K HC => xr_aload_n HC.1 14 77 (n := 0) (ix := 0) (j := 0) (c := 11) (x := v0) rfl rfl rfl rfl) ?_
    refine xs_step (fun K HC => xr_geti HC.1 15 80 11 51 rfl rfl wf_M_413 (by decide) fb_11_51 fc_11_51) ?_
    exact xs_reti 16 rfl rfl (fun K q => q) (fun ty ht => by cases ht; rfl)
  refine xs_if (fun hc_6 => ?_) (fun hc_6 => ?_)
  · refine xs_step (fun K HC => xr_tabI HC.1 1 81 (5 : Int32) rfl hc_6 (by decide) (by decide) rfl (by decide)) ?_
    refine xs_step (fun K HC => xr_aload_n HC.1 17 82 (n := 0) (ix := 0) (j := 0) (c := 11) (x := v0) rfl rfl rfl rfl) ?_
    refine xs_step (fun K HC => xr_geti HC.1 18 85 11 56 rfl rfl wf_M_454 (by decide) fb_11_56 fc_11_56) ?_
    refine xs_ite (fun K HC => xr_if_eq HC.1 19 92 88 rfl (by decide) rfl) ?_ ?_
    · refine xs_step (fun K HC => xr_iconst HC.1 22 93 (n := (0)) (0 : Int32) rfl rfl rfl) ?_
      exact xs_reti 23 rfl rfl (fun K q => q) (fun ty ht => by cases ht; rfl)
    refine xs_step (fun K HC => xr_iconst HC.1 20 89 (n := (1)) (1 : Int32) rfl rfl rfl) ?_
    refine xs_step (fun K HC => xr_goto HC.1 21 93 rfl (by decide)) ?_
    exact xs_reti 23 rfl rfl (fun K q => q) (fun ty ht => by cases ht; rfl)
  refine xs_if (fun hc_7 => ?_) (fun hc_7 => ?_)
  · refine xs_step (fun K HC => xr_tabI HC.1 1 94 (6 : Int32) rfl hc_7 (by decide) (by decide) rfl (by decide)) ?_
    refine xs_step (fun K HC => xr_aload_n HC.1 24 95 (n := 0) (ix := 0) (j := 0) (c := 11) (x := v0) rfl rfl rfl rfl) ?_
    refine xs_step (fun K HC => xr_geti HC.1 25 98 11 85 rfl rfl wf_M_410 (by decide) fb_11_85 fc_11_85) ?_
    exact xs_reti 26 rfl rfl (fun K q => q) (fun ty ht => by cases ht; rfl)
  refine xs_if (fun hc_8 => ?_) (fun hc_8 => ?_)
  · refine xs_step (fun K HC => xr_tabI HC.1 1 99 (7 : Int32) rfl hc_8 (by decide) (by decide) rfl (by decide)) ?_
    refine xs_step (fun K HC => xr_aload_n HC.1 27 100 (n := 0) (ix := 0) (j := 0) (c := 11) (x := v0) rfl rfl rfl rfl) ?_
    refine xs_step (fun K HC => xr_geti HC.1 28 103 11 86 rfl rfl wf_M_580 (by decide) fb_11_86 fc_11_86) ?_
    exact xs_reti 29 rfl rfl (fun K q => q) (fun ty ht => by cases ht; rfl)
  refine xs_if (fun hc_9 => ?_) (fun hc_9 => ?_)
  · refine xs_step (fun K HC => xr_tabI HC.1 1 104 (8 : Int32) rfl hc_9 (by decide) (by decide) rfl (by decide)) ?_
    refine xs_step (fun K HC => xr_aload_n HC.1 30 105 (n := 0) (ix := 0) (j := 0) (c := 11) (x := v0) rfl rfl rfl rfl) ?_
    refine xs_step (fun K HC => xr_geti HC.1 31 108 11 1 rfl rfl wf_M_188 (by decide) fb_11_1 fc_11_1) ?_
    exact xs_reti 32 rfl rfl (fun K q => q) (fun ty ht => by cases ht; rfl)
  refine xs_if (fun hc_10 => ?_) (fun hc_10 => ?_)
  · refine xs_step (fun K HC => xr_tabI HC.1 1 109 (9 : Int32) rfl hc_10 (by decide) (by decide) rfl (by decide)) ?_
    refine xs_step (fun K HC => xr_aload_n HC.1 33 110 (n := 0) (ix := 0) (j := 0) (c := 11) (x := v0) rfl rfl rfl rfl) ?_
    refine xs_step (fun K HC => xr_geti HC.1 34 113 11 35 rfl rfl wf_M_407 (by decide) fb_11_35 fc_11_35) ?_
    exact xs_reti 35 rfl rfl (fun K q => q) (fun ty ht => by cases ht; rfl)
  refine xs_step (fun K HC => xr_tabO HC.1 1 114 [(0 : Int32), (1 : Int32), (2 : Int32), (3 : Int32), (4 : Int32), (5 : Int32), (6 : Int32), (7 : Int32), (8 : Int32), (9 : Int32)] rfl (by decide) (by simp only [List.forall_mem_cons]; exact ⟨hc_1, hc_2, hc_3, hc_4, hc_5, hc_6, hc_7, hc_8, hc_9, hc_10, fun _ h9 => absurd h9 List.not_mem_nil⟩) (by decide)) ?_
  refine xs_step (fun K HC => xr_iconst HC.1 36 115 (n := (-1)) (-1 : Int32) rfl rfl rfl) ?_
  exact xs_reti 37 rfl rfl (fun K q => q) (fun ty ht => by cases ht; rfl)
theorem s_M_about (v0 : Nat) (v1 : Int32) (h : HP) : ∀ x, f_M_about v0 v1 h = some x → hp_mo h x.2 ∧ ∀ g l, xx_M g l y_M_about prog_14_method_105_code 2 (some .int) 1 [av_R 11 (some v0), av_I v1] h (some (av_I x.1)) x.2 :=
  xM_i (tb := tb_M_about) (b := false) (by decide +kernel) dt_M_about (fun _ => trivial) (Nat.le_of_ble_eq_true rfl) (fun hb => by cases hb) (t_M_about v0 v1 h)
