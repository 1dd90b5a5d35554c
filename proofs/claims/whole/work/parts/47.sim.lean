def tb_M_doRules : TBL := [(0, .aload_n 0, 1), (1, .getfield 416, 3), (4, .aload_n 0, 1), (5, .getfield 389, 3), (8, .if_icmp .ne 8, 3), (11, .aload_n 0, 1), (12, .iconst 0, 1), (13, .putfield 413, 3), (16, .iconst 0, 1), (17, .istore_n 2, 1), (18, .iload_n 2, 1), (19, .aload_n 0, 1), (20, .getfield 404, 3), (23, .if_icmp .ge 34, 3), (26, .aload_n 0, 1), (27, .getfield 36, 3), (30, .iload_n 2, 1), (31, .iaload, 1), (32, .aload_n 0, 1), (33, .getfield 30, 3), (36, .iload_n 1, 1), (37, .iaload, 1), (38, .if_icmp .ne 13, 3), (41, .aload_n 0, 1), (42, .iload_n 2, 1), (43, .iconst 0, 1), (44, .iload_n 1, 1), (45, .invokevirtual 426, 3), (48, .ifCond .ne 9, 3), (51, .iinc 2 1, 3), (54, .goto (-36), 3), (57, .aload_n 0, 1), (58, .iconst 0, 1), (59, .putfield 429, 3), (62, .iload_n 2, 1), (63, .aload_n 0, 1), (64, .getfield 404, 3), (67, .if_icmp .ne 5, 3), (70, .iconst 0, 1), (71, .ireturn, 1), (72, .aload_n 0, 1), (73, .iload_n 2, 1), (74, .iconst 1, 1), (75, .iload_n 1, 1), (76, .invokevirtual 426, 3), (79, .iconst 1, 1), (80, .aload_n 0, 1), (81, .getfield 383, 3), (84, .ishl, 1), (85, .iconst 1, 1), (86, .isub, 1), (87, .iand, 1), (88, .istore_n 3, 1), (89, .aload_n 0, 1), (90, .iload_n 2, 1), (91, .iconst 2, 1), (92, .iload_n 1, 1), (93, .invokevirtual 426, 3), (96, .istore 4, 2), (98, .aload_n 0, 1), (99, .iload_n 3, 1), (100, .aload_n 0, 1), (101, .getfield 413, 3), (104, .if_icmp .eq 7, 3), (107, .iconst 1, 1), (108, .goto 4, 3), (111, .iconst 0, 1), (112, .putfield 429, 3), (115, .aload_n 0, 1), (116, .iload_n 3, 1), (117, .putfield 413, 3), (120, .aload_n 0, 1), (121, .getfield 73, 3), (124, .iload_n 1, 1), (125, .iload 4, 2), (127, .ifCond .ge 7, 3), (130, .iconst 0, 1), (131, .goto 17, 3), (134, .iload 4, 2), (136, .bipush 31, 2), (138, .if_icmp .le 8, 3), (141, .bipush 31, 2), (143, .goto 5, 3), (146, .iload 4, 2), (148, .iastore, 1), (149, .aload_n 0, 1), (150, .getfield 43, 3), (153, .iload_n 2, 1), (154, .baload, 1), (155, .ireturn, 1)]
theorem dt_M_doRules : ∀ q ∈ tb_M_doRules, decode prog_14_method_42_code q.1 = .ok (q.2.1, q.2.2) := by decide +kernel
set_option maxHeartbeats 4000000 in
set_option maxRecDepth 100000 in
theorem t_M_doRules_112 (v0 : Nat) (v1 : Int32) (v2 : Int32) (v3 : Int32) (v4 : Int32) (s0 : Int32) (s1 : Nat) (h : HP) : xx_S (xx_D "LampYardModel" tb_M_doRules 5 3 (some .boolean) false) xz_i (fun K => xL_i K) 112 [(0, av_R 11 (some v0)), (1, av_I v1), (2, av_I v2), (3, av_I v3), (4, av_I v4)] [av_I s0, av_R 11 (some s1)] h (f_M_doRules_112 v0 v1 v2 v3 v4 s0 s1 h) := by
  unfold f_M_doRules_112
  refine xs_chk (fun hz_7 => ?_)
  refine xs_heap (hp_mo_si _ _ _ _) (fun K HC => xr_putz HC.1 67 115 11 53 (hp_z01_or hz_7) rfl rfl wf_M_429 (by decide) fb_11_53 fn_11_53 fy_11_53) (fun h_6 => ?_)
  refine xs_step (fun K HC => xr_aload_n HC.1 68 116 (n := 0) (ix := 0) (j := 0) (c := 11) (x := v0) rfl rfl rfl rfl) ?_
  refine xs_step (fun K HC => xr_iload_n HC.1 69 117 (n := 3) (ix := 3) (j := 3) (x := v3) rfl rfl rfl rfl) ?_
  refine xs_heap (hp_mo_si _ _ _ _) (fun K HC => xr_puti HC.1 70 120 11 51 rfl rfl wf_M_413 (by decide) fb_11_51 fn_11_51 fy_11_51) (fun h_8 => ?_)
  refine xs_step (fun K HC => xr_aload_n HC.1 71 121 (n := 0) (ix := 0) (j := 0) (c := 11) (x := v0) rfl rfl rfl rfl) ?_
  refine xs_bind (fun q_9 eq_9 => ?_)
  refine xs_step (fun K HC => xr_getr HC.1 72 124 11 47 13 eq_9 rfl rfl wf_M_73 (by decide) fb_11_47 fc_11_47 fd_11_47) ?_
  refine xs_step (fun K HC => xr_iload_n HC.1 73 125 (n := 1) (ix := 1) (j := 1) (x := v1) rfl rfl rfl rfl) ?_
  refine xs_step (fun K HC => xr_iload HC.1 74 127 (ix := 4) (j := 4) (x := v4) rfl rfl rfl) ?_
  refine xs_ite (fun K HC => xr_if_ge HC.1 75 134 130 rfl (by decide) rfl) ?_ ?_
  · refine xs_step (fun K HC => xr_iload HC.1 78 136 (ix := 4) (j := 4) (x := v4) rfl rfl rfl) ?_
    refine xs_step (fun K HC => xr_bipush HC.1 79 138 (n := (31)) (31 : Int32) rfl rfl rfl) ?_
    refine xs_ite (fun K HC => xr_icmp_le HC.1 80 146 141 rfl (by decide) rfl) ?_ ?_
    · refine xs_step (fun K HC => xr_iload HC.1 83 148 (ix := 4) (j := 4) (x := v4) rfl rfl rfl) ?_
      refine xs_chk (fun hb_10 => ?_)
      refine xs_heap (hp_mo_si _ _ _ _) (fun K HC => xr_iast HC.1 84 149 (hp_in_vp hb_10) rfl rfl) (fun h_11 => ?_)
      refine xs_step (fun K HC => xr_aload_n HC.1 85 150 (n := 0) (ix := 0) (j := 0) (c := 11) (x := v0) rfl rfl rfl rfl) ?_
      refine xs_bind (fun q_12 eq_12 => ?_)
      refine xs_step (fun K HC => xr_getr HC.1 86 153 11 18 15 eq_12 rfl rfl wf_M_43 (by decide) fb_11_18 fc_11_18 fd_11_18) ?_
      refine xs_step (fun K HC => xr_iload_n HC.1 87 154 (n := 2) (ix := 2) (j := 2) (x := v2) rfl rfl rfl rfl) ?_
      refine xs_chk (fun hb_13 => ?_)
      refine xs_step (fun K HC => xr_zald HC.1 88 155 (hp_in_vp hb_13) rfl rfl) ?_
      refine xs_chk (fun hz_14 => ?_)
      exact xs_reti 89 rfl rfl (fun K q => q) (fun ty ht => by cases ht; rcases hp_z01_or hz_14 with e9 | e9 <;> rw [e9] <;> rfl)
    refine xs_step (fun K HC => xr_bipush HC.1 81 143 (n := (31)) (31 : Int32) rfl rfl rfl) ?_
    refine xs_step (fun K HC => xr_goto HC.1 82 148 rfl (by decide)) ?_
    refine xs_chk (fun hb_15 => ?_)
    refine xs_heap (hp_mo_si _ _ _ _) (fun K HC => xr_iast HC.1 84 149 (hp_in_vp hb_15) rfl rfl) (fun h_16 => ?_)
    refine xs_step (fun K HC => xr_aload_n HC.1 85 150 (n := 0) (ix := 0) (j := 0) (c := 11) (x := v0) rfl rfl rfl rfl) ?_
    refine xs_bind (fun q_17 eq_17 => ?_)
    refine xs_step (fun K HC => xr_getr HC.1 86 153 11 18 15 eq_17 rfl rfl wf_M_43 (by decide) fb_11_18 fc_11_18 fd_11_18) ?_
    refine xs_step (fun K HC => xr_iload_n HC.1 87 154 (n := 2) (ix := 2) (j := 2) (x := v2) rfl rfl rfl rfl) ?_
    refine xs_chk (fun hb_18 => ?_)
    refine xs_step (fun K HC => xr_zald HC.1 88 155 (hp_in_vp hb_18) rfl rfl) ?_
    refine xs_chk (fun hz_19 => ?_)
    exact xs_reti 89 rfl rfl (fun K q => q) (fun ty ht => by cases ht; rcases hp_z01_or hz_19 with e9 | e9 <;> rw [e9] <;> rfl)
  refine xs_step (fun K HC => xr_iconst HC.1 76 131 (n := (0)) (0 : Int32) rfl rfl rfl) ?_
  refine xs_step (fun K HC => xr_goto HC.1 77 148 rfl (by decide)) ?_
  refine xs_chk (fun hb_20 => ?_)
  refine xs_heap (hp_mo_si _ _ _ _) (fun K HC => xr_iast HC.1 84 149 (hp_in_vp hb_20) rfl rfl) (fun h_21 => ?_)
  refine xs_step (fun K HC => xr_aload_n HC.1 85 150 (n := 0) (ix := 0) (j := 0) (c := 11) (x := v0) rfl rfl rfl rfl) ?_
  refine xs_bind (fun q_22 eq_22 => ?_)
  refine xs_step (fun K HC => xr_getr HC.1 86 153 11 18 15 eq_22 rfl rfl wf_M_43 (by decide) fb_11_18 fc_11_18 fd_11_18) ?_
  refine xs_step (fun K HC => xr_iload_n HC.1 87 154 (n := 2) (ix := 2) (j := 2) (x := v2) rfl rfl rfl rfl) ?_
  refine xs_chk (fun hb_23 => ?_)
  refine xs_step (fun K HC => xr_zald HC.1 88 155 (hp_in_vp hb_23) rfl rfl) ?_
  refine xs_chk (fun hz_24 => ?_)
  exact xs_reti 89 rfl rfl (fun K q => q) (fun ty ht => by cases ht; rcases hp_z01_or hz_24 with e9 | e9 <;> rw [e9] <;> rfl)
set_option maxHeartbeats 4000000 in
set_option maxRecDepth 100000 in
theorem t_M_doRules_57 (v0 : Nat) (v1 : Int32) (v2 : Int32) (h : HP) : xx_S (xx_D "LampYardModel" tb_M_doRules 5 3 (some .boolean) false) xz_i (fun K => xL_i K) 57 [(0, av_R 11 (some v0)), (1, av_I v1), (2, av_I v2)] [] h (f_M_doRules_57 v0 v1 v2 h) := by
  unfold f_M_doRules_57
  refine xs_step (fun K HC => xr_aload_n HC.1 31 58 (n := 0) (ix := 0) (j := 0) (c := 11) (x := v0) rfl rfl rfl rfl) ?_
  refine xs_step (fun K HC => xr_iconst HC.1 32 59 (n := (0)) (0 : Int32) rfl rfl rfl) ?_
  refine xs_heap (hp_mo_si _ _ _ _) (fun K HC => xr_putz HC.1 33 62 11 53 (Or.inl rfl) rfl rfl wf_M_429 (by decide) fb_11_53 fn_11_53 fy_11_53) (fun h_2 => ?_)
  refine xs_step (fun K HC => xr_iload_n HC.1 34 63 (n := 2) (ix := 2) (j := 2) (x := v2) rfl rfl rfl rfl) ?_
  refine xs_step (fun K HC => xr_aload_n HC.1 35 64 (n := 0) (ix := 0) (j := 0) (c := 11) (x := v0) rfl rfl rfl rfl) ?_
  refine xs_step (fun K HC => xr_geti HC.1 36 67 11 34 rfl rfl wf_M_404 (by decide) fb_11_34 fc_11_34) ?_
  refine xs_ite (fun K HC a b => xr_icmp_ne HC.1 37 72 70 rfl (by decide) rfl b a) ?_ ?_
  · refine xs_step (fun K HC => xr_iconst HC.1 38 71 (n := (0)) (0 : Int32) rfl rfl rfl) ?_
    exact xs_reti 39 rfl rfl (fun K q => q) (fun ty ht => by cases ht; rfl)
  refine xs_step (fun K HC => xr_aload_n HC.1 40 73 (n := 0) (ix := 0) (j := 0) (c := 11) (x := v0) rfl rfl rfl rfl) ?_
  refine xs_step (fun K HC => xr_iload_n HC.1 41 74 (n := 2) (ix := 2) (j := 2) (x := v2) rfl rfl rfl rfl) ?_
  refine xs_step (fun K HC => xr_iconst HC.1 42 75 (n := (1)) (1 : Int32) rfl rfl rfl) ?_
  refine xs_step (fun K HC => xr_iload_n HC.1 43 76 (n := 1) (ix := 1) (j := 1) (x := v1) rfl rfl rfl rfl) ?_
  refine xs_calli (s_M_worth v0 v2 (1 : Int32) v1 h_2) (fun K HC x9 hM hmo hb => xr_callV HC.1 44 79 (av := [av_I v2, av_I (1 : Int32), av_I v1]) (st := []) (hM (kg K) (cx_l (kx K))) hmo hb rfl rfl wm_M_426 wi_M_worth ws_M_worth wc_M_worth rfl wh_M_worth (by decide) (by decide) (by decide) (Nat.le_of_ble_eq_true rfl) rfl) (fun x_3 => ?_)
  refine xs_step (fun K HC => xr_iconst HC.1 45 80 (n := (1)) (1 : Int32) rfl rfl rfl) ?_
  refine xs_step (fun K HC => xr_aload_n HC.1 46 81 (n := 0) (ix := 0) (j := 0) (c := 11) (x := v0) rfl rfl rfl rfl) ?_
  refine xs_step (fun K HC => xr_geti HC.1 47 84 11 28 rfl rfl wf_M_383 (by decide) fb_11_28 fc_11_28) ?_
  refine xs_step (fun K HC => xr_ishl HC.1 48 85 rfl rfl) ?_
  refine xs_step (fun K HC => xr_iconst HC.1 49 86 (n := (1)) (1 : Int32) rfl rfl rfl) ?_
  refine xs_step (fun K HC => xr_isub HC.1 50 87 rfl rfl) ?_
  refine xs_step (fun K HC => xr_iand HC.1 51 88 rfl rfl) ?_
  refine xs_topi (fun v3_4 => ?_)
  refine xs_step (fun K HC => xr_istore_n HC.1 52 89 (n := 3) (ix := 3) (lv' := [(0, av_R 11 (some v0)), (1, av_I v1), (2, av_I v2), (3, av_I v3_4)]) rfl rfl rfl (by decide) rfl) ?_
  refine xs_step (fun K HC => xr_aload_n HC.1 53 90 (n := 0) (ix := 0) (j := 0) (c := 11) (x := v0) rfl rfl rfl rfl) ?_
  refine xs_step (fun K HC => xr_iload_n HC.1 54 91 (n := 2) (ix := 2) (j := 2) (x := v2) rfl rfl rfl rfl) ?_
  refine xs_step (fun K HC => xr_iconst HC.1 55 92 (n := (2)) (2 : Int32) rfl rfl rfl) ?_
  refine xs_step (fun K HC => xr_iload_n HC.1 56 93 (n := 1) (ix := 1) (j := 1) (x := v1) rfl rfl rfl rfl) ?_
  refine xs_calli (s_M_worth v0 v2 (2 : Int32) v1 x_3.2) (fun K HC x9 hM hmo hb => xr_callV HC.1 57 96 (av := [av_I v2, av_I (2 : Int32), av_I v1]) (st := []) (hM (kg K) (cx_l (kx K))) hmo hb rfl rfl wm_M_426 wi_M_worth ws_M_worth wc_M_worth rfl wh_M_worth (by decide) (by decide) (by decide) (Nat.le_of_ble_eq_true rfl) rfl) (fun x_5 => ?_)
  refine xs_step (fun K HC => xr_istore HC.1 58 98 (ix := 4) (lv' := [(0, av_R 11 (some v0)), (1, av_I v1), (2, av_I v2), (3, av_I v3_4), (4, av_I x_5.1)]) rfl rfl (by decide) rfl) ?_
  refine xs_step (fun K HC => xr_aload_n HC.1 59 99 (n := 0) (ix := 0) (j := 0) (c := 11) (x := v0) rfl rfl rfl rfl) ?_
  refine xs_step (fun K HC => xr_iload_n HC.1 60 100 (n := 3) (ix := 3) (j := 3) (x := v3_4) rfl rfl rfl rfl) ?_
  refine xs_step (fun K HC => xr_aload_n HC.1 61 101 (n := 0) (ix := 0) (j := 0) (c := 11) (x := v0) rfl rfl rfl rfl) ?_
  refine xs_step (fun K HC => xr_geti HC.1 62 104 11 51 rfl rfl wf_M_413 (by decide) fb_11_51 fc_11_51) ?_
  refine xs_ite (fun K HC => xr_icmp_eq HC.1 63 111 107 rfl (by decide) rfl) ?_ ?_
  · refine xs_step (fun K HC => xr_iconst HC.1 66 112 (n := (0)) (0 : Int32) rfl rfl rfl) ?_
    exact t_M_doRules_112 v0 v1 v2 v3_4 x_5.1 (0 : Int32) v0 x_5.2
  refine xs_step (fun K HC => xr_iconst HC.1 64 108 (n := (1)) (1 : Int32) rfl rfl rfl) ?_
  refine xs_step (fun K HC => xr_goto HC.1 65 112 rfl (by decide)) ?_
  exact t_M_doRules_112 v0 v1 v2 v3_4 x_5.1 (1 : Int32) v0 x_5.2
set_option maxHeartbeats 4000000 in
set_option maxRecDepth 100000 in
theorem t_M_doRules_51 (v0 : Nat) (v1 : Int32) (v2 : Int32) (h : HP) : xx_S (xx_D "LampYardModel" tb_M_doRules 5 3 (some .boolean) false) (xx_z2 (fun s : (Int32 × HP) => s.2) xz_i) (fun K => xx_L2 (fun s : (Int32 × HP) => xx_X K 18 [(0, av_R 11 (some v0)), (1, av_I v1), (2, av_I s.1)] [] (s.2)) (xL_i K)) 51 [(0, av_R 11 (some v0)), (1, av_I v1), (2, av_I v2)] [] h (f_M_doRules_51 v0 v1 v2 h) := by
  unfold f_M_doRules_51
  refine xs_gen (fun v2_30 ev2_30 => ?_)
  refine xs_step (fun K HC => xr_iinc HC.1 29 54 (ix := 2) (j := 2) (n := (1)) (x := v2) v2_30 (lv' := [(0, av_R 11 (some v0)), (1, av_I v1), (2, av_I v2_30)]) rfl (by rw [ev2_30]; rfl) rfl rfl (by decide) rfl) ?_
  refine xs_step (fun K HC => xr_goto HC.1 30 18 rfl (by decide)) ?_
  exact xs_back rfl (fun K q => q)
set_option maxHeartbeats 4000000 in
set_option maxRecDepth 100000 in
theorem t_M_doRules_18b (v0 : Nat) (v1 : Int32) (v2 : Int32) (h : HP) : xx_S (xx_D "LampYardModel" tb_M_doRules 5 3 (some .boolean) false) (xx_z2 (fun s : (Int32 × HP) => s.2) xz_i) (fun K => xx_L2 (fun s : (Int32 × HP) => xx_X K 18 [(0, av_R 11 (some v0)), (1, av_I v1), (2, av_I s.1)] [] (s.2)) (xL_i K)) 18 [(0, av_R 11 (some v0)), (1, av_I v1), (2, av_I v2)] [] h (f_M_doRules_18b v0 v1 v2 h) := by
  unfold f_M_doRules_18b
  refine xs_step (fun K HC => xr_iload_n HC.1 10 19 (n := 2) (ix := 2) (j := 2) (x := v2) rfl rfl rfl rfl) ?_
  refine xs_step (fun K HC => xr_aload_n HC.1 11 20 (n := 0) (ix := 0) (j := 0) (c := 11) (x := v0) rfl rfl rfl rfl) ?_
  refine xs_step (fun K HC => xr_geti HC.1 12 23 11 34 rfl rfl wf_M_404 (by decide) fb_11_34 fc_11_34) ?_
  refine xs_ite (fun K HC => xr_icmp_ge HC.1 13 57 26 rfl (by decide) rfl) ?_ ?_
  · exact xs_map (fun _ => rfl) (fun _ _ q => q) (t_M_doRules_57 v0 v1 v2 h)
  refine xs_step (fun K HC => xr_aload_n HC.1 14 27 (n := 0) (ix := 0) (j := 0) (c := 11) (x := v0) rfl rfl rfl rfl) ?_
  refine xs_bind (fun q_25 eq_25 => ?_)
  refine xs_step (fun K HC => xr_getr HC.1 15 30 11 16 13 eq_25 rfl rfl wf_M_36 (by decide) fb_11_16 fc_11_16 fd_11_16) ?_
  refine xs_step (fun K HC => xr_iload_n HC.1 16 31 (n := 2) (ix := 2) (j := 2) (x := v2) rfl rfl rfl rfl) ?_
  refine xs_chk (fun hb_26 => ?_)
  refine xs_step (fun K HC => xr_iald HC.1 17 32 (hp_in_vp hb_26) rfl rfl) ?_
  refine xs_step (fun K HC => xr_aload_n HC.1 18 33 (n := 0) (ix := 0) (j := 0) (c := 11) (x := v0) rfl rfl rfl rfl) ?_
  refine xs_bind (fun q_27 eq_27 => ?_)
  refine xs_step (fun K HC => xr_getr HC.1 19 36 11 14 13 eq_27 rfl rfl wf_M_30 (by decide) fb_11_14 fc_11_14 fd_11_14) ?_
  refine xs_step (fun K HC => xr_iload_n HC.1 20 37 (n := 1) (ix := 1) (j := 1) (x := v1) rfl rfl rfl rfl) ?_
  refine xs_chk (fun hb_28 => ?_)
  refine xs_step (fun K HC => xr_iald HC.1 21 38 (hp_in_vp hb_28) rfl rfl) ?_
  refine xs_ite (fun K HC a b => xr_icmp_ne HC.1 22 51 41 rfl (by decide) rfl b a) ?_ ?_
  · refine xs_step (fun K HC => xr_aload_n HC.1 23 42 (n := 0) (ix := 0) (j := 0) (c := 11) (x := v0) rfl rfl rfl rfl) ?_
    refine xs_step (fun K HC => xr_iload_n HC.1 24 43 (n := 2) (ix := 2) (j := 2) (x := v2) rfl rfl rfl rfl) ?_
    refine xs_step (fun K HC => xr_iconst HC.1 25 44 (n := (0)) (0 : Int32) rfl rfl rfl) ?_
    refine xs_step (fun K HC => xr_iload_n HC.1 26 45 (n := 1) (ix := 1) (j := 1) (x := v1) rfl rfl rfl rfl) ?_
    refine xs_calli (s_M_worth v0 v2 (0 : Int32) v1 h) (fun K HC x9 hM hmo hb => xr_callV HC.1 27 48 (av := [av_I v2, av_I (0 : Int32), av_I v1]) (st := []) (hM (kg K) (cx_l (kx K))) hmo hb rfl rfl wm_M_426 wi_M_worth ws_M_worth wc_M_worth rfl wh_M_worth (by decide) (by decide) (by decide) (Nat.le_of_ble_eq_true rfl) rfl) (fun x_29 => ?_)
    refine xs_ite (fun K HC a b => xr_if_ne HC.1 28 57 51 rfl (by decide) rfl b a) ?_ ?_
    · exact t_M_doRules_51 v0 v1 v2 x_29.2
    exact xs_map (fun _ => rfl) (fun _ _ q => q) (t_M_doRules_57 v0 v1 v2 x_29.2)
  exact t_M_doRules_51 v0 v1 v2 h
theorem t_M_doRules_18 (v0 : Nat) (v1 : Int32) (v2 : Int32) (h : HP) : xx_S (xx_D "LampYardModel" tb_M_doRules 5 3 (some .boolean) false) xz_i (fun K => xL_i K) 18 [(0, av_R 11 (some v0)), (1, av_I v1), (2, av_I v2)] [] h (f_M_doRules_18 v0 v1 v2 h) :=
  xs_loop (zf := xz_i) (L := (fun K => xL_i K)) (fun s : (Int32 × HP) => [(0, av_R 11 (some v0)), (1, av_I v1), (2, av_I s.1)]) (fun s : (Int32 × HP) => s.2) (fun s => t_M_doRules_18b v0 v1 s.1 s.2) (v2, h)
set_option maxHeartbeats 4000000 in
set_option maxRecDepth 100000 in
theorem t_M_doRules_16 (v0 : Nat) (v1 : Int32) (h : HP) : xx_S (xx_D "LampYardModel" tb_M_doRules 5 3 (some .boolean) false) xz_i (fun K => xL_i K) 16 [(0, av_R 11 (some v0)), (1, av_I v1)] [] h (f_M_doRules_16 v0 v1 h) := by
  unfold f_M_doRules_16
  refine xs_step (fun K HC => xr_iconst HC.1 8 17 (n := (0)) (0 : Int32) rfl rfl rfl) ?_
  refine xs_step (fun K HC => xr_istore_n HC.1 9 18 (n := 2) (ix := 2) (lv' := [(0, av_R 11 (some v0)), (1, av_I v1), (2, av_I (0 : Int32))]) rfl rfl rfl (by decide) rfl) ?_
  exact t_M_doRules_18 v0 v1 (0 : Int32) h
set_option maxHeartbeats 4000000 in
set_option maxRecDepth 100000 in
theorem t_M_doRules (v0 : Nat) (v1 : Int32) (h : HP) : xx_S (xx_D "LampYardModel" tb_M_doRules 5 3 (some .boolean) false) xz_i (fun K => xL_i K) 0 [(0, av_R 11 (some v0)), (1, av_I v1)] [] h (f_M_doRules v0 v1 h) := by
  unfold f_M_doRules
  refine xs_step (fun K HC => xr_aload_n HC.1 0 1 (n := 0) (ix := 0) (j := 0) (c := 11) (x := v0) rfl rfl rfl rfl) ?_
  refine xs_step (fun K HC => xr_geti HC.1 1 4 11 52 rfl rfl wf_M_416 (by decide) fb_11_52 fc_11_52) ?_
  refine xs_step (fun K HC => xr_aload_n HC.1 2 5 (n := 0) (ix := 0) (j := 0) (c := 11) (x := v0) rfl rfl rfl rfl) ?_
  refine xs_step (fun K HC => xr_geti HC.1 3 8 11 30 rfl rfl wf_M_389 (by decide) fb_11_30 fc_11_30) ?_
  refine xs_ite (fun K HC a b => xr_icmp_ne HC.1 4 16 11 rfl (by decide) rfl b a) ?_ ?_
  · refine xs_step (fun K HC => xr_aload_n HC.1 5 12 (n := 0) (ix := 0) (j := 0) (c := 11) (x := v0) rfl rfl rfl rfl) ?_
    refine xs_step (fun K HC => xr_iconst HC.1 6 13 (n := (0)) (0 : Int32) rfl rfl rfl) ?_
    refine xs_heap (hp_mo_si _ _ _ _) (fun K HC => xr_puti HC.1 7 16 11 51 rfl rfl wf_M_413 (by decide) fb_11_51 fn_11_51 fy_11_51) (fun h_1 => ?_)
    exact t_M_doRules_16 v0 v1 h_1
  exact t_M_doRules_16 v0 v1 h
theorem s_M_doRules (v0 : Nat) (v1 : Int32) (h : HP) : ∀ x, f_M_doRules v0 v1 h = some x → hp_mo h x.2 ∧ ∀ g l, xx_M g l y_M_doRules prog_14_method_42_code 5 (some .boolean) 3 [av_R 11 (some v0), av_I v1] h (some (av_I x.1)) x.2 :=
  xM_i (tb := tb_M_doRules) (b := false) (by decide +kernel) dt_M_doRules (fun _ => trivial) (Nat.le_of_ble_eq_true rfl) (fun hb => by cases hb) (t_M_doRules v0 v1 h)
def tb_M_go : TBL := [(0, .aload_n 0, 1), (1, .getfield 73, 3), (4, .iload_n 1, 1), (5, .iaload, 1), (6, .istore_n 2, 1), (7, .aload_n 0, 1), (8, .iload_n 1, 1), (9, .invokevirtual 433, 3), (12, .istore_n 3, 1), (13, .aload_n 0, 1), (14, .aload_n 0, 1), (15, .getfield 73, 3), (18, .iload_n 1, 1), (19, .iaload, 1), (20, .iload_n 2, 1), (21, .if_icmp .eq 7, 3), (24, .iconst 1, 1), (25, .goto 4, 3), (28, .iconst 0, 1), (29, .putfield 436, 3), (32, .aload_n 0, 1), (33, .getfield 76, 3), (36, .iload_n 1, 1), (37, .aload_n 0, 1), (38, .getfield 76, 3), (41, .iload_n 1, 1), (42, .iaload, 1), (43, .iconst 3, 1), (44, .if_icmp .ge 14, 3), (47, .aload_n 0, 1), (48, .getfield 76, 3), (51, .iload_n 1, 1), (52, .iaload, 1), (53, .iconst 1, 1), (54, .iadd, 1), (55, .goto 4, 3), (58, .iconst 3, 1), (59, .iastore, 1), (60, .aload_n 0, 1), (61, .getfield 82, 3), (64, .iload_n 1, 1), (65, .iconst 1, 1), (66, .bastore, 1), (67, .aload_n 0, 1), (68, .aload_n 0, 1), (69, .getfield 416, 3), (72, .iconst 1, 1), (73, .iadd, 1), (74, .aload_n 0, 1), (75, .getfield 386, 3), (78, .irem, 1), (79, .putfield 416, 3), (82, .iload_n 3, 1), (83, .ifCond .ne 7, 3), (86, .iconst 0, 1), (87, .goto 15, 3), (90, .aload_n 0, 1), (91, .invokevirtual 439, 3), (94, .ifCond .eq 7, 3), (97, .iconst 1, 1), (98, .goto 4, 3), (101, .iconst 2, 1), (102, .ireturn, 1)]
theorem dt_M_go : ∀ q ∈ tb_M_go, decode prog_14_method_43_code q.1 = .ok (q.2.1, q.2.2) := by decide +kernel
set_option maxHeartbeats 4000000 in
set_option maxRecDepth 100000 in
theorem t_M_go_59 (v0 : Nat) (v1 : Int32) (v3 : Int32) (s0 : Int32) (s1 : Int32) (s2 : Nat) (h : HP) : xx_S (xx_D "LampYardModel" tb_M_go 4 4 (some .int) false) xz_i (fun K => xL_i K) 59 [(0, av_R 11 (some v0)), (1, av_I v1), (3, av_I v3)] [av_I s0, av_I s1, av_R 13 (some s2)] h (f_M_go_59 v0 v1 v3 s0 s1 s2 h) := by
  unfold f_M_go_59
  refine xs_chk (fun hb_12 => ?_)
  refine xs_heap (hp_mo_si _ _ _ _) (fun K HC => xr_iast HC.1 37 60 (hp_in_vp hb_12) rfl rfl) (fun h_13 => ?_)
  refine xs_step (fun K HC => xr_aload_n HC.1 38 61 (n := 0) (ix := 0) (j := 0) (c := 11) (x := v0) rfl rfl rfl rfl) ?_
  refine xs_bind (fun q_14 eq_14 => ?_)
  refine xs_step (fun K HC => xr_getr HC.1 39 64 11 50 15 eq_14 rfl rfl wf_M_82 (by decide) fb_11_50 fc_11_50 fd_11_50) ?_
  refine xs_step (fun K HC => xr_iload_n HC.1 40 65 (n := 1) (ix := 1) (j := 1) (x := v1) rfl rfl rfl rfl) ?_
  refine xs_step (fun K HC => xr_iconst HC.1 41 66 (n := (1)) (1 : Int32) rfl rfl rfl) ?_
  refine xs_chk (fun hb_15 => ?_)
  refine xs_heap (hp_mo_si _ _ _ _) (fun K HC => xr_zast HC.1 42 67 (hp_in_vp hb_15) rfl rfl) (fun h_16 => ?_)
  refine xs_step (fun K HC => xr_aload_n HC.1 43 68 (n := 0) (ix := 0) (j := 0) (c := 11) (x := v0) rfl rfl rfl rfl) ?_
  refine xs_step (fun K HC => xr_aload_n HC.1 44 69 (n := 0) (ix := 0) (j := 0) (c := 11) (x := v0) rfl rfl rfl rfl) ?_
  refine xs_step (fun K HC => xr_geti HC.1 45 72 11 52 rfl rfl wf_M_416 (by decide) fb_11_52 fc_11_52) ?_
  refine xs_step (fun K HC => xr_iconst HC.1 46 73 (n := (1)) (1 : Int32) rfl rfl rfl) ?_
  refine xs_step (fun K HC => xr_iadd HC.1 47 74 rfl rfl) ?_
  refine xs_step (fun K HC => xr_aload_n HC.1 48 75 (n := 0) (ix := 0) (j := 0) (c := 11) (x := v0) rfl rfl rfl rfl) ?_
  refine xs_step (fun K HC => xr_geti HC.1 49 78 11 29 rfl rfl wf_M_386 (by decide) fb_11_29 fc_11_29) ?_
  refine xs_chk (fun hn_17 => ?_)
  refine xs_step (fun K HC => xr_irem HC.1 50 79 hn_17 rfl rfl) ?_
  refine xs_heap (hp_mo_si _ _ _ _) (fun K HC => xr_puti HC.1 51 82 11 52 rfl rfl wf_M_416 (by decide) fb_11_52 fn_11_52 fy_11_52) (fun h_18 => ?_)
  refine xs_step (fun K HC => xr_iload_n HC.1 52 83 (n := 3) (ix := 3) (j := 2) (x := v3) rfl rfl rfl rfl) ?_
  refine xs_ite (fun K HC a b => xr_if_ne HC.1 53 90 86 rfl (by decide) rfl b a) ?_ ?_
  · refine xs_step (fun K HC => xr_iconst HC.1 54 87 (n := (0)) (0 : Int32) rfl rfl rfl) ?_
    refine xs_step (fun K HC => xr_goto HC.1 55 102 rfl (by decide)) ?_
    exact xs_reti 62 rfl rfl (fun K q => q) (fun ty ht => by cases ht; rfl)
  refine xs_step (fun K HC => xr_aload_n HC.1 56 91 (n := 0) (ix := 0) (j := 0) (c := 11) (x := v0) rfl rfl rfl rfl) ?_
  refine xs_calli (s_M_isAll v0 h_18) (fun K HC x9 hM hmo hb => xr_callV HC.1 57 94 (av := []) (st := []) (hM (kg K) (cx_l (kx K))) hmo hb rfl rfl wm_M_439 wi_M_isAll ws_M_isAll wc_M_isAll rfl wh_M_isAll (by decide) (by decide) (by decide) (Nat.le_of_ble_eq_true rfl) rfl) (fun x_19 => ?_)
  refine xs_ite (fun K HC => xr_if_eq HC.1 58 101 97 rfl (by decide) rfl) ?_ ?_
  · refine xs_step (fun K HC => xr_iconst HC.1 61 102 (n := (2)) (2 : Int32) rfl rfl rfl) ?_
    exact xs_reti 62 rfl rfl (fun K q => q) (fun ty ht => by cases ht; rfl)
  refine xs_step (fun K HC => xr_iconst HC.1 59 98 (n := (1)) (1 : Int32) rfl rfl rfl) ?_
  refine xs_step (fun K HC => xr_goto HC.1 60 102 rfl (by decide)) ?_
  exact xs_reti 62 rfl rfl (fun K q => q) (fun ty ht => by cases ht; rfl)
set_option maxHeartbeats 4000000 in
set_option maxRecDepth 100000 in
theorem t_M_go_29 (v0 : Nat) (v1 : Int32) (v3 : Int32) (s0 : Int32) (s1 : Nat) (h : HP) : xx_S (xx_D "LampYardModel" tb_M_go 4 4 (some .int) false) xz_i (fun K => xL_i K) 29 [(0, av_R 11 (some v0)), (1, av_I v1), (3, av_I v3)] [av_I s0, av_R 11 (some s1)] h (f_M_go_29 v0 v1 v3 s0 s1 h) := by
  unfold f_M_go_29
  refine xs_chk (fun hz_8 => ?_)
  refine xs_heap (hp_mo_si _ _ _ _) (fun K HC => xr_putz HC.1 19 32 11 54 (hp_z01_or hz_8) rfl rfl wf_M_436 (by decide) fb_11_54 fn_11_54 fy_11_54) (fun h_7 => ?_)
  refine xs_step (fun K HC => xr_aload_n HC.1 20 33 (n := 0) (ix := 0) (j := 0) (c := 11) (x := v0) rfl rfl rfl rfl) ?_
  refine xs_bind (fun q_9 eq_9 => ?_)
  refine xs_step (fun K HC => xr_getr HC.1 21 36 11 48 13 eq_9 rfl rfl wf_M_76 (by decide) fb_11_48 fc_11_48 fd_11_48) ?_
  refine xs_step (fun K HC => xr_iload_n HC.1 22 37 (n := 1) (ix := 1) (j := 1) (x := v1) rfl rfl rfl rfl) ?_
  refine xs_step (fun K HC => xr_aload_n HC.1 23 38 (n := 0) (ix := 0) (j := 0) (c := 11) (x := v0) rfl rfl rfl rfl) ?_
  refine xs_bind (fun q_10 eq_10 => ?_)
  refine xs_step (fun K HC => xr_getr HC.1 24 41 11 48 13 eq_10 rfl rfl wf_M_76 (by decide) fb_11_48 fc_11_48 fd_11_48) ?_
  refine xs_step (fun K HC => xr_iload_n HC.1 25 42 (n := 1) (ix := 1) (j := 1) (x := v1) rfl rfl rfl rfl) ?_
  refine xs_chk (fun hb_11 => ?_)
  refine xs_step (fun K HC => xr_iald HC.1 26 43 (hp_in_vp hb_11) rfl rfl) ?_
  refine xs_step (fun K HC => xr_iconst HC.1 27 44 (n := (3)) (3 : Int32) rfl rfl rfl) ?_
  refine xs_ite (fun K HC => xr_icmp_ge HC.1 28 58 47 rfl (by decide) rfl) ?_ ?_
  · refine xs_step (fun K HC => xr_iconst HC.1 36 59 (n := (3)) (3 : Int32) rfl rfl rfl) ?_
    exact t_M_go_59 v0 v1 v3 (3 : Int32) v1 q_9 h_7
  refine xs_step (fun K HC => xr_aload_n HC.1 29 48 (n := 0) (ix := 0) (j := 0) (c := 11) (x := v0) rfl rfl rfl rfl) ?_
  refine xs_bind (fun q_20 eq_20 => ?_)
  refine xs_step (fun K HC => xr_getr HC.1 30 51 11 48 13 eq_20 rfl rfl wf_M_76 (by decide) fb_11_48 fc_11_48 fd_11_48) ?_
  refine xs_step (fun K HC => xr_iload_n HC.1 31 52 (n := 1) (ix := 1) (j := 1) (x := v1) rfl rfl rfl rfl) ?_
  refine xs_chk (fun hb_21 => ?_)
  refine xs_step (fun K HC => xr_iald HC.1 32 53 (hp_in_vp hb_21) rfl rfl) ?_
  refine xs_step (fun K HC => xr_iconst HC.1 33 54 (n := (1)) (1 : Int32) rfl rfl rfl) ?_
  refine xs_step (fun K HC => xr_iadd HC.1 34 55 rfl rfl) ?_
  refine xs_step (fun K HC => xr_goto HC.1 35 59 rfl (by decide)) ?_
  exact t_M_go_59 v0 v1 v3 ((hp_i h_7 q_20 (v1).toNatClampNeg) + (1 : Int32)) v1 q_9 h_7
set_option maxHeartbeats 4000000 in
set_option maxRecDepth 100000 in
theorem t_M_go (v0 : Nat) (v1 : Int32) (h : HP) : xx_S (xx_D "LampYardModel" tb_M_go 4 4 (some .int) false) xz_i (fun K => xL_i K) 0 [(0, av_R 11 (some v0)), (1, av_I v1)] [] h (f_M_go v0 v1 h) := by
  unfold f_M_go
  refine xs_step (fun K HC => xr_aload_n HC.1 0 1 (n := 0) (ix := 0) (j := 0) (c := 11) (x := v0) rfl rfl rfl rfl) ?_
  refine xs_bind (fun q_1 eq_1 => ?_)
  refine xs_step (fun K HC => xr_getr HC.1 1 4 11 47 13 eq_1 rfl rfl wf_M_73 (by decide) fb_11_47 fc_11_47 fd_11_47) ?_
  refine xs_step (fun K HC => xr_iload_n HC.1 2 5 (n := 1) (ix := 1) (j := 1) (x := v1) rfl rfl rfl rfl) ?_
  refine xs_chk (fun hb_2 => ?_)
  refine xs_step (fun K HC => xr_iald HC.1 3 6 (hp_in_vp hb_2) rfl rfl) ?_
  refine xs_topi (fun v2_3 => ?_)
  refine xs_step (fun K HC => xr_istore_n HC.1 4 7 (n := 2) (ix := 2) (lv' := [(0, av_R 11 (some v0)), (1, av_I v1), (2, av_I v2_3)]) rfl rfl rfl (by decide) rfl) ?_
  refine xs_step (fun K HC => xr_aload_n HC.1 5 8 (n := 0) (ix := 0) (j := 0) (c := 11) (x := v0) rfl rfl rfl rfl) ?_
  refine xs_step (fun K HC => xr_iload_n HC.1 6 9 (n := 1) (ix := 1) (j := 1) (x := v1) rfl rfl rfl rfl) ?_
  refine xs_calli (s_M_doRules v0 v1 h) (fun K HC x9 hM hmo hb => xr_callV HC.1 7 12 (av := [av_I v1]) (st := []) (hM (kg K) (cx_l (kx K))) hmo hb rfl rfl wm_M_433 wi_M_doRules ws_M_doRules wc_M_doRules rfl wh_M_doRules (by decide) (by decide) (by decide) (Nat.le_of_ble_eq_true rfl) rfl) (fun x_4 => ?_)
  refine xs_step (fun K HC => xr_istore_n HC.1 8 13 (n := 3) (ix := 3) (lv' := [(0, av_R 11 (some v0)), (1, av_I v1), (2, av_I v2_3), (3, av_I x_4.1)]) rfl rfl rfl (by decide) rfl) ?_
  refine xs_step (fun K HC => xr_aload_n HC.1 9 14 (n := 0) (ix := 0) (j := 0) (c := 11) (x := v0) rfl rfl rfl rfl) ?_
  refine xs_step (fun K HC => xr_aload_n HC.1 10 15 (n := 0) (ix := 0) (j := 0) (c := 11) (x := v0) rfl rfl rfl rfl) ?_
  refine xs_bind (fun q_5 eq_5 => ?_)
  refine xs_step (fun K HC => xr_getr HC.1 11 18 11 47 13 eq_5 rfl rfl wf_M_73 (by decide) fb_11_47 fc_11_47 fd_11_47) ?_
  refine xs_step (fun K HC => xr_iload_n HC.1 12 19 (n := 1) (ix := 1) (j := 1) (x := v1) rfl rfl rfl rfl) ?_
  refine xs_chk (fun hb_6 => ?_)
  refine xs_step (fun K HC => xr_iald HC.1 13 20 (hp_in_vp hb_6) rfl rfl) ?_
  refine xs_step (fun K HC => xr_iload_n HC.1 14 21 (n := 2) (ix := 2) (j := 2) (x := v2_3) rfl rfl rfl rfl) ?_
  refine xs_ite (fun K HC => xr_icmp_eq HC.1 15 28 24 rfl (by decide) rfl) ?_ ?_
  · refine xs_step (fun K HC => xr_iconst HC.1 18 29 (n := (0)) (0 : Int32) rfl rfl rfl) ?_
    refine xs_step (fun K HC => xr_sub (lv' := [(0, av_R 11 (some v0)), (1, av_I v1), (3, av_I x_4.1)]) [0, 1, 3] rfl) ?_
    exact t_M_go_29 v0 v1 x_4.1 (0 : Int32) v0 x_4.2
  refine xs_step (fun K HC => xr_iconst HC.1 16 25 (n := (1)) (1 : Int32) rfl rfl rfl) ?_
  refine xs_step (fun K HC => xr_goto HC.1 17 29 rfl (by decide)) ?_
  refine xs_step (fun K HC => xr_sub (lv' := [(0, av_R 11 (some v0)), (1, av_I v1), (3, av_I x_4.1)]) [0, 1, 3] rfl) ?_
  exact t_M_go_29 v0 v1 x_4.1 (1 : Int32) v0 x_4.2
theorem s_M_go (v0 : Nat) (v1 : Int32) (h : HP) : ∀ x, f_M_go v0 v1 h = some x → hp_mo h x.2 ∧ ∀ g l, xx_M g l y_M_go prog_14_method_43_code 4 (some .int) 4 [av_R 11 (some v0), av_I v1] h (some (av_I x.1)) x.2 :=
  xM_i (tb := tb_M_go) (b := false) (by decide +kernel) dt_M_go (fun _ => trivial) (Nat.le_of_ble_eq_true rfl) (fun hb => by cases hb) (t_M_go v0 v1 h)
def tb_M_forgetAt : TBL := [(0, .aload_n 0, 1), (1, .getfield 73, 3), (4, .iload_n 1, 1), (5, .aload_n 0, 1), (6, .getfield 33, 3), (9, .iload_n 1, 1), (10, .iaload, 1), (11, .iastore, 1), (12, .aload_n 0, 1), (13, .getfield 76, 3), (16, .iload_n 1, 1), (17, .iconst 0, 1), (18, .iastore, 1), (19, .return_, 1)]
theorem dt_M_forgetAt : ∀ q ∈ tb_M_forgetAt, decode prog_14_method_44_code q.1 = .ok (q.2.1, q.2.2) := by decide +kernel
set_option maxHeartbeats 4000000 in
set_option maxRecDepth 100000 in
theorem t_M_forgetAt (v0 : Nat) (v1 : Int32) (h : HP) : xx_S (xx_D "LampYardModel" tb_M_forgetAt 2 1 none false) xz_v (fun K => xL_v K) 0 [(0, av_R 11 (some v0)), (1, av_I v1)] [] h (f_M_forgetAt v0 v1 h) := by
  unfold f_M_forgetAt
  refine xs_step (fun K HC => xr_aload_n HC.1 0 1 (n := 0) (ix := 0) (j := 0) (c := 11) (x := v0) rfl rfl rfl rfl) ?_
  refine xs_bind (fun q_1 eq_1 => ?_)
  refine xs_step (fun K HC => xr_getr HC.1 1 4 11 47 13 eq_1 rfl rfl wf_M_73 (by decide) fb_11_47 fc_11_47 fd_11_47) ?_
  refine xs_step (fun K HC => xr_iload_n HC.1 2 5 (n := 1) (ix := 1) (j := 1) (x := v1) rfl rfl rfl rfl) ?_
  refine xs_step (fun K HC => xr_aload_n HC.1 3 6 (n := 0) (ix := 0) (j := 0) (c := 11) (x := v0) rfl rfl rfl rfl) ?_
  refine xs_bind (fun q_2 eq_2 => ?_)
  refine xs_step (fun K HC => xr_getr HC.1 4 9 11 15 13 eq_2 rfl rfl wf_M_33 (by decide) fb_11_15 fc_11_15 fd_11_15) ?_
  refine xs_step (fun K HC => xr_iload_n HC.1 5 10 (n := 1) (ix := 1) (j := 1) (x := v1) rfl rfl rfl rfl) ?_
  refine xs_chk (fun hb_3 => ?_)
  refine xs_step (fun K HC => xr_iald HC.1 6 11 (hp_in_vp hb_3) rfl rfl) ?_
  refine xs_chk (fun hb_4 => ?_)
  refine xs_heap (hp_mo_si _ _ _ _) (fun K HC => xr_iast HC.1 7 12 (hp_in_vp hb_4) rfl rfl) (fun h_5 => ?_)
  refine xs_step (fun K HC => xr_aload_n HC.1 8 13 (n := 0) (ix := 0) (j := 0) (c := 11) (x := v0) rfl rfl rfl rfl) ?_
  refine xs_bind (fun q_6 eq_6 => ?_)
  refine xs_step (fun K HC => xr_getr HC.1 9 16 11 48 13 eq_6 rfl rfl wf_M_76 (by decide) fb_11_48 fc_11_48 fd_11_48) ?_
  refine xs_step (fun K HC => xr_iload_n HC.1 10 17 (n := 1) (ix := 1) (j := 1) (x := v1) rfl rfl rfl rfl) ?_
  refine xs_step (fun K HC => xr_iconst HC.1 11 18 (n := (0)) (0 : Int32) rfl rfl rfl) ?_
  refine xs_chk (fun hb_7 => ?_)
  refine xs_heap (hp_mo_si _ _ _ _) (fun K HC => xr_iast HC.1 12 19 (hp_in_vp hb_7) rfl rfl) (fun h_8 => ?_)
  exact xs_ret 13 rfl rfl (fun K q => q)
theorem s_M_forgetAt (v0 : Nat) (v1 : Int32) (h : HP) : ∀ x, f_M_forgetAt v0 v1 h = some x → hp_mo h x ∧ ∀ g l, xx_M g l y_M_forgetAt prog_14_method_44_code 2 none 1 [av_R 11 (some v0), av_I v1] h none x :=
  xM_v (tb := tb_M_forgetAt) (b := false) (by decide +kernel) dt_M_forgetAt trivial (Nat.le_of_ble_eq_true rfl) (fun hb => by cases hb) (t_M_forgetAt v0 v1 h)
def tb_M_put : TBL := [(0, .aload_n 0, 1), (1, .aload_n 0, 1), (2, .getfield 413, 3), (5, .putfield 442, 3), (8, .aload_n 0, 1), (9, .aload_n 0, 1), (10, .getfield 416, 3), (13, .putfield 445, 3), (16, .iconst 0, 1), (17, .istore_n 1, 1), (18, .iload_n 1, 1), (19, .bipush 6, 2), (21, .if_icmp .ge 45, 3), (24, .aload_n 0, 1), (25, .getfield 85, 3), (28, .iload_n 1, 1), (29, .aload_n 0, 1), (30, .getfield 73, 3), (33, .iload_n 1, 1), (34, .iaload, 1), (35, .iastore, 1), (36, .aload_n 0, 1), (37, .getfield 88, 3), (40, .iload_n 1, 1), (41, .aload_n 0, 1), (42, .getfield 76, 3), (45, .iload_n 1, 1), (46, .iaload, 1), (47, .iastore, 1), (48, .aload_n 0, 1), (49, .getfield 91, 3), (52, .iload_n 1, 1), (53, .aload_n 0, 1), (54, .getfield 82, 3), (57, .iload_n 1, 1), (58, .baload, 1), (59, .bastore, 1), (60, .iinc 1 1, 3), (63, .goto (-45), 3), (66, .return_, 1)]
theorem dt_M_put : ∀ q ∈ tb_M_put, decode prog_14_method_46_code q.1 = .ok (q.2.1, q.2.2) := by decide +kernel
set_option maxHeartbeats 4000000 in
set_option maxRecDepth 100000 in
theorem t_M_put_18b (v0 : Nat) (v1 : Int32) (h : HP) : xx_S (xx_D "LampYardModel" tb_M_put 2 1 none false) (xx_z2 (fun s : (Int32 × HP) => s.2) xz_v) (fun K => xx_L2 (fun s : (Int32 × HP) => xx_X K 18 [(0, av_R 11 (some v0)), (1, av_I s.1)] [] (s.2)) (xL_v K)) 18 [(0, av_R 11 (some v0)), (1, av_I v1)] [] h (f_M_put_18b v0 v1 h) := by
  unfold f_M_put_18b
  refine xs_step (fun K HC => xr_iload_n HC.1 10 19 (n := 1) (ix := 1) (j := 1) (x := v1) rfl rfl rfl rfl) ?_
  refine xs_step (fun K HC => xr_bipush HC.1 11 21 (n := (6)) (6 : Int32) rfl rfl rfl) ?_
  refine xs_ite (fun K HC => xr_icmp_ge HC.1 12 66 24 rfl (by decide) rfl) ?_ ?_
  · exact xs_ret 39 rfl rfl (fun K q => q)
  refine xs_step (fun K HC => xr_aload_n HC.1 13 25 (n := 0) (ix := 0) (j := 0) (c := 11) (x := v0) rfl rfl rfl rfl) ?_
  refine xs_bind (fun q_3 eq_3 => ?_)
  refine xs_step (fun K HC => xr_getr HC.1 14 28 11 57 13 eq_3 rfl rfl wf_M_85 (by decide) fb_11_57 fc_11_57 fd_11_57) ?_
  refine xs_step (fun K HC => xr_iload_n HC.1 15 29 (n := 1) (ix := 1) (j := 1) (x := v1) rfl rfl rfl rfl) ?_
  refine xs_step (fun K HC => xr_aload_n HC.1 16 30 (n := 0) (ix := 0) (j := 0) (c := 11) (x := v0) rfl rfl rfl rfl) ?_
  refine xs_bind (fun q_4 eq_4 => ?_)
  refine xs_step (fun K HC => xr_getr HC.1 17 33 11 47 13 eq_4 rfl rfl wf_M_73 (by decide) fb_11_47 fc_11_47 fd_11_47) ?_
  refine xs_step (fun K HC => xr_iload_n HC.1 18 34 (n := 1) (ix := 1) (j := 1) (x := v1) rfl rfl rfl rfl) ?_
  refine xs_chk (fun hb_5 => ?_)
  refine xs_step (fun K HC => xr_iald HC.1 19 35 (hp_in_vp hb_5) rfl rfl) ?_
  refine xs_chk (fun hb_6 => ?_)
  refine xs_heap (hp_mo_si _ _ _ _) (fun K HC => xr_iast HC.1 20 36 (hp_in_vp hb_6) rfl rfl) (fun h_7 => ?_)
  refine xs_step (fun K HC => xr_aload_n HC.1 21 37 (n := 0) (ix := 0) (j := 0) (c := 11) (x := v0) rfl rfl rfl rfl) ?_
  refine xs_bind (fun q_8 eq_8 => ?_)
  refine xs_step (fun K HC => xr_getr HC.1 22 40 11 58 13 eq_8 rfl rfl wf_M_88 (by decide) fb_11_58 fc_11_58 fd_11_58) ?_
  refine xs_step (fun K HC => xr_iload_n HC.1 23 41 (n := 1) (ix := 1) (j := 1) (x := v1) rfl rfl rfl rfl) ?_
  refine xs_step (fun K HC => xr_aload_n HC.1 24 42 (n := 0) (ix := 0) (j := 0) (c := 11) (x := v0) rfl rfl rfl rfl) ?_
  refine xs_bind (fun q_9 eq_9 => ?_)
  refine xs_step (fun K HC => xr_getr HC.1 25 45 11 48 13 eq_9 rfl rfl wf_M_76 (by decide) fb_11_48 fc_11_48 fd_11_48) ?_
  refine xs_step (fun K HC => xr_iload_n HC.1 26 46 (n := 1) (ix := 1) (j := 1) (x := v1) rfl rfl rfl rfl) ?_
  refine xs_chk (fun hb_10 => ?_)
  refine xs_step (fun K HC => xr_iald HC.1 27 47 (hp_in_vp hb_10) rfl rfl) ?_
  refine xs_chk (fun hb_11 => ?_)
  refine xs_heap (hp_mo_si _ _ _ _) (fun K HC => xr_iast HC.1 28 48 (hp_in_vp hb_11) rfl rfl) (fun h_12 => ?_)
  refine xs_step (fun K HC => xr_aload_n HC.1 29 49 (n := 0) (ix := 0) (j := 0) (c := 11) (x := v0) rfl rfl rfl rfl) ?_
  refine xs_bind (fun q_13 eq_13 => ?_)
  refine xs_step (fun K HC => xr_getr HC.1 30 52 11 59 15 eq_13 rfl rfl wf_M_91 (by decide) fb_11_59 fc_11_59 fd_11_59) ?_
  refine xs_step (fun K HC => xr_iload_n HC.1 31 53 (n := 1) (ix := 1) (j := 1) (x := v1) rfl rfl rfl rfl) ?_
  refine xs_step (fun K HC => xr_aload_n HC.1 32 54 (n := 0) (ix := 0) (j := 0) (c := 11) (x := v0) rfl rfl rfl rfl) ?_
  refine xs_bind (fun q_14 eq_14 => ?_)
  refine xs_step (fun K HC => xr_getr HC.1 33 57 11 50 15 eq_14 rfl rfl wf_M_82 (by decide) fb_11_50 fc_11_50 fd_11_50) ?_
  refine xs_step (fun K HC => xr_iload_n HC.1 34 58 (n := 1) (ix := 1) (j := 1) (x := v1) rfl rfl rfl rfl) ?_
  refine xs_chk (fun hb_15 => ?_)
  refine xs_step (fun K HC => xr_zald HC.1 35 59 (hp_in_vp hb_15) rfl rfl) ?_
  refine xs_chk (fun hb_16 => ?_)
  refine xs_heap (hp_mo_si _ _ _ _) (fun K HC => xr_zast HC.1 36 60 (hp_in_vp hb_16) rfl rfl) (fun h_17 => ?_)
  refine xs_gen (fun v1_18 ev1_18 => ?_)
  refine xs_step (fun K HC => xr_iinc HC.1 37 63 (ix := 1) (j := 1) (n := (1)) (x := v1) v1_18 (lv' := [(0, av_R 11 (some v0)), (1, av_I v1_18)]) rfl (by rw [ev1_18]; rfl) rfl rfl (by decide) rfl) ?_
  refine xs_step (fun K HC => xr_goto HC.1 38 18 rfl (by decide)) ?_
  exact xs_back rfl (fun K q => q)
theorem t_M_put_18 (v0 : Nat) (v1 : Int32) (h : HP) : xx_S (xx_D "LampYardModel" tb_M_put 2 1 none false) xz_v (fun K => xL_v K) 18 [(0, av_R 11 (some v0)), (1, av_I v1)] [] h (f_M_put_18 v0 v1 h) :=
  xs_loop (zf := xz_v) (L := (fun K => xL_v K)) (fun s : (Int32 × HP) => [(0, av_R 11 (some v0)), (1, av_I s.1)]) (fun s : (Int32 × HP) => s.2) (fun s => t_M_put_18b v0 s.1 s.2) (v1, h)
set_option maxHeartbeats 4000000 in
set_option maxRecDepth 100000 in
theorem t_M_put (v0 : Nat) (h : HP) : xx_S (xx_D "LampYardModel" tb_M_put 2 1 none false) xz_v (fun K => xL_v K) 0 [(0, av_R 11 (some v0))] [] h (f_M_put v0 h) := by
  unfold f_M_put
  refine xs_step (fun K HC => xr_aload_n HC.1 0 1 (n := 0) (ix := 0) (j := 0) (c := 11) (x := v0) rfl rfl rfl rfl) ?_
  refine xs_step (fun K HC => xr_aload_n HC.1 1 2 (n := 0) (ix := 0) (j := 0) (c := 11) (x := v0) rfl rfl rfl rfl) ?_
  refine xs_step (fun K HC => xr_geti HC.1 2 5 11 51 rfl rfl wf_M_413 (by decide) fb_11_51 fc_11_51) ?_
  refine xs_heap (hp_mo_si _ _ _ _) (fun K HC => xr_puti HC.1 3 8 11 60 rfl rfl wf_M_442 (by decide) fb_11_60 fn_11_60 fy_11_60) (fun h_1 => ?_)
  refine xs_step (fun K HC => xr_aload_n HC.1 4 9 (n := 0) (ix := 0) (j := 0) (c := 11) (x := v0) rfl rfl rfl rfl) ?_
  refine xs_step (fun K HC => xr_aload_n HC.1 5 10 (n := 0) (ix := 0) (j := 0) (c := 11) (x := v0) rfl rfl rfl rfl) ?_
  refine xs_step (fun K HC => xr_geti HC.1 6 13 11 52 rfl rfl wf_M_416 (by decide) fb_11_52 fc_11_52) ?_
  refine xs_heap (hp_mo_si _ _ _ _) (fun K HC => xr_puti HC.1 7 16 11 61 rfl rfl wf_M_445 (by decide) fb_11_61 fn_11_61 fy_11_61) (fun h_2 => ?_)
  refine xs_step (fun K HC => xr_iconst HC.1 8 17 (n := (0)) (0 : Int32) rfl rfl rfl) ?_
  refine xs_step (fun K HC => xr_istore_n HC.1 9 18 (n := 1) (ix := 1) (lv' := [(0, av_R 11 (some v0)), (1, av_I (0 : Int32))]) rfl rfl rfl (by decide) rfl) ?_
  exact t_M_put_18 v0 (0 : Int32) h_2
theorem s_M_put (v0 : Nat) (h : HP) : ∀ x, f_M_put v0 h = some x → hp_mo h x ∧ ∀ g l, xx_M g l y_M_put prog_14_method_46_code 2 none 1 [av_R 11 (some v0)] h none x :=
  xM_v (tb := tb_M_put) (b := false) (by decide +kernel) dt_M_put trivial (Nat.le_of_ble_eq_true rfl) (fun hb => by cases hb) (t_M_put v0 h)
def tb_M_bring : TBL := [(0, .aload_n 0, 1), (1, .aload_n 0, 1), (2, .getfield 442, 3), (5, .putfield 413, 3), (8, .aload_n 0, 1), (9, .aload_n 0, 1), (10, .getfield 445, 3), (13, .putfield 416, 3), (16, .iconst 0, 1), (17, .istore_n 1, 1), (18, .iload_n 1, 1), (19, .bipush 6, 2), (21, .if_icmp .ge 45, 3), (24, .aload_n 0, 1), (25, .getfield 73, 3), (28, .iload_n 1, 1), (29, .aload_n 0, 1), (30, .getfield 85, 3), (33, .iload_n 1, 1), (34, .iaload, 1), (35, .iastore, 1), (36, .aload_n 0, 1), (37, .getfield 76, 3), (40, .iload_n 1, 1), (41, .aload_n 0, 1), (42, .getfield 88, 3), (45, .iload_n 1, 1), (46, .iaload, 1), (47, .iastore, 1), (48, .aload_n 0, 1), (49, .getfield 82, 3), (52, .iload_n 1, 1), (53, .aload_n 0, 1), (54, .getfield 91, 3), (57, .iload_n 1, 1), (58, .baload, 1), (59, .bastore, 1), (60, .iinc 1 1, 3), (63, .goto (-45), 3), (66, .return_, 1)]
theorem dt_M_bring : ∀ q ∈ tb_M_bring, decode prog_14_method_47_code q.1 = .ok (q.2.1, q.2.2) := by decide +kernel
set_option maxHeartbeats 4000000 in
set_option maxRecDepth 100000 in
theorem t_M_bring_18b (v0 : Nat) (v1 : Int32) (h : HP) : xx_S (xx_D "LampYardModel" tb_M_bring 2 1 none false) (xx_z2 (fun s : (Int32 × HP) => s.2) xz_v) (fun K => xx_L2 (fun s : (Int32 × HP) => xx_X K 18 [(0, av_R 11 (some v0)), (1, av_I s.1)] [] (s.2)) (xL_v K)) 18 [(0, av_R 11 (some v0)), (1, av_I v1)] [] h (f_M_bring_18b v0 v1 h) := by
  unfold f_M_bring_18b
  refine xs_step (fun K HC => xr_iload_n HC.1 10 19 (n := 1) (ix := 1) (j := 1) (x := v1) rfl rfl rfl rfl) ?_
  refine xs_step (fun K HC => xr_bipush HC.1 11 21 (n := (6)) (6 : Int32) rfl rfl rfl) ?_
  refine xs_ite (fun K HC => xr_icmp_ge HC.1 12 66 24 rfl (by decide) rfl) ?_ ?_
  · exact xs_ret 39 rfl rfl (fun K q => q)
  refine xs_step (fun K HC => xr_aload_n HC.1 13 25 (n := 0) (ix := 0) (j := 0) (c := 11) (x := v0) rfl rfl rfl rfl) ?_
  refine xs_bind (fun q_3 eq_3 => ?_)
  refine xs_step (fun K HC => xr_getr HC.1 14 28 11 47 13 eq_3 rfl rfl wf_M_73 (by decide) fb_11_47 fc_11_47 fd_11_47) ?_
  refine xs_step (fun K HC => xr_iload_n HC.1 15 29 (n := 1) (ix := 1) (j := 1) (x := v1) rfl rfl rfl rfl) ?_
  refine xs_step (fun K HC => xr_aload_n HC.1 16 30 (n := 0) (ix := 0) (j := 0) (c := 11) (x := v0) rfl rfl rfl rfl) ?_
  refine xs_bind (fun q_4 eq_4 => ?_)
  refine xs_step (fun K HC => xr_getr HC.1 17 33 11 57 13 eq_4 rfl rfl wf_M_85 (by decide) fb_11_57 fc_11_57 fd_11_57) ?_
  refine xs_step (fun K HC => xr_iload_n HC.1 18 34 (n := 1) (ix := 1) (j := 1) (x := v1) rfl rfl rfl rfl) ?_
  refine xs_chk (fun hb_5 => ?_)
  refine xs_step (fun K HC => xr_iald HC.1 19 35 (hp_in_vp hb_5) rfl rfl) ?_
  refine xs_chk (fun hb_6 => ?_)
  refine xs_heap (hp_mo_si _ _ _ _) (fun K HC => xr_iast HC.1 20 36 (hp_in_vp hb_6) rfl rfl) (fun h_7 => ?_)
  refine xs_step (fun K HC => xr_aload_n HC.1 21 37 (n := 0) (ix := 0) (j := 0) (c := 11) (x := v0) rfl rfl rfl rfl) ?_
  refine xs_bind (fun q_8 eq_8 => ?_)
  refine xs_step (fun K HC => xr_getr HC.1 22 40 11 48 13 eq_8 rfl rfl wf_M_76 (by decide) fb_11_48 fc_11_48 fd_11_48) ?_
  refine xs_step (fun K HC => xr_iload_n HC.1 23 41 (n := 1) (ix := 1) (j := 1) (x := v1) rfl rfl rfl rfl) ?_
  refine xs_step (fun K HC => xr_aload_n HC.1 24 42 (n := 0) (ix := 0) (j := 0) (c := 11) (x := v0) rfl rfl rfl rfl) ?_
  refine xs_bind (fun q_9 eq_9 => ?_)
  refine xs_step (fun K HC => xr_getr HC.1 25 45 11 58 13 eq_9 rfl rfl wf_M_88 (by decide) fb_11_58 fc_11_58 fd_11_58) ?_
  refine xs_step (fun K HC => xr_iload_n HC.1 26 46 (n := 1) (ix := 1) (j := 1) (x := v1) rfl rfl rfl rfl) ?_
  refine xs_chk (fun hb_10 => ?_)
  refine xs_step (fun K HC => xr_iald HC.1 27 47 (hp_in_vp hb_10) rfl rfl) ?_
  refine xs_chk (fun hb_11 => ?_)
  refine xs_heap (hp_mo_si _ _ _ _) (fun K HC => xr_iast HC.1 28 48 (hp_in_vp hb_11) rfl rfl) (fun h_12 => ?_)
  refine xs_step (fun K HC => xr_aload_n HC.1 29 49 (n := 0) (ix := 0) (j := 0) (c := 11) (x := v0) rfl rfl rfl rfl) ?_
  refine xs_bind (fun q_13 eq_13 => ?_)
  refine xs_step (fun K HC => xr_getr HC.1 30 52 11 50 15 eq_13 rfl rfl wf_M_82 (by decide) fb_11_50 fc_11_50 fd_11_50) ?_
  refine xs_step (fun K HC => xr_iload_n HC.1 31 53 (n := 1) (ix := 1) (j := 1) (x := v1) rfl rfl rfl rfl) ?_
  refine xs_step (fun K HC => xr_aload_n HC.1 32 54 (n := 0) (ix := 0) (j := 0) (c := 11) (x := v0) rfl rfl rfl rfl) ?_
  refine xs_bind (fun q_14 eq_14 => ?_)
  refine xs_step (fun K HC => xr_getr HC.1 33 57 11 59 15 eq_14 rfl rfl wf_M_91 (by decide) fb_11_59 fc_11_59 fd_11_59) ?_
  refine xs_step (fun K HC => xr_iload_n HC.1 34 58 (n := 1) (ix := 1) (j := 1) (x := v1) rfl rfl rfl rfl) ?_
  refine xs_chk (fun hb_15 => ?_)
  refine xs_step (fun K HC => xr_zald HC.1 35 59 (hp_in_vp hb_15) rfl rfl) ?_
  refine xs_chk (fun hb_16 => ?_)
  refine xs_heap (hp_mo_si _ _ _ _) (fun K HC => xr_zast HC.1 36 60 (hp_in_vp hb_16) rfl rfl) (fun h_17 => ?_)
  refine xs_gen (fun v1_18 ev1_18 => ?_)
  refine xs_step (fun K HC => xr_iinc HC.1 37 63 (ix := 1) (j := 1) (n := (1)) (x := v1) v1_18 (lv' := [(0, av_R 11 (some v0)), (1, av_I v1_18)]) rfl (by rw [ev1_18]; rfl) rfl rfl (by decide) rfl) ?_
  refine xs_step (fun K HC => xr_goto HC.1 38 18 rfl (by decide)) ?_
  exact xs_back rfl (fun K q => q)
theorem t_M_bring_18 (v0 : Nat) (v1 : Int32) (h : HP) : xx_S (xx_D "LampYardModel" tb_M_bring 2 1 none false) xz_v (fun K => xL_v K) 18 [(0, av_R 11 (some v0)), (1, av_I v1)] [] h (f_M_bring_18 v0 v1 h) :=
  xs_loop (zf := xz_v) (L := (fun K => xL_v K)) (fun s : (Int32 × HP) => [(0, av_R 11 (some v0)), (1, av_I s.1)]) (fun s : (Int32 × HP) => s.2) (fun s => t_M_bring_18b v0 s.1 s.2) (v1, h)
set_option maxHeartbeats 4000000 in
set_option maxRecDepth 100000 in
theorem t_M_bring (v0 : Nat) (h : HP) : xx_S (xx_D "LampYardModel" tb_M_bring 2 1 none false) xz_v (fun K => xL_v K) 0 [(0, av_R 11 (some v0))] [] h (f_M_bring v0 h) := by
  unfold f_M_bring
  refine xs_step (fun K HC => xr_aload_n HC.1 0 1 (n := 0) (ix := 0) (j := 0) (c := 11) (x := v0) rfl rfl rfl rfl) ?_
  refine xs_step (fun K HC => xr_aload_n HC.1 1 2 (n := 0) (ix := 0) (j := 0) (c := 11) (x := v0) rfl rfl rfl rfl) ?_
  refine xs_step (fun K HC => xr_geti HC.1 2 5 11 60 rfl rfl wf_M_442 (by decide) fb_11_60 fc_11_60) ?_
  refine xs_heap (hp_mo_si _ _ _ _) (fun K HC => xr_puti HC.1 3 8 11 51 rfl rfl wf_M_413 (by decide) fb_11_51 fn_11_51 fy_11_51) (fun h_1 => ?_)
  refine xs_step (fun K HC => xr_aload_n HC.1 4 9 (n := 0) (ix := 0) (j := 0) (c := 11) (x := v0) rfl rfl rfl rfl) ?_
  refine xs_step (fun K HC => xr_aload_n HC.1 5 10 (n := 0) (ix := 0) (j := 0) (c := 11) (x := v0) rfl rfl rfl rfl) ?_
  refine xs_step (fun K HC => xr_geti HC.1 6 13 11 61 rfl rfl wf_M_445 (by decide) fb_11_61 fc_11_61) ?_
  refine xs_heap (hp_mo_si _ _ _ _) (fun K HC => xr_puti HC.1 7 16 11 52 rfl rfl wf_M_416 (by decide) fb_11_52 fn_11_52 fy_11_52) (fun h_2 => ?_)
  refine xs_step (fun K HC => xr_iconst HC.1 8 17 (n := (0)) (0 : Int32) rfl rfl rfl) ?_
  refine xs_step (fun K HC => xr_istore_n HC.1 9 18 (n := 1) (ix := 1) (lv' := [(0, av_R 11 (some v0)), (1, av_I (0 : Int32))]) rfl rfl rfl (by decide) rfl) ?_
  exact t_M_bring_18 v0 (0 : Int32) h_2
theorem s_M_bring (v0 : Nat) (h : HP) : ∀ x, f_M_bring v0 h = some x → hp_mo h x ∧ ∀ g l, xx_M g l y_M_bring prog_14_method_47_code 2 none 1 [av_R 11 (some v0)] h none x :=
  xM_v (tb := tb_M_bring) (b := false) (by decide +kernel) dt_M_bring trivial (Nat.le_of_ble_eq_true rfl) (fun hb => by cases hb) (t_M_bring v0 h)
def tb_M_isLight : TBL := [(0, .iload_n 1, 1), (1, .ifCond .lt 17, 3), (4, .iload_n 1, 1), (5, .iconst 1, 1), (6, .aload_n 0, 1), (7, .getfield 383, 3), (10, .ishl, 1), (11, .if_icmp .ge 7, 3), (14, .iconst 1, 1), (15, .goto 4, 3), (18, .iconst 0, 1), (19, .ireturn, 1)]
theorem dt_M_isLight : ∀ q ∈ tb_M_isLight, decode prog_14_method_49_code q.1 = .ok (q.2.1, q.2.2) := by decide +kernel
set_option maxHeartbeats 4000000 in
set_option maxRecDepth 100000 in
theorem t_M_isLight (v0 : Nat) (v1 : Int32) (h : HP) : xx_S (xx_D "LampYardModel" tb_M_isLight 2 1 (some .boolean) false) xz_i (fun K => xL_i K) 0 [(0, av_R 11 (some v0)), (1, av_I v1)] [] h (f_M_isLight v0 v1 h) := by
  unfold f_M_isLight
  refine xs_step (fun K HC => xr_iload_n HC.1 0 1 (n := 1) (ix := 1) (j := 1) (x := v1) rfl rfl rfl rfl) ?_
  refine xs_ite (fun K HC => xr_if_lt HC.1 1 18 4 rfl (by decide) rfl) ?_ ?_
  · refine xs_step (fun K HC => xr_iconst HC.1 10 19 (n := (0)) (0 : Int32) rfl rfl rfl) ?_
    exact xs_reti 11 rfl rfl (fun K q => q) (fun ty ht => by cases ht; rfl)
  refine xs_step (fun K HC => xr_iload_n HC.1 2 5 (n := 1) (ix := 1) (j := 1) (x := v1) rfl rfl rfl rfl) ?_
  refine xs_step (fun K HC => xr_iconst HC.1 3 6 (n := (1)) (1 : Int32) rfl rfl rfl) ?_
  refine xs_step (fun K HC => xr_aload_n HC.1 4 7 (n := 0) (ix := 0) (j := 0) (c := 11) (x := v0) rfl rfl rfl rfl) ?_
  refine xs_step (fun K HC => xr_geti HC.1 5 10 11 28 rfl rfl wf_M_383 (by decide) fb_11_28 fc_11_28) ?_
  refine xs_step (fun K HC => xr_ishl HC.1 6 11 rfl rfl) ?_
  refine xs_ite (fun K HC => xr_icmp_ge HC.1 7 18 14 rfl (by decide) rfl) ?_ ?_
  · refine xs_step (fun K HC => xr_iconst HC.1 10 19 (n := (0)) (0 : Int32) rfl rfl rfl) ?_
    exact xs_reti 11 rfl rfl (fun K q => q) (fun ty ht => by cases ht; rfl)
  refine xs_step (fun K HC => xr_iconst HC.1 8 15 (n := (1)) (1 : Int32) rfl rfl rfl) ?_
  refine xs_step (fun K HC => xr_goto HC.1 9 19 rfl (by decide)) ?_
  exact xs_reti 11 rfl rfl (fun K q => q) (fun ty ht => by cases ht; rfl)
theorem s_M_isLight (v0 : Nat) (v1 : Int32) (h : HP) : ∀ x, f_M_isLight v0 v1 h = some x → hp_mo h x.2 ∧ ∀ g l, xx_M g l y_M_isLight prog_14_method_49_code 2 (some .boolean) 1 [av_R 11 (some v0), av_I v1] h (some (av_I x.1)) x.2 :=
  xM_i (tb := tb_M_isLight) (b := false) (by decide +kernel) dt_M_isLight (fun _ => trivial) (Nat.le_of_ble_eq_true rfl) (fun hb => by cases hb) (t_M_isLight v0 v1 h)
def tb_M_isMan : TBL := [(0, .iload_n 1, 1), (1, .ifCond .lt 15, 3), (4, .iload_n 1, 1), (5, .aload_n 0, 1), (6, .getfield 401, 3), (9, .if_icmp .ge 7, 3), (12, .iconst 1, 1), (13, .goto 4, 3), (16, .iconst 0, 1), (17, .ireturn, 1)]
theorem dt_M_isMan : ∀ q ∈ tb_M_isMan, decode prog_14_method_50_code q.1 = .ok (q.2.1, q.2.2) := by decide +kernel
set_option maxHeartbeats 4000000 in
set_option maxRecDepth 100000 in
theorem t_M_isMan (v0 : Nat) (v1 : Int32) (h : HP) : xx_S (xx_D "LampYardModel" tb_M_isMan 2 1 (some .boolean) false) xz_i (fun K => xL_i K) 0 [(0, av_R 11 (some v0)), (1, av_I v1)] [] h (f_M_isMan v0 v1 h) := by
  unfold f_M_isMan
  refine xs_step (fun K HC => xr_iload_n HC.1 0 1 (n := 1) (ix := 1) (j := 1) (x := v1) rfl rfl rfl rfl) ?_
  refine xs_ite (fun K HC => xr_if_lt HC.1 1 16 4 rfl (by decide) rfl) ?_ ?_
  · refine xs_step (fun K HC => xr_iconst HC.1 8 17 (n := (0)) (0 : Int32) rfl rfl rfl) ?_
    exact xs_reti 9 rfl rfl (fun K q => q) (fun ty ht => by cases ht; rfl)
  refine xs_step (fun K HC => xr_iload_n HC.1 2 5 (n := 1) (ix := 1) (j := 1) (x := v1) rfl rfl rfl rfl) ?_
  refine xs_step (fun K HC => xr_aload_n HC.1 3 6 (n := 0) (ix := 0) (j := 0) (c := 11) (x := v0) rfl rfl rfl rfl) ?_
  refine xs_step (fun K HC => xr_geti HC.1 4 9 11 33 rfl rfl wf_M_401 (by decide) fb_11_33 fc_11_33) ?_
  refine xs_ite (fun K HC => xr_icmp_ge HC.1 5 16 12 rfl (by decide) rfl) ?_ ?_
  · refine xs_step (fun K HC => xr_iconst HC.1 8 17 (n := (0)) (0 : Int32) rfl rfl rfl) ?_
    exact xs_reti 9 rfl rfl (fun K q => q) (fun ty ht => by cases ht; rfl)
  refine xs_step (fun K HC => xr_iconst HC.1 6 13 (n := (1)) (1 : Int32) rfl rfl rfl) ?_
  refine xs_step (fun K HC => xr_goto HC.1 7 17 rfl (by decide)) ?_
  exact xs_reti 9 rfl rfl (fun K q => q) (fun ty ht => by cases ht; rfl)
theorem s_M_isMan (v0 : Nat) (v1 : Int32) (h : HP) : ∀ x, f_M_isMan v0 v1 h = some x → hp_mo h x.2 ∧ ∀ g l, xx_M g l y_M_isMan prog_14_method_50_code 2 (some .boolean) 1 [av_R 11 (some v0), av_I v1] h (some (av_I x.1)) x.2 :=
  xM_i (tb := tb_M_isMan) (b := false) (by decide +kernel) dt_M_isMan (fun _ => trivial) (Nat.le_of_ble_eq_true rfl) (fun hb => by cases hb) (t_M_isMan v0 v1 h)
def tb_M_begin : TBL := [(0, .aload_n 0, 1), (1, .iload_n 1, 1), (2, .invokevirtual 457, 3), (5, .ifCond .ne 5, 3), (8, .iconst 0, 1), (9, .ireturn, 1), (10, .aload_n 0, 1), (11, .iload_n 1, 1), (12, .invokevirtual 184, 3), (15, .iconst 1, 1), (16, .ireturn, 1)]
theorem dt_M_begin : ∀ q ∈ tb_M_begin, decode prog_14_method_51_code q.1 = .ok (q.2.1, q.2.2) := by decide +kernel
set_option maxHeartbeats 4000000 in
set_option maxRecDepth 100000 in
theorem t_M_begin (v0 : Nat) (v1 : Int32) (h : HP) : xx_S (xx_D "LampYardModel" tb_M_begin 2 3 (some .boolean) false) xz_i (fun K => xL_i K) 0 [(0, av_R 11 (some v0)), (1, av_I v1)] [] h (f_M_begin v0 v1 h) := by
  unfold f_M_begin
  refine xs_step (fun K HC => xr_aload_n HC.1 0 1 (n := 0) (ix := 0) (j := 0) (c := 11) (x := v0) rfl rfl rfl rfl) ?_
  refine xs_step (fun K HC => xr_iload_n HC.1 1 2 (n := 1) (ix := 1) (j := 1) (x := v1) rfl rfl rfl rfl) ?_
  refine xs_calli (s_M_isLight v0 v1 h) (fun K HC x9 hM hmo hb => xr_callV HC.1 2 5 (av := [av_I v1]) (st := []) (hM (kg K) (cx_l (kx K))) hmo hb rfl rfl wm_M_457 wi_M_isLight ws_M_isLight wc_M_isLight rfl wh_M_isLight (by decide) (by decide) (by decide) (Nat.le_of_ble_eq_true rfl) rfl) (fun x_1 => ?_)
  refine xs_ite (fun K HC a b => xr_if_ne HC.1 3 10 8 rfl (by decide) rfl b a) ?_ ?_
  · refine xs_step (fun K HC => xr_iconst HC.1 4 9 (n := (0)) (0 : Int32) rfl rfl rfl) ?_
    exact xs_reti 5 rfl rfl (fun K q => q) (fun ty ht => by cases ht; rfl)
  refine xs_step (fun K HC => xr_aload_n HC.1 6 11 (n := 0) (ix := 0) (j := 0) (c := 11) (x := v0) rfl rfl rfl rfl) ?_
  refine xs_step (fun K HC => xr_iload_n HC.1 7 12 (n := 1) (ix := 1) (j := 1) (x := v1) rfl rfl rfl rfl) ?_
  refine xs_callv (s_M_beginWith v0 v1 x_1.2) (fun K HC x9 hM hmo hb => xr_callV HC.1 8 15 (av := [av_I v1]) (st := []) (hM (kg K) (cx_l (kx K))) hmo hb rfl rfl wm_M_184 wi_M_beginWith ws_M_beginWith wc_M_beginWith rfl wh_M_beginWith (by decide) (by decide) (by decide) (Nat.le_of_ble_eq_true rfl) rfl) (fun x_2 => ?_)
  refine xs_step (fun K HC => xr_iconst HC.1 9 16 (n := (1)) (1 : Int32) rfl rfl rfl) ?_
  exact xs_reti 10 rfl rfl (fun K q => q) (fun ty ht => by cases ht; rfl)
theorem s_M_begin (v0 : Nat) (v1 : Int32) (h : HP) : ∀ x, f_M_begin v0 v1 h = some x → hp_mo h x.2 ∧ ∀ g l, xx_M g l y_M_begin prog_14_method_51_code 2 (some .boolean) 3 [av_R 11 (some v0), av_I v1] h (some (av_I x.1)) x.2 :=
  xM_i (tb := tb_M_begin) (b := false) (by decide +kernel) dt_M_begin (fun _ => trivial) (Nat.le_of_ble_eq_true rfl) (fun hb => by cases hb) (t_M_begin v0 v1 h)
def tb_M_lead : TBL := [(0, .aload_n 0, 1), (1, .iload_n 1, 1), (2, .invokevirtual 460, 3), (5, .ifCond .eq 20, 3), (8, .aload_n 0, 1), (9, .getfield 454, 3), (12, .ifCond .ne 13, 3), (15, .aload_n 0, 1), (16, .getfield 451, 3), (19, .sipush 10000, 3), (22, .if_icmp .ne 5, 3), (25, .iconst (-1), 1), (26, .ireturn, 1), (27, .aload_n 0, 1), (28, .iload_n 1, 1), (29, .invokevirtual 463, 3), (32, .istore_n 2, 1), (33, .aload_n 0, 1), (34, .getfield 79, 3), (37, .iload_n 1, 1), (38, .dup2, 1), (39, .iaload, 1), (40, .aload_n 0, 1), (41, .getfield 429, 3), (44, .ifCond .eq 7, 3), (47, .iconst 1, 1), (48, .goto 4, 3), (51, .iconst 0, 1), (52, .iadd, 1), (53, .iastore, 1), (54, .aload_n 0, 1), (55, .dup, 1), (56, .getfield 451, 3), (59, .iconst 1, 1), (60, .iadd, 1), (61, .putfield 451, 3), (64, .aload_n 0, 1), (65, .iload_n 2, 1), (66, .ifCond .eq 7, 3), (69, .iconst 1, 1), (70, .goto 4, 3), (73, .iconst 0, 1), (74, .putfield 454, 3), (77, .iload_n 2, 1), (78, .ireturn, 1)]
theorem dt_M_lead : ∀ q ∈ tb_M_lead, decode prog_14_method_52_code q.1 = .ok (q.2.1, q.2.2) := by decide +kernel
set_option maxHeartbeats 4000000 in
set_option maxRecDepth 100000 in
theorem t_M_lead_52 (v0 : Nat) (v2 : Int32) (s0 : Int32) (s1 : Int32) (s2 : Int32) (s3 : Nat) (h : HP) : xx_S (xx_D "LampYardModel" tb_M_lead 3 5 (some .int) false) xz_i (fun K => xL_i K) 52 [(0, av_R 11 (some v0)), (2, av_I v2)] [av_I s0, av_I s1, av_I s2, av_R 13 (some s3)] h (f_M_lead_52 v0 v2 s0 s1 s2 s3 h) := by
  unfold f_M_lead_52
  refine xs_step (fun K HC => xr_iadd HC.1 28 53 rfl rfl) ?_
  refine xs_chk (fun hb_5 => ?_)
  refine xs_heap (hp_mo_si _ _ _ _) (fun K HC => xr_iast HC.1 29 54 (hp_in_vp hb_5) rfl rfl) (fun h_6 => ?_)
  refine xs_step (fun K HC => xr_aload_n HC.1 30 55 (n := 0) (ix := 0) (j := 0) (c := 11) (x := v0) rfl rfl rfl rfl) ?_
  refine xs_step (fun K HC => xr_dup HC.1 31 56 rfl rfl rfl) ?_
  refine xs_step (fun K HC => xr_geti HC.1 32 59 11 55 rfl rfl wf_M_451 (by decide) fb_11_55 fc_11_55) ?_
  refine xs_step (fun K HC => xr_iconst HC.1 33 60 (n := (1)) (1 : Int32) rfl rfl rfl) ?_
  refine xs_step (fun K HC => xr_iadd HC.1 34 61 rfl rfl) ?_
  refine xs_heap (hp_mo_si _ _ _ _) (fun K HC => xr_puti HC.1 35 64 11 55 rfl rfl wf_M_451 (by decide) fb_11_55 fn_11_55 fy_11_55) (fun h_7 => ?_)
  refine xs_step (fun K HC => xr_aload_n HC.1 36 65 (n := 0) (ix := 0) (j := 0) (c := 11) (x := v0) rfl rfl rfl rfl) ?_
  refine xs_step (fun K HC => xr_iload_n HC.1 37 66 (n := 2) (ix := 2) (j := 1) (x := v2) rfl rfl rfl rfl) ?_
  refine xs_ite (fun K HC => xr_if_eq HC.1 38 73 69 rfl (by decide) rfl) ?_ ?_
  · refine xs_step (fun K HC => xr_iconst HC.1 41 74 (n := (0)) (0 : Int32) rfl rfl rfl) ?_
    refine xs_heap (hp_mo_si _ _ _ _) (fun K HC => xr_putz HC.1 42 77 11 56 (Or.inl rfl) rfl rfl wf_M_454 (by decide) fb_11_56 fn_11_56 fy_11_56) (fun h_8 => ?_)
    refine xs_step (fun K HC => xr_iload_n HC.1 43 78 (n := 2) (ix := 2) (j := 1) (x := v2) rfl rfl rfl rfl) ?_
    exact xs_reti 44 rfl rfl (fun K q => q) (fun ty ht => by cases ht; rfl)
  refine xs_step (fun K HC => xr_iconst HC.1 39 70 (n := (1)) (1 : Int32) rfl rfl rfl) ?_
  refine xs_step (fun K HC => xr_goto HC.1 40 74 rfl (by decide)) ?_
  refine xs_heap (hp_mo_si _ _ _ _) (fun K HC => xr_putz HC.1 42 77 11 56 (Or.inr rfl) rfl rfl wf_M_454 (by decide) fb_11_56 fn_11_56 fy_11_56) (fun h_9 => ?_)
  refine xs_step (fun K HC => xr_iload_n HC.1 43 78 (n := 2) (ix := 2) (j := 1) (x := v2) rfl rfl rfl rfl) ?_
  exact xs_reti 44 rfl rfl (fun K q => q) (fun ty ht => by cases ht; rfl)
set_option maxHeartbeats 4000000 in
set_option maxRecDepth 100000 in
theorem t_M_lead (v0 : Nat) (v1 : Int32) (h : HP) : xx_S (xx_D "LampYardModel" tb_M_lead 3 5 (some .int) false) xz_i (fun K => xL_i K) 0 [(0, av_R 11 (some v0)), (1, av_I v1)] [] h (f_M_lead v0 v1 h) := by
  unfold f_M_lead
  refine xs_step (fun K HC => xr_aload_n HC.1 0 1 (n := 0) (ix := 0) (j := 0) (c := 11) (x := v0) rfl rfl rfl rfl) ?_
  refine xs_step (fun K HC => xr_iload_n HC.1 1 2 (n := 1) (ix := 1) (j := 1) (x := v1) rfl rfl rfl rfl) ?_
  refine xs_calli (s_M_isMan v0 v1 h) (fun K HC x9 hM hmo hb => xr_callV HC.1 2 5 (av := [av_I v1]) (st := []) (hM (kg K) (cx_l (kx K))) hmo hb rfl rfl wm_M_460 wi_M_isMan ws_M_isMan wc_M_isMan rfl wh_M_isMan (by decide) (by decide) (by decide) (Nat.le_of_ble_eq_true rfl) rfl) (fun x_1 => ?_)
  refine xs_ite (fun K HC => xr_if_eq HC.1 3 25 8 rfl (by decide) rfl) ?_ ?_
  · refine xs_step (fun K HC => xr_iconst HC.1 11 26 (n := (-1)) (-1 : Int32) rfl rfl rfl) ?_
    exact xs_reti 12 rfl rfl (fun K q => q) (fun ty ht => by cases ht; rfl)
  refine xs_step (fun K HC => xr_aload_n HC.1 4 9 (n := 0) (ix := 0) (j := 0) (c := 11) (x := v0) rfl rfl rfl rfl) ?_
  refine xs_step (fun K HC => xr_geti HC.1 5 12 11 56 rfl rfl wf_M_454 (by decide) fb_11_56 fc_11_56) ?_
  refine xs_ite (fun K HC a b => xr_if_ne HC.1 6 25 15 rfl (by decide) rfl b a) ?_ ?_
  · refine xs_step (fun K HC => xr_aload_n HC.1 7 16 (n := 0) (ix := 0) (j := 0) (c := 11) (x := v0) rfl rfl rfl rfl) ?_
    refine xs_step (fun K HC => xr_geti HC.1 8 19 11 55 rfl rfl wf_M_451 (by decide) fb_11_55 fc_11_55) ?_
    refine xs_step (fun K HC => xr_sipush HC.1 9 22 (n := (10000)) (10000 : Int32) rfl rfl rfl) ?_
    refine xs_ite (fun K HC a b => xr_icmp_ne HC.1 10 27 25 rfl (by decide) rfl b a) ?_ ?_
    · refine xs_step (fun K HC => xr_iconst HC.1 11 26 (n := (-1)) (-1 : Int32) rfl rfl rfl) ?_
      exact xs_reti 12 rfl rfl (fun K q => q) (fun ty ht => by cases ht; rfl)
    refine xs_step (fun K HC => xr_aload_n HC.1 13 28 (n := 0) (ix := 0) (j := 0) (c := 11) (x := v0) rfl rfl rfl rfl) ?_
    refine xs_step (fun K HC => xr_iload_n HC.1 14 29 (n := 1) (ix := 1) (j := 1) (x := v1) rfl rfl rfl rfl) ?_
    refine xs_calli (s_M_go v0 v1 x_1.2) (fun K HC x9 hM hmo hb => xr_callV HC.1 15 32 (av := [av_I v1]) (st := []) (hM (kg K) (cx_l (kx K))) hmo hb rfl rfl wm_M_463 wi_M_go ws_M_go wc_M_go rfl wh_M_go (by decide) (by decide) (by decide) (Nat.le_of_ble_eq_true rfl) rfl) (fun x_2 => ?_)
    refine xs_step (fun K HC => xr_istore_n HC.1 16 33 (n := 2) (ix := 2) (lv' := [(0, av_R 11 (some v0)), (1, av_I v1), (2, av_I x_2.1)]) rfl rfl rfl (by decide) rfl) ?_
    refine xs_step (fun K HC => xr_aload_n HC.1 17 34 (n := 0) (ix := 0) (j := 0) (c := 11) (x := v0) rfl rfl rfl rfl) ?_
    refine xs_bind (fun q_3 eq_3 => ?_)
    refine xs_step (fun K HC => xr_getr HC.1 18 37 11 49 13 eq_3 rfl rfl wf_M_79 (by decide) fb_11_49 fc_11_49 fd_11_49) ?_
    refine xs_step (fun K HC => xr_iload_n HC.1 19 38 (n := 1) (ix := 1) (j := 1) (x := v1) rfl rfl rfl rfl) ?_
    refine xs_step (fun K HC => xr_dup2 HC.1 20 39 rfl rfl rfl rfl) ?_
    refine xs_chk (fun hb_4 => ?_)
    refine xs_step (fun K HC => xr_iald HC.1 21 40 (hp_in_vp hb_4) rfl rfl) ?_
    refine xs_step (fun K HC => xr_aload_n HC.1 22 41 (n := 0) (ix := 0) (j := 0) (c := 11) (x := v0) rfl rfl rfl rfl) ?_
    refine xs_step (fun K HC => xr_geti HC.1 23 44 11 53 rfl rfl wf_M_429 (by decide) fb_11_53 fc_11_53) ?_
    refine xs_ite (fun K HC => xr_if_eq HC.1 24 51 47 rfl (by decide) rfl) ?_ ?_
    · refine xs_step (fun K HC => xr_iconst HC.1 27 52 (n := (0)) (0 : Int32) rfl rfl rfl) ?_
      refine xs_step (fun K HC => xr_sub (lv' := [(0, av_R 11 (some v0)), (2, av_I x_2.1)]) [0, 2] rfl) ?_
      exact t_M_lead_52 v0 x_2.1 (0 : Int32) (hp_i x_2.2 q_3 (v1).toNatClampNeg) v1 q_3 x_2.2
    refine xs_step (fun K HC => xr_iconst HC.1 25 48 (n := (1)) (1 : Int32) rfl rfl rfl) ?_
    refine xs_step (fun K HC => xr_goto HC.1 26 52 rfl (by decide)) ?_
    refine xs_step (fun K HC => xr_sub (lv' := [(0, av_R 11 (some v0)), (2, av_I x_2.1)]) [0, 2] rfl) ?_
    exact t_M_lead_52 v0 x_2.1 (1 : Int32) (hp_i x_2.2 q_3 (v1).toNatClampNeg) v1 q_3 x_2.2
  refine xs_step (fun K HC => xr_iconst HC.1 11 26 (n := (-1)) (-1 : Int32) rfl rfl rfl) ?_
  exact xs_reti 12 rfl rfl (fun K q => q) (fun ty ht => by cases ht; rfl)
theorem s_M_lead (v0 : Nat) (v1 : Int32) (h : HP) : ∀ x, f_M_lead v0 v1 h = some x → hp_mo h x.2 ∧ ∀ g l, xx_M g l y_M_lead prog_14_method_52_code 3 (some .int) 5 [av_R 11 (some v0), av_I v1] h (some (av_I x.1)) x.2 :=
  xM_i (tb := tb_M_lead) (b := false) (by decide +kernel) dt_M_lead (fun _ => trivial) (Nat.le_of_ble_eq_true rfl) (fun hb => by cases hb) (t_M_lead v0 v1 h)
def tb_M_forget : TBL := [(0, .aload_n 0, 1), (1, .iload_n 1, 1), (2, .invokevirtual 460, 3), (5, .ifCond .eq 10, 3), (8, .aload_n 0, 1), (9, .getfield 454, 3), (12, .ifCond .eq 5, 3), (15, .iconst 0, 1), (16, .ireturn, 1), (17, .aload_n 0, 1), (18, .iload_n 1, 1), (19, .invokevirtual 466, 3), (22, .iconst 1, 1), (23, .ireturn, 1)]
theorem dt_M_forget : ∀ q ∈ tb_M_forget, decode prog_14_method_53_code q.1 = .ok (q.2.1, q.2.2) := by decide +kernel
set_option maxHeartbeats 4000000 in
set_option maxRecDepth 100000 in
theorem t_M_forget (v0 : Nat) (v1 : Int32) (h : HP) : xx_S (xx_D "LampYardModel" tb_M_forget 2 2 (some .boolean) false) xz_i (fun K => xL_i K) 0 [(0, av_R 11 (some v0)), (1, av_I v1)] [] h (f_M_forget v0 v1 h) := by
  unfold f_M_forget
  refine xs_step (fun K HC => xr_aload_n HC.1 0 1 (n := 0) (ix := 0) (j := 0) (c := 11) (x := v0) rfl rfl rfl rfl) ?_
  refine xs_step (fun K HC => xr_iload_n HC.1 1 2 (n := 1) (ix := 1) (j := 1) (x := v1) rfl rfl rfl rfl) ?_
  refine xs_calli (s_M_isMan v0 v1 h) (fun K HC x9 hM hmo hb => xr_callV HC.1 2 5 (av := [av_I v1]) (st := []) (hM (kg K) (cx_l (kx K))) hmo hb rfl rfl wm_M_460 wi_M_isMan ws_M_isMan wc_M_isMan rfl wh_M_isMan (by decide) (by decide) (by decide) (Nat.le_of_ble_eq_true rfl) rfl) (fun x_1 => ?_)
  refine xs_ite (fun K HC => xr_if_eq HC.1 3 15 8 rfl (by decide) rfl) ?_ ?_
  · refine xs_step (fun K HC => xr_iconst HC.1 7 16 (n := (0)) (0 : Int32) rfl rfl rfl) ?_
    exact xs_reti 8 rfl rfl (fun K q => q) (fun ty ht => by cases ht; rfl)
  refine xs_step (fun K HC => xr_aload_n HC.1 4 9 (n := 0) (ix := 0) (j := 0) (c := 11) (x := v0) rfl rfl rfl rfl) ?_
  refine xs_step (fun K HC => xr_geti HC.1 5 12 11 56 rfl rfl wf_M_454 (by decide) fb_11_56 fc_11_56) ?_
  refine xs_ite (fun K HC => xr_if_eq HC.1 6 17 15 rfl (by decide) rfl) ?_ ?_
  · refine xs_step (fun K HC => xr_aload_n HC.1 9 18 (n := 0) (ix := 0) (j := 0) (c := 11) (x := v0) rfl rfl rfl rfl) ?_
    refine xs_step (fun K HC => xr_iload_n HC.1 10 19 (n := 1) (ix := 1) (j := 1) (x := v1) rfl rfl rfl rfl) ?_
    refine xs_callv (s_M_forgetAt v0 v1 x_1.2) (fun K HC x9 hM hmo hb => xr_callV HC.1 11 22 (av := [av_I v1]) (st := []) (hM (kg K) (cx_l (kx K))) hmo hb rfl rfl wm_M_466 wi_M_forgetAt ws_M_forgetAt wc_M_forgetAt rfl wh_M_forgetAt (by decide) (by decide) (by decide) (Nat.le_of_ble_eq_true rfl) rfl) (fun x_2 => ?_)
    refine xs_step (fun K HC => xr_iconst HC.1 12 23 (n := (1)) (1 : Int32) rfl rfl rfl) ?_
    exact xs_reti 13 rfl rfl (fun K q => q) (fun ty ht => by cases ht; rfl)
  refine xs_step (fun K HC => xr_iconst HC.1 7 16 (n := (0)) (0 : Int32) rfl rfl rfl) ?_
  exact xs_reti 8 rfl rfl (fun K q => q) (fun ty ht => by cases ht; rfl)
theorem s_M_forget (v0 : Nat) (v1 : Int32) (h : HP) : ∀ x, f_M_forget v0 v1 h = some x → hp_mo h x.2 ∧ ∀ g l, xx_M g l y_M_forget prog_14_method_53_code 2 (some .boolean) 2 [av_R 11 (some v0), av_I v1] h (some (av_I x.1)) x.2 :=
  xM_i (tb := tb_M_forget) (b := false) (by decide +kernel) dt_M_forget (fun _ => trivial) (Nat.le_of_ble_eq_true rfl) (fun hb => by cases hb) (t_M_forget v0 v1 h)
def tb_M_dark : TBL := [(0, .aload_n 0, 1), (1, .iload_n 1, 1), (2, .invokevirtual 457, 3), (5, .ifCond .eq 10, 3), (8, .aload_n 0, 1), (9, .getfield 454, 3), (12, .ifCond .eq 5, 3), (15, .iconst (-1), 1), (16, .ireturn, 1), (17, .aload_n 0, 1), (18, .getfield 413, 3), (21, .istore_n 2, 1), (22, .aload_n 0, 1), (23, .iload_n 1, 1), (24, .putfield 413, 3), (27, .iload_n 2, 1), (28, .ireturn, 1)]
theorem dt_M_dark : ∀ q ∈ tb_M_dark, decode prog_14_method_54_code q.1 = .ok (q.2.1, q.2.2) := by decide +kernel
set_option maxHeartbeats 4000000 in
set_option maxRecDepth 100000 in
theorem t_M_dark (v0 : Nat) (v1 : Int32) (h : HP) : xx_S (xx_D "LampYardModel" tb_M_dark 3 2 (some .int) false) xz_i (fun K => xL_i K) 0 [(0, av_R 11 (some v0)), (1, av_I v1)] [] h (f_M_dark v0 v1 h) := by
  unfold f_M_dark
  refine xs_step (fun K HC => xr_aload_n HC.1 0 1 (n := 0) (ix := 0) (j := 0) (c := 11) (x := v0) rfl rfl rfl rfl) ?_
  refine xs_step (fun K HC => xr_iload_n HC.1 1 2 (n := 1) (ix := 1) (j := 1) (x := v1) rfl rfl rfl rfl) ?_
  refine xs_calli (s_M_isLight v0 v1 h) (fun K HC x9 hM hmo hb => xr_callV HC.1 2 5 (av := [av_I v1]) (st := []) (hM (kg K) (cx_l (kx K))) hmo hb rfl rfl wm_M_457 wi_M_isLight ws_M_isLight wc_M_isLight rfl wh_M_isLight (by decide) (by decide) (by decide) (Nat.le_of_ble_eq_true rfl) rfl) (fun x_1 => ?_)
  refine xs_ite (fun K HC => xr_if_eq HC.1 3 15 8 rfl (by decide) rfl) ?_ ?_
  · refine xs_step (fun K HC => xr_iconst HC.1 7 16 (n := (-1)) (-1 : Int32) rfl rfl rfl) ?_
    exact xs_reti 8 rfl rfl (fun K q => q) (fun ty ht => by cases ht; rfl)
  refine xs_step (fun K HC => xr_aload_n HC.1 4 9 (n := 0) (ix := 0) (j := 0) (c := 11) (x := v0) rfl rfl rfl rfl) ?_
  refine xs_step (fun K HC => xr_geti HC.1 5 12 11 56 rfl rfl wf_M_454 (by decide) fb_11_56 fc_11_56) ?_
  refine xs_ite (fun K HC => xr_if_eq HC.1 6 17 15 rfl (by decide) rfl) ?_ ?_
  · refine xs_step (fun K HC => xr_aload_n HC.1 9 18 (n := 0) (ix := 0) (j := 0) (c := 11) (x := v0) rfl rfl rfl rfl) ?_
    refine xs_step (fun K HC => xr_geti HC.1 10 21 11 51 rfl rfl wf_M_413 (by decide) fb_11_51 fc_11_51) ?_
    refine xs_topi (fun v2_2 => ?_)
    refine xs_step (fun K HC => xr_istore_n HC.1 11 22 (n := 2) (ix := 2) (lv' := [(0, av_R 11 (some v0)), (1, av_I v1), (2, av_I v2_2)]) rfl rfl rfl (by decide) rfl) ?_
    refine xs_step (fun K HC => xr_aload_n HC.1 12 23 (n := 0) (ix := 0) (j := 0) (c := 11) (x := v0) rfl rfl rfl rfl) ?_
    refine xs_step (fun K HC => xr_iload_n HC.1 13 24 (n := 1) (ix := 1) (j := 1) (x := v1) rfl rfl rfl rfl) ?_
    refine xs_heap (hp_mo_si _ _ _ _) (fun K HC => xr_puti HC.1 14 27 11 51 rfl rfl wf_M_413 (by decide) fb_11_51 fn_11_51 fy_11_51) (fun h_3 => ?_)
    refine xs_step (fun K HC => xr_iload_n HC.1 15 28 (n := 2) (ix := 2) (j := 2) (x := v2_2) rfl rfl rfl rfl) ?_
    exact xs_reti 16 rfl rfl (fun K q => q) (fun ty ht => by cases ht; rfl)
  refine xs_step (fun K HC => xr_iconst HC.1 7 16 (n := (-1)) (-1 : Int32) rfl rfl rfl) ?_
  exact xs_reti 8 rfl rfl (fun K q => q) (fun ty ht => by cases ht; rfl)
theorem s_M_dark (v0 : Nat) (v1 : Int32) (h : HP) : ∀ x, f_M_dark v0 v1 h = some x → hp_mo h x.2 ∧ ∀ g l, xx_M g l y_M_dark prog_14_method_54_code 3 (some .int) 2 [av_R 11 (some v0), av_I v1] h (some (av_I x.1)) x.2 :=
  xM_i (tb := tb_M_dark) (b := false) (by decide +kernel) dt_M_dark (fun _ => trivial) (Nat.le_of_ble_eq_true rfl) (fun hb => by cases hb) (t_M_dark v0 v1 h)
def tb_M_man : TBL := [(0, .aload_n 0, 1), (1, .iload_n 1, 1), (2, .invokevirtual 460, 3), (5, .ifCond .ne 5, 3), (8, .iconst (-1), 1), (9, .ireturn, 1), (10, .iload_n 2, 1), (11, .tableswitch 76 0 4 #[33, 40, 47, 54, 69], 33), (44, .aload_n 0, 1), (45, .getfield 30, 3), (48, .iload_n 1, 1), (49, .iaload, 1), (50, .ireturn, 1), (51, .aload_n 0, 1), (52, .getfield 73, 3), (55, .iload_n 1, 1), (56, .iaload, 1), (57, .ireturn, 1), (58, .aload_n 0, 1), (59, .getfield 76, 3), (62, .iload_n 1, 1), (63, .iaload, 1), (64, .ireturn, 1), (65, .aload_n 0, 1), (66, .getfield 82, 3), (69, .iload_n 1, 1), (70, .baload, 1), (71, .ifCond .eq 7, 3), (74, .iconst 1, 1), (75, .goto 4, 3), (78, .iconst 0, 1), (79, .ireturn, 1), (80, .aload_n 0, 1), (81, .getfield 79, 3), (84, .iload_n 1, 1), (85, .iaload, 1), (86, .ireturn, 1), (87, .iconst (-1), 1), (88, .ireturn, 1)]
theorem dt_M_man : ∀ q ∈ tb_M_man, decode prog_14_method_55_code q.1 = .ok (q.2.1, q.2.2) := by decide +kernel
set_option maxHeartbeats 4000000 in
set_option maxRecDepth 100000 in
theorem t_M_man (v0 : Nat) (v1 : Int32) (v2 : Int32) (h : HP) : xx_S (xx_D "LampYardModel" tb_M_man 3 2 (some .int) false) xz_i (fun K => xL_i K) 0 [(0, av_R 11 (some v0)), (1, av_I v1), (2, av_I v2)] [] h (f_M_man v0 v1 v2 h) := by
  unfold f_M_man
  refine xs_step (fun K HC => xr_aload_n HC.1 0 1 (n := 0) (ix := 0) (j := 0) (c := 11) (x := v0) rfl rfl rfl rfl) ?_
  refine xs_step (fun K HC => xr_iload_n HC.1 1 2 (n := 1) (ix := 1) (j := 1) (x := v1) rfl rfl rfl rfl) ?_
  refine xs_calli (s_M_isMan v0 v1 h) (fun K HC x9 hM hmo hb => xr_callV HC.1 2 5 (av := [av_I v1]) (st := []) (hM (kg K) (cx_l (kx K))) hmo hb rfl rfl wm_M_460 wi_M_isMan ws_M_isMan wc_M_isMan rfl wh_M_isMan (by decide) (by decide) (by decide) (Nat.le_of_ble_eq_true rfl) rfl) (fun x_1 => ?_)
  refine xs_ite (fun K HC a b => xr_if_ne HC.1 3 10 8 rfl (by decide) rfl b a) ?_ ?_
  · refine xs_step (fun K HC => xr_iconst HC.1 4 9 (n := (-1)) (-1 : Int32) rfl rfl rfl) ?_
    exact xs_reti 5 rfl rfl (fun K q => q) (fun ty ht => by cases ht; rfl)
  refine xs_step (fun K HC => xr_iload_n HC.1 6 11 (n := 2) (ix := 2) (j := 2) (x := v2) rfl rfl rfl rfl) ?_
  refine xs_if (fun hc_4 => ?_) (fun hc_4 => ?_)
  · refine xs_step (fun K HC => xr_tabI HC.1 7 44 (0 : Int32) rfl hc_4 (by decide) (by decide) rfl (by decide)) ?_
    refine xs_step (fun K HC => xr_aload_n HC.1 8 45 (n := 0) (ix := 0) (j := 0) (c := 11) (x := v0) rfl rfl rfl rfl) ?_
    refine xs_bind (fun q_2 eq_2 => ?_)
    refine xs_step (fun K HC => xr_getr HC.1 9 48 11 14 13 eq_2 rfl rfl wf_M_30 (by decide) fb_11_14 fc_11_14 fd_11_14) ?_
    refine xs_step (fun K HC => xr_iload_n HC.1 10 49 (n := 1) (ix := 1) (j := 1) (x := v1) rfl rfl rfl rfl) ?_
    refine xs_chk (fun hb_3 => ?_)
    refine xs_step (fun K HC => xr_iald HC.1 11 50 (hp_in_vp hb_3) rfl rfl) ?_
    exact xs_reti 12 rfl rfl (fun K q => q) (fun ty ht => by cases ht; rfl)
  refine xs_if (fun hc_7 => ?_) (fun hc_7 => ?_)
  · refine xs_step (fun K HC => xr_tabI HC.1 7 51 (1 : Int32) rfl hc_7 (by decide) (by decide) rfl (by decide)) ?_
    refine xs_step (fun K HC => xr_aload_n HC.1 13 52 (n := 0) (ix := 0) (j := 0) (c := 11) (x := v0) rfl rfl rfl rfl) ?_
    refine xs_bind (fun q_5 eq_5 => ?_)
    refine xs_step (fun K HC => xr_getr HC.1 14 55 11 47 13 eq_5 rfl rfl wf_M_73 (by decide) fb_11_47 fc_11_47 fd_11_47) ?_
    refine xs_step (fun K HC => xr_iload_n HC.1 15 56 (n := 1) (ix := 1) (j := 1) (x := v1) rfl rfl rfl rfl) ?_
    refine xs_chk (fun hb_6 => ?_)
    refine xs_step (fun K HC => xr_iald HC.1 16 57 (hp_in_vp hb_6) rfl rfl) ?_
    exact xs_reti 17 rfl rfl (fun K q => q) (fun ty ht => by cases ht; rfl)
  refine xs_if (fun hc_10 => ?_) (fun hc_10 => ?_)
  · refine xs_step (fun K HC => xr_tabI HC.1 7 58 (2 : Int32) rfl hc_10 (by decide) (by decide) rfl (by decide)) ?_
    refine xs_step (fun K HC => xr_aload_n HC.1 18 59 (n := 0) (ix := 0) (j := 0) (c := 11) (x := v0) rfl rfl rfl rfl) ?_
    refine xs_bind (fun q_8 eq_8 => ?_)
    refine xs_step (fun K HC => xr_getr HC.1 19 62 11 48 13 eq_8 rfl rfl wf_M_76 (by decide) fb_11_48 fc_11_48 fd_11_48) ?_
    refine xs_step (fun K HC => xr_iload_n HC.1 20 63 (n := 1) (ix := 1) (j := 1) (x := v1) rfl rfl rfl rfl) ?_
    refine xs_chk (fun hb_9 => ?_)
    refine xs_step (fun K HC => xr_iald HC.1 21 64 (hp_in_vp hb_9) rfl rfl) ?_
    exact xs_reti 22 rfl rfl (fun K q => q) (fun ty ht => by cases ht; rfl)
  refine xs_if (fun hc_13 => ?_) (fun hc_13 => ?_)
  · refine xs_step (fun K HC => xr_tabI HC.1 7 65 (3 : Int32) rfl hc_13 (by decide) (by decide) rfl (by decide)) ?_
    refine xs_step (fun K HC => xr_aload_n HC.1 23 66 (n := 0) (ix := 0) (j := 0) (c := 11) (x := v0) rfl rfl rfl rfl) ?_
    refine xs_bind (fun q_11 eq_11 => ?_)
    refine xs_step (fun K HC => xr_getr HC.1 24 69 11 50 15 eq_11 rfl rfl wf_M_82 (by decide) fb_11_50 fc_11_50 fd_11_50) ?_
    refine xs_step (fun K HC => xr_iload_n HC.1 25 70 (n := 1) (ix := 1) (j := 1) (x := v1) rfl rfl rfl rfl) ?_
    refine xs_chk (fun hb_12 => ?_)
    refine xs_step (fun K HC => xr_zald HC.1 26 71 (hp_in_vp hb_12) rfl rfl) ?_
    refine xs_ite (fun K HC => xr_if_eq HC.1 27 78 74 rfl (by decide) rfl) ?_ ?_
    · refine xs_step (fun K HC => xr_iconst HC.1 30 79 (n := (0)) (0 : Int32) rfl rfl rfl) ?_
      exact xs_reti 31 rfl rfl (fun K q => q) (fun ty ht => by cases ht; rfl)
    refine xs_step (fun K HC => xr_iconst HC.1 28 75 (n := (1)) (1 : Int32) rfl rfl rfl) ?_
    refine xs_step (fun K HC => xr_goto HC.1 29 79 rfl (by decide)) ?_
    exact xs_reti 31 rfl rfl (fun K q => q) (fun ty ht => by cases ht; rfl)
  refine xs_if (fun hc_16 => ?_) (fun hc_16 => ?_)
  · refine xs_step (fun K HC => xr_tabI HC.1 7 80 (4 : Int32) rfl hc_16 (by decide) (by decide) rfl (by decide)) ?_
    refine xs_step (fun K HC => xr_aload_n HC.1 32 81 (n := 0) (ix := 0) (j := 0) (c := 11) (x := v0) rfl rfl rfl rfl) ?_
    refine xs_bind (fun q_14 eq_14 => ?_)
    refine xs_step (fun K HC => xr_getr HC.1 33 84 11 49 13 eq_14 rfl rfl wf_M_79 (by decide) fb_11_49 fc_11_49 fd_11_49) ?_
    refine xs_step (fun K HC => xr_iload_n HC.1 34 85 (n := 1) (ix := 1) (j := 1) (x := v1) rfl rfl rfl rfl) ?_
    refine xs_chk (fun hb_15 => ?_)
    refine xs_step (fun K HC => xr_iald HC.1 35 86 (hp_in_vp hb_15) rfl rfl) ?_
    exact xs_reti 36 rfl rfl (fun K q => q) (fun ty ht => by cases ht; rfl)
  refine xs_step (fun K HC => xr_tabO HC.1 7 87 [(0 : Int32), (1 : Int32), (2 : Int32), (3 : Int32), (4 : Int32)] rfl (by decide) (by simp only [List.forall_mem_cons]; exact ⟨hc_4, hc_7, hc_10, hc_13, hc_16, fun _ h9 => absurd h9 List.not_mem_nil⟩) (by decide)) ?_
  refine xs_step (fun K HC => xr_iconst HC.1 37 88 (n := (-1)) (-1 : Int32) rfl rfl rfl) ?_
  exact xs_reti 38 rfl rfl (fun K q => q) (fun ty ht => by cases ht; rfl)
theorem s_M_man (v0 : Nat) (v1 : Int32) (v2 : Int32) (h : HP) : ∀ x, f_M_man v0 v1 v2 h = some x → hp_mo h x.2 ∧ ∀ g l, xx_M g l y_M_man prog_14_method_55_code 3 (some .int) 2 [av_R 11 (some v0), av_I v1, av_I v2] h (some (av_I x.1)) x.2 :=
  xM_i (tb := tb_M_man) (b := false) (by decide +kernel) dt_M_man (fun _ => trivial) (Nat.le_of_ble_eq_true rfl) (fun hb => by cases hb) (t_M_man v0 v1 v2 h)
def tb_M_packed : TBL := [(0, .aload_n 0, 1), (1, .getfield 413, 3), (4, .i2l, 1), (5, .aload_n 0, 1), (6, .getfield 416, 3), (9, .i2l, 1), (10, .iconst 2, 1), (11, .lshl, 1), (12, .lor, 1), (13, .aload_n 0, 1), (14, .getfield 469, 3), (17, .ifCond .eq 9, 3), (20, .ldc2_w 472, 3), (23, .goto 4, 3), (26, .lconst 0, 1), (27, .lor, 1), (28, .lstore_n 1, 1), (29, .iconst 0, 1), (30, .istore_n 3, 1), (31, .iload_n 3, 1), (32, .bipush 6, 2), (34, .if_icmp .ge 53, 3), (37, .lload_n 1, 1), (38, .aload_n 0, 1), (39, .getfield 73, 3), (42, .iload_n 3, 1), (43, .iaload, 1), (44, .aload_n 0, 1), (45, .getfield 76, 3), (48, .iload_n 3, 1), (49, .iaload, 1), (50, .iconst 5, 1), (51, .ishl, 1), (52, .ior, 1), (53, .aload_n 0, 1), (54, .getfield 82, 3), (57, .iload_n 3, 1), (58, .baload, 1), (59, .ifCond .eq 9, 3), (62, .sipush 128, 3), (65, .goto 4, 3), (68, .iconst 0, 1), (69, .ior, 1), (70, .i2l, 1), (71, .bipush 7, 2), (73, .bipush 8, 2), (75, .iload_n 3, 1), (76, .imul, 1), (77, .iadd, 1), (78, .lshl, 1), (79, .lor, 1), (80, .lstore_n 1, 1), (81, .iinc 3 1, 3), (84, .goto (-53), 3), (87, .lload_n 1, 1), (88, .lreturn, 1)]
theorem dt_M_packed : ∀ q ∈ tb_M_packed, decode prog_14_method_56_code q.1 = .ok (q.2.1, q.2.2) := by decide +kernel
set_option maxHeartbeats 4000000 in
set_option maxRecDepth 100000 in
theorem t_M_packed_69 (v0 : Nat) (v3 : Int32) (s0 : Int32) (s1 : Int32) (s2 : Int64) (h : HP) : xx_S (xx_D "LampYardModel" tb_M_packed 4 1 (some .long) false) (xx_z2 (fun s : (Int64 × Int32 × HP) => s.2.2) xz_l) (fun K => xx_L2 (fun s : (Int64 × Int32 × HP) => xx_X K 31 [(0, av_R 11 (some v0)), (1, av_L s.1), (3, av_I s.2.1)] [] (s.2.2)) (xL_l K)) 69 [(0, av_R 11 (some v0)), (3, av_I v3)] [av_I s0, av_I s1, av_L s2] h (f_M_packed_69 v0 v3 s0 s1 s2 h) := by
  unfold f_M_packed_69
  refine xs_step (fun K HC => xr_ior HC.1 42 70 rfl rfl) ?_
  refine xs_step (fun K HC => xr_i2l HC.1 43 71 rfl rfl) ?_
  refine xs_step (fun K HC => xr_bipush HC.1 44 73 (n := (7)) (7 : Int32) rfl rfl rfl) ?_
  refine xs_step (fun K HC => xr_bipush HC.1 45 75 (n := (8)) (8 : Int32) rfl rfl rfl) ?_
  refine xs_step (fun K HC => xr_iload_n HC.1 46 76 (n := 3) (ix := 3) (j := 1) (x := v3) rfl rfl rfl rfl) ?_
  refine xs_step (fun K HC => xr_imul HC.1 47 77 rfl rfl) ?_
  refine xs_step (fun K HC => xr_iadd HC.1 48 78 rfl rfl) ?_
  refine xs_step (fun K HC => xr_lshl HC.1 49 79 rfl rfl) ?_
  refine xs_step (fun K HC => xr_lor HC.1 50 80 rfl rfl) ?_
  refine xs_topl (fun v1_8 => ?_)
  refine xs_step (fun K HC => xr_lstore_n HC.1 51 81 (n := 1) (ix := 1) (lv' := [(0, av_R 11 (some v0)), (1, av_L v1_8), (3, av_I v3)]) rfl rfl rfl (by decide) rfl) ?_
  refine xs_gen (fun v3_9 ev3_9 => ?_)
  refine xs_step (fun K HC => xr_iinc HC.1 52 84 (ix := 3) (j := 2) (n := (1)) (x := v3) v3_9 (lv' := [(0, av_R 11 (some v0)), (1, av_L v1_8), (3, av_I v3_9)]) rfl (by rw [ev3_9]; rfl) rfl rfl (by decide) rfl) ?_
  refine xs_step (fun K HC => xr_goto HC.1 53 31 rfl (by decide)) ?_
  exact xs_back rfl (fun K q => q)
set_option maxHeartbeats 4000000 in
set_option maxRecDepth 100000 in
theorem t_M_packed_31b (v0 : Nat) (v1 : Int64) (v3 : Int32) (h : HP) : xx_S (xx_D "LampYardModel" tb_M_packed 4 1 (some .long) false) (xx_z2 (fun s : (Int64 × Int32 × HP) => s.2.2) xz_l) (fun K => xx_L2 (fun s : (Int64 × Int32 × HP) => xx_X K 31 [(0, av_R 11 (some v0)), (1, av_L s.1), (3, av_I s.2.1)] [] (s.2.2)) (xL_l K)) 31 [(0, av_R 11 (some v0)), (1, av_L v1), (3, av_I v3)] [] h (f_M_packed_31b v0 v1 v3 h) := by
  unfold f_M_packed_31b
  refine xs_step (fun K HC => xr_iload_n HC.1 19 32 (n := 3) (ix := 3) (j := 2) (x := v3) rfl rfl rfl rfl) ?_
  refine xs_step (fun K HC => xr_bipush HC.1 20 34 (n := (6)) (6 : Int32) rfl rfl rfl) ?_
  refine xs_ite (fun K HC => xr_icmp_ge HC.1 21 87 37 rfl (by decide) rfl) ?_ ?_
  · refine xs_step (fun K HC => xr_lload_n HC.1 54 88 (n := 1) (ix := 1) (j := 1) (x := v1) rfl rfl rfl rfl) ?_
    exact xs_retl 55 rfl rfl (fun K q => q)
  refine xs_step (fun K HC => xr_lload_n HC.1 22 38 (n := 1) (ix := 1) (j := 1) (x := v1) rfl rfl rfl rfl) ?_
  refine xs_step (fun K HC => xr_aload_n HC.1 23 39 (n := 0) (ix := 0) (j := 0) (c := 11) (x := v0) rfl rfl rfl rfl) ?_
  refine xs_bind (fun q_2 eq_2 => ?_)
  refine xs_step (fun K HC => xr_getr HC.1 24 42 11 47 13 eq_2 rfl rfl wf_M_73 (by decide) fb_11_47 fc_11_47 fd_11_47) ?_
  refine xs_step (fun K HC => xr_iload_n HC.1 25 43 (n := 3) (ix := 3) (j := 2) (x := v3) rfl rfl rfl rfl) ?_
  refine xs_chk (fun hb_3 => ?_)
  refine xs_step (fun K HC => xr_iald HC.1 26 44 (hp_in_vp hb_3) rfl rfl) ?_
  refine xs_step (fun K HC => xr_aload_n HC.1 27 45 (n := 0) (ix := 0) (j := 0) (c := 11) (x := v0) rfl rfl rfl rfl) ?_
  refine xs_bind (fun q_4 eq_4 => ?_)
  refine xs_step (fun K HC => xr_getr HC.1 28 48 11 48 13 eq_4 rfl rfl wf_M_76 (by decide) fb_11_48 fc_11_48 fd_11_48) ?_
  refine xs_step (fun K HC => xr_iload_n HC.1 29 49 (n := 3) (ix := 3) (j := 2) (x := v3) rfl rfl rfl rfl) ?_
  refine xs_chk (fun hb_5 => ?_)
  refine xs_step (fun K HC => xr_iald HC.1 30 50 (hp_in_vp hb_5) rfl rfl) ?_
  refine xs_step (fun K HC => xr_iconst HC.1 31 51 (n := (5)) (5 : Int32) rfl rfl rfl) ?_
  refine xs_step (fun K HC => xr_ishl HC.1 32 52 rfl rfl) ?_
  refine xs_step (fun K HC => xr_ior HC.1 33 53 rfl rfl) ?_
  refine xs_step (fun K HC => xr_aload_n HC.1 34 54 (n := 0) (ix := 0) (j := 0) (c := 11) (x := v0) rfl rfl rfl rfl) ?_
  refine xs_bind (fun q_6 eq_6 => ?_)
  refine xs_step (fun K HC => xr_getr HC.1 35 57 11 50 15 eq_6 rfl rfl wf_M_82 (by decide) fb_11_50 fc_11_50 fd_11_50) ?_
  refine xs_step (fun K HC => xr_iload_n HC.1 36 58 (n := 3) (ix := 3) (j := 2) (x := v3) rfl rfl rfl rfl) ?_
  refine xs_chk (fun hb_7 => ?_)
  refine xs_step (fun K HC => xr_zald HC.1 37 59 (hp_in_vp hb_7) rfl rfl) ?_
  refine xs_ite (fun K HC => xr_if_eq HC.1 38 68 62 rfl (by decide) rfl) ?_ ?_
  · refine xs_step (fun K HC => xr_iconst HC.1 41 69 (n := (0)) (0 : Int32) rfl rfl rfl) ?_
    refine xs_step (fun K HC => xr_sub (lv' := [(0, av_R 11 (some v0)), (3, av_I v3)]) [0, 2] rfl) ?_
    exact t_M_packed_69 v0 v3 (0 : Int32) ((hp_i h q_2 (v3).toNatClampNeg) ||| ((hp_i h q_4 (v3).toNatClampNeg) <<< ((5 : Int32) &&& 31))) v1 h
  refine xs_step (fun K HC => xr_sipush HC.1 39 65 (n := (128)) (128 : Int32) rfl rfl rfl) ?_
  refine xs_step (fun K HC => xr_goto HC.1 40 69 rfl (by decide)) ?_
  refine xs_step (fun K HC => xr_sub (lv' := [(0, av_R 11 (some v0)), (3, av_I v3)]) [0, 2] rfl) ?_
  exact t_M_packed_69 v0 v3 (128 : Int32) ((hp_i h q_2 (v3).toNatClampNeg) ||| ((hp_i h q_4 (v3).toNatClampNeg) <<< ((5 : Int32) &&& 31))) v1 h
theorem t_M_packed_31 (v0 : Nat) (v1 : Int64) (v3 : Int32) (h : HP) : xx_S (xx_D "LampYardModel" tb_M_packed 4 1 (some .long) false) xz_l (fun K => xL_l K) 31 [(0, av_R 11 (some v0)), (1, av_L v1), (3, av_I v3)] [] h (f_M_packed_31 v0 v1 v3 h) :=
  xs_loop (zf := xz_l) (L := (fun K => xL_l K)) (fun s : (Int64 × Int32 × HP) => [(0, av_R 11 (some v0)), (1, av_L s.1), (3, av_I s.2.1)]) (fun s : (Int64 × Int32 × HP) => s.2.2) (fun s => t_M_packed_31b v0 s.1 s.2.1 s.2.2) (v1, v3, h)
set_option maxHeartbeats 4000000 in
set_option maxRecDepth 100000 in
theorem t_M_packed_27 (v0 : Nat) (s0 : Int64) (s1 : Int64) (h : HP) : xx_S (xx_D "LampYardModel" tb_M_packed 4 1 (some .long) false) xz_l (fun K => xL_l K) 27 [(0, av_R 11 (some v0))] [av_L s0, av_L s1] h (f_M_packed_27 v0 s0 s1 h) := by
  unfold f_M_packed_27
  refine xs_step (fun K HC => xr_lor HC.1 15 28 rfl rfl) ?_
  refine xs_topl (fun v1_1 => ?_)
  refine xs_step (fun K HC => xr_lstore_n HC.1 16 29 (n := 1) (ix := 1) (lv' := [(0, av_R 11 (some v0)), (1, av_L v1_1)]) rfl rfl rfl (by decide) rfl) ?_
  refine xs_step (fun K HC => xr_iconst HC.1 17 30 (n := (0)) (0 : Int32) rfl rfl rfl) ?_
  refine xs_step (fun K HC => xr_istore_n HC.1 18 31 (n := 3) (ix := 3) (lv' := [(0, av_R 11 (some v0)), (1, av_L v1_1), (3, av_I (0 : Int32))]) rfl rfl rfl (by decide) rfl) ?_
  exact t_M_packed_31 v0 v1_1 (0 : Int32) h
set_option maxHeartbeats 4000000 in
set_option maxRecDepth 100000 in
theorem t_M_packed (v0 : Nat) (h : HP) : xx_S (xx_D "LampYardModel" tb_M_packed 4 1 (some .long) false) xz_l (fun K => xL_l K) 0 [(0, av_R 11 (some v0))] [] h (f_M_packed v0 h) := by
  unfold f_M_packed
  refine xs_step (fun K HC => xr_aload_n HC.1 0 1 (n := 0) (ix := 0) (j := 0) (c := 11) (x := v0) rfl rfl rfl rfl) ?_
  refine xs_step (fun K HC => xr_geti HC.1 1 4 11 51 rfl rfl wf_M_413 (by decide) fb_11_51 fc_11_51) ?_
  refine xs_step (fun K HC => xr_i2l HC.1 2 5 rfl rfl) ?_
  refine xs_step (fun K HC => xr_aload_n HC.1 3 6 (n := 0) (ix := 0) (j := 0) (c := 11) (x := v0) rfl rfl rfl rfl) ?_
  refine xs_step (fun K HC => xr_geti HC.1 4 9 11 52 rfl rfl wf_M_416 (by decide) fb_11_52 fc_11_52) ?_
  refine xs_step (fun K HC => xr_i2l HC.1 5 10 rfl rfl) ?_
  refine xs_step (fun K HC => xr_iconst HC.1 6 11 (n := (2)) (2 : Int32) rfl rfl rfl) ?_
  refine xs_step (fun K HC => xr_lshl HC.1 7 12 rfl rfl) ?_
  refine xs_step (fun K HC => xr_lor HC.1 8 13 rfl rfl) ?_
  refine xs_step (fun K HC => xr_aload_n HC.1 9 14 (n := 0) (ix := 0) (j := 0) (c := 11) (x := v0) rfl rfl rfl rfl) ?_
  refine xs_step (fun K HC => xr_geti HC.1 10 17 11 67 rfl rfl wf_M_469 (by decide) fb_11_67 fc_11_67) ?_
  refine xs_ite (fun K HC => xr_if_eq HC.1 11 26 20 rfl (by decide) rfl) ?_ ?_
  · refine xs_step (fun K HC => xr_lconst HC.1 14 27 (n := 0) (0 : Int64) rfl rfl rfl) ?_
    exact t_M_packed_27 v0 (0 : Int64) (((hp_i h v0 51)).toInt64 ||| (((hp_i h v0 52)).toInt64 <<< (((2 : Int32)).toInt64 &&& 63))) h
  refine xs_step (fun K HC => xr_ldc2 HC.1 12 23 wk_M_472 rfl rfl) ?_
  refine xs_step (fun K HC => xr_goto HC.1 13 27 rfl (by decide)) ?_
  exact t_M_packed_27 v0 (64 : Int64) (((hp_i h v0 51)).toInt64 ||| (((hp_i h v0 52)).toInt64 <<< (((2 : Int32)).toInt64 &&& 63))) h
theorem s_M_packed (v0 : Nat) (h : HP) : ∀ x, f_M_packed v0 h = some x → hp_mo h x.2 ∧ ∀ g l, xx_M g l y_M_packed prog_14_method_56_code 4 (some .long) 1 [av_R 11 (some v0)] h (some (av_L x.1)) x.2 :=
  xM_l (tb := tb_M_packed) (b := false) (by decide +kernel) dt_M_packed (fun _ => trivial) (Nat.le_of_ble_eq_true rfl) (fun hb => by cases hb) (t_M_packed v0 h)
