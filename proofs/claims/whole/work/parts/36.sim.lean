def tb_Sv_daysTo : TBL := [(0, .iconst 0, 1), (1, .istore_n 2, 1), (2, .iload_n 1, 1), (3, .istore_n 3, 1), (4, .iload_n 2, 1), (5, .sipush 5000, 3), (8, .if_icmp .ge 28, 3), (11, .aload_n 0, 1), (12, .getfield 35, 3), (15, .iload_n 3, 1), (16, .iaload, 1), (17, .iconst (-1), 1), (18, .if_icmp .eq 18, 3), (21, .aload_n 0, 1), (22, .getfield 35, 3), (25, .iload_n 3, 1), (26, .iaload, 1), (27, .iconst 3, 1), (28, .ishr, 1), (29, .istore_n 3, 1), (30, .iinc 2 1, 3), (33, .goto (-29), 3), (36, .iload_n 2, 1), (37, .ireturn, 1)]
theorem dt_Sv_daysTo : ∀ q ∈ tb_Sv_daysTo, decode prog_12_method_9_code q.1 = .ok (q.2.1, q.2.2) := by decide +kernel
set_option maxHeartbeats 4000000 in
set_option maxRecDepth 100000 in
theorem t_Sv_daysTo_4b (v0 : Nat) (v2 : Int32) (v3 : Int32) (h : HP) : xx_S (xx_D "LampYard$Survey" tb_Sv_daysTo 4 1 (some .int) false) (xx_z2 (fun s : (Int32 × Int32 × HP) => s.2.2) xz_i) (fun K => xx_L2 (fun s : (Int32 × Int32 × HP) => xx_X K 4 [(0, av_R 9 (some v0)), (2, av_I s.1), (3, av_I s.2.1)] [] (s.2.2)) (xL_i K)) 4 [(0, av_R 9 (some v0)), (2, av_I v2), (3, av_I v3)] [] h (f_Sv_daysTo_4b v0 v2 v3 h) := by
  unfold f_Sv_daysTo_4b
  refine xs_step (fun K HC => xr_iload_n HC.1 4 5 (n := 2) (ix := 2) (j := 1) (x := v2) rfl rfl rfl rfl) ?_
  refine xs_step (fun K HC => xr_sipush HC.1 5 8 (n := (5000)) (5000 : Int32) rfl rfl rfl) ?_
  refine xs_ite (fun K HC => xr_icmp_ge HC.1 6 36 11 rfl (by decide) rfl) ?_ ?_
  · refine xs_step (fun K HC => xr_iload_n HC.1 22 37 (n := 2) (ix := 2) (j := 1) (x := v2) rfl rfl rfl rfl) ?_
    exact xs_reti 23 rfl rfl (fun K q => q) (fun ty ht => by cases ht; rfl)
  refine xs_step (fun K HC => xr_aload_n HC.1 7 12 (n := 0) (ix := 0) (j := 0) (c := 9) (x := v0) rfl rfl rfl rfl) ?_
  refine xs_bind (fun q_1 eq_1 => ?_)
  refine xs_step (fun K HC => xr_getr HC.1 8 15 9 13 13 eq_1 rfl rfl wf_Sv_35 (by decide) fb_9_13 fc_9_13 fd_9_13) ?_
  refine xs_step (fun K HC => xr_iload_n HC.1 9 16 (n := 3) (ix := 3) (j := 2) (x := v3) rfl rfl rfl rfl) ?_
  refine xs_chk (fun hb_2 => ?_)
  refine xs_step (fun K HC => xr_iald HC.1 10 17 (hp_in_vp hb_2) rfl rfl) ?_
  refine xs_step (fun K HC => xr_iconst HC.1 11 18 (n := (-1)) (-1 : Int32) rfl rfl rfl) ?_
  refine xs_ite (fun K HC => xr_icmp_eq HC.1 12 36 21 rfl (by decide) rfl) ?_ ?_
  · refine xs_step (fun K HC => xr_iload_n HC.1 22 37 (n := 2) (ix := 2) (j := 1) (x := v2) rfl rfl rfl rfl) ?_
    exact xs_reti 23 rfl rfl (fun K q => q) (fun ty ht => by cases ht; rfl)
  refine xs_step (fun K HC => xr_aload_n HC.1 13 22 (n := 0) (ix := 0) (j := 0) (c := 9) (x := v0) rfl rfl rfl rfl) ?_
  refine xs_bind (fun q_3 eq_3 => ?_)
  refine xs_step (fun K HC => xr_getr HC.1 14 25 9 13 13 eq_3 rfl rfl wf_Sv_35 (by decide) fb_9_13 fc_9_13 fd_9_13) ?_
  refine xs_step (fun K HC => xr_iload_n HC.1 15 26 (n := 3) (ix := 3) (j := 2) (x := v3) rfl rfl rfl rfl) ?_
  refine xs_chk (fun hb_4 => ?_)
  refine xs_step (fun K HC => xr_iald HC.1 16 27 (hp_in_vp hb_4) rfl rfl) ?_
  refine xs_step (fun K HC => xr_iconst HC.1 17 28 (n := (3)) (3 : Int32) rfl rfl rfl) ?_
  refine xs_step (fun K HC => xr_ishr HC.1 18 29 rfl rfl) ?_
  refine xs_topi (fun v3_5 => ?_)
  refine xs_step (fun K HC => xr_istore_n HC.1 19 30 (n := 3) (ix := 3) (lv' := [(0, av_R 9 (some v0)), (2, av_I v2), (3, av_I v3_5)]) rfl rfl rfl (by decide) rfl) ?_
  refine xs_gen (fun v2_6 ev2_6 => ?_)
  refine xs_step (fun K HC => xr_iinc HC.1 20 33 (ix := 2) (j := 1) (n := (1)) (x := v2) v2_6 (lv' := [(0, av_R 9 (some v0)), (2, av_I v2_6), (3, av_I v3_5)]) rfl (by rw [ev2_6]; rfl) rfl rfl (by decide) rfl) ?_
  refine xs_step (fun K HC => xr_goto HC.1 21 4 rfl (by decide)) ?_
  exact xs_back rfl (fun K q => q)
theorem t_Sv_daysTo_4 (v0 : Nat) (v2 : Int32) (v3 : Int32) (h : HP) : xx_S (xx_D "LampYard$Survey" tb_Sv_daysTo 4 1 (some .int) false) xz_i (fun K => xL_i K) 4 [(0, av_R 9 (some v0)), (2, av_I v2), (3, av_I v3)] [] h (f_Sv_daysTo_4 v0 v2 v3 h) :=
  xs_loop (zf := xz_i) (L := (fun K => xL_i K)) (fun s : (Int32 × Int32 × HP) => [(0, av_R 9 (some v0)), (2, av_I s.1), (3, av_I s.2.1)]) (fun s : (Int32 × Int32 × HP) => s.2.2) (fun s => t_Sv_daysTo_4b v0 s.1 s.2.1 s.2.2) (v2, v3, h)
set_option maxHeartbeats 4000000 in
set_option maxRecDepth 100000 in
theorem t_Sv_daysTo (v0 : Nat) (v1 : Int32) (h : HP) : xx_S (xx_D "LampYard$Survey" tb_Sv_daysTo 4 1 (some .int) false) xz_i (fun K => xL_i K) 0 [(0, av_R 9 (some v0)), (1, av_I v1)] [] h (f_Sv_daysTo v0 v1 h) := by
  unfold f_Sv_daysTo
  refine xs_step (fun K HC => xr_iconst HC.1 0 1 (n := (0)) (0 : Int32) rfl rfl rfl) ?_
  refine xs_step (fun K HC => xr_istore_n HC.1 1 2 (n := 2) (ix := 2) (lv' := [(0, av_R 9 (some v0)), (1, av_I v1), (2, av_I (0 : Int32))]) rfl rfl rfl (by decide) rfl) ?_
  refine xs_step (fun K HC => xr_iload_n HC.1 2 3 (n := 1) (ix := 1) (j := 1) (x := v1) rfl rfl rfl rfl) ?_
  refine xs_step (fun K HC => xr_istore_n HC.1 3 4 (n := 3) (ix := 3) (lv' := [(0, av_R 9 (some v0)), (1, av_I v1), (2, av_I (0 : Int32)), (3, av_I v1)]) rfl rfl rfl (by decide) rfl) ?_
  refine xs_step (fun K HC => xr_sub (lv' := [(0, av_R 9 (some v0)), (2, av_I (0 : Int32)), (3, av_I v1)]) [0, 2, 3] rfl) ?_
  exact t_Sv_daysTo_4 v0 (0 : Int32) v1 h
theorem s_Sv_daysTo (v0 : Nat) (v1 : Int32) (h : HP) : ∀ x, f_Sv_daysTo v0 v1 h = some x → hp_mo h x.2 ∧ ∀ g l, xx_M g l y_Sv_daysTo prog_12_method_9_code 4 (some .int) 1 [av_R 9 (some v0), av_I v1] h (some (av_I x.1)) x.2 :=
  xM_i (tb := tb_Sv_daysTo) (b := false) (by decide +kernel) dt_Sv_daysTo (fun _ => trivial) (Nat.le_of_ble_eq_true rfl) (fun hb => by cases hb) (t_Sv_daysTo v0 v1 h)
def tb_Sv_keepRow : TBL := [(0, .iload_n 1, 1), (1, .istore_n 3, 1), (2, .aload_n 0, 1), (3, .aload_n 0, 1), (4, .iload_n 1, 1), (5, .invokevirtual 151, 3), (8, .iconst 1, 1), (9, .iadd, 1), (10, .putfield 62, 3), (13, .aload_n 0, 1), (14, .getfield 25, 3), (17, .aload_n 0, 1), (18, .getfield 62, 3), (21, .iconst 1, 1), (22, .isub, 1), (23, .iload_n 2, 1), (24, .iastore, 1), (25, .aload_n 0, 1), (26, .getfield 62, 3), (29, .iconst 2, 1), (30, .isub, 1), (31, .istore 4, 2), (33, .iload 4, 2), (35, .ifCond .lt 34, 3), (38, .aload_n 0, 1), (39, .getfield 25, 3), (42, .iload 4, 2), (44, .aload_n 0, 1), (45, .getfield 35, 3), (48, .iload_n 3, 1), (49, .iaload, 1), (50, .bipush 7, 2), (52, .iand, 1), (53, .iastore, 1), (54, .aload_n 0, 1), (55, .getfield 35, 3), (58, .iload_n 3, 1), (59, .iaload, 1), (60, .iconst 3, 1), (61, .ishr, 1), (62, .istore_n 3, 1), (63, .iinc 4 (-1), 3), (66, .goto (-33), 3), (69, .aload_n 0, 1), (70, .aload_n 0, 1), (71, .getfield 21, 3), (74, .iload_n 3, 1), (75, .invokevirtual 117, 3), (78, .invokestatic 159, 3), (81, .putfield 65, 3), (84, .return_, 1)]
theorem dt_Sv_keepRow : ∀ q ∈ tb_Sv_keepRow, decode prog_12_method_10_code q.1 = .ok (q.2.1, q.2.2) := by decide +kernel
set_option maxHeartbeats 4000000 in
set_option maxRecDepth 100000 in
theorem t_Sv_keepRow_69 (v0 : Nat) (v3 : Int32) (h : HP) : xx_S (xx_D "LampYard$Survey" tb_Sv_keepRow 5 2 none false) xz_v (fun K => xL_v K) 69 [(0, av_R 9 (some v0)), (3, av_I v3)] [] h (f_Sv_keepRow_69 v0 v3 h) := by
  unfold f_Sv_keepRow_69
  refine xs_step (fun K HC => xr_aload_n HC.1 43 70 (n := 0) (ix := 0) (j := 0) (c := 9) (x := v0) rfl rfl rfl rfl) ?_
  refine xs_step (fun K HC => xr_aload_n HC.1 44 71 (n := 0) (ix := 0) (j := 0) (c := 9) (x := v0) rfl rfl rfl rfl) ?_
  refine xs_bind (fun q_7 eq_7 => ?_)
  refine xs_step (fun K HC => xr_getr HC.1 45 74 9 1 7 eq_7 rfl rfl wf_Sv_21 (by decide) fb_9_1 fc_9_1 fd_9_1) ?_
  refine xs_step (fun K HC => xr_iload_n HC.1 46 75 (n := 3) (ix := 3) (j := 1) (x := v3) rfl rfl rfl rfl) ?_
  refine xs_calll (s_Ss_member q_7 v3 h) (fun K HC x9 hM hmo hb => xr_callV HC.1 47 78 (av := [av_I v3]) (st := [av_R 9 (some v0)]) (hM (kg K) (cx_l (kx K))) hmo hb rfl rfl wm_Sv_117 wi_Ss_member ws_Ss_member wc_Ss_member rfl wh_Ss_member (by decide) (by decide) (by decide) (Nat.le_of_ble_eq_true rfl) rfl) (fun x_8 => ?_)
  refine xs_calli (s_St_lampsOf x_8.1 x_8.2) (fun K HC x9 hM hmo hb => xr_callS HC.1 48 81 (av := [av_L x_8.1]) (st := [av_R 9 (some v0)]) (hM (kg K) (cx_l (kx K))) hmo hb rfl rfl wm_Sv_159 wt_St_lampsOf wn_St_lampsOf wc_St_lampsOf wh_St_lampsOf (by decide) (by decide) (Nat.le_of_ble_eq_true rfl) rfl) (fun x_9 => ?_)
  refine xs_heap (hp_mo_si _ _ _ _) (fun K HC => xr_puti HC.1 49 84 9 10 rfl rfl wf_Sv_65 (by decide) fb_9_10 fn_9_10 fy_9_10) (fun h_10 => ?_)
  exact xs_ret 50 rfl rfl (fun K q => q)
set_option maxHeartbeats 4000000 in
set_option maxRecDepth 100000 in
theorem t_Sv_keepRow_33b (v0 : Nat) (v3 : Int32) (v4 : Int32) (h : HP) : xx_S (xx_D "LampYard$Survey" tb_Sv_keepRow 5 2 none false) (xx_z2 (fun s : (Int32 × Int32 × HP) => s.2.2) xz_v) (fun K => xx_L2 (fun s : (Int32 × Int32 × HP) => xx_X K 33 [(0, av_R 9 (some v0)), (3, av_I s.1), (4, av_I s.2.1)] [] (s.2.2)) (xL_v K)) 33 [(0, av_R 9 (some v0)), (3, av_I v3), (4, av_I v4)] [] h (f_Sv_keepRow_33b v0 v3 v4 h) := by
  unfold f_Sv_keepRow_33b
  refine xs_step (fun K HC => xr_iload HC.1 22 35 (ix := 4) (j := 2) (x := v4) rfl rfl rfl) ?_
  refine xs_ite (fun K HC => xr_if_lt HC.1 23 69 38 rfl (by decide) rfl) ?_ ?_
  · refine xs_step (fun K HC => xr_sub (lv' := [(0, av_R 9 (some v0)), (3, av_I v3)]) [0, 1] rfl) ?_
    exact xs_map (fun _ => rfl) (fun _ _ q => q) (t_Sv_keepRow_69 v0 v3 h)
  refine xs_step (fun K HC => xr_aload_n HC.1 24 39 (n := 0) (ix := 0) (j := 0) (c := 9) (x := v0) rfl rfl rfl rfl) ?_
  refine xs_bind (fun q_11 eq_11 => ?_)
  refine xs_step (fun K HC => xr_getr HC.1 25 42 9 2 13 eq_11 rfl rfl wf_Sv_25 (by decide) fb_9_2 fc_9_2 fd_9_2) ?_
  refine xs_step (fun K HC => xr_iload HC.1 26 44 (ix := 4) (j := 2) (x := v4) rfl rfl rfl) ?_
  refine xs_step (fun K HC => xr_aload_n HC.1 27 45 (n := 0) (ix := 0) (j := 0) (c := 9) (x := v0) rfl rfl rfl rfl) ?_
  refine xs_bind (fun q_12 eq_12 => ?_)
  refine xs_step (fun K HC => xr_getr HC.1 28 48 9 13 13 eq_12 rfl rfl wf_Sv_35 (by decide) fb_9_13 fc_9_13 fd_9_13) ?_
  refine xs_step (fun K HC => xr_iload_n HC.1 29 49 (n := 3) (ix := 3) (j := 1) (x := v3) rfl rfl rfl rfl) ?_
  refine xs_chk (fun hb_13 => ?_)
  refine xs_step (fun K HC => xr_iald HC.1 30 50 (hp_in_vp hb_13) rfl rfl) ?_
  refine xs_step (fun K HC => xr_bipush HC.1 31 52 (n := (7)) (7 : Int32) rfl rfl rfl) ?_
  refine xs_step (fun K HC => xr_iand HC.1 32 53 rfl rfl) ?_
  refine xs_chk (fun hb_14 => ?_)
  refine xs_heap (hp_mo_si _ _ _ _) (fun K HC => xr_iast HC.1 33 54 (hp_in_vp hb_14) rfl rfl) (fun h_15 => ?_)
  refine xs_step (fun K HC => xr_aload_n HC.1 34 55 (n := 0) (ix := 0) (j := 0) (c := 9) (x := v0) rfl rfl rfl rfl) ?_
  refine xs_bind (fun q_16 eq_16 => ?_)
  refine xs_step (fun K HC => xr_getr HC.1 35 58 9 13 13 eq_16 rfl rfl wf_Sv_35 (by decide) fb_9_13 fc_9_13 fd_9_13) ?_
  refine xs_step (fun K HC => xr_iload_n HC.1 36 59 (n := 3) (ix := 3) (j := 1) (x := v3) rfl rfl rfl rfl) ?_
  refine xs_chk (fun hb_17 => ?_)
  refine xs_step (fun K HC => xr_iald HC.1 37 60 (hp_in_vp hb_17) rfl rfl) ?_
  refine xs_step (fun K HC => xr_iconst HC.1 38 61 (n := (3)) (3 : Int32) rfl rfl rfl) ?_
  refine xs_step (fun K HC => xr_ishr HC.1 39 62 rfl rfl) ?_
  refine xs_topi (fun v3_18 => ?_)
  refine xs_step (fun K HC => xr_istore_n HC.1 40 63 (n := 3) (ix := 3) (lv' := [(0, av_R 9 (some v0)), (3, av_I v3_18), (4, av_I v4)]) rfl rfl rfl (by decide) rfl) ?_
  refine xs_gen (fun v4_19 ev4_19 => ?_)
  refine xs_step (fun K HC => xr_iinc HC.1 41 66 (ix := 4) (j := 2) (n := (-1)) (x := v4) v4_19 (lv' := [(0, av_R 9 (some v0)), (3, av_I v3_18), (4, av_I v4_19)]) rfl (by rw [ev4_19]; rfl) rfl rfl (by decide) rfl) ?_
  refine xs_step (fun K HC => xr_goto HC.1 42 33 rfl (by decide)) ?_
  exact xs_back rfl (fun K q => q)
theorem t_Sv_keepRow_33 (v0 : Nat) (v3 : Int32) (v4 : Int32) (h : HP) : xx_S (xx_D "LampYard$Survey" tb_Sv_keepRow 5 2 none false) xz_v (fun K => xL_v K) 33 [(0, av_R 9 (some v0)), (3, av_I v3), (4, av_I v4)] [] h (f_Sv_keepRow_33 v0 v3 v4 h) :=
  xs_loop (zf := xz_v) (L := (fun K => xL_v K)) (fun s : (Int32 × Int32 × HP) => [(0, av_R 9 (some v0)), (3, av_I s.1), (4, av_I s.2.1)]) (fun s : (Int32 × Int32 × HP) => s.2.2) (fun s => t_Sv_keepRow_33b v0 s.1 s.2.1 s.2.2) (v3, v4, h)
set_option maxHeartbeats 4000000 in
set_option maxRecDepth 100000 in
theorem t_Sv_keepRow (v0 : Nat) (v1 : Int32) (v2 : Int32) (h : HP) : xx_S (xx_D "LampYard$Survey" tb_Sv_keepRow 5 2 none false) xz_v (fun K => xL_v K) 0 [(0, av_R 9 (some v0)), (1, av_I v1), (2, av_I v2)] [] h (f_Sv_keepRow v0 v1 v2 h) := by
  unfold f_Sv_keepRow
  refine xs_step (fun K HC => xr_iload_n HC.1 0 1 (n := 1) (ix := 1) (j := 1) (x := v1) rfl rfl rfl rfl) ?_
  refine xs_step (fun K HC => xr_istore_n HC.1 1 2 (n := 3) (ix := 3) (lv' := [(0, av_R 9 (some v0)), (1, av_I v1), (2, av_I v2), (3, av_I v1)]) rfl rfl rfl (by decide) rfl) ?_
  refine xs_step (fun K HC => xr_aload_n HC.1 2 3 (n := 0) (ix := 0) (j := 0) (c := 9) (x := v0) rfl rfl rfl rfl) ?_
  refine xs_step (fun K HC => xr_aload_n HC.1 3 4 (n := 0) (ix := 0) (j := 0) (c := 9) (x := v0) rfl rfl rfl rfl) ?_
  refine xs_step (fun K HC => xr_iload_n HC.1 4 5 (n := 1) (ix := 1) (j := 1) (x := v1) rfl rfl rfl rfl) ?_
  refine xs_calli (s_Sv_daysTo v0 v1 h) (fun K HC x9 hM hmo hb => xr_callV HC.1 5 8 (av := [av_I v1]) (st := [av_R 9 (some v0)]) (hM (kg K) (cx_l (kx K))) hmo hb rfl rfl wm_Sv_151 wi_Sv_daysTo ws_Sv_daysTo wc_Sv_daysTo rfl wh_Sv_daysTo (by decide) (by decide) (by decide) (Nat.le_of_ble_eq_true rfl) rfl) (fun x_1 => ?_)
  refine xs_step (fun K HC => xr_iconst HC.1 6 9 (n := (1)) (1 : Int32) rfl rfl rfl) ?_
  refine xs_step (fun K HC => xr_iadd HC.1 7 10 rfl rfl) ?_
  refine xs_heap (hp_mo_si _ _ _ _) (fun K HC => xr_puti HC.1 8 13 9 9 rfl rfl wf_Sv_62 (by decide) fb_9_9 fn_9_9 fy_9_9) (fun h_2 => ?_)
  refine xs_step (fun K HC => xr_aload_n HC.1 9 14 (n := 0) (ix := 0) (j := 0) (c := 9) (x := v0) rfl rfl rfl rfl) ?_
  refine xs_bind (fun q_3 eq_3 => ?_)
  refine xs_step (fun K HC => xr_getr HC.1 10 17 9 2 13 eq_3 rfl rfl wf_Sv_25 (by decide) fb_9_2 fc_9_2 fd_9_2) ?_
  refine xs_step (fun K HC => xr_aload_n HC.1 11 18 (n := 0) (ix := 0) (j := 0) (c := 9) (x := v0) rfl rfl rfl rfl) ?_
  refine xs_step (fun K HC => xr_geti HC.1 12 21 9 9 rfl rfl wf_Sv_62 (by decide) fb_9_9 fc_9_9) ?_
  refine xs_step (fun K HC => xr_iconst HC.1 13 22 (n := (1)) (1 : Int32) rfl rfl rfl) ?_
  refine xs_step (fun K HC => xr_isub HC.1 14 23 rfl rfl) ?_
  refine xs_step (fun K HC => xr_iload_n HC.1 15 24 (n := 2) (ix := 2) (j := 2) (x := v2) rfl rfl rfl rfl) ?_
  refine xs_chk (fun hb_4 => ?_)
  refine xs_heap (hp_mo_si _ _ _ _) (fun K HC => xr_iast HC.1 16 25 (hp_in_vp hb_4) rfl rfl) (fun h_5 => ?_)
  refine xs_step (fun K HC => xr_aload_n HC.1 17 26 (n := 0) (ix := 0) (j := 0) (c := 9) (x := v0) rfl rfl rfl rfl) ?_
  refine xs_step (fun K HC => xr_geti HC.1 18 29 9 9 rfl rfl wf_Sv_62 (by decide) fb_9_9 fc_9_9) ?_
  refine xs_step (fun K HC => xr_iconst HC.1 19 30 (n := (2)) (2 : Int32) rfl rfl rfl) ?_
  refine xs_step (fun K HC => xr_isub HC.1 20 31 rfl rfl) ?_
  refine xs_topi (fun v4_6 => ?_)
  refine xs_step (fun K HC => xr_istore HC.1 21 33 (ix := 4) (lv' := [(0, av_R 9 (some v0)), (1, av_I v1), (2, av_I v2), (3, av_I v1), (4, av_I v4_6)]) rfl rfl (by decide) rfl) ?_
  refine xs_step (fun K HC => xr_sub (lv' := [(0, av_R 9 (some v0)), (3, av_I v1), (4, av_I v4_6)]) [0, 3, 4] rfl) ?_
  exact t_Sv_keepRow_33 v0 v1 v4_6 h_5
theorem s_Sv_keepRow (v0 : Nat) (v1 : Int32) (v2 : Int32) (h : HP) : ∀ x, f_Sv_keepRow v0 v1 v2 h = some x → hp_mo h x ∧ ∀ g l, xx_M g l y_Sv_keepRow prog_12_method_10_code 5 none 2 [av_R 9 (some v0), av_I v1, av_I v2] h none x :=
  xM_v (tb := tb_Sv_keepRow) (b := false) (by decide +kernel) dt_Sv_keepRow trivial (Nat.le_of_ble_eq_true rfl) (fun hb => by cases hb) (t_Sv_keepRow v0 v1 v2 h)
def tb_Sv_noteSaid : TBL := [(0, .aload_n 0, 1), (1, .getfield 38, 3), (4, .lload_n 3, 1), (5, .invokevirtual 147, 3), (8, .ifCond .eq 34, 3), (11, .aload_n 0, 1), (12, .dup, 1), (13, .getfield 52, 3), (16, .iconst 1, 1), (17, .iadd, 1), (18, .putfield 52, 3), (21, .aload_n 0, 1), (22, .getfield 59, 3), (25, .iconst (-1), 1), (26, .if_icmp .ne 14, 3), (29, .aload_n 0, 1), (30, .aload_n 0, 1), (31, .iload_n 1, 1), (32, .invokevirtual 151, 3), (35, .iconst 1, 1), (36, .iadd, 1), (37, .putfield 59, 3), (40, .iconst (-1), 1), (41, .ireturn, 1), (42, .aload_n 0, 1), (43, .dup, 1), (44, .getfield 56, 3), (47, .iconst 1, 1), (48, .iadd, 1), (49, .putfield 56, 3), (52, .aload_n 0, 1), (53, .getfield 62, 3), (56, .ifCond .ne 9, 3), (59, .aload_n 0, 1), (60, .iload_n 1, 1), (61, .iload_n 2, 1), (62, .invokevirtual 155, 3), (65, .bipush (-2), 2), (67, .ireturn, 1)]
theorem dt_Sv_noteSaid : ∀ q ∈ tb_Sv_noteSaid, decode prog_12_method_7_code q.1 = .ok (q.2.1, q.2.2) := by decide +kernel
set_option maxHeartbeats 4000000 in
set_option maxRecDepth 100000 in
theorem t_Sv_noteSaid (v0 : Nat) (v1 : Int32) (v2 : Int32) (v3 : Int64) (h : HP) : xx_S (xx_D "LampYard$Survey" tb_Sv_noteSaid 5 3 (some .int) false) xz_i (fun K => xL_i K) 0 [(0, av_R 9 (some v0)), (1, av_I v1), (2, av_I v2), (3, av_L v3)] [] h (f_Sv_noteSaid v0 v1 v2 v3 h) := by
  unfold f_Sv_noteSaid
  refine xs_step (fun K HC => xr_aload_n HC.1 0 1 (n := 0) (ix := 0) (j := 0) (c := 9) (x := v0) rfl rfl rfl rfl) ?_
  refine xs_bind (fun q_1 eq_1 => ?_)
  refine xs_step (fun K HC => xr_getr HC.1 1 4 9 4 4 eq_1 rfl rfl wf_Sv_38 (by decide) fb_9_4 fc_9_4 fd_9_4) ?_
  refine xs_step (fun K HC => xr_lload_n HC.1 2 5 (n := 3) (ix := 3) (j := 3) (x := v3) rfl rfl rfl rfl) ?_
  refine xs_calli (s_Pl_haveAllBeen q_1 v3 h) (fun K HC x9 hM hmo hb => xr_callV HC.1 3 8 (av := [av_L v3]) (st := []) (hM (kg K) (cx_l (kx K))) hmo hb rfl rfl wm_Sv_147 wi_Pl_haveAllBeen ws_Pl_haveAllBeen wc_Pl_haveAllBeen rfl wh_Pl_haveAllBeen (by decide) (by decide) (by decide) (Nat.le_of_ble_eq_true rfl) rfl) (fun x_2 => ?_)
  refine xs_ite (fun K HC => xr_if_eq HC.1 4 42 11 rfl (by decide) rfl) ?_ ?_
  · refine xs_step (fun K HC => xr_aload_n HC.1 24 43 (n := 0) (ix := 0) (j := 0) (c := 9) (x := v0) rfl rfl rfl rfl) ?_
    refine xs_step (fun K HC => xr_dup HC.1 25 44 rfl rfl rfl) ?_
    refine xs_step (fun K HC => xr_geti HC.1 26 47 9 7 rfl rfl wf_Sv_56 (by decide) fb_9_7 fc_9_7) ?_
    refine xs_step (fun K HC => xr_iconst HC.1 27 48 (n := (1)) (1 : Int32) rfl rfl rfl) ?_
    refine xs_step (fun K HC => xr_iadd HC.1 28 49 rfl rfl) ?_
    refine xs_heap (hp_mo_si _ _ _ _) (fun K HC => xr_puti HC.1 29 52 9 7 rfl rfl wf_Sv_56 (by decide) fb_9_7 fn_9_7 fy_9_7) (fun h_3 => ?_)
    refine xs_step (fun K HC => xr_aload_n HC.1 30 53 (n := 0) (ix := 0) (j := 0) (c := 9) (x := v0) rfl rfl rfl rfl) ?_
    refine xs_step (fun K HC => xr_geti HC.1 31 56 9 9 rfl rfl wf_Sv_62 (by decide) fb_9_9 fc_9_9) ?_
    refine xs_ite (fun K HC a b => xr_if_ne HC.1 32 65 59 rfl (by decide) rfl b a) ?_ ?_
    · refine xs_step (fun K HC => xr_aload_n HC.1 33 60 (n := 0) (ix := 0) (j := 0) (c := 9) (x := v0) rfl rfl rfl rfl) ?_
      refine xs_step (fun K HC => xr_iload_n HC.1 34 61 (n := 1) (ix := 1) (j := 1) (x := v1) rfl rfl rfl rfl) ?_
      refine xs_step (fun K HC => xr_iload_n HC.1 35 62 (n := 2) (ix := 2) (j := 2) (x := v2) rfl rfl rfl rfl) ?_
      refine xs_callv (s_Sv_keepRow v0 v1 v2 h_3) (fun K HC x9 hM hmo hb => xr_callV HC.1 36 65 (av := [av_I v1, av_I v2]) (st := []) (hM (kg K) (cx_l (kx K))) hmo hb rfl rfl wm_Sv_155 wi_Sv_keepRow ws_Sv_keepRow wc_Sv_keepRow rfl wh_Sv_keepRow (by decide) (by decide) (by decide) (Nat.le_of_ble_eq_true rfl) rfl) (fun x_4 => ?_)
      refine xs_step (fun K HC => xr_bipush HC.1 37 67 (n := (-2)) (-2 : Int32) rfl rfl rfl) ?_
      exact xs_reti 38 rfl rfl (fun K q => q) (fun ty ht => by cases ht; rfl)
    refine xs_step (fun K HC => xr_bipush HC.1 37 67 (n := (-2)) (-2 : Int32) rfl rfl rfl) ?_
    exact xs_reti 38 rfl rfl (fun K q => q) (fun ty ht => by cases ht; rfl)
  refine xs_step (fun K HC => xr_aload_n HC.1 5 12 (n := 0) (ix := 0) (j := 0) (c := 9) (x := v0) rfl rfl rfl rfl) ?_
  refine xs_step (fun K HC => xr_dup HC.1 6 13 rfl rfl rfl) ?_
  refine xs_step (fun K HC => xr_geti HC.1 7 16 9 6 rfl rfl wf_Sv_52 (by decide) fb_9_6 fc_9_6) ?_
  refine xs_step (fun K HC => xr_iconst HC.1 8 17 (n := (1)) (1 : Int32) rfl rfl rfl) ?_
  refine xs_step (fun K HC => xr_iadd HC.1 9 18 rfl rfl) ?_
  refine xs_heap (hp_mo_si _ _ _ _) (fun K HC => xr_puti HC.1 10 21 9 6 rfl rfl wf_Sv_52 (by decide) fb_9_6 fn_9_6 fy_9_6) (fun h_5 => ?_)
  refine xs_step (fun K HC => xr_aload_n HC.1 11 22 (n := 0) (ix := 0) (j := 0) (c := 9) (x := v0) rfl rfl rfl rfl) ?_
  refine xs_step (fun K HC => xr_geti HC.1 12 25 9 8 rfl rfl wf_Sv_59 (by decide) fb_9_8 fc_9_8) ?_
  refine xs_step (fun K HC => xr_iconst HC.1 13 26 (n := (-1)) (-1 : Int32) rfl rfl rfl) ?_
  refine xs_ite (fun K HC a b => xr_icmp_ne HC.1 14 40 29 rfl (by decide) rfl b a) ?_ ?_
  · refine xs_step (fun K HC => xr_aload_n HC.1 15 30 (n := 0) (ix := 0) (j := 0) (c := 9) (x := v0) rfl rfl rfl rfl) ?_
    refine xs_step (fun K HC => xr_aload_n HC.1 16 31 (n := 0) (ix := 0) (j := 0) (c := 9) (x := v0) rfl rfl rfl rfl) ?_
    refine xs_step (fun K HC => xr_iload_n HC.1 17 32 (n := 1) (ix := 1) (j := 1) (x := v1) rfl rfl rfl rfl) ?_
    refine xs_calli (s_Sv_daysTo v0 v1 h_5) (fun K HC x9 hM hmo hb => xr_callV HC.1 18 35 (av := [av_I v1]) (st := [av_R 9 (some v0)]) (hM (kg K) (cx_l (kx K))) hmo hb rfl rfl wm_Sv_151 wi_Sv_daysTo ws_Sv_daysTo wc_Sv_daysTo rfl wh_Sv_daysTo (by decide) (by decide) (by decide) (Nat.le_of_ble_eq_true rfl) rfl) (fun x_6 => ?_)
    refine xs_step (fun K HC => xr_iconst HC.1 19 36 (n := (1)) (1 : Int32) rfl rfl rfl) ?_
    refine xs_step (fun K HC => xr_iadd HC.1 20 37 rfl rfl) ?_
    refine xs_heap (hp_mo_si _ _ _ _) (fun K HC => xr_puti HC.1 21 40 9 8 rfl rfl wf_Sv_59 (by decide) fb_9_8 fn_9_8 fy_9_8) (fun h_7 => ?_)
    refine xs_step (fun K HC => xr_iconst HC.1 22 41 (n := (-1)) (-1 : Int32) rfl rfl rfl) ?_
    exact xs_reti 23 rfl rfl (fun K q => q) (fun ty ht => by cases ht; rfl)
  refine xs_step (fun K HC => xr_iconst HC.1 22 41 (n := (-1)) (-1 : Int32) rfl rfl rfl) ?_
  exact xs_reti 23 rfl rfl (fun K q => q) (fun ty ht => by cases ht; rfl)
theorem s_Sv_noteSaid (v0 : Nat) (v1 : Int32) (v2 : Int32) (v3 : Int64) (h : HP) : ∀ x, f_Sv_noteSaid v0 v1 v2 v3 h = some x → hp_mo h x.2 ∧ ∀ g l, xx_M g l y_Sv_noteSaid prog_12_method_7_code 5 (some .int) 3 [av_R 9 (some v0), av_I v1, av_I v2, av_L v3] h (some (av_I x.1)) x.2 :=
  xM_i (tb := tb_Sv_noteSaid) (b := false) (by decide +kernel) dt_Sv_noteSaid (fun _ => trivial) (Nat.le_of_ble_eq_true rfl) (fun hb => by cases hb) (t_Sv_noteSaid v0 v1 v2 v3 h)
def tb_Sv_goOn : TBL := [(0, .aload_n 0, 1), (1, .getfield 21, 3), (4, .getfield 88, 3), (7, .istore 5, 2), (9, .aload_n 0, 1), (10, .getfield 21, 3), (13, .lload_n 3, 1), (14, .invokevirtual 113, 3), (17, .istore 6, 2), (19, .aload_n 0, 1), (20, .iload 6, 2), (22, .iconst (-1), 1), (23, .if_icmp .ne 7, 3), (26, .iconst 1, 1), (27, .goto 4, 3), (30, .iconst 0, 1), (31, .putfield 48, 3), (34, .aload_n 0, 1), (35, .getfield 21, 3), (38, .getfield 88, 3), (41, .iload 5, 2), (43, .if_icmp .le 22, 3), (46, .iload 6, 2), (48, .iconst (-1), 1), (49, .if_icmp .eq 16, 3), (52, .aload_n 0, 1), (53, .getfield 35, 3), (56, .iload 6, 2), (58, .iload_n 1, 1), (59, .bipush 8, 2), (61, .imul, 1), (62, .iload_n 2, 1), (63, .iadd, 1), (64, .iastore, 1), (65, .iload 6, 2), (67, .ireturn, 1)]
theorem dt_Sv_goOn : ∀ q ∈ tb_Sv_goOn, decode prog_12_method_8_code q.1 = .ok (q.2.1, q.2.2) := by decide +kernel
set_option maxHeartbeats 4000000 in
set_option maxRecDepth 100000 in
theorem t_Sv_goOn_31 (v0 : Nat) (v1 : Int32) (v2 : Int32) (v5 : Int32) (v6 : Int32) (s0 : Int32) (s1 : Nat) (h : HP) : xx_S (xx_D "LampYard$Survey" tb_Sv_goOn 7 3 (some .int) false) xz_i (fun K => xL_i K) 31 [(0, av_R 9 (some v0)), (1, av_I v1), (2, av_I v2), (5, av_I v5), (6, av_I v6)] [av_I s0, av_R 9 (some s1)] h (f_Sv_goOn_31 v0 v1 v2 v5 v6 s0 s1 h) := by
  unfold f_Sv_goOn_31
  refine xs_chk (fun hz_6 => ?_)
  refine xs_heap (hp_mo_si _ _ _ _) (fun K HC => xr_putz HC.1 16 34 9 5 (hp_z01_or hz_6) rfl rfl wf_Sv_48 (by decide) fb_9_5 fn_9_5 fy_9_5) (fun h_5 => ?_)
  refine xs_step (fun K HC => xr_aload_n HC.1 17 35 (n := 0) (ix := 0) (j := 0) (c := 9) (x := v0) rfl rfl rfl rfl) ?_
  refine xs_bind (fun q_7 eq_7 => ?_)
  refine xs_step (fun K HC => xr_getr HC.1 18 38 9 1 7 eq_7 rfl rfl wf_Sv_21 (by decide) fb_9_1 fc_9_1 fd_9_1) ?_
  refine xs_step (fun K HC => xr_geti HC.1 19 41 7 0 rfl rfl wf_Sv_88 (by decide) fb_7_0 fc_7_0) ?_
  refine xs_step (fun K HC => xr_iload HC.1 20 43 (ix := 5) (j := 3) (x := v5) rfl rfl rfl) ?_
  refine xs_ite (fun K HC => xr_icmp_le HC.1 21 65 46 rfl (by decide) rfl) ?_ ?_
  · refine xs_step (fun K HC => xr_iload HC.1 34 67 (ix := 6) (j := 4) (x := v6) rfl rfl rfl) ?_
    exact xs_reti 35 rfl rfl (fun K q => q) (fun ty ht => by cases ht; rfl)
  refine xs_step (fun K HC => xr_iload HC.1 22 48 (ix := 6) (j := 4) (x := v6) rfl rfl rfl) ?_
  refine xs_step (fun K HC => xr_iconst HC.1 23 49 (n := (-1)) (-1 : Int32) rfl rfl rfl) ?_
  refine xs_ite (fun K HC => xr_icmp_eq HC.1 24 65 52 rfl (by decide) rfl) ?_ ?_
  · refine xs_step (fun K HC => xr_iload HC.1 34 67 (ix := 6) (j := 4) (x := v6) rfl rfl rfl) ?_
    exact xs_reti 35 rfl rfl (fun K q => q) (fun ty ht => by cases ht; rfl)
  refine xs_step (fun K HC => xr_aload_n HC.1 25 53 (n := 0) (ix := 0) (j := 0) (c := 9) (x := v0) rfl rfl rfl rfl) ?_
  refine xs_bind (fun q_8 eq_8 => ?_)
  refine xs_step (fun K HC => xr_getr HC.1 26 56 9 13 13 eq_8 rfl rfl wf_Sv_35 (by decide) fb_9_13 fc_9_13 fd_9_13) ?_
  refine xs_step (fun K HC => xr_iload HC.1 27 58 (ix := 6) (j := 4) (x := v6) rfl rfl rfl) ?_
  refine xs_step (fun K HC => xr_iload_n HC.1 28 59 (n := 1) (ix := 1) (j := 1) (x := v1) rfl rfl rfl rfl) ?_
  refine xs_step (fun K HC => xr_bipush HC.1 29 61 (n := (8)) (8 : Int32) rfl rfl rfl) ?_
  refine xs_step (fun K HC => xr_imul HC.1 30 62 rfl rfl) ?_
  refine xs_step (fun K HC => xr_iload_n HC.1 31 63 (n := 2) (ix := 2) (j := 2) (x := v2) rfl rfl rfl rfl) ?_
  refine xs_step (fun K HC => xr_iadd HC.1 32 64 rfl rfl) ?_
  refine xs_chk (fun hb_9 => ?_)
  refine xs_heap (hp_mo_si _ _ _ _) (fun K HC => xr_iast HC.1 33 65 (hp_in_vp hb_9) rfl rfl) (fun h_10 => ?_)
  refine xs_step (fun K HC => xr_iload HC.1 34 67 (ix := 6) (j := 4) (x := v6) rfl rfl rfl) ?_
  exact xs_reti 35 rfl rfl (fun K q => q) (fun ty ht => by cases ht; rfl)
set_option maxHeartbeats 4000000 in
set_option maxRecDepth 100000 in
theorem t_Sv_goOn (v0 : Nat) (v1 : Int32) (v2 : Int32) (v3 : Int64) (h : HP) : xx_S (xx_D "LampYard$Survey" tb_Sv_goOn 7 3 (some .int) false) xz_i (fun K => xL_i K) 0 [(0, av_R 9 (some v0)), (1, av_I v1), (2, av_I v2), (3, av_L v3)] [] h (f_Sv_goOn v0 v1 v2 v3 h) := by
  unfold f_Sv_goOn
  refine xs_step (fun K HC => xr_aload_n HC.1 0 1 (n := 0) (ix := 0) (j := 0) (c := 9) (x := v0) rfl rfl rfl rfl) ?_
  refine xs_bind (fun q_1 eq_1 => ?_)
  refine xs_step (fun K HC => xr_getr HC.1 1 4 9 1 7 eq_1 rfl rfl wf_Sv_21 (by decide) fb_9_1 fc_9_1 fd_9_1) ?_
  refine xs_step (fun K HC => xr_geti HC.1 2 7 7 0 rfl rfl wf_Sv_88 (by decide) fb_7_0 fc_7_0) ?_
  refine xs_topi (fun v5_2 => ?_)
  refine xs_step (fun K HC => xr_istore HC.1 3 9 (ix := 5) (lv' := [(0, av_R 9 (some v0)), (1, av_I v1), (2, av_I v2), (3, av_L v3), (5, av_I v5_2)]) rfl rfl (by decide) rfl) ?_
  refine xs_step (fun K HC => xr_aload_n HC.1 4 10 (n := 0) (ix := 0) (j := 0) (c := 9) (x := v0) rfl rfl rfl rfl) ?_
  refine xs_bind (fun q_3 eq_3 => ?_)
  refine xs_step (fun K HC => xr_getr HC.1 5 13 9 1 7 eq_3 rfl rfl wf_Sv_21 (by decide) fb_9_1 fc_9_1 fd_9_1) ?_
  refine xs_step (fun K HC => xr_lload_n HC.1 6 14 (n := 3) (ix := 3) (j := 3) (x := v3) rfl rfl rfl rfl) ?_
  refine xs_calli (s_Ss_numberOf q_3 v3 h) (fun K HC x9 hM hmo hb => xr_callV HC.1 7 17 (av := [av_L v3]) (st := []) (hM (kg K) (cx_l (kx K))) hmo hb rfl rfl wm_Sv_113 wi_Ss_numberOf ws_Ss_numberOf wc_Ss_numberOf rfl wh_Ss_numberOf (by decide) (by decide) (by decide) (Nat.le_of_ble_eq_true rfl) rfl) (fun x_4 => ?_)
  refine xs_step (fun K HC => xr_istore HC.1 8 19 (ix := 6) (lv' := [(0, av_R 9 (some v0)), (1, av_I v1), (2, av_I v2), (3, av_L v3), (5, av_I v5_2), (6, av_I x_4.1)]) rfl rfl (by decide) rfl) ?_
  refine xs_step (fun K HC => xr_aload_n HC.1 9 20 (n := 0) (ix := 0) (j := 0) (c := 9) (x := v0) rfl rfl rfl rfl) ?_
  refine xs_step (fun K HC => xr_iload HC.1 10 22 (ix := 6) (j := 5) (x := x_4.1) rfl rfl rfl) ?_
  refine xs_step (fun K HC => xr_iconst HC.1 11 23 (n := (-1)) (-1 : Int32) rfl rfl rfl) ?_
  refine xs_ite (fun K HC a b => xr_icmp_ne HC.1 12 30 26 rfl (by decide) rfl b a) ?_ ?_
  · refine xs_step (fun K HC => xr_iconst HC.1 13 27 (n := (1)) (1 : Int32) rfl rfl rfl) ?_
    refine xs_step (fun K HC => xr_goto HC.1 14 31 rfl (by decide)) ?_
    refine xs_step (fun K HC => xr_sub (lv' := [(0, av_R 9 (some v0)), (1, av_I v1), (2, av_I v2), (5, av_I v5_2), (6, av_I x_4.1)]) [0, 1, 2, 4, 5] rfl) ?_
    exact t_Sv_goOn_31 v0 v1 v2 v5_2 x_4.1 (1 : Int32) v0 x_4.2
  refine xs_step (fun K HC => xr_iconst HC.1 15 31 (n := (0)) (0 : Int32) rfl rfl rfl) ?_
  refine xs_step (fun K HC => xr_sub (lv' := [(0, av_R 9 (some v0)), (1, av_I v1), (2, av_I v2), (5, av_I v5_2), (6, av_I x_4.1)]) [0, 1, 2, 4, 5] rfl) ?_
  exact t_Sv_goOn_31 v0 v1 v2 v5_2 x_4.1 (0 : Int32) v0 x_4.2
theorem s_Sv_goOn (v0 : Nat) (v1 : Int32) (v2 : Int32) (v3 : Int64) (h : HP) : ∀ x, f_Sv_goOn v0 v1 v2 v3 h = some x → hp_mo h x.2 ∧ ∀ g l, xx_M g l y_Sv_goOn prog_12_method_8_code 7 (some .int) 3 [av_R 9 (some v0), av_I v1, av_I v2, av_L v3] h (some (av_I x.1)) x.2 :=
  xM_i (tb := tb_Sv_goOn) (b := false) (by decide +kernel) dt_Sv_goOn (fun _ => trivial) (Nat.le_of_ble_eq_true rfl) (fun hb => by cases hb) (t_Sv_goOn v0 v1 v2 v3 h)
def tb_Sv_leadAll : TBL := [(0, .aload_n 0, 1), (1, .getfield 21, 3), (4, .iload_n 1, 1), (5, .invokevirtual 117, 3), (8, .lstore_n 2, 1), (9, .iconst 0, 1), (10, .istore 4, 2), (12, .iload 4, 2), (14, .aload_n 0, 1), (15, .getfield 38, 3), (18, .getfield 68, 3), (21, .if_icmp .ge 147, 3), (24, .aload_n 0, 1), (25, .getfield 48, 3), (28, .ifCond .ne 140, 3), (31, .aload_n 0, 1), (32, .getfield 29, 3), (35, .iload 4, 2), (37, .aload_n 0, 1), (38, .getfield 29, 3), (41, .iload 4, 2), (43, .iaload, 1), (44, .lload_n 2, 1), (45, .iload 4, 2), (47, .invokestatic 120, 3), (50, .invokestatic 126, 3), (53, .iastore, 1), (54, .aload_n 0, 1), (55, .getfield 12, 3), (58, .aload_n 0, 1), (59, .getfield 38, 3), (62, .lload_n 2, 1), (63, .iload 4, 2), (65, .invokevirtual 132, 3), (68, .istore 5, 2), (70, .iload 5, 2), (72, .sipush 768, 3), (75, .iand, 1), (76, .ifCond .eq 18, 3), (79, .aload_n 0, 1), (80, .dup, 1), (81, .getfield 73, 3), (84, .iconst 1, 1), (85, .iload 4, 2), (87, .ishl, 1), (88, .iconst (-1), 1), (89, .ixor, 1), (90, .iand, 1), (91, .putfield 73, 3), (94, .aload_n 0, 1), (95, .getfield 38, 3), (98, .lload_n 2, 1), (99, .iload 4, 2), (101, .iload 5, 2), (103, .invokevirtual 136, 3), (106, .lstore 6, 2), (108, .iload 5, 2), (110, .sipush 128, 3), (113, .iand, 1), (114, .ifCond .eq 7, 3), (117, .iconst 1, 1), (118, .goto 4, 3), (121, .iconst 0, 1), (122, .istore 8, 2), (124, .aload_n 0, 1), (125, .getfield 32, 3), (128, .iload_n 1, 1), (129, .bipush 6, 2), (131, .imul, 1), (132, .iload 4, 2), (134, .iadd, 1), (135, .iload 8, 2), (137, .ifCond .eq 15, 3), (140, .aload_n 0, 1), (141, .iload_n 1, 1), (142, .iload 4, 2), (144, .lload 6, 2), (146, .invokevirtual 140, 3), (149, .goto 12, 3), (152, .aload_n 0, 1), (153, .iload_n 1, 1), (154, .iload 4, 2), (156, .lload 6, 2), (158, .invokevirtual 144, 3), (161, .iastore, 1), (162, .iinc 4 1, 3), (165, .goto (-153), 3), (168, .return_, 1)]
theorem dt_Sv_leadAll : ∀ q ∈ tb_Sv_leadAll, decode prog_12_method_6_code q.1 = .ok (q.2.1, q.2.2) := by decide +kernel
set_option maxHeartbeats 4000000 in
set_option maxRecDepth 100000 in
theorem t_Sv_leadAll_161 (v0 : Nat) (v1 : Int32) (v2 : Int64) (v4 : Int32) (s0 : Int32) (s1 : Int32) (s2 : Nat) (h : HP) : xx_S (xx_D "LampYard$Survey" tb_Sv_leadAll 9 5 none false) (xx_z2 (fun s : (Int32 × HP) => s.2) xz_v) (fun K => xx_L2 (fun s : (Int32 × HP) => xx_X K 12 [(0, av_R 9 (some v0)), (1, av_I v1), (2, av_L v2), (4, av_I s.1)] [] (s.2)) (xL_v K)) 161 [(0, av_R 9 (some v0)), (1, av_I v1), (2, av_L v2), (4, av_I v4)] [av_I s0, av_I s1, av_R 13 (some s2)] h (f_Sv_leadAll_161 v0 v1 v2 v4 s0 s1 s2 h) := by
  unfold f_Sv_leadAll_161
  refine xs_chk (fun hb_17 => ?_)
  refine xs_heap (hp_mo_si _ _ _ _) (fun K HC => xr_iast HC.1 84 162 (hp_in_vp hb_17) rfl rfl) (fun h_18 => ?_)
  refine xs_gen (fun v4_19 ev4_19 => ?_)
  refine xs_step (fun K HC => xr_iinc HC.1 85 165 (ix := 4) (j := 3) (n := (1)) (x := v4) v4_19 (lv' := [(0, av_R 9 (some v0)), (1, av_I v1), (2, av_L v2), (4, av_I v4_19)]) rfl (by rw [ev4_19]; rfl) rfl rfl (by decide) rfl) ?_
  refine xs_step (fun K HC => xr_goto HC.1 86 12 rfl (by decide)) ?_
  exact xs_back rfl (fun K q => q)
set_option maxHeartbeats 4000000 in
set_option maxRecDepth 100000 in
theorem t_Sv_leadAll_122 (v0 : Nat) (v1 : Int32) (v2 : Int64) (v4 : Int32) (v6 : Int64) (s0 : Int32) (h : HP) : xx_S (xx_D "LampYard$Survey" tb_Sv_leadAll 9 5 none false) (xx_z2 (fun s : (Int32 × HP) => s.2) xz_v) (fun K => xx_L2 (fun s : (Int32 × HP) => xx_X K 12 [(0, av_R 9 (some v0)), (1, av_I v1), (2, av_L v2), (4, av_I s.1)] [] (s.2)) (xL_v K)) 122 [(0, av_R 9 (some v0)), (1, av_I v1), (2, av_L v2), (4, av_I v4), (6, av_L v6)] [av_I s0] h (f_Sv_leadAll_122 v0 v1 v2 v4 v6 s0 h) := by
  unfold f_Sv_leadAll_122
  refine xs_step (fun K HC => xr_istore HC.1 63 124 (ix := 8) (lv' := [(0, av_R 9 (some v0)), (1, av_I v1), (2, av_L v2), (4, av_I v4), (6, av_L v6), (8, av_I s0)]) rfl rfl (by decide) rfl) ?_
  refine xs_step (fun K HC => xr_aload_n HC.1 64 125 (n := 0) (ix := 0) (j := 0) (c := 9) (x := v0) rfl rfl rfl rfl) ?_
  refine xs_bind (fun q_15 eq_15 => ?_)
  refine xs_step (fun K HC => xr_getr HC.1 65 128 9 12 13 eq_15 rfl rfl wf_Sv_32 (by decide) fb_9_12 fc_9_12 fd_9_12) ?_
  refine xs_step (fun K HC => xr_iload_n HC.1 66 129 (n := 1) (ix := 1) (j := 1) (x := v1) rfl rfl rfl rfl) ?_
  refine xs_step (fun K HC => xr_bipush HC.1 67 131 (n := (6)) (6 : Int32) rfl rfl rfl) ?_
  refine xs_step (fun K HC => xr_imul HC.1 68 132 rfl rfl) ?_
  refine xs_step (fun K HC => xr_iload HC.1 69 134 (ix := 4) (j := 3) (x := v4) rfl rfl rfl) ?_
  refine xs_step (fun K HC => xr_iadd HC.1 70 135 rfl rfl) ?_
  refine xs_step (fun K HC => xr_iload HC.1 71 137 (ix := 8) (j := 5) (x := s0) rfl rfl rfl) ?_
  refine xs_ite (fun K HC => xr_if_eq HC.1 72 152 140 rfl (by decide) rfl) ?_ ?_
  · refine xs_step (fun K HC => xr_aload_n HC.1 79 153 (n := 0) (ix := 0) (j := 0) (c := 9) (x := v0) rfl rfl rfl rfl) ?_
    refine xs_step (fun K HC => xr_iload_n HC.1 80 154 (n := 1) (ix := 1) (j := 1) (x := v1) rfl rfl rfl rfl) ?_
    refine xs_step (fun K HC => xr_iload HC.1 81 156 (ix := 4) (j := 3) (x := v4) rfl rfl rfl) ?_
    refine xs_step (fun K HC => xr_lload HC.1 82 158 (ix := 6) (j := 4) (x := v6) rfl rfl rfl) ?_
    refine xs_calli (s_Sv_goOn v0 v1 v4 v6 h) (fun K HC x9 hM hmo hb => xr_callV HC.1 83 161 (av := [av_I v1, av_I v4, av_L v6]) (st := [av_I ((v1 * (6 : Int32)) + v4), av_R 13 (some q_15)]) (hM (kg K) (cx_l (kx K))) hmo hb rfl rfl wm_Sv_144 wi_Sv_goOn ws_Sv_goOn wc_Sv_goOn rfl wh_Sv_goOn (by decide) (by decide) (by decide) (Nat.le_of_ble_eq_true rfl) rfl) (fun x_16 => ?_)
    refine xs_step (fun K HC => xr_sub (lv' := [(0, av_R 9 (some v0)), (1, av_I v1), (2, av_L v2), (4, av_I v4)]) [0, 1, 2, 3] rfl) ?_
    exact t_Sv_leadAll_161 v0 v1 v2 v4 x_16.1 ((v1 * (6 : Int32)) + v4) q_15 x_16.2
  refine xs_step (fun K HC => xr_aload_n HC.1 73 141 (n := 0) (ix := 0) (j := 0) (c := 9) (x := v0) rfl rfl rfl rfl) ?_
  refine xs_step (fun K HC => xr_iload_n HC.1 74 142 (n := 1) (ix := 1) (j := 1) (x := v1) rfl rfl rfl rfl) ?_
  refine xs_step (fun K HC => xr_iload HC.1 75 144 (ix := 4) (j := 3) (x := v4) rfl rfl rfl) ?_
  refine xs_step (fun K HC => xr_lload HC.1 76 146 (ix := 6) (j := 4) (x := v6) rfl rfl rfl) ?_
  refine xs_calli (s_Sv_noteSaid v0 v1 v4 v6 h) (fun K HC x9 hM hmo hb => xr_callV HC.1 77 149 (av := [av_I v1, av_I v4, av_L v6]) (st := [av_I ((v1 * (6 : Int32)) + v4), av_R 13 (some q_15)]) (hM (kg K) (cx_l (kx K))) hmo hb rfl rfl wm_Sv_140 wi_Sv_noteSaid ws_Sv_noteSaid wc_Sv_noteSaid rfl wh_Sv_noteSaid (by decide) (by decide) (by decide) (Nat.le_of_ble_eq_true rfl) rfl) (fun x_20 => ?_)
  refine xs_step (fun K HC => xr_goto HC.1 78 161 rfl (by decide)) ?_
  refine xs_step (fun K HC => xr_sub (lv' := [(0, av_R 9 (some v0)), (1, av_I v1), (2, av_L v2), (4, av_I v4)]) [0, 1, 2, 3] rfl) ?_
  exact t_Sv_leadAll_161 v0 v1 v2 v4 x_20.1 ((v1 * (6 : Int32)) + v4) q_15 x_20.2
set_option maxHeartbeats 4000000 in
set_option maxRecDepth 100000 in
theorem t_Sv_leadAll_94 (v0 : Nat) (v1 : Int32) (v2 : Int64) (v4 : Int32) (v5 : Int32) (h : HP) : xx_S (xx_D "LampYard$Survey" tb_Sv_leadAll 9 5 none false) (xx_z2 (fun s : (Int32 × HP) => s.2) xz_v) (fun K => xx_L2 (fun s : (Int32 × HP) => xx_X K 12 [(0, av_R 9 (some v0)), (1, av_I v1), (2, av_L v2), (4, av_I s.1)] [] (s.2)) (xL_v K)) 94 [(0, av_R 9 (some v0)), (1, av_I v1), (2, av_L v2), (4, av_I v4), (5, av_I v5)] [] h (f_Sv_leadAll_94 v0 v1 v2 v4 v5 h) := by
  unfold f_Sv_leadAll_94
  refine xs_step (fun K HC => xr_aload_n HC.1 49 95 (n := 0) (ix := 0) (j := 0) (c := 9) (x := v0) rfl rfl rfl rfl) ?_
  refine xs_bind (fun q_13 eq_13 => ?_)
  refine xs_step (fun K HC => xr_getr HC.1 50 98 9 4 4 eq_13 rfl rfl wf_Sv_38 (by decide) fb_9_4 fc_9_4 fd_9_4) ?_
  refine xs_step (fun K HC => xr_lload_n HC.1 51 99 (n := 2) (ix := 2) (j := 2) (x := v2) rfl rfl rfl rfl) ?_
  refine xs_step (fun K HC => xr_iload HC.1 52 101 (ix := 4) (j := 3) (x := v4) rfl rfl rfl) ?_
  refine xs_step (fun K HC => xr_iload HC.1 53 103 (ix := 5) (j := 4) (x := v5) rfl rfl rfl) ?_
  refine xs_calll (s_Pl_after q_13 v2 v4 v5 h) (fun K HC x9 hM hmo hb => xr_callV HC.1 54 106 (av := [av_L v2, av_I v4, av_I v5]) (st := []) (hM (kg K) (cx_l (kx K))) hmo hb rfl rfl wm_Sv_136 wi_Pl_after ws_Pl_after wc_Pl_after rfl wh_Pl_after (by decide) (by decide) (by decide) (Nat.le_of_ble_eq_true rfl) rfl) (fun x_14 => ?_)
  refine xs_step (fun K HC => xr_lstore HC.1 55 108 (ix := 6) (lv' := [(0, av_R 9 (some v0)), (1, av_I v1), (2, av_L v2), (4, av_I v4), (5, av_I v5), (6, av_L x_14.1)]) rfl rfl (by decide) rfl) ?_
  refine xs_step (fun K HC => xr_iload HC.1 56 110 (ix := 5) (j := 4) (x := v5) rfl rfl rfl) ?_
  refine xs_step (fun K HC => xr_sipush HC.1 57 113 (n := (128)) (128 : Int32) rfl rfl rfl) ?_
  refine xs_step (fun K HC => xr_iand HC.1 58 114 rfl rfl) ?_
  refine xs_ite (fun K HC => xr_if_eq HC.1 59 121 117 rfl (by decide) rfl) ?_ ?_
  · refine xs_step (fun K HC => xr_iconst HC.1 62 122 (n := (0)) (0 : Int32) rfl rfl rfl) ?_
    refine xs_step (fun K HC => xr_sub (lv' := [(0, av_R 9 (some v0)), (1, av_I v1), (2, av_L v2), (4, av_I v4), (6, av_L x_14.1)]) [0, 1, 2, 3, 5] rfl) ?_
    exact t_Sv_leadAll_122 v0 v1 v2 v4 x_14.1 (0 : Int32) x_14.2
  refine xs_step (fun K HC => xr_iconst HC.1 60 118 (n := (1)) (1 : Int32) rfl rfl rfl) ?_
  refine xs_step (fun K HC => xr_goto HC.1 61 122 rfl (by decide)) ?_
  refine xs_step (fun K HC => xr_sub (lv' := [(0, av_R 9 (some v0)), (1, av_I v1), (2, av_L v2), (4, av_I v4), (6, av_L x_14.1)]) [0, 1, 2, 3, 5] rfl) ?_
  exact t_Sv_leadAll_122 v0 v1 v2 v4 x_14.1 (1 : Int32) x_14.2
set_option maxHeartbeats 4000000 in
set_option maxRecDepth 100000 in
theorem t_Sv_leadAll_12b (v0 : Nat) (v1 : Int32) (v2 : Int64) (v4 : Int32) (h : HP) : xx_S (xx_D "LampYard$Survey" tb_Sv_leadAll 9 5 none false) (xx_z2 (fun s : (Int32 × HP) => s.2) xz_v) (fun K => xx_L2 (fun s : (Int32 × HP) => xx_X K 12 [(0, av_R 9 (some v0)), (1, av_I v1), (2, av_L v2), (4, av_I s.1)] [] (s.2)) (xL_v K)) 12 [(0, av_R 9 (some v0)), (1, av_I v1), (2, av_L v2), (4, av_I v4)] [] h (f_Sv_leadAll_12b v0 v1 v2 v4 h) := by
  unfold f_Sv_leadAll_12b
  refine xs_step (fun K HC => xr_iload HC.1 7 14 (ix := 4) (j := 3) (x := v4) rfl rfl rfl) ?_
  refine xs_step (fun K HC => xr_aload_n HC.1 8 15 (n := 0) (ix := 0) (j := 0) (c := 9) (x := v0) rfl rfl rfl rfl) ?_
  refine xs_bind (fun q_3 eq_3 => ?_)
  refine xs_step (fun K HC => xr_getr HC.1 9 18 9 4 4 eq_3 rfl rfl wf_Sv_38 (by decide) fb_9_4 fc_9_4 fd_9_4) ?_
  refine xs_step (fun K HC => xr_geti HC.1 10 21 4 5 rfl rfl wf_Sv_68 (by decide) fb_4_5 fc_4_5) ?_
  refine xs_ite (fun K HC => xr_icmp_ge HC.1 11 168 24 rfl (by decide) rfl) ?_ ?_
  · exact xs_ret 87 rfl rfl (fun K q => q)
  refine xs_step (fun K HC => xr_aload_n HC.1 12 25 (n := 0) (ix := 0) (j := 0) (c := 9) (x := v0) rfl rfl rfl rfl) ?_
  refine xs_step (fun K HC => xr_geti HC.1 13 28 9 5 rfl rfl wf_Sv_48 (by decide) fb_9_5 fc_9_5) ?_
  refine xs_ite (fun K HC a b => xr_if_ne HC.1 14 168 31 rfl (by decide) rfl b a) ?_ ?_
  · refine xs_step (fun K HC => xr_aload_n HC.1 15 32 (n := 0) (ix := 0) (j := 0) (c := 9) (x := v0) rfl rfl rfl rfl) ?_
    refine xs_bind (fun q_4 eq_4 => ?_)
    refine xs_step (fun K HC => xr_getr HC.1 16 35 9 3 13 eq_4 rfl rfl wf_Sv_29 (by decide) fb_9_3 fc_9_3 fd_9_3) ?_
    refine xs_step (fun K HC => xr_iload HC.1 17 37 (ix := 4) (j := 3) (x := v4) rfl rfl rfl) ?_
    refine xs_step (fun K HC => xr_aload_n HC.1 18 38 (n := 0) (ix := 0) (j := 0) (c := 9) (x := v0) rfl rfl rfl rfl) ?_
    refine xs_bind (fun q_5 eq_5 => ?_)
    refine xs_step (fun K HC => xr_getr HC.1 19 41 9 3 13 eq_5 rfl rfl wf_Sv_29 (by decide) fb_9_3 fc_9_3 fd_9_3) ?_
    refine xs_step (fun K HC => xr_iload HC.1 20 43 (ix := 4) (j := 3) (x := v4) rfl rfl rfl) ?_
    refine xs_chk (fun hb_6 => ?_)
    refine xs_step (fun K HC => xr_iald HC.1 21 44 (hp_in_vp hb_6) rfl rfl) ?_
    refine xs_step (fun K HC => xr_lload_n HC.1 22 45 (n := 2) (ix := 2) (j := 2) (x := v2) rfl rfl rfl rfl) ?_
    refine xs_step (fun K HC => xr_iload HC.1 23 47 (ix := 4) (j := 3) (x := v4) rfl rfl rfl) ?_
    refine xs_calli (s_St_heldBy v2 v4 h) (fun K HC x9 hM hmo hb => xr_callS HC.1 24 50 (av := [av_L v2, av_I v4]) (st := [av_I (hp_i h q_5 (v4).toNatClampNeg), av_I v4, av_R 13 (some q_4)]) (hM (kg K) (cx_l (kx K))) hmo hb rfl rfl wm_Sv_120 wt_St_heldBy wn_St_heldBy wc_St_heldBy wh_St_heldBy (by decide) (by decide) (Nat.le_of_ble_eq_true rfl) rfl) (fun x_7 => ?_)
    refine xs_stepb (fun K HC hb => xr_max HC.1 25 53 hb rfl rfl wm_Sv_126 ly_mmax1 ly_m0 ly_mmax2 (by decide) (Nat.le_of_ble_eq_true rfl)) ?_
    refine xs_chk (fun hb_8 => ?_)
    refine xs_heap (hp_mo_si _ _ _ _) (fun K HC => xr_iast HC.1 26 54 (hp_in_vp hb_8) rfl rfl) (fun h_9 => ?_)
    refine xs_step (fun K HC => xr_aload_n HC.1 27 55 (n := 0) (ix := 0) (j := 0) (c := 9) (x := v0) rfl rfl rfl rfl) ?_
    refine xs_bind (fun q_10 eq_10 => ?_)
    refine xs_step (fun K HC => xr_getr HC.1 28 58 9 0 8 eq_10 rfl rfl wf_Sv_12 (by decide) fb_9_0 fc_9_0 fd_9_0) ?_
    refine xs_step (fun K HC => xr_aload_n HC.1 29 59 (n := 0) (ix := 0) (j := 0) (c := 9) (x := v0) rfl rfl rfl rfl) ?_
    refine xs_bind (fun q_11 eq_11 => ?_)
    refine xs_step (fun K HC => xr_getr HC.1 30 62 9 4 4 eq_11 rfl rfl wf_Sv_38 (by decide) fb_9_4 fc_9_4 fd_9_4) ?_
    refine xs_step (fun K HC => xr_lload_n HC.1 31 63 (n := 2) (ix := 2) (j := 2) (x := v2) rfl rfl rfl rfl) ?_
    refine xs_step (fun K HC => xr_iload HC.1 32 65 (ix := 4) (j := 3) (x := v4) rfl rfl rfl) ?_
    refine xs_calli (s_Sp_outcome q_10 q_11 v2 v4 h_9) (fun K HC x9 hM hmo hb => xr_callV HC.1 33 68 (av := [av_R 4 (some q_11), av_L v2, av_I v4]) (st := []) (hM (kg K) (cx_l (kx K))) hmo hb rfl rfl wm_Sv_132 wi_Sp_outcome ws_Sp_outcome wc_Sp_outcome rfl wh_Sp_outcome (by decide) (by decide) (by decide) (Nat.le_of_ble_eq_true rfl) rfl) (fun x_12 => ?_)
    refine xs_step (fun K HC => xr_istore HC.1 34 70 (ix := 5) (lv' := [(0, av_R 9 (some v0)), (1, av_I v1), (2, av_L v2), (4, av_I v4), (5, av_I x_12.1)]) rfl rfl (by decide) rfl) ?_
    refine xs_step (fun K HC => xr_iload HC.1 35 72 (ix := 5) (j := 4) (x := x_12.1) rfl rfl rfl) ?_
    refine xs_step (fun K HC => xr_sipush HC.1 36 75 (n := (768)) (768 : Int32) rfl rfl rfl) ?_
    refine xs_step (fun K HC => xr_iand HC.1 37 76 rfl rfl) ?_
    refine xs_ite (fun K HC => xr_if_eq HC.1 38 94 79 rfl (by decide) rfl) ?_ ?_
    · exact t_Sv_leadAll_94 v0 v1 v2 v4 x_12.1 x_12.2
    refine xs_step (fun K HC => xr_aload_n HC.1 39 80 (n := 0) (ix := 0) (j := 0) (c := 9) (x := v0) rfl rfl rfl rfl) ?_
    refine xs_step (fun K HC => xr_dup HC.1 40 81 rfl rfl rfl) ?_
    refine xs_step (fun K HC => xr_geti HC.1 41 84 9 11 rfl rfl wf_Sv_73 (by decide) fb_9_11 fc_9_11) ?_
    refine xs_step (fun K HC => xr_iconst HC.1 42 85 (n := (1)) (1 : Int32) rfl rfl rfl) ?_
    refine xs_step (fun K HC => xr_iload HC.1 43 87 (ix := 4) (j := 3) (x := v4) rfl rfl rfl) ?_
    refine xs_step (fun K HC => xr_ishl HC.1 44 88 rfl rfl) ?_
    refine xs_step (fun K HC => xr_iconst HC.1 45 89 (n := (-1)) (-1 : Int32) rfl rfl rfl) ?_
    refine xs_step (fun K HC => xr_ixor HC.1 46 90 rfl rfl) ?_
    refine xs_step (fun K HC => xr_iand HC.1 47 91 rfl rfl) ?_
    refine xs_heap (hp_mo_si _ _ _ _) (fun K HC => xr_puti HC.1 48 94 9 11 rfl rfl wf_Sv_73 (by decide) fb_9_11 fn_9_11 fy_9_11) (fun h_21 => ?_)
    exact t_Sv_leadAll_94 v0 v1 v2 v4 x_12.1 h_21
  exact xs_ret 87 rfl rfl (fun K q => q)
theorem t_Sv_leadAll_12 (v0 : Nat) (v1 : Int32) (v2 : Int64) (v4 : Int32) (h : HP) : xx_S (xx_D "LampYard$Survey" tb_Sv_leadAll 9 5 none false) xz_v (fun K => xL_v K) 12 [(0, av_R 9 (some v0)), (1, av_I v1), (2, av_L v2), (4, av_I v4)] [] h (f_Sv_leadAll_12 v0 v1 v2 v4 h) :=
  xs_loop (zf := xz_v) (L := (fun K => xL_v K)) (fun s : (Int32 × HP) => [(0, av_R 9 (some v0)), (1, av_I v1), (2, av_L v2), (4, av_I s.1)]) (fun s : (Int32 × HP) => s.2) (fun s => t_Sv_leadAll_12b v0 v1 v2 s.1 s.2) (v4, h)
set_option maxHeartbeats 4000000 in
set_option maxRecDepth 100000 in
theorem t_Sv_leadAll (v0 : Nat) (v1 : Int32) (h : HP) : xx_S (xx_D "LampYard$Survey" tb_Sv_leadAll 9 5 none false) xz_v (fun K => xL_v K) 0 [(0, av_R 9 (some v0)), (1, av_I v1)] [] h (f_Sv_leadAll v0 v1 h) := by
  unfold f_Sv_leadAll
  refine xs_step (fun K HC => xr_aload_n HC.1 0 1 (n := 0) (ix := 0) (j := 0) (c := 9) (x := v0) rfl rfl rfl rfl) ?_
  refine xs_bind (fun q_1 eq_1 => ?_)
  refine xs_step (fun K HC => xr_getr HC.1 1 4 9 1 7 eq_1 rfl rfl wf_Sv_21 (by decide) fb_9_1 fc_9_1 fd_9_1) ?_
  refine xs_step (fun K HC => xr_iload_n HC.1 2 5 (n := 1) (ix := 1) (j := 1) (x := v1) rfl rfl rfl rfl) ?_
  refine xs_calll (s_Ss_member q_1 v1 h) (fun K HC x9 hM hmo hb => xr_callV HC.1 3 8 (av := [av_I v1]) (st := []) (hM (kg K) (cx_l (kx K))) hmo hb rfl rfl wm_Sv_117 wi_Ss_member ws_Ss_member wc_Ss_member rfl wh_Ss_member (by decide) (by decide) (by decide) (Nat.le_of_ble_eq_true rfl) rfl) (fun x_2 => ?_)
  refine xs_step (fun K HC => xr_lstore_n HC.1 4 9 (n := 2) (ix := 2) (lv' := [(0, av_R 9 (some v0)), (1, av_I v1), (2, av_L x_2.1)]) rfl rfl rfl (by decide) rfl) ?_
  refine xs_step (fun K HC => xr_iconst HC.1 5 10 (n := (0)) (0 : Int32) rfl rfl rfl) ?_
  refine xs_step (fun K HC => xr_istore HC.1 6 12 (ix := 4) (lv' := [(0, av_R 9 (some v0)), (1, av_I v1), (2, av_L x_2.1), (4, av_I (0 : Int32))]) rfl rfl (by decide) rfl) ?_
  exact t_Sv_leadAll_12 v0 v1 x_2.1 (0 : Int32) x_2.2
theorem s_Sv_leadAll (v0 : Nat) (v1 : Int32) (h : HP) : ∀ x, f_Sv_leadAll v0 v1 h = some x → hp_mo h x ∧ ∀ g l, xx_M g l y_Sv_leadAll prog_12_method_6_code 9 none 5 [av_R 9 (some v0), av_I v1] h none x :=
  xM_v (tb := tb_Sv_leadAll) (b := false) (by decide +kernel) dt_Sv_leadAll trivial (Nat.le_of_ble_eq_true rfl) (fun hb => by cases hb) (t_Sv_leadAll v0 v1 h)
def tb_Sv_explore : TBL := [(0, .aload_n 0, 1), (1, .aload_n 1, 1), (2, .putfield 38, 3), (5, .aload_n 0, 1), (6, .getfield 12, 3), (9, .invokevirtual 42, 3), (12, .aload_n 0, 1), (13, .getfield 21, 3), (16, .sipush 5000, 3), (19, .invokevirtual 45, 3), (22, .aload_n 0, 1), (23, .iconst 0, 1), (24, .putfield 48, 3), (27, .aload_n 0, 1), (28, .iconst 0, 1), (29, .putfield 52, 3), (32, .aload_n 0, 1), (33, .iconst 0, 1), (34, .putfield 56, 3), (37, .aload_n 0, 1), (38, .iconst (-1), 1), (39, .putfield 59, 3), (42, .aload_n 0, 1), (43, .iconst 0, 1), (44, .putfield 62, 3), (47, .aload_n 0, 1), (48, .iconst (-1), 1), (49, .putfield 65, 3), (52, .aload_n 0, 1), (53, .iconst 1, 1), (54, .aload_n 0, 1), (55, .getfield 38, 3), (58, .getfield 68, 3), (61, .ishl, 1), (62, .iconst 1, 1), (63, .isub, 1), (64, .putfield 73, 3), (67, .aload_n 0, 1), (68, .getfield 29, 3), (71, .iconst 0, 1), (72, .invokestatic 76, 3), (75, .aload_n 0, 1), (76, .iconst (-1), 1), (77, .putfield 82, 3), (80, .aload_n 0, 1), (81, .invokevirtual 85, 3), (84, .iconst 0, 1), (85, .istore_n 2, 1), (86, .iload_n 2, 1), (87, .sipush 5000, 3), (90, .if_icmp .ge 32, 3), (93, .iload_n 2, 1), (94, .aload_n 0, 1), (95, .getfield 21, 3), (98, .getfield 88, 3), (101, .if_icmp .ge 21, 3), (104, .aload_n 0, 1), (105, .getfield 48, 3), (108, .ifCond .ne 14, 3), (111, .aload_n 0, 1), (112, .iload_n 2, 1), (113, .invokevirtual 91, 3), (116, .iinc 2 1, 3), (119, .goto (-33), 3), (122, .return_, 1)]
theorem dt_Sv_explore : ∀ q ∈ tb_Sv_explore, decode prog_12_method_2_code q.1 = .ok (q.2.1, q.2.2) := by decide +kernel
set_option maxHeartbeats 4000000 in
set_option maxRecDepth 100000 in
theorem t_Sv_explore_86b (v0 : Nat) (v2 : Int32) (h : HP) : xx_S (xx_D "LampYard$Survey" tb_Sv_explore 3 6 none false) (xx_z2 (fun s : (Int32 × HP) => s.2) xz_v) (fun K => xx_L2 (fun s : (Int32 × HP) => xx_X K 86 [(0, av_R 9 (some v0)), (2, av_I s.1)] [] (s.2)) (xL_v K)) 86 [(0, av_R 9 (some v0)), (2, av_I v2)] [] h (f_Sv_explore_86b v0 v2 h) := by
  unfold f_Sv_explore_86b
  refine xs_step (fun K HC => xr_iload_n HC.1 48 87 (n := 2) (ix := 2) (j := 1) (x := v2) rfl rfl rfl rfl) ?_
  refine xs_step (fun K HC => xr_sipush HC.1 49 90 (n := (5000)) (5000 : Int32) rfl rfl rfl) ?_
  refine xs_ite (fun K HC => xr_icmp_ge HC.1 50 122 93 rfl (by decide) rfl) ?_ ?_
  · exact xs_ret 64 rfl rfl (fun K q => q)
  refine xs_step (fun K HC => xr_iload_n HC.1 51 94 (n := 2) (ix := 2) (j := 1) (x := v2) rfl rfl rfl rfl) ?_
  refine xs_step (fun K HC => xr_aload_n HC.1 52 95 (n := 0) (ix := 0) (j := 0) (c := 9) (x := v0) rfl rfl rfl rfl) ?_
  refine xs_bind (fun q_18 eq_18 => ?_)
  refine xs_step (fun K HC => xr_getr HC.1 53 98 9 1 7 eq_18 rfl rfl wf_Sv_21 (by decide) fb_9_1 fc_9_1 fd_9_1) ?_
  refine xs_step (fun K HC => xr_geti HC.1 54 101 7 0 rfl rfl wf_Sv_88 (by decide) fb_7_0 fc_7_0) ?_
  refine xs_ite (fun K HC => xr_icmp_ge HC.1 55 122 104 rfl (by decide) rfl) ?_ ?_
  · exact xs_ret 64 rfl rfl (fun K q => q)
  refine xs_step (fun K HC => xr_aload_n HC.1 56 105 (n := 0) (ix := 0) (j := 0) (c := 9) (x := v0) rfl rfl rfl rfl) ?_
  refine xs_step (fun K HC => xr_geti HC.1 57 108 9 5 rfl rfl wf_Sv_48 (by decide) fb_9_5 fc_9_5) ?_
  refine xs_ite (fun K HC a b => xr_if_ne HC.1 58 122 111 rfl (by decide) rfl b a) ?_ ?_
  · refine xs_step (fun K HC => xr_aload_n HC.1 59 112 (n := 0) (ix := 0) (j := 0) (c := 9) (x := v0) rfl rfl rfl rfl) ?_
    refine xs_step (fun K HC => xr_iload_n HC.1 60 113 (n := 2) (ix := 2) (j := 1) (x := v2) rfl rfl rfl rfl) ?_
    refine xs_callv (s_Sv_leadAll v0 v2 h) (fun K HC x9 hM hmo hb => xr_callV HC.1 61 116 (av := [av_I v2]) (st := []) (hM (kg K) (cx_l (kx K))) hmo hb rfl rfl wm_Sv_91 wi_Sv_leadAll ws_Sv_leadAll wc_Sv_leadAll rfl wh_Sv_leadAll (by decide) (by decide) (by decide) (Nat.le_of_ble_eq_true rfl) rfl) (fun x_19 => ?_)
    refine xs_gen (fun v2_20 ev2_20 => ?_)
    refine xs_step (fun K HC => xr_iinc HC.1 62 119 (ix := 2) (j := 1) (n := (1)) (x := v2) v2_20 (lv' := [(0, av_R 9 (some v0)), (2, av_I v2_20)]) rfl (by rw [ev2_20]; rfl) rfl rfl (by decide) rfl) ?_
    refine xs_step (fun K HC => xr_goto HC.1 63 86 rfl (by decide)) ?_
    exact xs_back rfl (fun K q => q)
  exact xs_ret 64 rfl rfl (fun K q => q)
theorem t_Sv_explore_86 (v0 : Nat) (v2 : Int32) (h : HP) : xx_S (xx_D "LampYard$Survey" tb_Sv_explore 3 6 none false) xz_v (fun K => xL_v K) 86 [(0, av_R 9 (some v0)), (2, av_I v2)] [] h (f_Sv_explore_86 v0 v2 h) :=
  xs_loop (zf := xz_v) (L := (fun K => xL_v K)) (fun s : (Int32 × HP) => [(0, av_R 9 (some v0)), (2, av_I s.1)]) (fun s : (Int32 × HP) => s.2) (fun s => t_Sv_explore_86b v0 s.1 s.2) (v2, h)
set_option maxHeartbeats 4000000 in
set_option maxRecDepth 100000 in
theorem t_Sv_explore (v0 : Nat) (v1 : Nat) (h : HP) : xx_S (xx_D "LampYard$Survey" tb_Sv_explore 3 6 none false) xz_v (fun K => xL_v K) 0 [(0, av_R 9 (some v0)), (1, av_R 4 (some v1))] [] h (f_Sv_explore v0 v1 h) := by
  unfold f_Sv_explore
  refine xs_step (fun K HC => xr_aload_n HC.1 0 1 (n := 0) (ix := 0) (j := 0) (c := 9) (x := v0) rfl rfl rfl rfl) ?_
  refine xs_step (fun K HC => xr_aload_n HC.1 1 2 (n := 1) (ix := 1) (j := 1) (c := 4) (x := v1) rfl rfl rfl rfl) ?_
  refine xs_heap (hp_mo_sr _ _ _ _) (fun K HC => xr_putr HC.1 2 5 9 4 4 rfl rfl wf_Sv_38 (by decide) fb_9_4 (Or.inl fn_9_4) fc_9_4 fd_9_4 (by decide)) (fun h_1 => ?_)
  refine xs_step (fun K HC => xr_aload_n HC.1 3 6 (n := 0) (ix := 0) (j := 0) (c := 9) (x := v0) rfl rfl rfl rfl) ?_
  refine xs_bind (fun q_2 eq_2 => ?_)
  refine xs_step (fun K HC => xr_getr HC.1 4 9 9 0 8 eq_2 rfl rfl wf_Sv_12 (by decide) fb_9_0 fc_9_0 fd_9_0) ?_
  refine xs_callv (s_Sp_clear q_2 h_1) (fun K HC x9 hM hmo hb => xr_callV HC.1 5 12 (av := []) (st := []) (hM (kg K) (cx_l (kx K))) hmo hb rfl rfl wm_Sv_42 wi_Sp_clear ws_Sp_clear wc_Sp_clear rfl wh_Sp_clear (by decide) (by decide) (by decide) (Nat.le_of_ble_eq_true rfl) rfl) (fun x_3 => ?_)
  refine xs_step (fun K HC => xr_aload_n HC.1 6 13 (n := 0) (ix := 0) (j := 0) (c := 9) (x := v0) rfl rfl rfl rfl) ?_
  refine xs_bind (fun q_4 eq_4 => ?_)
  refine xs_step (fun K HC => xr_getr HC.1 7 16 9 1 7 eq_4 rfl rfl wf_Sv_21 (by decide) fb_9_1 fc_9_1 fd_9_1) ?_
  refine xs_step (fun K HC => xr_sipush HC.1 8 19 (n := (5000)) (5000 : Int32) rfl rfl rfl) ?_
  refine xs_callv (s_Ss_clear q_4 (5000 : Int32) x_3) (fun K HC x9 hM hmo hb => xr_callV HC.1 9 22 (av := [av_I (5000 : Int32)]) (st := []) (hM (kg K) (cx_l (kx K))) hmo hb rfl rfl wm_Sv_45 wi_Ss_clear ws_Ss_clear wc_Ss_clear rfl wh_Ss_clear (by decide) (by decide) (by decide) (Nat.le_of_ble_eq_true rfl) rfl) (fun x_5 => ?_)
  refine xs_step (fun K HC => xr_aload_n HC.1 10 23 (n := 0) (ix := 0) (j := 0) (c := 9) (x := v0) rfl rfl rfl rfl) ?_
  refine xs_step (fun K HC => xr_iconst HC.1 11 24 (n := (0)) (0 : Int32) rfl rfl rfl) ?_
  refine xs_heap (hp_mo_si _ _ _ _) (fun K HC => xr_putz HC.1 12 27 9 5 (Or.inl rfl) rfl rfl wf_Sv_48 (by decide) fb_9_5 fn_9_5 fy_9_5) (fun h_6 => ?_)
  refine xs_step (fun K HC => xr_aload_n HC.1 13 28 (n := 0) (ix := 0) (j := 0) (c := 9) (x := v0) rfl rfl rfl rfl) ?_
  refine xs_step (fun K HC => xr_iconst HC.1 14 29 (n := (0)) (0 : Int32) rfl rfl rfl) ?_
  refine xs_heap (hp_mo_si _ _ _ _) (fun K HC => xr_puti HC.1 15 32 9 6 rfl rfl wf_Sv_52 (by decide) fb_9_6 fn_9_6 fy_9_6) (fun h_7 => ?_)
  refine xs_step (fun K HC => xr_aload_n HC.1 16 33 (n := 0) (ix := 0) (j := 0) (c := 9) (x := v0) rfl rfl rfl rfl) ?_
  refine xs_step (fun K HC => xr_iconst HC.1 17 34 (n := (0)) (0 : Int32) rfl rfl rfl) ?_
  refine xs_heap (hp_mo_si _ _ _ _) (fun K HC => xr_puti HC.1 18 37 9 7 rfl rfl wf_Sv_56 (by decide) fb_9_7 fn_9_7 fy_9_7) (fun h_8 => ?_)
  refine xs_step (fun K HC => xr_aload_n HC.1 19 38 (n := 0) (ix := 0) (j := 0) (c := 9) (x := v0) rfl rfl rfl rfl) ?_
  refine xs_step (fun K HC => xr_iconst HC.1 20 39 (n := (-1)) (-1 : Int32) rfl rfl rfl) ?_
  refine xs_heap (hp_mo_si _ _ _ _) (fun K HC => xr_puti HC.1 21 42 9 8 rfl rfl wf_Sv_59 (by decide) fb_9_8 fn_9_8 fy_9_8) (fun h_9 => ?_)
  refine xs_step (fun K HC => xr_aload_n HC.1 22 43 (n := 0) (ix := 0) (j := 0) (c := 9) (x := v0) rfl rfl rfl rfl) ?_
  refine xs_step (fun K HC => xr_iconst HC.1 23 44 (n := (0)) (0 : Int32) rfl rfl rfl) ?_
  refine xs_heap (hp_mo_si _ _ _ _) (fun K HC => xr_puti HC.1 24 47 9 9 rfl rfl wf_Sv_62 (by decide) fb_9_9 fn_9_9 fy_9_9) (fun h_10 => ?_)
  refine xs_step (fun K HC => xr_aload_n HC.1 25 48 (n := 0) (ix := 0) (j := 0) (c := 9) (x := v0) rfl rfl rfl rfl) ?_
  refine xs_step (fun K HC => xr_iconst HC.1 26 49 (n := (-1)) (-1 : Int32) rfl rfl rfl) ?_
  refine xs_heap (hp_mo_si _ _ _ _) (fun K HC => xr_puti HC.1 27 52 9 10 rfl rfl wf_Sv_65 (by decide) fb_9_10 fn_9_10 fy_9_10) (fun h_11 => ?_)
  refine xs_step (fun K HC => xr_aload_n HC.1 28 53 (n := 0) (ix := 0) (j := 0) (c := 9) (x := v0) rfl rfl rfl rfl) ?_
  refine xs_step (fun K HC => xr_iconst HC.1 29 54 (n := (1)) (1 : Int32) rfl rfl rfl) ?_
  refine xs_step (fun K HC => xr_aload_n HC.1 30 55 (n := 0) (ix := 0) (j := 0) (c := 9) (x := v0) rfl rfl rfl rfl) ?_
  refine xs_bind (fun q_12 eq_12 => ?_)
  refine xs_step (fun K HC => xr_getr HC.1 31 58 9 4 4 eq_12 rfl rfl wf_Sv_38 (by decide) fb_9_4 fc_9_4 fd_9_4) ?_
  refine xs_step (fun K HC => xr_geti HC.1 32 61 4 5 rfl rfl wf_Sv_68 (by decide) fb_4_5 fc_4_5) ?_
  refine xs_step (fun K HC => xr_ishl HC.1 33 62 rfl rfl) ?_
  refine xs_step (fun K HC => xr_iconst HC.1 34 63 (n := (1)) (1 : Int32) rfl rfl rfl) ?_
  refine xs_step (fun K HC => xr_isub HC.1 35 64 rfl rfl) ?_
  refine xs_heap (hp_mo_si _ _ _ _) (fun K HC => xr_puti HC.1 36 67 9 11 rfl rfl wf_Sv_73 (by decide) fb_9_11 fn_9_11 fy_9_11) (fun h_13 => ?_)
  refine xs_step (fun K HC => xr_aload_n HC.1 37 68 (n := 0) (ix := 0) (j := 0) (c := 9) (x := v0) rfl rfl rfl rfl) ?_
  refine xs_bind (fun q_14 eq_14 => ?_)
  refine xs_step (fun K HC => xr_getr HC.1 38 71 9 3 13 eq_14 rfl rfl wf_Sv_29 (by decide) fb_9_3 fc_9_3 fd_9_3) ?_
  refine xs_step (fun K HC => xr_iconst HC.1 39 72 (n := (0)) (0 : Int32) rfl rfl rfl) ?_
  refine xs_callv (s_Ar_fillI q_14 (0 : Int32) h_13) (fun K HC x9 hM hmo hb => xr_callS HC.1 40 75 (av := [av_R 13 (some q_14), av_I (0 : Int32)]) (st := []) (hM (kg K) (cx_l (kx K))) hmo hb rfl rfl wm_Sv_76 wt_Ar_fillI wn_Ar_fillI wc_Ar_fillI wh_Ar_fillI (by decide) (by decide) (Nat.le_of_ble_eq_true rfl) rfl) (fun x_15 => ?_)
  refine xs_step (fun K HC => xr_aload_n HC.1 41 76 (n := 0) (ix := 0) (j := 0) (c := 9) (x := v0) rfl rfl rfl rfl) ?_
  refine xs_step (fun K HC => xr_iconst HC.1 42 77 (n := (-1)) (-1 : Int32) rfl rfl rfl) ?_
  refine xs_heap (hp_mo_si _ _ _ _) (fun K HC => xr_puti HC.1 43 80 9 15 rfl rfl wf_Sv_82 (by decide) fb_9_15 fn_9_15 fy_9_15) (fun h_16 => ?_)
  refine xs_step (fun K HC => xr_aload_n HC.1 44 81 (n := 0) (ix := 0) (j := 0) (c := 9) (x := v0) rfl rfl rfl rfl) ?_
  refine xs_callv (s_Sv_putStarts v0 h_16) (fun K HC x9 hM hmo hb => xr_callV HC.1 45 84 (av := []) (st := []) (hM (kg K) (cx_l (kx K))) hmo hb rfl rfl wm_Sv_85 wi_Sv_putStarts ws_Sv_putStarts wc_Sv_putStarts rfl wh_Sv_putStarts (by decide) (by decide) (by decide) (Nat.le_of_ble_eq_true rfl) rfl) (fun x_17 => ?_)
  refine xs_step (fun K HC => xr_iconst HC.1 46 85 (n := (0)) (0 : Int32) rfl rfl rfl) ?_
  refine xs_step (fun K HC => xr_istore_n HC.1 47 86 (n := 2) (ix := 2) (lv' := [(0, av_R 9 (some v0)), (1, av_R 4 (some v1)), (2, av_I (0 : Int32))]) rfl rfl rfl (by decide) rfl) ?_
  refine xs_step (fun K HC => xr_sub (lv' := [(0, av_R 9 (some v0)), (2, av_I (0 : Int32))]) [0, 2] rfl) ?_
  exact t_Sv_explore_86 v0 (0 : Int32) x_17
theorem s_Sv_explore (v0 : Nat) (v1 : Nat) (h : HP) : ∀ x, f_Sv_explore v0 v1 h = some x → hp_mo h x ∧ ∀ g l, xx_M g l y_Sv_explore prog_12_method_2_code 3 none 6 [av_R 9 (some v0), av_R 4 (some v1)] h none x :=
  xM_v (tb := tb_Sv_explore) (b := false) (by decide +kernel) dt_Sv_explore trivial (Nat.le_of_ble_eq_true rfl) (fun hb => by cases hb) (t_Sv_explore v0 v1 h)
def tb_X_surveyOfPlan : TBL := [(0, .aload_n 0, 1), (1, .getfield 280, 3), (4, .ifnonnull 14, 3), (7, .aload_n 0, 1), (8, .new 135, 3), (11, .dup, 1), (12, .invokespecial 284, 3), (15, .putfield 280, 3), (18, .aload_n 0, 1), (19, .getfield 273, 3), (22, .ifCond .ne 19, 3), (25, .aload_n 0, 1), (26, .iconst 1, 1), (27, .putfield 273, 3), (30, .aload_n 0, 1), (31, .getfield 280, 3), (34, .aload_n 0, 1), (35, .getfield 23, 3), (38, .invokevirtual 285, 3), (41, .aload_n 0, 1), (42, .getfield 280, 3), (45, .areturn, 1)]
theorem dt_X_surveyOfPlan : ∀ q ∈ tb_X_surveyOfPlan, decode prog_1_method_38_code q.1 = .ok (q.2.1, q.2.2) := by decide +kernel
set_option maxHeartbeats 4000000 in
set_option maxRecDepth 100000 in
theorem t_X_surveyOfPlan_18 (v0 : Nat) (h : HP) : xx_S (xx_D "LampYard" tb_X_surveyOfPlan 1 7 (some (.object "LampYard$Survey")) false) xz_r (fun K => xL_r 9 K) 18 [(0, av_R 10 (some v0))] [] h (f_X_surveyOfPlan_18 v0 h) := by
  unfold f_X_surveyOfPlan_18
  refine xs_step (fun K HC => xr_aload_n HC.1 8 19 (n := 0) (ix := 0) (j := 0) (c := 10) (x := v0) rfl rfl rfl rfl) ?_
  refine xs_step (fun K HC => xr_geti HC.1 9 22 10 11 rfl rfl wf_X_273 (by decide) fb_10_11 fc_10_11) ?_
  refine xs_ite (fun K HC a b => xr_if_ne HC.1 10 41 25 rfl (by decide) rfl b a) ?_ ?_
  · refine xs_step (fun K HC => xr_aload_n HC.1 11 26 (n := 0) (ix := 0) (j := 0) (c := 10) (x := v0) rfl rfl rfl rfl) ?_
    refine xs_step (fun K HC => xr_iconst HC.1 12 27 (n := (1)) (1 : Int32) rfl rfl rfl) ?_
    refine xs_heap (hp_mo_si _ _ _ _) (fun K HC => xr_putz HC.1 13 30 10 11 (Or.inr rfl) rfl rfl wf_X_273 (by decide) fb_10_11 fn_10_11 fy_10_11) (fun h_5 => ?_)
    refine xs_step (fun K HC => xr_aload_n HC.1 14 31 (n := 0) (ix := 0) (j := 0) (c := 10) (x := v0) rfl rfl rfl rfl) ?_
    refine xs_bind (fun q_6 eq_6 => ?_)
    refine xs_step (fun K HC => xr_getr HC.1 15 34 10 8 9 eq_6 rfl rfl wf_X_280 (by decide) fb_10_8 fc_10_8 fd_10_8) ?_
    refine xs_step (fun K HC => xr_aload_n HC.1 16 35 (n := 0) (ix := 0) (j := 0) (c := 10) (x := v0) rfl rfl rfl rfl) ?_
    refine xs_bind (fun q_7 eq_7 => ?_)
    refine xs_step (fun K HC => xr_getr HC.1 17 38 10 3 4 eq_7 rfl rfl wf_X_23 (by decide) fb_10_3 fc_10_3 fd_10_3) ?_
    refine xs_callv (s_Sv_explore q_6 q_7 h_5) (fun K HC x9 hM hmo hb => xr_callV HC.1 18 41 (av := [av_R 4 (some q_7)]) (st := []) (hM (kg K) (cx_l (kx K))) hmo hb rfl rfl wm_X_285 wi_Sv_explore ws_Sv_explore wc_Sv_explore rfl wh_Sv_explore (by decide) (by decide) (by decide) (Nat.le_of_ble_eq_true rfl) rfl) (fun x_8 => ?_)
    refine xs_step (fun K HC => xr_aload_n HC.1 19 42 (n := 0) (ix := 0) (j := 0) (c := 10) (x := v0) rfl rfl rfl rfl) ?_
    refine xs_bind (fun q_9 eq_9 => ?_)
    refine xs_step (fun K HC => xr_getr HC.1 20 45 10 8 9 eq_9 rfl rfl wf_X_280 (by decide) fb_10_8 fc_10_8 fd_10_8) ?_
    exact xs_reta 21 rfl rfl (fun K q => q)
  refine xs_step (fun K HC => xr_aload_n HC.1 19 42 (n := 0) (ix := 0) (j := 0) (c := 10) (x := v0) rfl rfl rfl rfl) ?_
  refine xs_bind (fun q_10 eq_10 => ?_)
  refine xs_step (fun K HC => xr_getr HC.1 20 45 10 8 9 eq_10 rfl rfl wf_X_280 (by decide) fb_10_8 fc_10_8 fd_10_8) ?_
  exact xs_reta 21 rfl rfl (fun K q => q)
set_option maxHeartbeats 4000000 in
set_option maxRecDepth 100000 in
theorem t_X_surveyOfPlan (v0 : Nat) (h : HP) : xx_S (xx_D "LampYard" tb_X_surveyOfPlan 1 7 (some (.object "LampYard$Survey")) false) xz_r (fun K => xL_r 9 K) 0 [(0, av_R 10 (some v0))] [] h (f_X_surveyOfPlan v0 h) := by
  unfold f_X_surveyOfPlan
  refine xs_step (fun K HC => xr_aload_n HC.1 0 1 (n := 0) (ix := 0) (j := 0) (c := 10) (x := v0) rfl rfl rfl rfl) ?_
  refine xs_step (fun K HC => xr_getq HC.1 1 4 10 8 9 rfl rfl wf_X_280 (by decide) fb_10_8 fc_10_8 fd_10_8) ?_
  refine xs_ite (fun K HC a b => xr_ifnonnull HC.1 2 18 7 rfl (by decide) rfl b a) ?_ ?_
  · refine xs_step (fun K HC => xr_aload_n HC.1 3 8 (n := 0) (ix := 0) (j := 0) (c := 10) (x := v0) rfl rfl rfl rfl) ?_
    refine xs_new (fun K HC hb => xr_new HC.1 4 11 9 hb rfl rfl wc_X_135 (by decide)) (fun q_1 h_2 => ?_)
    refine xs_step (fun K HC => xr_dup HC.1 5 12 rfl rfl rfl) ?_
    refine xs_callv (s_Sv_new q_1 h_2) (fun K HC x9 hM hmo hb => xr_callI HC.1 6 15 (av := []) (st := [av_R 9 (some q_1), av_R 10 (some v0)]) (hM (kg K) (cx_l (kx K))) hmo hb rfl rfl wm_X_284 wi_Sv_new wn_Sv_new wc_Sv_new rfl wh_Sv_new (by decide) (by decide) (Nat.le_of_ble_eq_true rfl) rfl) (fun x_3 => ?_)
    refine xs_heap (hp_mo_sr _ _ _ _) (fun K HC => xr_putr HC.1 7 18 10 8 9 rfl rfl wf_X_280 (by decide) fb_10_8 (Or.inl fn_10_8) fc_10_8 fd_10_8 (by decide)) (fun h_4 => ?_)
    exact t_X_surveyOfPlan_18 v0 h_4
  exact t_X_surveyOfPlan_18 v0 h
theorem s_X_surveyOfPlan (v0 : Nat) (h : HP) : ∀ x, f_X_surveyOfPlan v0 h = some x → hp_mo h x.2 ∧ ∀ g l, xx_M g l y_X_surveyOfPlan prog_1_method_38_code 1 (some (.object "LampYard$Survey")) 7 [av_R 10 (some v0)] h (some (av_R 9 (some x.1))) x.2 :=
  xM_r (tb := tb_X_surveyOfPlan) (b := false) (by decide +kernel) dt_X_surveyOfPlan (fun _ => trivial) (Nat.le_of_ble_eq_true rfl) (fun hb => by cases hb) (t_X_surveyOfPlan v0 h)
def tb_X_states : TBL := [(0, .iload_n 1, 1), (1, .ifCond .lt 8, 3), (4, .iload_n 1, 1), (5, .iconst 2, 1), (6, .if_icmp .le 5, 3), (9, .iconst (-1), 1), (10, .ireturn, 1), (11, .aload_n 0, 1), (12, .invokevirtual 130, 3), (15, .astore_n 2, 1), (16, .aload_n 2, 1), (17, .getfield 134, 3), (20, .ifCond .eq 6, 3), (23, .bipush (-2), 2), (25, .ireturn, 1), (26, .iload_n 1, 1), (27, .ifCond .ne 11, 3), (30, .aload_n 2, 1), (31, .getfield 139, 3), (34, .getfield 143, 3), (37, .ireturn, 1), (38, .iload_n 1, 1), (39, .iconst 1, 1), (40, .if_icmp .ne 10, 3), (43, .aload_n 2, 1), (44, .getfield 148, 3), (47, .goto 7, 3), (50, .aload_n 2, 1), (51, .getfield 151, 3), (54, .ireturn, 1)]
theorem dt_X_states : ∀ q ∈ tb_X_states, decode prog_1_method_11_code q.1 = .ok (q.2.1, q.2.2) := by decide +kernel
set_option maxHeartbeats 4000000 in
set_option maxRecDepth 100000 in
theorem t_X_states (v0 : Nat) (v1 : Int32) (h : HP) : xx_S (xx_D "LampYard" tb_X_states 3 8 (some .int) false) xz_i (fun K => xL_i K) 0 [(0, av_R 10 (some v0)), (1, av_I v1)] [] h (f_X_states v0 v1 h) := by
  unfold f_X_states
  refine xs_step (fun K HC => xr_iload_n HC.1 0 1 (n := 1) (ix := 1) (j := 1) (x := v1) rfl rfl rfl rfl) ?_
  refine xs_ite (fun K HC => xr_if_lt HC.1 1 9 4 rfl (by decide) rfl) ?_ ?_
  · refine xs_step (fun K HC => xr_iconst HC.1 5 10 (n := (-1)) (-1 : Int32) rfl rfl rfl) ?_
    exact xs_reti 6 rfl rfl (fun K q => q) (fun ty ht => by cases ht; rfl)
  refine xs_step (fun K HC => xr_iload_n HC.1 2 5 (n := 1) (ix := 1) (j := 1) (x := v1) rfl rfl rfl rfl) ?_
  refine xs_step (fun K HC => xr_iconst HC.1 3 6 (n := (2)) (2 : Int32) rfl rfl rfl) ?_
  refine xs_ite (fun K HC => xr_icmp_le HC.1 4 11 9 rfl (by decide) rfl) ?_ ?_
  · refine xs_step (fun K HC => xr_aload_n HC.1 7 12 (n := 0) (ix := 0) (j := 0) (c := 10) (x := v0) rfl rfl rfl rfl) ?_
    refine xs_callr 9 (s_X_surveyOfPlan v0 h) (fun K HC x9 hM hmo hb => xr_callV HC.1 8 15 (av := []) (st := []) (hM (kg K) (cx_l (kx K))) hmo hb rfl rfl wm_X_130 wi_X_surveyOfPlan ws_X_surveyOfPlan wc_X_surveyOfPlan rfl wh_X_surveyOfPlan (by decide) (by decide) (by decide) (Nat.le_of_ble_eq_true rfl) rfl) (fun x_1 => ?_)
    refine xs_step (fun K HC => xr_astore_n HC.1 9 16 (n := 2) (ix := 2) (lv' := [(0, av_R 10 (some v0)), (1, av_I v1), (2, av_R 9 (some x_1.1))]) rfl rfl rfl (by decide) rfl) ?_
    refine xs_step (fun K HC => xr_aload_n HC.1 10 17 (n := 2) (ix := 2) (j := 2) (c := 9) (x := x_1.1) rfl rfl rfl rfl) ?_
    refine xs_step (fun K HC => xr_geti HC.1 11 20 9 5 rfl rfl wf_X_134 (by decide) fb_9_5 fc_9_5) ?_
    refine xs_ite (fun K HC => xr_if_eq HC.1 12 26 23 rfl (by decide) rfl) ?_ ?_
    · refine xs_step (fun K HC => xr_iload_n HC.1 15 27 (n := 1) (ix := 1) (j := 1) (x := v1) rfl rfl rfl rfl) ?_
      refine xs_ite (fun K HC a b => xr_if_ne HC.1 16 38 30 rfl (by decide) rfl b a) ?_ ?_
      · refine xs_step (fun K HC => xr_aload_n HC.1 17 31 (n := 2) (ix := 2) (j := 2) (c := 9) (x := x_1.1) rfl rfl rfl rfl) ?_
        refine xs_bind (fun q_2 eq_2 => ?_)
        refine xs_step (fun K HC => xr_getr HC.1 18 34 9 1 7 eq_2 rfl rfl wf_X_139 (by decide) fb_9_1 fc_9_1 fd_9_1) ?_
        refine xs_step (fun K HC => xr_geti HC.1 19 37 7 0 rfl rfl wf_X_143 (by decide) fb_7_0 fc_7_0) ?_
        exact xs_reti 20 rfl rfl (fun K q => q) (fun ty ht => by cases ht; rfl)
      refine xs_step (fun K HC => xr_iload_n HC.1 21 39 (n := 1) (ix := 1) (j := 1) (x := v1) rfl rfl rfl rfl) ?_
      refine xs_step (fun K HC => xr_iconst HC.1 22 40 (n := (1)) (1 : Int32) rfl rfl rfl) ?_
      refine xs_ite (fun K HC a b => xr_icmp_ne HC.1 23 50 43 rfl (by decide) rfl b a) ?_ ?_
      · refine xs_step (fun K HC => xr_aload_n HC.1 24 44 (n := 2) (ix := 2) (j := 2) (c := 9) (x := x_1.1) rfl rfl rfl rfl) ?_
        refine xs_step (fun K HC => xr_geti HC.1 25 47 9 6 rfl rfl wf_X_148 (by decide) fb_9_6 fc_9_6) ?_
        refine xs_step (fun K HC => xr_goto HC.1 26 54 rfl (by decide)) ?_
        exact xs_reti 29 rfl rfl (fun K q => q) (fun ty ht => by cases ht; rfl)
      refine xs_step (fun K HC => xr_aload_n HC.1 27 51 (n := 2) (ix := 2) (j := 2) (c := 9) (x := x_1.1) rfl rfl rfl rfl) ?_
      refine xs_step (fun K HC => xr_geti HC.1 28 54 9 7 rfl rfl wf_X_151 (by decide) fb_9_7 fc_9_7) ?_
      exact xs_reti 29 rfl rfl (fun K q => q) (fun ty ht => by cases ht; rfl)
    refine xs_step (fun K HC => xr_bipush HC.1 13 25 (n := (-2)) (-2 : Int32) rfl rfl rfl) ?_
    exact xs_reti 14 rfl rfl (fun K q => q) (fun ty ht => by cases ht; rfl)
  refine xs_step (fun K HC => xr_iconst HC.1 5 10 (n := (-1)) (-1 : Int32) rfl rfl rfl) ?_
  exact xs_reti 6 rfl rfl (fun K q => q) (fun ty ht => by cases ht; rfl)
theorem s_X_states (v0 : Nat) (v1 : Int32) (h : HP) : ∀ x, f_X_states v0 v1 h = some x → hp_mo h x.2 ∧ ∀ g l, xx_M g l y_X_states prog_1_method_11_code 3 (some .int) 8 [av_R 10 (some v0), av_I v1] h (some (av_I x.1)) x.2 :=
  xM_i (tb := tb_X_states) (b := false) (by decide +kernel) dt_X_states (fun _ => trivial) (Nat.le_of_ble_eq_true rfl) (fun hb => by cases hb) (t_X_states v0 v1 h)
def tb_X_right : TBL := [(0, .aload_n 0, 1), (1, .invokevirtual 130, 3), (4, .astore_n 1, 1), (5, .aload_n 1, 1), (6, .getfield 134, 3), (9, .ifCond .eq 6, 3), (12, .bipush (-2), 2), (14, .ireturn, 1), (15, .aload_n 1, 1), (16, .getfield 151, 3), (19, .ifCond .ne 7, 3), (22, .iconst 1, 1), (23, .goto 4, 3), (26, .iconst 0, 1), (27, .ireturn, 1)]
theorem dt_X_right : ∀ q ∈ tb_X_right, decode prog_1_method_12_code q.1 = .ok (q.2.1, q.2.2) := by decide +kernel
set_option maxHeartbeats 4000000 in
set_option maxRecDepth 100000 in
theorem t_X_right (v0 : Nat) (h : HP) : xx_S (xx_D "LampYard" tb_X_right 2 8 (some .int) false) xz_i (fun K => xL_i K) 0 [(0, av_R 10 (some v0))] [] h (f_X_right v0 h) := by
  unfold f_X_right
  refine xs_step (fun K HC => xr_aload_n HC.1 0 1 (n := 0) (ix := 0) (j := 0) (c := 10) (x := v0) rfl rfl rfl rfl) ?_
  refine xs_callr 9 (s_X_surveyOfPlan v0 h) (fun K HC x9 hM hmo hb => xr_callV HC.1 1 4 (av := []) (st := []) (hM (kg K) (cx_l (kx K))) hmo hb rfl rfl wm_X_130 wi_X_surveyOfPlan ws_X_surveyOfPlan wc_X_surveyOfPlan rfl wh_X_surveyOfPlan (by decide) (by decide) (by decide) (Nat.le_of_ble_eq_true rfl) rfl) (fun x_1 => ?_)
  refine xs_step (fun K HC => xr_astore_n HC.1 2 5 (n := 1) (ix := 1) (lv' := [(0, av_R 10 (some v0)), (1, av_R 9 (some x_1.1))]) rfl rfl rfl (by decide) rfl) ?_
  refine xs_step (fun K HC => xr_aload_n HC.1 3 6 (n := 1) (ix := 1) (j := 1) (c := 9) (x := x_1.1) rfl rfl rfl rfl) ?_
  refine xs_step (fun K HC => xr_geti HC.1 4 9 9 5 rfl rfl wf_X_134 (by decide) fb_9_5 fc_9_5) ?_
  refine xs_ite (fun K HC => xr_if_eq HC.1 5 15 12 rfl (by decide) rfl) ?_ ?_
  · refine xs_step (fun K HC => xr_aload_n HC.1 8 16 (n := 1) (ix := 1) (j := 1) (c := 9) (x := x_1.1) rfl rfl rfl rfl) ?_
    refine xs_step (fun K HC => xr_geti HC.1 9 19 9 7 rfl rfl wf_X_151 (by decide) fb_9_7 fc_9_7) ?_
    refine xs_ite (fun K HC a b => xr_if_ne HC.1 10 26 22 rfl (by decide) rfl b a) ?_ ?_
    · refine xs_step (fun K HC => xr_iconst HC.1 11 23 (n := (1)) (1 : Int32) rfl rfl rfl) ?_
      refine xs_step (fun K HC => xr_goto HC.1 12 27 rfl (by decide)) ?_
      exact xs_reti 14 rfl rfl (fun K q => q) (fun ty ht => by cases ht; rfl)
    refine xs_step (fun K HC => xr_iconst HC.1 13 27 (n := (0)) (0 : Int32) rfl rfl rfl) ?_
    exact xs_reti 14 rfl rfl (fun K q => q) (fun ty ht => by cases ht; rfl)
  refine xs_step (fun K HC => xr_bipush HC.1 6 14 (n := (-2)) (-2 : Int32) rfl rfl rfl) ?_
  exact xs_reti 7 rfl rfl (fun K q => q) (fun ty ht => by cases ht; rfl)
theorem s_X_right (v0 : Nat) (h : HP) : ∀ x, f_X_right v0 h = some x → hp_mo h x.2 ∧ ∀ g l, xx_M g l y_X_right prog_1_method_12_code 2 (some .int) 8 [av_R 10 (some v0)] h (some (av_I x.1)) x.2 :=
  xM_i (tb := tb_X_right) (b := false) (by decide +kernel) dt_X_right (fun _ => trivial) (Nat.le_of_ble_eq_true rfl) (fun hb => by cases hb) (t_X_right v0 h)
def tb_X_shown : TBL := [(0, .iload_n 1, 1), (1, .ifCond .lt 8, 3), (4, .iload_n 1, 1), (5, .iconst 1, 1), (6, .if_icmp .le 5, 3), (9, .iconst (-1), 1), (10, .ireturn, 1), (11, .aload_n 0, 1), (12, .invokevirtual 130, 3), (15, .astore_n 2, 1), (16, .aload_n 2, 1), (17, .getfield 134, 3), (20, .ifCond .eq 6, 3), (23, .bipush (-2), 2), (25, .ireturn, 1), (26, .aload_n 2, 1), (27, .getfield 154, 3), (30, .ifCond .ne 5, 3), (33, .iconst (-1), 1), (34, .ireturn, 1), (35, .iload_n 1, 1), (36, .ifCond .ne 10, 3), (39, .aload_n 2, 1), (40, .getfield 154, 3), (43, .goto 7, 3), (46, .aload_n 2, 1), (47, .getfield 157, 3), (50, .ireturn, 1)]
theorem dt_X_shown : ∀ q ∈ tb_X_shown, decode prog_1_method_13_code q.1 = .ok (q.2.1, q.2.2) := by decide +kernel
set_option maxHeartbeats 4000000 in
set_option maxRecDepth 100000 in
theorem t_X_shown (v0 : Nat) (v1 : Int32) (h : HP) : xx_S (xx_D "LampYard" tb_X_shown 3 8 (some .int) false) xz_i (fun K => xL_i K) 0 [(0, av_R 10 (some v0)), (1, av_I v1)] [] h (f_X_shown v0 v1 h) := by
  unfold f_X_shown
  refine xs_step (fun K HC => xr_iload_n HC.1 0 1 (n := 1) (ix := 1) (j := 1) (x := v1) rfl rfl rfl rfl) ?_
  refine xs_ite (fun K HC => xr_if_lt HC.1 1 9 4 rfl (by decide) rfl) ?_ ?_
  · refine xs_step (fun K HC => xr_iconst HC.1 5 10 (n := (-1)) (-1 : Int32) rfl rfl rfl) ?_
    exact xs_reti 6 rfl rfl (fun K q => q) (fun ty ht => by cases ht; rfl)
  refine xs_step (fun K HC => xr_iload_n HC.1 2 5 (n := 1) (ix := 1) (j := 1) (x := v1) rfl rfl rfl rfl) ?_
  refine xs_step (fun K HC => xr_iconst HC.1 3 6 (n := (1)) (1 : Int32) rfl rfl rfl) ?_
  refine xs_ite (fun K HC => xr_icmp_le HC.1 4 11 9 rfl (by decide) rfl) ?_ ?_
  · refine xs_step (fun K HC => xr_aload_n HC.1 7 12 (n := 0) (ix := 0) (j := 0) (c := 10) (x := v0) rfl rfl rfl rfl) ?_
    refine xs_callr 9 (s_X_surveyOfPlan v0 h) (fun K HC x9 hM hmo hb => xr_callV HC.1 8 15 (av := []) (st := []) (hM (kg K) (cx_l (kx K))) hmo hb rfl rfl wm_X_130 wi_X_surveyOfPlan ws_X_surveyOfPlan wc_X_surveyOfPlan rfl wh_X_surveyOfPlan (by decide) (by decide) (by decide) (Nat.le_of_ble_eq_true rfl) rfl) (fun x_1 => ?_)
    refine xs_step (fun K HC => xr_astore_n HC.1 9 16 (n := 2) (ix := 2) (lv' := [(0, av_R 10 (some v0)), (1, av_I v1), (2, av_R 9 (some x_1.1))]) rfl rfl rfl (by decide) rfl) ?_
    refine xs_step (fun K HC => xr_aload_n HC.1 10 17 (n := 2) (ix := 2) (j := 2) (c := 9) (x := x_1.1) rfl rfl rfl rfl) ?_
    refine xs_step (fun K HC => xr_geti HC.1 11 20 9 5 rfl rfl wf_X_134 (by decide) fb_9_5 fc_9_5) ?_
    refine xs_ite (fun K HC => xr_if_eq HC.1 12 26 23 rfl (by decide) rfl) ?_ ?_
    · refine xs_step (fun K HC => xr_aload_n HC.1 15 27 (n := 2) (ix := 2) (j := 2) (c := 9) (x := x_1.1) rfl rfl rfl rfl) ?_
      refine xs_step (fun K HC => xr_geti HC.1 16 30 9 9 rfl rfl wf_X_154 (by decide) fb_9_9 fc_9_9) ?_
      refine xs_ite (fun K HC a b => xr_if_ne HC.1 17 35 33 rfl (by decide) rfl b a) ?_ ?_
      · refine xs_step (fun K HC => xr_iconst HC.1 18 34 (n := (-1)) (-1 : Int32) rfl rfl rfl) ?_
        exact xs_reti 19 rfl rfl (fun K q => q) (fun ty ht => by cases ht; rfl)
      refine xs_step (fun K HC => xr_iload_n HC.1 20 36 (n := 1) (ix := 1) (j := 1) (x := v1) rfl rfl rfl rfl) ?_
      refine xs_ite (fun K HC a b => xr_if_ne HC.1 21 46 39 rfl (by decide) rfl b a) ?_ ?_
      · refine xs_step (fun K HC => xr_aload_n HC.1 22 40 (n := 2) (ix := 2) (j := 2) (c := 9) (x := x_1.1) rfl rfl rfl rfl) ?_
        refine xs_step (fun K HC => xr_geti HC.1 23 43 9 9 rfl rfl wf_X_154 (by decide) fb_9_9 fc_9_9) ?_
        refine xs_step (fun K HC => xr_goto HC.1 24 50 rfl (by decide)) ?_
        exact xs_reti 27 rfl rfl (fun K q => q) (fun ty ht => by cases ht; rfl)
      refine xs_step (fun K HC => xr_aload_n HC.1 25 47 (n := 2) (ix := 2) (j := 2) (c := 9) (x := x_1.1) rfl rfl rfl rfl) ?_
      refine xs_step (fun K HC => xr_geti HC.1 26 50 9 10 rfl rfl wf_X_157 (by decide) fb_9_10 fc_9_10) ?_
      exact xs_reti 27 rfl rfl (fun K q => q) (fun ty ht => by cases ht; rfl)
    refine xs_step (fun K HC => xr_bipush HC.1 13 25 (n := (-2)) (-2 : Int32) rfl rfl rfl) ?_
    exact xs_reti 14 rfl rfl (fun K q => q) (fun ty ht => by cases ht; rfl)
  refine xs_step (fun K HC => xr_iconst HC.1 5 10 (n := (-1)) (-1 : Int32) rfl rfl rfl) ?_
  exact xs_reti 6 rfl rfl (fun K q => q) (fun ty ht => by cases ht; rfl)
theorem s_X_shown (v0 : Nat) (v1 : Int32) (h : HP) : ∀ x, f_X_shown v0 v1 h = some x → hp_mo h x.2 ∧ ∀ g l, xx_M g l y_X_shown prog_1_method_13_code 3 (some .int) 8 [av_R 10 (some v0), av_I v1] h (some (av_I x.1)) x.2 :=
  xM_i (tb := tb_X_shown) (b := false) (by decide +kernel) dt_X_shown (fun _ => trivial) (Nat.le_of_ble_eq_true rfl) (fun hb => by cases hb) (t_X_shown v0 v1 h)
def tb_X_shows : TBL := [(0, .aload_n 0, 1), (1, .invokevirtual 130, 3), (4, .astore_n 2, 1), (5, .aload_n 2, 1), (6, .getfield 134, 3), (9, .ifCond .eq 6, 3), (12, .bipush (-2), 2), (14, .ireturn, 1), (15, .iload_n 1, 1), (16, .ifCond .lt 11, 3), (19, .iload_n 1, 1), (20, .aload_n 2, 1), (21, .getfield 154, 3), (24, .if_icmp .lt 7, 3), (27, .iconst (-1), 1), (28, .goto 9, 3), (31, .aload_n 2, 1), (32, .getfield 160, 3), (35, .iload_n 1, 1), (36, .iaload, 1), (37, .ireturn, 1)]
theorem dt_X_shows : ∀ q ∈ tb_X_shows, decode prog_1_method_14_code q.1 = .ok (q.2.1, q.2.2) := by decide +kernel
set_option maxHeartbeats 4000000 in
set_option maxRecDepth 100000 in
theorem t_X_shows (v0 : Nat) (v1 : Int32) (h : HP) : xx_S (xx_D "LampYard" tb_X_shows 3 8 (some .int) false) xz_i (fun K => xL_i K) 0 [(0, av_R 10 (some v0)), (1, av_I v1)] [] h (f_X_shows v0 v1 h) := by
  unfold f_X_shows
  refine xs_step (fun K HC => xr_aload_n HC.1 0 1 (n := 0) (ix := 0) (j := 0) (c := 10) (x := v0) rfl rfl rfl rfl) ?_
  refine xs_callr 9 (s_X_surveyOfPlan v0 h) (fun K HC x9 hM hmo hb => xr_callV HC.1 1 4 (av := []) (st := []) (hM (kg K) (cx_l (kx K))) hmo hb rfl rfl wm_X_130 wi_X_surveyOfPlan ws_X_surveyOfPlan wc_X_surveyOfPlan rfl wh_X_surveyOfPlan (by decide) (by decide) (by decide) (Nat.le_of_ble_eq_true rfl) rfl) (fun x_1 => ?_)
  refine xs_step (fun K HC => xr_astore_n HC.1 2 5 (n := 2) (ix := 2) (lv' := [(0, av_R 10 (some v0)), (1, av_I v1), (2, av_R 9 (some x_1.1))]) rfl rfl rfl (by decide) rfl) ?_
  refine xs_step (fun K HC => xr_aload_n HC.1 3 6 (n := 2) (ix := 2) (j := 2) (c := 9) (x := x_1.1) rfl rfl rfl rfl) ?_
  refine xs_step (fun K HC => xr_geti HC.1 4 9 9 5 rfl rfl wf_X_134 (by decide) fb_9_5 fc_9_5) ?_
  refine xs_ite (fun K HC => xr_if_eq HC.1 5 15 12 rfl (by decide) rfl) ?_ ?_
  · refine xs_step (fun K HC => xr_iload_n HC.1 8 16 (n := 1) (ix := 1) (j := 1) (x := v1) rfl rfl rfl rfl) ?_
    refine xs_ite (fun K HC => xr_if_lt HC.1 9 27 19 rfl (by decide) rfl) ?_ ?_
    · refine xs_step (fun K HC => xr_iconst HC.1 14 28 (n := (-1)) (-1 : Int32) rfl rfl rfl) ?_
      refine xs_step (fun K HC => xr_goto HC.1 15 37 rfl (by decide)) ?_
      exact xs_reti 20 rfl rfl (fun K q => q) (fun ty ht => by cases ht; rfl)
    refine xs_step (fun K HC => xr_iload_n HC.1 10 20 (n := 1) (ix := 1) (j := 1) (x := v1) rfl rfl rfl rfl) ?_
    refine xs_step (fun K HC => xr_aload_n HC.1 11 21 (n := 2) (ix := 2) (j := 2) (c := 9) (x := x_1.1) rfl rfl rfl rfl) ?_
    refine xs_step (fun K HC => xr_geti HC.1 12 24 9 9 rfl rfl wf_X_154 (by decide) fb_9_9 fc_9_9) ?_
    refine xs_ite (fun K HC => xr_icmp_lt HC.1 13 31 27 rfl (by decide) rfl) ?_ ?_
    · refine xs_step (fun K HC => xr_aload_n HC.1 16 32 (n := 2) (ix := 2) (j := 2) (c := 9) (x := x_1.1) rfl rfl rfl rfl) ?_
      refine xs_bind (fun q_2 eq_2 => ?_)
      refine xs_step (fun K HC => xr_getr HC.1 17 35 9 2 13 eq_2 rfl rfl wf_X_160 (by decide) fb_9_2 fc_9_2 fd_9_2) ?_
      refine xs_step (fun K HC => xr_iload_n HC.1 18 36 (n := 1) (ix := 1) (j := 1) (x := v1) rfl rfl rfl rfl) ?_
      refine xs_chk (fun hb_3 => ?_)
      refine xs_step (fun K HC => xr_iald HC.1 19 37 (hp_in_vp hb_3) rfl rfl) ?_
      exact xs_reti 20 rfl rfl (fun K q => q) (fun ty ht => by cases ht; rfl)
    refine xs_step (fun K HC => xr_iconst HC.1 14 28 (n := (-1)) (-1 : Int32) rfl rfl rfl) ?_
    refine xs_step (fun K HC => xr_goto HC.1 15 37 rfl (by decide)) ?_
    exact xs_reti 20 rfl rfl (fun K q => q) (fun ty ht => by cases ht; rfl)
  refine xs_step (fun K HC => xr_bipush HC.1 6 14 (n := (-2)) (-2 : Int32) rfl rfl rfl) ?_
  exact xs_reti 7 rfl rfl (fun K q => q) (fun ty ht => by cases ht; rfl)
theorem s_X_shows (v0 : Nat) (v1 : Int32) (h : HP) : ∀ x, f_X_shows v0 v1 h = some x → hp_mo h x.2 ∧ ∀ g l, xx_M g l y_X_shows prog_1_method_14_code 3 (some .int) 8 [av_R 10 (some v0), av_I v1] h (some (av_I x.1)) x.2 :=
  xM_i (tb := tb_X_shows) (b := false) (by decide +kernel) dt_X_shows (fun _ => trivial) (Nat.le_of_ble_eq_true rfl) (fun hb => by cases hb) (t_X_shows v0 v1 h)
def tb_X_soonest : TBL := [(0, .aload_n 0, 1), (1, .invokevirtual 130, 3), (4, .astore_n 1, 1), (5, .aload_n 1, 1), (6, .getfield 134, 3), (9, .ifCond .eq 8, 3), (12, .bipush (-2), 2), (14, .goto 7, 3), (17, .aload_n 1, 1), (18, .getfield 163, 3), (21, .ireturn, 1)]
theorem dt_X_soonest : ∀ q ∈ tb_X_soonest, decode prog_1_method_15_code q.1 = .ok (q.2.1, q.2.2) := by decide +kernel
set_option maxHeartbeats 4000000 in
set_option maxRecDepth 100000 in
theorem t_X_soonest (v0 : Nat) (h : HP) : xx_S (xx_D "LampYard" tb_X_soonest 2 8 (some .int) false) xz_i (fun K => xL_i K) 0 [(0, av_R 10 (some v0))] [] h (f_X_soonest v0 h) := by
  unfold f_X_soonest
  refine xs_step (fun K HC => xr_aload_n HC.1 0 1 (n := 0) (ix := 0) (j := 0) (c := 10) (x := v0) rfl rfl rfl rfl) ?_
  refine xs_callr 9 (s_X_surveyOfPlan v0 h) (fun K HC x9 hM hmo hb => xr_callV HC.1 1 4 (av := []) (st := []) (hM (kg K) (cx_l (kx K))) hmo hb rfl rfl wm_X_130 wi_X_surveyOfPlan ws_X_surveyOfPlan wc_X_surveyOfPlan rfl wh_X_surveyOfPlan (by decide) (by decide) (by decide) (Nat.le_of_ble_eq_true rfl) rfl) (fun x_1 => ?_)
  refine xs_step (fun K HC => xr_astore_n HC.1 2 5 (n := 1) (ix := 1) (lv' := [(0, av_R 10 (some v0)), (1, av_R 9 (some x_1.1))]) rfl rfl rfl (by decide) rfl) ?_
  refine xs_step (fun K HC => xr_aload_n HC.1 3 6 (n := 1) (ix := 1) (j := 1) (c := 9) (x := x_1.1) rfl rfl rfl rfl) ?_
  refine xs_step (fun K HC => xr_geti HC.1 4 9 9 5 rfl rfl wf_X_134 (by decide) fb_9_5 fc_9_5) ?_
  refine xs_ite (fun K HC => xr_if_eq HC.1 5 17 12 rfl (by decide) rfl) ?_ ?_
  · refine xs_step (fun K HC => xr_aload_n HC.1 8 18 (n := 1) (ix := 1) (j := 1) (c := 9) (x := x_1.1) rfl rfl rfl rfl) ?_
    refine xs_step (fun K HC => xr_geti HC.1 9 21 9 8 rfl rfl wf_X_163 (by decide) fb_9_8 fc_9_8) ?_
    exact xs_reti 10 rfl rfl (fun K q => q) (fun ty ht => by cases ht; rfl)
  refine xs_step (fun K HC => xr_bipush HC.1 6 14 (n := (-2)) (-2 : Int32) rfl rfl rfl) ?_
  refine xs_step (fun K HC => xr_goto HC.1 7 21 rfl (by decide)) ?_
  exact xs_reti 10 rfl rfl (fun K q => q) (fun ty ht => by cases ht; rfl)
theorem s_X_soonest (v0 : Nat) (h : HP) : ∀ x, f_X_soonest v0 h = some x → hp_mo h x.2 ∧ ∀ g l, xx_M g l y_X_soonest prog_1_method_15_code 2 (some .int) 8 [av_R 10 (some v0)] h (some (av_I x.1)) x.2 :=
  xM_i (tb := tb_X_soonest) (b := false) (by decide +kernel) dt_X_soonest (fun _ => trivial) (Nat.le_of_ble_eq_true rfl) (fun hb => by cases hb) (t_X_soonest v0 h)
def tb_Ro_new : TBL := [(0, .aload_n 0, 1), (1, .invokespecial 3, 3), (4, .aload_n 0, 1), (5, .sipush 5000, 3), (8, .newarray .int, 2), (10, .putfield 9, 3), (13, .aload_n 0, 1), (14, .sipush 5000, 3), (17, .newarray .int, 2), (19, .putfield 15, 3), (22, .aload_n 0, 1), (23, .sipush 5000, 3), (26, .newarray .int, 2), (28, .putfield 18, 3), (31, .aload_n 0, 1), (32, .sipush 5000, 3), (35, .newarray .int, 2), (37, .putfield 21, 3), (40, .aload_n 0, 1), (41, .sipush 5000, 3), (44, .newarray .int, 2), (46, .putfield 24, 3), (49, .aload_n 0, 1), (50, .sipush 5000, 3), (53, .newarray .int, 2), (55, .putfield 27, 3), (58, .return_, 1)]
theorem dt_Ro_new : ∀ q ∈ tb_Ro_new, decode prog_8_method_1_code q.1 = .ok (q.2.1, q.2.2) := by decide +kernel
set_option maxHeartbeats 4000000 in
set_option maxRecDepth 100000 in
theorem t_Ro_new (v0 : Nat) (h : HP) : xx_S (xx_D "LampYard$Rounds" tb_Ro_new 1 1 none true) xz_v (fun K => xL_v K) 0 [(0, av_R 6 (some v0))] [] h (f_Ro_new v0 h) := by
  unfold f_Ro_new
  refine xs_step (fun K HC => xr_aload_n HC.1 0 1 (n := 0) (ix := 0) (j := 0) (c := 6) (x := v0) rfl rfl rfl rfl) ?_
  refine xs_step (fun K HC => xr_obj HC.1 1 4 rfl rfl wm_Ro_3 (by decide) (Nat.le_of_ble_eq_true rfl)) ?_
  refine xs_step (fun K HC => xr_aload_n HC.1 2 5 (n := 0) (ix := 0) (j := 0) (c := 6) (x := v0) rfl rfl rfl rfl) ?_
  refine xs_step (fun K HC => xr_sipush HC.1 3 8 (n := (5000)) (5000 : Int32) rfl rfl rfl) ?_
  refine xs_new (fun K HC hb => xr_newI HC.1 4 10 5000 hb rfl rfl (by decide) rfl (Nat.le_of_ble_eq_true rfl)) (fun q_1 h_2 => ?_)
  refine xs_heap (hp_mo_sr _ _ _ _) (fun K HC => xr_putr HC.1 5 13 6 1 13 rfl rfl wf_Ro_9 (by decide) fb_6_1 (Or.inr ⟨fn_6_1, HC.2 rfl, rfl⟩) fc_6_1 fd_6_1 (by decide)) (fun h_3 => ?_)
  refine xs_step (fun K HC => xr_aload_n HC.1 6 14 (n := 0) (ix := 0) (j := 0) (c := 6) (x := v0) rfl rfl rfl rfl) ?_
  refine xs_step (fun K HC => xr_sipush HC.1 7 17 (n := (5000)) (5000 : Int32) rfl rfl rfl) ?_
  refine xs_new (fun K HC hb => xr_newI HC.1 8 19 5000 hb rfl rfl (by decide) rfl (Nat.le_of_ble_eq_true rfl)) (fun q_4 h_5 => ?_)
  refine xs_heap (hp_mo_sr _ _ _ _) (fun K HC => xr_putr HC.1 9 22 6 2 13 rfl rfl wf_Ro_15 (by decide) fb_6_2 (Or.inr ⟨fn_6_2, HC.2 rfl, rfl⟩) fc_6_2 fd_6_2 (by decide)) (fun h_6 => ?_)
  refine xs_step (fun K HC => xr_aload_n HC.1 10 23 (n := 0) (ix := 0) (j := 0) (c := 6) (x := v0) rfl rfl rfl rfl) ?_
  refine xs_step (fun K HC => xr_sipush HC.1 11 26 (n := (5000)) (5000 : Int32) rfl rfl rfl) ?_
  refine xs_new (fun K HC hb => xr_newI HC.1 12 28 5000 hb rfl rfl (by decide) rfl (Nat.le_of_ble_eq_true rfl)) (fun q_7 h_8 => ?_)
  refine xs_heap (hp_mo_sr _ _ _ _) (fun K HC => xr_putr HC.1 13 31 6 3 13 rfl rfl wf_Ro_18 (by decide) fb_6_3 (Or.inr ⟨fn_6_3, HC.2 rfl, rfl⟩) fc_6_3 fd_6_3 (by decide)) (fun h_9 => ?_)
  refine xs_step (fun K HC => xr_aload_n HC.1 14 32 (n := 0) (ix := 0) (j := 0) (c := 6) (x := v0) rfl rfl rfl rfl) ?_
  refine xs_step (fun K HC => xr_sipush HC.1 15 35 (n := (5000)) (5000 : Int32) rfl rfl rfl) ?_
  refine xs_new (fun K HC hb => xr_newI HC.1 16 37 5000 hb rfl rfl (by decide) rfl (Nat.le_of_ble_eq_true rfl)) (fun q_10 h_11 => ?_)
  refine xs_heap (hp_mo_sr _ _ _ _) (fun K HC => xr_putr HC.1 17 40 6 4 13 rfl rfl wf_Ro_21 (by decide) fb_6_4 (Or.inr ⟨fn_6_4, HC.2 rfl, rfl⟩) fc_6_4 fd_6_4 (by decide)) (fun h_12 => ?_)
  refine xs_step (fun K HC => xr_aload_n HC.1 18 41 (n := 0) (ix := 0) (j := 0) (c := 6) (x := v0) rfl rfl rfl rfl) ?_
  refine xs_step (fun K HC => xr_sipush HC.1 19 44 (n := (5000)) (5000 : Int32) rfl rfl rfl) ?_
  refine xs_new (fun K HC hb => xr_newI HC.1 20 46 5000 hb rfl rfl (by decide) rfl (Nat.le_of_ble_eq_true rfl)) (fun q_13 h_14 => ?_)
  refine xs_heap (hp_mo_sr _ _ _ _) (fun K HC => xr_putr HC.1 21 49 6 5 13 rfl rfl wf_Ro_24 (by decide) fb_6_5 (Or.inr ⟨fn_6_5, HC.2 rfl, rfl⟩) fc_6_5 fd_6_5 (by decide)) (fun h_15 => ?_)
  refine xs_step (fun K HC => xr_aload_n HC.1 22 50 (n := 0) (ix := 0) (j := 0) (c := 6) (x := v0) rfl rfl rfl rfl) ?_
  refine xs_step (fun K HC => xr_sipush HC.1 23 53 (n := (5000)) (5000 : Int32) rfl rfl rfl) ?_
  refine xs_new (fun K HC hb => xr_newI HC.1 24 55 5000 hb rfl rfl (by decide) rfl (Nat.le_of_ble_eq_true rfl)) (fun q_16 h_17 => ?_)
  refine xs_heap (hp_mo_sr _ _ _ _) (fun K HC => xr_putr HC.1 25 58 6 6 13 rfl rfl wf_Ro_27 (by decide) fb_6_6 (Or.inr ⟨fn_6_6, HC.2 rfl, rfl⟩) fc_6_6 fd_6_6 (by decide)) (fun h_18 => ?_)
  exact xs_ret 26 rfl rfl (fun K q => q)
theorem s_Ro_new (v0 : Nat) (h : HP) : ∀ x, f_Ro_new v0 h = some x → hp_mo h x ∧ ∀ g l, xx_M g l y_Ro_new prog_8_method_1_code 1 none 1 [av_R 6 (some v0)] h none x :=
  xM_v (tb := tb_Ro_new) (b := true) (by decide +kernel) dt_Ro_new trivial (Nat.le_of_ble_eq_true rfl) (fun hb => rfl) (t_Ro_new v0 h)
