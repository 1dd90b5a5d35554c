def tb_Co_unevenness : TBL := [(0, .aload_n 0, 1), (1, .getfield 9, 3), (4, .iconst 0, 1), (5, .iaload, 1), (6, .istore_n 2, 1), (7, .aload_n 0, 1), (8, .getfield 9, 3), (11, .iconst 0, 1), (12, .iaload, 1), (13, .istore_n 3, 1), (14, .iconst 1, 1), (15, .istore 4, 2), (17, .iload 4, 2), (19, .iload_n 1, 1), (20, .if_icmp .ge 40, 3), (23, .iload 4, 2), (25, .bipush 6, 2), (27, .if_icmp .ge 33, 3), (30, .iload_n 2, 1), (31, .aload_n 0, 1), (32, .getfield 9, 3), (35, .iload 4, 2), (37, .iaload, 1), (38, .invokestatic 57, 3), (41, .istore_n 2, 1), (42, .iload_n 3, 1), (43, .aload_n 0, 1), (44, .getfield 9, 3), (47, .iload 4, 2), (49, .iaload, 1), (50, .invokestatic 63, 3), (53, .istore_n 3, 1), (54, .iinc 4 1, 3), (57, .goto (-40), 3), (60, .iload_n 3, 1), (61, .iload_n 2, 1), (62, .isub, 1), (63, .ireturn, 1)]
theorem dt_Co_unevenness : ∀ q ∈ tb_Co_unevenness, decode prog_3_method_5_code q.1 = .ok (q.2.1, q.2.2) := by decide +kernel
set_option maxHeartbeats 4000000 in
set_option maxRecDepth 100000 in
theorem t_Co_unevenness_17b (v0 : Nat) (v1 : Int32) (v2 : Int32) (v3 : Int32) (v4 : Int32) (h : HP) : xx_S (xx_D "LampYard$Course" tb_Co_unevenness 5 1 (some .int) false) (xx_z2 (fun s : (Int32 × Int32 × Int32 × HP) => s.2.2.2) xz_i) (fun K => xx_L2 (fun s : (Int32 × Int32 × Int32 × HP) => xx_X K 17 [(0, av_R 1 (some v0)), (1, av_I v1), (2, av_I s.1), (3, av_I s.2.1), (4, av_I s.2.2.1)] [] (s.2.2.2)) (xL_i K)) 17 [(0, av_R 1 (some v0)), (1, av_I v1), (2, av_I v2), (3, av_I v3), (4, av_I v4)] [] h (f_Co_unevenness_17b v0 v1 v2 v3 v4 h) := by
  unfold f_Co_unevenness_17b
  refine xs_step (fun K HC => xr_iload HC.1 12 19 (ix := 4) (j := 4) (x := v4) rfl rfl rfl) ?_
  refine xs_step (fun K HC => xr_iload_n HC.1 13 20 (n := 1) (ix := 1) (j := 1) (x := v1) rfl rfl rfl rfl) ?_
  refine xs_ite (fun K HC => xr_icmp_ge HC.1 14 60 23 rfl (by decide) rfl) ?_ ?_
  · refine xs_step (fun K HC => xr_iload_n HC.1 34 61 (n := 3) (ix := 3) (j := 3) (x := v3) rfl rfl rfl rfl) ?_
    refine xs_step (fun K HC => xr_iload_n HC.1 35 62 (n := 2) (ix := 2) (j := 2) (x := v2) rfl rfl rfl rfl) ?_
    refine xs_step (fun K HC => xr_isub HC.1 36 63 rfl rfl) ?_
    exact xs_reti 37 rfl rfl (fun K q => q) (fun ty ht => by cases ht; rfl)
  refine xs_step (fun K HC => xr_iload HC.1 15 25 (ix := 4) (j := 4) (x := v4) rfl rfl rfl) ?_
  refine xs_step (fun K HC => xr_bipush HC.1 16 27 (n := (6)) (6 : Int32) rfl rfl rfl) ?_
  refine xs_ite (fun K HC => xr_icmp_ge HC.1 17 60 30 rfl (by decide) rfl) ?_ ?_
  · refine xs_step (fun K HC => xr_iload_n HC.1 34 61 (n := 3) (ix := 3) (j := 3) (x := v3) rfl rfl rfl rfl) ?_
    refine xs_step (fun K HC => xr_iload_n HC.1 35 62 (n := 2) (ix := 2) (j := 2) (x := v2) rfl rfl rfl rfl) ?_
    refine xs_step (fun K HC => xr_isub HC.1 36 63 rfl rfl) ?_
    exact xs_reti 37 rfl rfl (fun K q => q) (fun ty ht => by cases ht; rfl)
  refine xs_step (fun K HC => xr_iload_n HC.1 18 31 (n := 2) (ix := 2) (j := 2) (x := v2) rfl rfl rfl rfl) ?_
  refine xs_step (fun K HC => xr_aload_n HC.1 19 32 (n := 0) (ix := 0) (j := 0) (c := 1) (x := v0) rfl rfl rfl rfl) ?_
  refine xs_bind (fun q_7 eq_7 => ?_)
  refine xs_step (fun K HC => xr_getr HC.1 20 35 1 4 13 eq_7 rfl rfl wf_Co_9 (by decide) fb_1_4 fc_1_4 fd_1_4) ?_
  refine xs_step (fun K HC => xr_iload HC.1 21 37 (ix := 4) (j := 4) (x := v4) rfl rfl rfl) ?_
  refine xs_chk (fun hb_8 => ?_)
  refine xs_step (fun K HC => xr_iald HC.1 22 38 (hp_in_vp hb_8) rfl rfl) ?_
  refine xs_stepb (fun K HC hb => xr_min HC.1 23 41 hb rfl rfl wm_Co_57 ly_mmin1 ly_m0 ly_mmin2 (by decide) (Nat.le_of_ble_eq_true rfl)) ?_
  refine xs_topi (fun v2_9 => ?_)
  refine xs_step (fun K HC => xr_istore_n HC.1 24 42 (n := 2) (ix := 2) (lv' := [(0, av_R 1 (some v0)), (1, av_I v1), (2, av_I v2_9), (3, av_I v3), (4, av_I v4)]) rfl rfl rfl (by decide) rfl) ?_
  refine xs_step (fun K HC => xr_iload_n HC.1 25 43 (n := 3) (ix := 3) (j := 3) (x := v3) rfl rfl rfl rfl) ?_
  refine xs_step (fun K HC => xr_aload_n HC.1 26 44 (n := 0) (ix := 0) (j := 0) (c := 1) (x := v0) rfl rfl rfl rfl) ?_
  refine xs_bind (fun q_10 eq_10 => ?_)
  refine xs_step (fun K HC => xr_getr HC.1 27 47 1 4 13 eq_10 rfl rfl wf_Co_9 (by decide) fb_1_4 fc_1_4 fd_1_4) ?_
  refine xs_step (fun K HC => xr_iload HC.1 28 49 (ix := 4) (j := 4) (x := v4) rfl rfl rfl) ?_
  refine xs_chk (fun hb_11 => ?_)
  refine xs_step (fun K HC => xr_iald HC.1 29 50 (hp_in_vp hb_11) rfl rfl) ?_
  refine xs_stepb (fun K HC hb => xr_max HC.1 30 53 hb rfl rfl wm_Co_63 ly_mmax1 ly_m0 ly_mmax2 (by decide) (Nat.le_of_ble_eq_true rfl)) ?_
  refine xs_topi (fun v3_12 => ?_)
  refine xs_step (fun K HC => xr_istore_n HC.1 31 54 (n := 3) (ix := 3) (lv' := [(0, av_R 1 (some v0)), (1, av_I v1), (2, av_I v2_9), (3, av_I v3_12), (4, av_I v4)]) rfl rfl rfl (by decide) rfl) ?_
  refine xs_gen (fun v4_13 ev4_13 => ?_)
  refine xs_step (fun K HC => xr_iinc HC.1 32 57 (ix := 4) (j := 4) (n := (1)) (x := v4) v4_13 (lv' := [(0, av_R 1 (some v0)), (1, av_I v1), (2, av_I v2_9), (3, av_I v3_12), (4, av_I v4_13)]) rfl (by rw [ev4_13]; rfl) rfl rfl (by decide) rfl) ?_
  refine xs_step (fun K HC => xr_goto HC.1 33 17 rfl (by decide)) ?_
  exact xs_back rfl (fun K q => q)
theorem t_Co_unevenness_17 (v0 : Nat) (v1 : Int32) (v2 : Int32) (v3 : Int32) (v4 : Int32) (h : HP) : xx_S (xx_D "LampYard$Course" tb_Co_unevenness 5 1 (some .int) false) xz_i (fun K => xL_i K) 17 [(0, av_R 1 (some v0)), (1, av_I v1), (2, av_I v2), (3, av_I v3), (4, av_I v4)] [] h (f_Co_unevenness_17 v0 v1 v2 v3 v4 h) :=
  xs_loop (zf := xz_i) (L := (fun K => xL_i K)) (fun s : (Int32 × Int32 × Int32 × HP) => [(0, av_R 1 (some v0)), (1, av_I v1), (2, av_I s.1), (3, av_I s.2.1), (4, av_I s.2.2.1)]) (fun s : (Int32 × Int32 × Int32 × HP) => s.2.2.2) (fun s => t_Co_unevenness_17b v0 v1 s.1 s.2.1 s.2.2.1 s.2.2.2) (v2, v3, v4, h)
set_option maxHeartbeats 4000000 in
set_option maxRecDepth 100000 in
theorem t_Co_unevenness (v0 : Nat) (v1 : Int32) (h : HP) : xx_S (xx_D "LampYard$Course" tb_Co_unevenness 5 1 (some .int) false) xz_i (fun K => xL_i K) 0 [(0, av_R 1 (some v0)), (1, av_I v1)] [] h (f_Co_unevenness v0 v1 h) := by
  unfold f_Co_unevenness
  refine xs_step (fun K HC => xr_aload_n HC.1 0 1 (n := 0) (ix := 0) (j := 0) (c := 1) (x := v0) rfl rfl rfl rfl) ?_
  refine xs_bind (fun q_1 eq_1 => ?_)
  refine xs_step (fun K HC => xr_getr HC.1 1 4 1 4 13 eq_1 rfl rfl wf_Co_9 (by decide) fb_1_4 fc_1_4 fd_1_4) ?_
  refine xs_step (fun K HC => xr_iconst HC.1 2 5 (n := (0)) (0 : Int32) rfl rfl rfl) ?_
  refine xs_chk (fun hb_2 => ?_)
  refine xs_step (fun K HC => xr_iald HC.1 3 6 (hp_in_vp hb_2) rfl rfl) ?_
  refine xs_topi (fun v2_3 => ?_)
  refine xs_step (fun K HC => xr_istore_n HC.1 4 7 (n := 2) (ix := 2) (lv' := [(0, av_R 1 (some v0)), (1, av_I v1), (2, av_I v2_3)]) rfl rfl rfl (by decide) rfl) ?_
  refine xs_step (fun K HC => xr_aload_n HC.1 5 8 (n := 0) (ix := 0) (j := 0) (c := 1) (x := v0) rfl rfl rfl rfl) ?_
  refine xs_bind (fun q_4 eq_4 => ?_)
  refine xs_step (fun K HC => xr_getr HC.1 6 11 1 4 13 eq_4 rfl rfl wf_Co_9 (by decide) fb_1_4 fc_1_4 fd_1_4) ?_
  refine xs_step (fun K HC => xr_iconst HC.1 7 12 (n := (0)) (0 : Int32) rfl rfl rfl) ?_
  refine xs_chk (fun hb_5 => ?_)
  refine xs_step (fun K HC => xr_iald HC.1 8 13 (hp_in_vp hb_5) rfl rfl) ?_
  refine xs_topi (fun v3_6 => ?_)
  refine xs_step (fun K HC => xr_istore_n HC.1 9 14 (n := 3) (ix := 3) (lv' := [(0, av_R 1 (some v0)), (1, av_I v1), (2, av_I v2_3), (3, av_I v3_6)]) rfl rfl rfl (by decide) rfl) ?_
  refine xs_step (fun K HC => xr_iconst HC.1 10 15 (n := (1)) (1 : Int32) rfl rfl rfl) ?_
  refine xs_step (fun K HC => xr_istore HC.1 11 17 (ix := 4) (lv' := [(0, av_R 1 (some v0)), (1, av_I v1), (2, av_I v2_3), (3, av_I v3_6), (4, av_I (1 : Int32))]) rfl rfl (by decide) rfl) ?_
  exact t_Co_unevenness_17 v0 v1 v2_3 v3_6 (1 : Int32) h
theorem s_Co_unevenness (v0 : Nat) (v1 : Int32) (h : HP) : ∀ x, f_Co_unevenness v0 v1 h = some x → hp_mo h x.2 ∧ ∀ g l, xx_M g l y_Co_unevenness prog_3_method_5_code 5 (some .int) 1 [av_R 1 (some v0), av_I v1] h (some (av_I x.1)) x.2 :=
  xM_i (tb := tb_Co_unevenness) (b := false) (by decide +kernel) dt_Co_unevenness (fun _ => trivial) (Nat.le_of_ble_eq_true rfl) (fun hb => by cases hb) (t_Co_unevenness v0 v1 h)
def tb_X_fair : TBL := [(0, .aload_n 0, 1), (1, .getfield 23, 3), (4, .getfield 63, 3), (7, .ifCond .ne 5, 3), (10, .iconst (-1), 1), (11, .ireturn, 1), (12, .aload_n 0, 1), (13, .getfield 33, 3), (16, .aload_n 0, 1), (17, .getfield 23, 3), (20, .getfield 63, 3), (23, .invokevirtual 226, 3), (26, .ireturn, 1)]
theorem dt_X_fair : ∀ q ∈ tb_X_fair, decode prog_1_method_26_code q.1 = .ok (q.2.1, q.2.2) := by decide +kernel
set_option maxHeartbeats 4000000 in
set_option maxRecDepth 100000 in
theorem t_X_fair (v0 : Nat) (h : HP) : xx_S (xx_D "LampYard" tb_X_fair 1 2 (some .int) false) xz_i (fun K => xL_i K) 0 [(0, av_R 10 (some v0))] [] h (f_X_fair v0 h) := by
  unfold f_X_fair
  refine xs_step (fun K HC => xr_aload_n HC.1 0 1 (n := 0) (ix := 0) (j := 0) (c := 10) (x := v0) rfl rfl rfl rfl) ?_
  refine xs_bind (fun q_1 eq_1 => ?_)
  refine xs_step (fun K HC => xr_getr HC.1 1 4 10 3 4 eq_1 rfl rfl wf_X_23 (by decide) fb_10_3 fc_10_3 fd_10_3) ?_
  refine xs_step (fun K HC => xr_geti HC.1 2 7 4 5 rfl rfl wf_X_63 (by decide) fb_4_5 fc_4_5) ?_
  refine xs_ite (fun K HC a b => xr_if_ne HC.1 3 12 10 rfl (by decide) rfl b a) ?_ ?_
  · refine xs_step (fun K HC => xr_iconst HC.1 4 11 (n := (-1)) (-1 : Int32) rfl rfl rfl) ?_
    exact xs_reti 5 rfl rfl (fun K q => q) (fun ty ht => by cases ht; rfl)
  refine xs_step (fun K HC => xr_aload_n HC.1 6 13 (n := 0) (ix := 0) (j := 0) (c := 10) (x := v0) rfl rfl rfl rfl) ?_
  refine xs_bind (fun q_2 eq_2 => ?_)
  refine xs_step (fun K HC => xr_getr HC.1 7 16 10 5 1 eq_2 rfl rfl wf_X_33 (by decide) fb_10_5 fc_10_5 fd_10_5) ?_
  refine xs_step (fun K HC => xr_aload_n HC.1 8 17 (n := 0) (ix := 0) (j := 0) (c := 10) (x := v0) rfl rfl rfl rfl) ?_
  refine xs_bind (fun q_3 eq_3 => ?_)
  refine xs_step (fun K HC => xr_getr HC.1 9 20 10 3 4 eq_3 rfl rfl wf_X_23 (by decide) fb_10_3 fc_10_3 fd_10_3) ?_
  refine xs_step (fun K HC => xr_geti HC.1 10 23 4 5 rfl rfl wf_X_63 (by decide) fb_4_5 fc_4_5) ?_
  refine xs_calli (s_Co_unevenness q_2 (hp_i h q_3 5) h) (fun K HC x9 hM hmo hb => xr_callV HC.1 11 26 (av := [av_I (hp_i h q_3 5)]) (st := []) (hM (kg K) (cx_l (kx K))) hmo hb rfl rfl wm_X_226 wi_Co_unevenness ws_Co_unevenness wc_Co_unevenness rfl wh_Co_unevenness (by decide) (by decide) (by decide) (Nat.le_of_ble_eq_true rfl) rfl) (fun x_4 => ?_)
  exact xs_reti 12 rfl rfl (fun K q => q) (fun ty ht => by cases ht; rfl)
theorem s_X_fair (v0 : Nat) (h : HP) : ∀ x, f_X_fair v0 h = some x → hp_mo h x.2 ∧ ∀ g l, xx_M g l y_X_fair prog_1_method_26_code 1 (some .int) 2 [av_R 10 (some v0)] h (some (av_I x.1)) x.2 :=
  xM_i (tb := tb_X_fair) (b := false) (by decide +kernel) dt_X_fair (fun _ => trivial) (Nat.le_of_ble_eq_true rfl) (fun hb => by cases hb) (t_X_fair v0 h)
def tb_Lo_tell : TBL := [(0, .iload_n 1, 1), (1, .ifCond .lt 18, 3), (4, .iload_n 1, 1), (5, .bipush 100, 2), (7, .if_icmp .ge 12, 3), (10, .aload_n 0, 1), (11, .getfield 30, 3), (14, .bipush 60, 2), (16, .if_icmp .lt 5, 3), (19, .iconst (-1), 1), (20, .ireturn, 1), (21, .aload_n 0, 1), (22, .getfield 11, 3), (25, .aload_n 0, 1), (26, .getfield 30, 3), (29, .iload_n 1, 1), (30, .iastore, 1), (31, .aload_n 0, 1), (32, .getfield 15, 3), (35, .aload_n 0, 1), (36, .getfield 30, 3), (39, .iload_n 2, 1), (40, .iastore, 1), (41, .aload_n 0, 1), (42, .getfield 18, 3), (45, .aload_n 0, 1), (46, .getfield 30, 3), (49, .aload_n 0, 1), (50, .getfield 34, 3), (53, .iastore, 1), (54, .aload_n 0, 1), (55, .getfield 21, 3), (58, .aload_n 0, 1), (59, .getfield 30, 3), (62, .iconst (-1), 1), (63, .iastore, 1), (64, .aload_n 0, 1), (65, .dup, 1), (66, .getfield 30, 3), (69, .iconst 1, 1), (70, .iadd, 1), (71, .putfield 30, 3), (74, .aload_n 0, 1), (75, .getfield 30, 3), (78, .iconst 1, 1), (79, .isub, 1), (80, .ireturn, 1)]
theorem dt_Lo_tell : ∀ q ∈ tb_Lo_tell, decode prog_5_method_2_code q.1 = .ok (q.2.1, q.2.2) := by decide +kernel
set_option maxHeartbeats 4000000 in
set_option maxRecDepth 100000 in
theorem t_Lo_tell (v0 : Nat) (v1 : Int32) (v2 : Int32) (h : HP) : xx_S (xx_D "LampYard$Logs" tb_Lo_tell 3 1 (some .int) false) xz_i (fun K => xL_i K) 0 [(0, av_R 3 (some v0)), (1, av_I v1), (2, av_I v2)] [] h (f_Lo_tell v0 v1 v2 h) := by
  unfold f_Lo_tell
  refine xs_step (fun K HC => xr_iload_n HC.1 0 1 (n := 1) (ix := 1) (j := 1) (x := v1) rfl rfl rfl rfl) ?_
  refine xs_ite (fun K HC => xr_if_lt HC.1 1 19 4 rfl (by decide) rfl) ?_ ?_
  · refine xs_step (fun K HC => xr_iconst HC.1 9 20 (n := (-1)) (-1 : Int32) rfl rfl rfl) ?_
    exact xs_reti 10 rfl rfl (fun K q => q) (fun ty ht => by cases ht; rfl)
  refine xs_step (fun K HC => xr_iload_n HC.1 2 5 (n := 1) (ix := 1) (j := 1) (x := v1) rfl rfl rfl rfl) ?_
  refine xs_step (fun K HC => xr_bipush HC.1 3 7 (n := (100)) (100 : Int32) rfl rfl rfl) ?_
  refine xs_ite (fun K HC => xr_icmp_ge HC.1 4 19 10 rfl (by decide) rfl) ?_ ?_
  · refine xs_step (fun K HC => xr_iconst HC.1 9 20 (n := (-1)) (-1 : Int32) rfl rfl rfl) ?_
    exact xs_reti 10 rfl rfl (fun K q => q) (fun ty ht => by cases ht; rfl)
  refine xs_step (fun K HC => xr_aload_n HC.1 5 11 (n := 0) (ix := 0) (j := 0) (c := 3) (x := v0) rfl rfl rfl rfl) ?_
  refine xs_step (fun K HC => xr_geti HC.1 6 14 3 0 rfl rfl wf_Lo_30 (by decide) fb_3_0 fc_3_0) ?_
  refine xs_step (fun K HC => xr_bipush HC.1 7 16 (n := (60)) (60 : Int32) rfl rfl rfl) ?_
  refine xs_ite (fun K HC => xr_icmp_lt HC.1 8 21 19 rfl (by decide) rfl) ?_ ?_
  · refine xs_step (fun K HC => xr_aload_n HC.1 11 22 (n := 0) (ix := 0) (j := 0) (c := 3) (x := v0) rfl rfl rfl rfl) ?_
    refine xs_bind (fun q_1 eq_1 => ?_)
    refine xs_step (fun K HC => xr_getr HC.1 12 25 3 2 13 eq_1 rfl rfl wf_Lo_11 (by decide) fb_3_2 fc_3_2 fd_3_2) ?_
    refine xs_step (fun K HC => xr_aload_n HC.1 13 26 (n := 0) (ix := 0) (j := 0) (c := 3) (x := v0) rfl rfl rfl rfl) ?_
    refine xs_step (fun K HC => xr_geti HC.1 14 29 3 0 rfl rfl wf_Lo_30 (by decide) fb_3_0 fc_3_0) ?_
    refine xs_step (fun K HC => xr_iload_n HC.1 15 30 (n := 1) (ix := 1) (j := 1) (x := v1) rfl rfl rfl rfl) ?_
    refine xs_chk (fun hb_2 => ?_)
    refine xs_heap (hp_mo_si _ _ _ _) (fun K HC => xr_iast HC.1 16 31 (hp_in_vp hb_2) rfl rfl) (fun h_3 => ?_)
    refine xs_step (fun K HC => xr_aload_n HC.1 17 32 (n := 0) (ix := 0) (j := 0) (c := 3) (x := v0) rfl rfl rfl rfl) ?_
    refine xs_bind (fun q_4 eq_4 => ?_)
    refine xs_step (fun K HC => xr_getr HC.1 18 35 3 3 13 eq_4 rfl rfl wf_Lo_15 (by decide) fb_3_3 fc_3_3 fd_3_3) ?_
    refine xs_step (fun K HC => xr_aload_n HC.1 19 36 (n := 0) (ix := 0) (j := 0) (c := 3) (x := v0) rfl rfl rfl rfl) ?_
    refine xs_step (fun K HC => xr_geti HC.1 20 39 3 0 rfl rfl wf_Lo_30 (by decide) fb_3_0 fc_3_0) ?_
    refine xs_step (fun K HC => xr_iload_n HC.1 21 40 (n := 2) (ix := 2) (j := 2) (x := v2) rfl rfl rfl rfl) ?_
    refine xs_chk (fun hb_5 => ?_)
    refine xs_heap (hp_mo_si _ _ _ _) (fun K HC => xr_iast HC.1 22 41 (hp_in_vp hb_5) rfl rfl) (fun h_6 => ?_)
    refine xs_step (fun K HC => xr_aload_n HC.1 23 42 (n := 0) (ix := 0) (j := 0) (c := 3) (x := v0) rfl rfl rfl rfl) ?_
    refine xs_bind (fun q_7 eq_7 => ?_)
    refine xs_step (fun K HC => xr_getr HC.1 24 45 3 4 13 eq_7 rfl rfl wf_Lo_18 (by decide) fb_3_4 fc_3_4 fd_3_4) ?_
    refine xs_step (fun K HC => xr_aload_n HC.1 25 46 (n := 0) (ix := 0) (j := 0) (c := 3) (x := v0) rfl rfl rfl rfl) ?_
    refine xs_step (fun K HC => xr_geti HC.1 26 49 3 0 rfl rfl wf_Lo_30 (by decide) fb_3_0 fc_3_0) ?_
    refine xs_step (fun K HC => xr_aload_n HC.1 27 50 (n := 0) (ix := 0) (j := 0) (c := 3) (x := v0) rfl rfl rfl rfl) ?_
    refine xs_step (fun K HC => xr_geti HC.1 28 53 3 1 rfl rfl wf_Lo_34 (by decide) fb_3_1 fc_3_1) ?_
    refine xs_chk (fun hb_8 => ?_)
    refine xs_heap (hp_mo_si _ _ _ _) (fun K HC => xr_iast HC.1 29 54 (hp_in_vp hb_8) rfl rfl) (fun h_9 => ?_)
    refine xs_step (fun K HC => xr_aload_n HC.1 30 55 (n := 0) (ix := 0) (j := 0) (c := 3) (x := v0) rfl rfl rfl rfl) ?_
    refine xs_bind (fun q_10 eq_10 => ?_)
    refine xs_step (fun K HC => xr_getr HC.1 31 58 3 5 13 eq_10 rfl rfl wf_Lo_21 (by decide) fb_3_5 fc_3_5 fd_3_5) ?_
    refine xs_step (fun K HC => xr_aload_n HC.1 32 59 (n := 0) (ix := 0) (j := 0) (c := 3) (x := v0) rfl rfl rfl rfl) ?_
    refine xs_step (fun K HC => xr_geti HC.1 33 62 3 0 rfl rfl wf_Lo_30 (by decide) fb_3_0 fc_3_0) ?_
    refine xs_step (fun K HC => xr_iconst HC.1 34 63 (n := (-1)) (-1 : Int32) rfl rfl rfl) ?_
    refine xs_chk (fun hb_11 => ?_)
    refine xs_heap (hp_mo_si _ _ _ _) (fun K HC => xr_iast HC.1 35 64 (hp_in_vp hb_11) rfl rfl) (fun h_12 => ?_)
    refine xs_step (fun K HC => xr_aload_n HC.1 36 65 (n := 0) (ix := 0) (j := 0) (c := 3) (x := v0) rfl rfl rfl rfl) ?_
    refine xs_step (fun K HC => xr_dup HC.1 37 66 rfl rfl rfl) ?_
    refine xs_step (fun K HC => xr_geti HC.1 38 69 3 0 rfl rfl wf_Lo_30 (by decide) fb_3_0 fc_3_0) ?_
    refine xs_step (fun K HC => xr_iconst HC.1 39 70 (n := (1)) (1 : Int32) rfl rfl rfl) ?_
    refine xs_step (fun K HC => xr_iadd HC.1 40 71 rfl rfl) ?_
    refine xs_heap (hp_mo_si _ _ _ _) (fun K HC => xr_puti HC.1 41 74 3 0 rfl rfl wf_Lo_30 (by decide) fb_3_0 fn_3_0 fy_3_0) (fun h_13 => ?_)
    refine xs_step (fun K HC => xr_aload_n HC.1 42 75 (n := 0) (ix := 0) (j := 0) (c := 3) (x := v0) rfl rfl rfl rfl) ?_
    refine xs_step (fun K HC => xr_geti HC.1 43 78 3 0 rfl rfl wf_Lo_30 (by decide) fb_3_0 fc_3_0) ?_
    refine xs_step (fun K HC => xr_iconst HC.1 44 79 (n := (1)) (1 : Int32) rfl rfl rfl) ?_
    refine xs_step (fun K HC => xr_isub HC.1 45 80 rfl rfl) ?_
    exact xs_reti 46 rfl rfl (fun K q => q) (fun ty ht => by cases ht; rfl)
  refine xs_step (fun K HC => xr_iconst HC.1 9 20 (n := (-1)) (-1 : Int32) rfl rfl rfl) ?_
  exact xs_reti 10 rfl rfl (fun K q => q) (fun ty ht => by cases ht; rfl)
theorem s_Lo_tell (v0 : Nat) (v1 : Int32) (v2 : Int32) (h : HP) : ∀ x, f_Lo_tell v0 v1 v2 h = some x → hp_mo h x.2 ∧ ∀ g l, xx_M g l y_Lo_tell prog_5_method_2_code 3 (some .int) 1 [av_R 3 (some v0), av_I v1, av_I v2] h (some (av_I x.1)) x.2 :=
  xM_i (tb := tb_Lo_tell) (b := false) (by decide +kernel) dt_Lo_tell (fun _ => trivial) (Nat.le_of_ble_eq_true rfl) (fun hb => by cases hb) (t_Lo_tell v0 v1 v2 h)
def tb_X_log : TBL := [(0, .aload_n 0, 1), (1, .getfield 23, 3), (4, .iload_n 2, 1), (5, .invokevirtual 80, 3), (8, .ifCond .ne 5, 3), (11, .iconst (-1), 1), (12, .ireturn, 1), (13, .aload_n 0, 1), (14, .getfield 44, 3), (17, .iload_n 1, 1), (18, .iload_n 2, 1), (19, .invokevirtual 229, 3), (22, .ireturn, 1)]
theorem dt_X_log : ∀ q ∈ tb_X_log, decode prog_1_method_27_code q.1 = .ok (q.2.1, q.2.2) := by decide +kernel
set_option maxHeartbeats 4000000 in
set_option maxRecDepth 100000 in
theorem t_X_log (v0 : Nat) (v1 : Int32) (v2 : Int32) (h : HP) : xx_S (xx_D "LampYard" tb_X_log 3 2 (some .int) false) xz_i (fun K => xL_i K) 0 [(0, av_R 10 (some v0)), (1, av_I v1), (2, av_I v2)] [] h (f_X_log v0 v1 v2 h) := by
  unfold f_X_log
  refine xs_step (fun K HC => xr_aload_n HC.1 0 1 (n := 0) (ix := 0) (j := 0) (c := 10) (x := v0) rfl rfl rfl rfl) ?_
  refine xs_bind (fun q_1 eq_1 => ?_)
  refine xs_step (fun K HC => xr_getr HC.1 1 4 10 3 4 eq_1 rfl rfl wf_X_23 (by decide) fb_10_3 fc_10_3 fd_10_3) ?_
  refine xs_step (fun K HC => xr_iload_n HC.1 2 5 (n := 2) (ix := 2) (j := 2) (x := v2) rfl rfl rfl rfl) ?_
  refine xs_calli (s_Pl_hasMan q_1 v2 h) (fun K HC x9 hM hmo hb => xr_callV HC.1 3 8 (av := [av_I v2]) (st := []) (hM (kg K) (cx_l (kx K))) hmo hb rfl rfl wm_X_80 wi_Pl_hasMan ws_Pl_hasMan wc_Pl_hasMan rfl wh_Pl_hasMan (by decide) (by decide) (by decide) (Nat.le_of_ble_eq_true rfl) rfl) (fun x_2 => ?_)
  refine xs_ite (fun K HC a b => xr_if_ne HC.1 4 13 11 rfl (by decide) rfl b a) ?_ ?_
  · refine xs_step (fun K HC => xr_iconst HC.1 5 12 (n := (-1)) (-1 : Int32) rfl rfl rfl) ?_
    exact xs_reti 6 rfl rfl (fun K q => q) (fun ty ht => by cases ht; rfl)
  refine xs_step (fun K HC => xr_aload_n HC.1 7 14 (n := 0) (ix := 0) (j := 0) (c := 10) (x := v0) rfl rfl rfl rfl) ?_
  refine xs_bind (fun q_3 eq_3 => ?_)
  refine xs_step (fun K HC => xr_getr HC.1 8 17 10 7 3 eq_3 rfl rfl wf_X_44 (by decide) fb_10_7 fc_10_7 fd_10_7) ?_
  refine xs_step (fun K HC => xr_iload_n HC.1 9 18 (n := 1) (ix := 1) (j := 1) (x := v1) rfl rfl rfl rfl) ?_
  refine xs_step (fun K HC => xr_iload_n HC.1 10 19 (n := 2) (ix := 2) (j := 2) (x := v2) rfl rfl rfl rfl) ?_
  refine xs_calli (s_Lo_tell q_3 v1 v2 x_2.2) (fun K HC x9 hM hmo hb => xr_callV HC.1 11 22 (av := [av_I v1, av_I v2]) (st := []) (hM (kg K) (cx_l (kx K))) hmo hb rfl rfl wm_X_229 wi_Lo_tell ws_Lo_tell wc_Lo_tell rfl wh_Lo_tell (by decide) (by decide) (by decide) (Nat.le_of_ble_eq_true rfl) rfl) (fun x_4 => ?_)
  exact xs_reti 12 rfl rfl (fun K q => q) (fun ty ht => by cases ht; rfl)
theorem s_X_log (v0 : Nat) (v1 : Int32) (v2 : Int32) (h : HP) : ∀ x, f_X_log v0 v1 v2 h = some x → hp_mo h x.2 ∧ ∀ g l, xx_M g l y_X_log prog_1_method_27_code 3 (some .int) 2 [av_R 10 (some v0), av_I v1, av_I v2] h (some (av_I x.1)) x.2 :=
  xM_i (tb := tb_X_log) (b := false) (by decide +kernel) dt_X_log (fun _ => trivial) (Nat.le_of_ble_eq_true rfl) (fun hb => by cases hb) (t_X_log v0 v1 v2 h)
def tb_Lo_takeBack : TBL := [(0, .iload_n 1, 1), (1, .ifCond .lt 21, 3), (4, .iload_n 1, 1), (5, .aload_n 0, 1), (6, .getfield 30, 3), (9, .if_icmp .ge 13, 3), (12, .aload_n 0, 1), (13, .getfield 21, 3), (16, .iload_n 1, 1), (17, .iaload, 1), (18, .iconst (-1), 1), (19, .if_icmp .eq 5, 3), (22, .iconst 0, 1), (23, .ireturn, 1), (24, .aload_n 0, 1), (25, .getfield 21, 3), (28, .iload_n 1, 1), (29, .aload_n 0, 1), (30, .getfield 34, 3), (33, .iastore, 1), (34, .iconst 1, 1), (35, .ireturn, 1)]
theorem dt_Lo_takeBack : ∀ q ∈ tb_Lo_takeBack, decode prog_5_method_3_code q.1 = .ok (q.2.1, q.2.2) := by decide +kernel
set_option maxHeartbeats 4000000 in
set_option maxRecDepth 100000 in
theorem t_Lo_takeBack (v0 : Nat) (v1 : Int32) (h : HP) : xx_S (xx_D "LampYard$Logs" tb_Lo_takeBack 2 1 (some .boolean) false) xz_i (fun K => xL_i K) 0 [(0, av_R 3 (some v0)), (1, av_I v1)] [] h (f_Lo_takeBack v0 v1 h) := by
  unfold f_Lo_takeBack
  refine xs_step (fun K HC => xr_iload_n HC.1 0 1 (n := 1) (ix := 1) (j := 1) (x := v1) rfl rfl rfl rfl) ?_
  refine xs_ite (fun K HC => xr_if_lt HC.1 1 22 4 rfl (by decide) rfl) ?_ ?_
  · refine xs_step (fun K HC => xr_iconst HC.1 12 23 (n := (0)) (0 : Int32) rfl rfl rfl) ?_
    exact xs_reti 13 rfl rfl (fun K q => q) (fun ty ht => by cases ht; rfl)
  refine xs_step (fun K HC => xr_iload_n HC.1 2 5 (n := 1) (ix := 1) (j := 1) (x := v1) rfl rfl rfl rfl) ?_
  refine xs_step (fun K HC => xr_aload_n HC.1 3 6 (n := 0) (ix := 0) (j := 0) (c := 3) (x := v0) rfl rfl rfl rfl) ?_
  refine xs_step (fun K HC => xr_geti HC.1 4 9 3 0 rfl rfl wf_Lo_30 (by decide) fb_3_0 fc_3_0) ?_
  refine xs_ite (fun K HC => xr_icmp_ge HC.1 5 22 12 rfl (by decide) rfl) ?_ ?_
  · refine xs_step (fun K HC => xr_iconst HC.1 12 23 (n := (0)) (0 : Int32) rfl rfl rfl) ?_
    exact xs_reti 13 rfl rfl (fun K q => q) (fun ty ht => by cases ht; rfl)
  refine xs_step (fun K HC => xr_aload_n HC.1 6 13 (n := 0) (ix := 0) (j := 0) (c := 3) (x := v0) rfl rfl rfl rfl) ?_
  refine xs_bind (fun q_1 eq_1 => ?_)
  refine xs_step (fun K HC => xr_getr HC.1 7 16 3 5 13 eq_1 rfl rfl wf_Lo_21 (by decide) fb_3_5 fc_3_5 fd_3_5) ?_
  refine xs_step (fun K HC => xr_iload_n HC.1 8 17 (n := 1) (ix := 1) (j := 1) (x := v1) rfl rfl rfl rfl) ?_
  refine xs_chk (fun hb_2 => ?_)
  refine xs_step (fun K HC => xr_iald HC.1 9 18 (hp_in_vp hb_2) rfl rfl) ?_
  refine xs_step (fun K HC => xr_iconst HC.1 10 19 (n := (-1)) (-1 : Int32) rfl rfl rfl) ?_
  refine xs_ite (fun K HC => xr_icmp_eq HC.1 11 24 22 rfl (by decide) rfl) ?_ ?_
  · refine xs_step (fun K HC => xr_aload_n HC.1 14 25 (n := 0) (ix := 0) (j := 0) (c := 3) (x := v0) rfl rfl rfl rfl) ?_
    refine xs_bind (fun q_3 eq_3 => ?_)
    refine xs_step (fun K HC => xr_getr HC.1 15 28 3 5 13 eq_3 rfl rfl wf_Lo_21 (by decide) fb_3_5 fc_3_5 fd_3_5) ?_
    refine xs_step (fun K HC => xr_iload_n HC.1 16 29 (n := 1) (ix := 1) (j := 1) (x := v1) rfl rfl rfl rfl) ?_
    refine xs_step (fun K HC => xr_aload_n HC.1 17 30 (n := 0) (ix := 0) (j := 0) (c := 3) (x := v0) rfl rfl rfl rfl) ?_
    refine xs_step (fun K HC => xr_geti HC.1 18 33 3 1 rfl rfl wf_Lo_34 (by decide) fb_3_1 fc_3_1) ?_
    refine xs_chk (fun hb_4 => ?_)
    refine xs_heap (hp_mo_si _ _ _ _) (fun K HC => xr_iast HC.1 19 34 (hp_in_vp hb_4) rfl rfl) (fun h_5 => ?_)
    refine xs_step (fun K HC => xr_iconst HC.1 20 35 (n := (1)) (1 : Int32) rfl rfl rfl) ?_
    exact xs_reti 21 rfl rfl (fun K q => q) (fun ty ht => by cases ht; rfl)
  refine xs_step (fun K HC => xr_iconst HC.1 12 23 (n := (0)) (0 : Int32) rfl rfl rfl) ?_
  exact xs_reti 13 rfl rfl (fun K q => q) (fun ty ht => by cases ht; rfl)
theorem s_Lo_takeBack (v0 : Nat) (v1 : Int32) (h : HP) : ∀ x, f_Lo_takeBack v0 v1 h = some x → hp_mo h x.2 ∧ ∀ g l, xx_M g l y_Lo_takeBack prog_5_method_3_code 2 (some .boolean) 1 [av_R 3 (some v0), av_I v1] h (some (av_I x.1)) x.2 :=
  xM_i (tb := tb_Lo_takeBack) (b := false) (by decide +kernel) dt_Lo_takeBack (fun _ => trivial) (Nat.le_of_ble_eq_true rfl) (fun hb => by cases hb) (t_Lo_takeBack v0 v1 h)
def tb_X_untell : TBL := [(0, .aload_n 0, 1), (1, .getfield 44, 3), (4, .iload_n 1, 1), (5, .invokevirtual 232, 3), (8, .ireturn, 1)]
theorem dt_X_untell : ∀ q ∈ tb_X_untell, decode prog_1_method_28_code q.1 = .ok (q.2.1, q.2.2) := by decide +kernel
set_option maxHeartbeats 4000000 in
set_option maxRecDepth 100000 in
theorem t_X_untell (v0 : Nat) (v1 : Int32) (h : HP) : xx_S (xx_D "LampYard" tb_X_untell 2 2 (some .boolean) false) xz_i (fun K => xL_i K) 0 [(0, av_R 10 (some v0)), (1, av_I v1)] [] h (f_X_untell v0 v1 h) := by
  unfold f_X_untell
  refine xs_step (fun K HC => xr_aload_n HC.1 0 1 (n := 0) (ix := 0) (j := 0) (c := 10) (x := v0) rfl rfl rfl rfl) ?_
  refine xs_bind (fun q_1 eq_1 => ?_)
  refine xs_step (fun K HC => xr_getr HC.1 1 4 10 7 3 eq_1 rfl rfl wf_X_44 (by decide) fb_10_7 fc_10_7 fd_10_7) ?_
  refine xs_step (fun K HC => xr_iload_n HC.1 2 5 (n := 1) (ix := 1) (j := 1) (x := v1) rfl rfl rfl rfl) ?_
  refine xs_calli (s_Lo_takeBack q_1 v1 h) (fun K HC x9 hM hmo hb => xr_callV HC.1 3 8 (av := [av_I v1]) (st := []) (hM (kg K) (cx_l (kx K))) hmo hb rfl rfl wm_X_232 wi_Lo_takeBack ws_Lo_takeBack wc_Lo_takeBack rfl wh_Lo_takeBack (by decide) (by decide) (by decide) (Nat.le_of_ble_eq_true rfl) rfl) (fun x_2 => ?_)
  refine xs_chk (fun hz_3 => ?_)
  exact xs_reti 4 rfl rfl (fun K q => q) (fun ty ht => by cases ht; rcases hp_z01_or hz_3 with e9 | e9 <;> rw [e9] <;> rfl)
theorem s_X_untell (v0 : Nat) (v1 : Int32) (h : HP) : ∀ x, f_X_untell v0 v1 h = some x → hp_mo h x.2 ∧ ∀ g l, xx_M g l y_X_untell prog_1_method_28_code 2 (some .boolean) 2 [av_R 10 (some v0), av_I v1] h (some (av_I x.1)) x.2 :=
  xM_i (tb := tb_X_untell) (b := false) (by decide +kernel) dt_X_untell (fun _ => trivial) (Nat.le_of_ble_eq_true rfl) (fun hb => by cases hb) (t_X_untell v0 v1 h)
def tb_Lo_goOn : TBL := [(0, .iload_n 1, 1), (1, .ifCond .lt 21, 3), (4, .iload_n 1, 1), (5, .sipush 1000, 3), (8, .if_icmp .gt 14, 3), (11, .aload_n 0, 1), (12, .getfield 34, 3), (15, .iload_n 1, 1), (16, .iadd, 1), (17, .ldc 37, 2), (19, .if_icmp .le 5, 3), (22, .iconst (-1), 1), (23, .ireturn, 1), (24, .aload_n 0, 1), (25, .dup, 1), (26, .getfield 34, 3), (29, .iload_n 1, 1), (30, .iadd, 1), (31, .putfield 34, 3), (34, .aload_n 0, 1), (35, .getfield 34, 3), (38, .ireturn, 1)]
theorem dt_Lo_goOn : ∀ q ∈ tb_Lo_goOn, decode prog_5_method_4_code q.1 = .ok (q.2.1, q.2.2) := by decide +kernel
set_option maxHeartbeats 4000000 in
set_option maxRecDepth 100000 in
theorem t_Lo_goOn (v0 : Nat) (v1 : Int32) (h : HP) : xx_S (xx_D "LampYard$Logs" tb_Lo_goOn 2 1 (some .int) false) xz_i (fun K => xL_i K) 0 [(0, av_R 3 (some v0)), (1, av_I v1)] [] h (f_Lo_goOn v0 v1 h) := by
  unfold f_Lo_goOn
  refine xs_step (fun K HC => xr_iload_n HC.1 0 1 (n := 1) (ix := 1) (j := 1) (x := v1) rfl rfl rfl rfl) ?_
  refine xs_ite (fun K HC => xr_if_lt HC.1 1 22 4 rfl (by decide) rfl) ?_ ?_
  · refine xs_step (fun K HC => xr_iconst HC.1 11 23 (n := (-1)) (-1 : Int32) rfl rfl rfl) ?_
    exact xs_reti 12 rfl rfl (fun K q => q) (fun ty ht => by cases ht; rfl)
  refine xs_step (fun K HC => xr_iload_n HC.1 2 5 (n := 1) (ix := 1) (j := 1) (x := v1) rfl rfl rfl rfl) ?_
  refine xs_step (fun K HC => xr_sipush HC.1 3 8 (n := (1000)) (1000 : Int32) rfl rfl rfl) ?_
  refine xs_ite (fun K HC => xr_icmp_gt HC.1 4 22 11 rfl (by decide) rfl) ?_ ?_
  · refine xs_step (fun K HC => xr_iconst HC.1 11 23 (n := (-1)) (-1 : Int32) rfl rfl rfl) ?_
    exact xs_reti 12 rfl rfl (fun K q => q) (fun ty ht => by cases ht; rfl)
  refine xs_step (fun K HC => xr_aload_n HC.1 5 12 (n := 0) (ix := 0) (j := 0) (c := 3) (x := v0) rfl rfl rfl rfl) ?_
  refine xs_step (fun K HC => xr_geti HC.1 6 15 3 1 rfl rfl wf_Lo_34 (by decide) fb_3_1 fc_3_1) ?_
  refine xs_step (fun K HC => xr_iload_n HC.1 7 16 (n := 1) (ix := 1) (j := 1) (x := v1) rfl rfl rfl rfl) ?_
  refine xs_step (fun K HC => xr_iadd HC.1 8 17 rfl rfl) ?_
  refine xs_step (fun K HC => xr_ldc HC.1 9 19 wk_Lo_37 rfl rfl) ?_
  refine xs_ite (fun K HC => xr_icmp_le HC.1 10 24 22 rfl (by decide) rfl) ?_ ?_
  · refine xs_step (fun K HC => xr_aload_n HC.1 13 25 (n := 0) (ix := 0) (j := 0) (c := 3) (x := v0) rfl rfl rfl rfl) ?_
    refine xs_step (fun K HC => xr_dup HC.1 14 26 rfl rfl rfl) ?_
    refine xs_step (fun K HC => xr_geti HC.1 15 29 3 1 rfl rfl wf_Lo_34 (by decide) fb_3_1 fc_3_1) ?_
    refine xs_step (fun K HC => xr_iload_n HC.1 16 30 (n := 1) (ix := 1) (j := 1) (x := v1) rfl rfl rfl rfl) ?_
    refine xs_step (fun K HC => xr_iadd HC.1 17 31 rfl rfl) ?_
    refine xs_heap (hp_mo_si _ _ _ _) (fun K HC => xr_puti HC.1 18 34 3 1 rfl rfl wf_Lo_34 (by decide) fb_3_1 fn_3_1 fy_3_1) (fun h_1 => ?_)
    refine xs_step (fun K HC => xr_aload_n HC.1 19 35 (n := 0) (ix := 0) (j := 0) (c := 3) (x := v0) rfl rfl rfl rfl) ?_
    refine xs_step (fun K HC => xr_geti HC.1 20 38 3 1 rfl rfl wf_Lo_34 (by decide) fb_3_1 fc_3_1) ?_
    exact xs_reti 21 rfl rfl (fun K q => q) (fun ty ht => by cases ht; rfl)
  refine xs_step (fun K HC => xr_iconst HC.1 11 23 (n := (-1)) (-1 : Int32) rfl rfl rfl) ?_
  exact xs_reti 12 rfl rfl (fun K q => q) (fun ty ht => by cases ht; rfl)
theorem s_Lo_goOn (v0 : Nat) (v1 : Int32) (h : HP) : ∀ x, f_Lo_goOn v0 v1 h = some x → hp_mo h x.2 ∧ ∀ g l, xx_M g l y_Lo_goOn prog_5_method_4_code 2 (some .int) 1 [av_R 3 (some v0), av_I v1] h (some (av_I x.1)) x.2 :=
  xM_i (tb := tb_Lo_goOn) (b := false) (by decide +kernel) dt_Lo_goOn (fun _ => trivial) (Nat.le_of_ble_eq_true rfl) (fun hb => by cases hb) (t_Lo_goOn v0 v1 h)
def tb_X_later : TBL := [(0, .aload_n 0, 1), (1, .getfield 44, 3), (4, .iload_n 1, 1), (5, .invokevirtual 235, 3), (8, .ireturn, 1)]
theorem dt_X_later : ∀ q ∈ tb_X_later, decode prog_1_method_29_code q.1 = .ok (q.2.1, q.2.2) := by decide +kernel
set_option maxHeartbeats 4000000 in
set_option maxRecDepth 100000 in
theorem t_X_later (v0 : Nat) (v1 : Int32) (h : HP) : xx_S (xx_D "LampYard" tb_X_later 2 2 (some .int) false) xz_i (fun K => xL_i K) 0 [(0, av_R 10 (some v0)), (1, av_I v1)] [] h (f_X_later v0 v1 h) := by
  unfold f_X_later
  refine xs_step (fun K HC => xr_aload_n HC.1 0 1 (n := 0) (ix := 0) (j := 0) (c := 10) (x := v0) rfl rfl rfl rfl) ?_
  refine xs_bind (fun q_1 eq_1 => ?_)
  refine xs_step (fun K HC => xr_getr HC.1 1 4 10 7 3 eq_1 rfl rfl wf_X_44 (by decide) fb_10_7 fc_10_7 fd_10_7) ?_
  refine xs_step (fun K HC => xr_iload_n HC.1 2 5 (n := 1) (ix := 1) (j := 1) (x := v1) rfl rfl rfl rfl) ?_
  refine xs_calli (s_Lo_goOn q_1 v1 h) (fun K HC x9 hM hmo hb => xr_callV HC.1 3 8 (av := [av_I v1]) (st := []) (hM (kg K) (cx_l (kx K))) hmo hb rfl rfl wm_X_235 wi_Lo_goOn ws_Lo_goOn wc_Lo_goOn rfl wh_Lo_goOn (by decide) (by decide) (by decide) (Nat.le_of_ble_eq_true rfl) rfl) (fun x_2 => ?_)
  exact xs_reti 4 rfl rfl (fun K q => q) (fun ty ht => by cases ht; rfl)
theorem s_X_later (v0 : Nat) (v1 : Int32) (h : HP) : ∀ x, f_X_later v0 v1 h = some x → hp_mo h x.2 ∧ ∀ g l, xx_M g l y_X_later prog_1_method_29_code 2 (some .int) 2 [av_R 10 (some v0), av_I v1] h (some (av_I x.1)) x.2 :=
  xM_i (tb := tb_X_later) (b := false) (by decide +kernel) dt_X_later (fun _ => trivial) (Nat.le_of_ble_eq_true rfl) (fun hb => by cases hb) (t_X_later v0 v1 h)
def tb_Lo_gather : TBL := [(0, .aload_n 0, 1), (1, .getfield 24, 3), (4, .iconst (-1), 1), (5, .invokestatic 69, 3), (8, .aload_n 0, 1), (9, .getfield 27, 3), (12, .iconst 0, 1), (13, .invokestatic 69, 3), (16, .iconst 0, 1), (17, .istore_n 2, 1), (18, .iload_n 2, 1), (19, .aload_n 0, 1), (20, .getfield 30, 3), (23, .if_icmp .ge 88, 3), (26, .aload_n 0, 1), (27, .getfield 21, 3), (30, .iload_n 2, 1), (31, .iaload, 1), (32, .iconst (-1), 1), (33, .if_icmp .eq 17, 3), (36, .aload_n 0, 1), (37, .getfield 21, 3), (40, .iload_n 2, 1), (41, .iaload, 1), (42, .iload_n 1, 1), (43, .if_icmp .gt 7, 3), (46, .iconst 1, 1), (47, .goto 4, 3), (50, .iconst 0, 1), (51, .istore_n 3, 1), (52, .aload_n 0, 1), (53, .getfield 18, 3), (56, .iload_n 2, 1), (57, .iaload, 1), (58, .iload_n 1, 1), (59, .if_icmp .gt 46, 3), (62, .iload_n 3, 1), (63, .ifCond .ne 42, 3), (66, .aload_n 0, 1), (67, .getfield 24, 3), (70, .aload_n 0, 1), (71, .getfield 11, 3), (74, .iload_n 2, 1), (75, .iaload, 1), (76, .aload_n 0, 1), (77, .getfield 15, 3), (80, .iload_n 2, 1), (81, .iaload, 1), (82, .iastore, 1), (83, .aload_n 0, 1), (84, .getfield 27, 3), (87, .aload_n 0, 1), (88, .getfield 11, 3), (91, .iload_n 2, 1), (92, .iaload, 1), (93, .dup2, 1), (94, .iaload, 1), (95, .iconst 1, 1), (96, .aload_n 0, 1), (97, .getfield 15, 3), (100, .iload_n 2, 1), (101, .iaload, 1), (102, .ishl, 1), (103, .ior, 1), (104, .iastore, 1), (105, .iinc 2 1, 3), (108, .goto (-90), 3), (111, .return_, 1)]
theorem dt_Lo_gather : ∀ q ∈ tb_Lo_gather, decode prog_5_method_10_code q.1 = .ok (q.2.1, q.2.2) := by decide +kernel
set_option maxHeartbeats 4000000 in
set_option maxRecDepth 100000 in
theorem t_Lo_gather_105 (v0 : Nat) (v1 : Int32) (v2 : Int32) (h : HP) : xx_S (xx_D "LampYard$Logs" tb_Lo_gather 4 2 none false) (xx_z2 (fun s : (Int32 × HP) => s.2) xz_v) (fun K => xx_L2 (fun s : (Int32 × HP) => xx_X K 18 [(0, av_R 3 (some v0)), (1, av_I v1), (2, av_I s.1)] [] (s.2)) (xL_v K)) 105 [(0, av_R 3 (some v0)), (1, av_I v1), (2, av_I v2)] [] h (f_Lo_gather_105 v0 v1 v2 h) := by
  unfold f_Lo_gather_105
  refine xs_gen (fun v2_9 ev2_9 => ?_)
  refine xs_step (fun K HC => xr_iinc HC.1 65 108 (ix := 2) (j := 2) (n := (1)) (x := v2) v2_9 (lv' := [(0, av_R 3 (some v0)), (1, av_I v1), (2, av_I v2_9)]) rfl (by rw [ev2_9]; rfl) rfl rfl (by decide) rfl) ?_
  refine xs_step (fun K HC => xr_goto HC.1 66 18 rfl (by decide)) ?_
  exact xs_back rfl (fun K q => q)
set_option maxHeartbeats 4000000 in
set_option maxRecDepth 100000 in
theorem t_Lo_gather_51 (v0 : Nat) (v1 : Int32) (v2 : Int32) (s0 : Int32) (h : HP) : xx_S (xx_D "LampYard$Logs" tb_Lo_gather 4 2 none false) (xx_z2 (fun s : (Int32 × HP) => s.2) xz_v) (fun K => xx_L2 (fun s : (Int32 × HP) => xx_X K 18 [(0, av_R 3 (some v0)), (1, av_I v1), (2, av_I s.1)] [] (s.2)) (xL_v K)) 51 [(0, av_R 3 (some v0)), (1, av_I v1), (2, av_I v2)] [av_I s0] h (f_Lo_gather_51 v0 v1 v2 s0 h) := by
  unfold f_Lo_gather_51
  refine xs_step (fun K HC => xr_istore_n HC.1 29 52 (n := 3) (ix := 3) (lv' := [(0, av_R 3 (some v0)), (1, av_I v1), (2, av_I v2), (3, av_I s0)]) rfl rfl rfl (by decide) rfl) ?_
  refine xs_step (fun K HC => xr_aload_n HC.1 30 53 (n := 0) (ix := 0) (j := 0) (c := 3) (x := v0) rfl rfl rfl rfl) ?_
  refine xs_bind (fun q_7 eq_7 => ?_)
  refine xs_step (fun K HC => xr_getr HC.1 31 56 3 4 13 eq_7 rfl rfl wf_Lo_18 (by decide) fb_3_4 fc_3_4 fd_3_4) ?_
  refine xs_step (fun K HC => xr_iload_n HC.1 32 57 (n := 2) (ix := 2) (j := 2) (x := v2) rfl rfl rfl rfl) ?_
  refine xs_chk (fun hb_8 => ?_)
  refine xs_step (fun K HC => xr_iald HC.1 33 58 (hp_in_vp hb_8) rfl rfl) ?_
  refine xs_step (fun K HC => xr_iload_n HC.1 34 59 (n := 1) (ix := 1) (j := 1) (x := v1) rfl rfl rfl rfl) ?_
  refine xs_ite (fun K HC => xr_icmp_gt HC.1 35 105 62 rfl (by decide) rfl) ?_ ?_
  · refine xs_step (fun K HC => xr_sub (lv' := [(0, av_R 3 (some v0)), (1, av_I v1), (2, av_I v2)]) [0, 1, 2] rfl) ?_
    exact t_Lo_gather_105 v0 v1 v2 h
  refine xs_step (fun K HC => xr_iload_n HC.1 36 63 (n := 3) (ix := 3) (j := 3) (x := s0) rfl rfl rfl rfl) ?_
  refine xs_ite (fun K HC a b => xr_if_ne HC.1 37 105 66 rfl (by decide) rfl b a) ?_ ?_
  · refine xs_step (fun K HC => xr_aload_n HC.1 38 67 (n := 0) (ix := 0) (j := 0) (c := 3) (x := v0) rfl rfl rfl rfl) ?_
    refine xs_bind (fun q_10 eq_10 => ?_)
    refine xs_step (fun K HC => xr_getr HC.1 39 70 3 6 13 eq_10 rfl rfl wf_Lo_24 (by decide) fb_3_6 fc_3_6 fd_3_6) ?_
    refine xs_step (fun K HC => xr_aload_n HC.1 40 71 (n := 0) (ix := 0) (j := 0) (c := 3) (x := v0) rfl rfl rfl rfl) ?_
    refine xs_bind (fun q_11 eq_11 => ?_)
    refine xs_step (fun K HC => xr_getr HC.1 41 74 3 2 13 eq_11 rfl rfl wf_Lo_11 (by decide) fb_3_2 fc_3_2 fd_3_2) ?_
    refine xs_step (fun K HC => xr_iload_n HC.1 42 75 (n := 2) (ix := 2) (j := 2) (x := v2) rfl rfl rfl rfl) ?_
    refine xs_chk (fun hb_12 => ?_)
    refine xs_step (fun K HC => xr_iald HC.1 43 76 (hp_in_vp hb_12) rfl rfl) ?_
    refine xs_step (fun K HC => xr_aload_n HC.1 44 77 (n := 0) (ix := 0) (j := 0) (c := 3) (x := v0) rfl rfl rfl rfl) ?_
    refine xs_bind (fun q_13 eq_13 => ?_)
    refine xs_step (fun K HC => xr_getr HC.1 45 80 3 3 13 eq_13 rfl rfl wf_Lo_15 (by decide) fb_3_3 fc_3_3 fd_3_3) ?_
    refine xs_step (fun K HC => xr_iload_n HC.1 46 81 (n := 2) (ix := 2) (j := 2) (x := v2) rfl rfl rfl rfl) ?_
    refine xs_chk (fun hb_14 => ?_)
    refine xs_step (fun K HC => xr_iald HC.1 47 82 (hp_in_vp hb_14) rfl rfl) ?_
    refine xs_chk (fun hb_15 => ?_)
    refine xs_heap (hp_mo_si _ _ _ _) (fun K HC => xr_iast HC.1 48 83 (hp_in_vp hb_15) rfl rfl) (fun h_16 => ?_)
    refine xs_step (fun K HC => xr_aload_n HC.1 49 84 (n := 0) (ix := 0) (j := 0) (c := 3) (x := v0) rfl rfl rfl rfl) ?_
    refine xs_bind (fun q_17 eq_17 => ?_)
    refine xs_step (fun K HC => xr_getr HC.1 50 87 3 7 13 eq_17 rfl rfl wf_Lo_27 (by decide) fb_3_7 fc_3_7 fd_3_7) ?_
    refine xs_step (fun K HC => xr_aload_n HC.1 51 88 (n := 0) (ix := 0) (j := 0) (c := 3) (x := v0) rfl rfl rfl rfl) ?_
    refine xs_bind (fun q_18 eq_18 => ?_)
    refine xs_step (fun K HC => xr_getr HC.1 52 91 3 2 13 eq_18 rfl rfl wf_Lo_11 (by decide) fb_3_2 fc_3_2 fd_3_2) ?_
    refine xs_step (fun K HC => xr_iload_n HC.1 53 92 (n := 2) (ix := 2) (j := 2) (x := v2) rfl rfl rfl rfl) ?_
    refine xs_chk (fun hb_19 => ?_)
    refine xs_step (fun K HC => xr_iald HC.1 54 93 (hp_in_vp hb_19) rfl rfl) ?_
    refine xs_step (fun K HC => xr_dup2 HC.1 55 94 rfl rfl rfl rfl) ?_
    refine xs_chk (fun hb_20 => ?_)
    refine xs_step (fun K HC => xr_iald HC.1 56 95 (hp_in_vp hb_20) rfl rfl) ?_
    refine xs_step (fun K HC => xr_iconst HC.1 57 96 (n := (1)) (1 : Int32) rfl rfl rfl) ?_
    refine xs_step (fun K HC => xr_aload_n HC.1 58 97 (n := 0) (ix := 0) (j := 0) (c := 3) (x := v0) rfl rfl rfl rfl) ?_
    refine xs_bind (fun q_21 eq_21 => ?_)
    refine xs_step (fun K HC => xr_getr HC.1 59 100 3 3 13 eq_21 rfl rfl wf_Lo_15 (by decide) fb_3_3 fc_3_3 fd_3_3) ?_
    refine xs_step (fun K HC => xr_iload_n HC.1 60 101 (n := 2) (ix := 2) (j := 2) (x := v2) rfl rfl rfl rfl) ?_
    refine xs_chk (fun hb_22 => ?_)
    refine xs_step (fun K HC => xr_iald HC.1 61 102 (hp_in_vp hb_22) rfl rfl) ?_
    refine xs_step (fun K HC => xr_ishl HC.1 62 103 rfl rfl) ?_
    refine xs_step (fun K HC => xr_ior HC.1 63 104 rfl rfl) ?_
    refine xs_chk (fun hb_23 => ?_)
    refine xs_heap (hp_mo_si _ _ _ _) (fun K HC => xr_iast HC.1 64 105 (hp_in_vp hb_23) rfl rfl) (fun h_24 => ?_)
    refine xs_step (fun K HC => xr_sub (lv' := [(0, av_R 3 (some v0)), (1, av_I v1), (2, av_I v2)]) [0, 1, 2] rfl) ?_
    exact t_Lo_gather_105 v0 v1 v2 h_24
  refine xs_step (fun K HC => xr_sub (lv' := [(0, av_R 3 (some v0)), (1, av_I v1), (2, av_I v2)]) [0, 1, 2] rfl) ?_
  exact t_Lo_gather_105 v0 v1 v2 h
set_option maxHeartbeats 4000000 in
set_option maxRecDepth 100000 in
theorem t_Lo_gather_50 (v0 : Nat) (v1 : Int32) (v2 : Int32) (h : HP) : xx_S (xx_D "LampYard$Logs" tb_Lo_gather 4 2 none false) (xx_z2 (fun s : (Int32 × HP) => s.2) xz_v) (fun K => xx_L2 (fun s : (Int32 × HP) => xx_X K 18 [(0, av_R 3 (some v0)), (1, av_I v1), (2, av_I s.1)] [] (s.2)) (xL_v K)) 50 [(0, av_R 3 (some v0)), (1, av_I v1), (2, av_I v2)] [] h (f_Lo_gather_50 v0 v1 v2 h) := by
  unfold f_Lo_gather_50
  refine xs_step (fun K HC => xr_iconst HC.1 28 51 (n := (0)) (0 : Int32) rfl rfl rfl) ?_
  exact t_Lo_gather_51 v0 v1 v2 (0 : Int32) h
set_option maxHeartbeats 4000000 in
set_option maxRecDepth 100000 in
theorem t_Lo_gather_18b (v0 : Nat) (v1 : Int32) (v2 : Int32) (h : HP) : xx_S (xx_D "LampYard$Logs" tb_Lo_gather 4 2 none false) (xx_z2 (fun s : (Int32 × HP) => s.2) xz_v) (fun K => xx_L2 (fun s : (Int32 × HP) => xx_X K 18 [(0, av_R 3 (some v0)), (1, av_I v1), (2, av_I s.1)] [] (s.2)) (xL_v K)) 18 [(0, av_R 3 (some v0)), (1, av_I v1), (2, av_I v2)] [] h (f_Lo_gather_18b v0 v1 v2 h) := by
  unfold f_Lo_gather_18b
  refine xs_step (fun K HC => xr_iload_n HC.1 10 19 (n := 2) (ix := 2) (j := 2) (x := v2) rfl rfl rfl rfl) ?_
  refine xs_step (fun K HC => xr_aload_n HC.1 11 20 (n := 0) (ix := 0) (j := 0) (c := 3) (x := v0) rfl rfl rfl rfl) ?_
  refine xs_step (fun K HC => xr_geti HC.1 12 23 3 0 rfl rfl wf_Lo_30 (by decide) fb_3_0 fc_3_0) ?_
  refine xs_ite (fun K HC => xr_icmp_ge HC.1 13 111 26 rfl (by decide) rfl) ?_ ?_
  · exact xs_ret 67 rfl rfl (fun K q => q)
  refine xs_step (fun K HC => xr_aload_n HC.1 14 27 (n := 0) (ix := 0) (j := 0) (c := 3) (x := v0) rfl rfl rfl rfl) ?_
  refine xs_bind (fun q_5 eq_5 => ?_)
  refine xs_step (fun K HC => xr_getr HC.1 15 30 3 5 13 eq_5 rfl rfl wf_Lo_21 (by decide) fb_3_5 fc_3_5 fd_3_5) ?_
  refine xs_step (fun K HC => xr_iload_n HC.1 16 31 (n := 2) (ix := 2) (j := 2) (x := v2) rfl rfl rfl rfl) ?_
  refine xs_chk (fun hb_6 => ?_)
  refine xs_step (fun K HC => xr_iald HC.1 17 32 (hp_in_vp hb_6) rfl rfl) ?_
  refine xs_step (fun K HC => xr_iconst HC.1 18 33 (n := (-1)) (-1 : Int32) rfl rfl rfl) ?_
  refine xs_ite (fun K HC => xr_icmp_eq HC.1 19 50 36 rfl (by decide) rfl) ?_ ?_
  · exact t_Lo_gather_50 v0 v1 v2 h
  refine xs_step (fun K HC => xr_aload_n HC.1 20 37 (n := 0) (ix := 0) (j := 0) (c := 3) (x := v0) rfl rfl rfl rfl) ?_
  refine xs_bind (fun q_25 eq_25 => ?_)
  refine xs_step (fun K HC => xr_getr HC.1 21 40 3 5 13 eq_25 rfl rfl wf_Lo_21 (by decide) fb_3_5 fc_3_5 fd_3_5) ?_
  refine xs_step (fun K HC => xr_iload_n HC.1 22 41 (n := 2) (ix := 2) (j := 2) (x := v2) rfl rfl rfl rfl) ?_
  refine xs_chk (fun hb_26 => ?_)
  refine xs_step (fun K HC => xr_iald HC.1 23 42 (hp_in_vp hb_26) rfl rfl) ?_
  refine xs_step (fun K HC => xr_iload_n HC.1 24 43 (n := 1) (ix := 1) (j := 1) (x := v1) rfl rfl rfl rfl) ?_
  refine xs_ite (fun K HC => xr_icmp_gt HC.1 25 50 46 rfl (by decide) rfl) ?_ ?_
  · exact t_Lo_gather_50 v0 v1 v2 h
  refine xs_step (fun K HC => xr_iconst HC.1 26 47 (n := (1)) (1 : Int32) rfl rfl rfl) ?_
  refine xs_step (fun K HC => xr_goto HC.1 27 51 rfl (by decide)) ?_
  exact t_Lo_gather_51 v0 v1 v2 (1 : Int32) h
theorem t_Lo_gather_18 (v0 : Nat) (v1 : Int32) (v2 : Int32) (h : HP) : xx_S (xx_D "LampYard$Logs" tb_Lo_gather 4 2 none false) xz_v (fun K => xL_v K) 18 [(0, av_R 3 (some v0)), (1, av_I v1), (2, av_I v2)] [] h (f_Lo_gather_18 v0 v1 v2 h) :=
  xs_loop (zf := xz_v) (L := (fun K => xL_v K)) (fun s : (Int32 × HP) => [(0, av_R 3 (some v0)), (1, av_I v1), (2, av_I s.1)]) (fun s : (Int32 × HP) => s.2) (fun s => t_Lo_gather_18b v0 v1 s.1 s.2) (v2, h)
set_option maxHeartbeats 4000000 in
set_option maxRecDepth 100000 in
theorem t_Lo_gather (v0 : Nat) (v1 : Int32) (h : HP) : xx_S (xx_D "LampYard$Logs" tb_Lo_gather 4 2 none false) xz_v (fun K => xL_v K) 0 [(0, av_R 3 (some v0)), (1, av_I v1)] [] h (f_Lo_gather v0 v1 h) := by
  unfold f_Lo_gather
  refine xs_step (fun K HC => xr_aload_n HC.1 0 1 (n := 0) (ix := 0) (j := 0) (c := 3) (x := v0) rfl rfl rfl rfl) ?_
  refine xs_bind (fun q_1 eq_1 => ?_)
  refine xs_step (fun K HC => xr_getr HC.1 1 4 3 6 13 eq_1 rfl rfl wf_Lo_24 (by decide) fb_3_6 fc_3_6 fd_3_6) ?_
  refine xs_step (fun K HC => xr_iconst HC.1 2 5 (n := (-1)) (-1 : Int32) rfl rfl rfl) ?_
  refine xs_callv (s_Ar_fillI q_1 (-1 : Int32) h) (fun K HC x9 hM hmo hb => xr_callS HC.1 3 8 (av := [av_R 13 (some q_1), av_I (-1 : Int32)]) (st := []) (hM (kg K) (cx_l (kx K))) hmo hb rfl rfl wm_Lo_69 wt_Ar_fillI wn_Ar_fillI wc_Ar_fillI wh_Ar_fillI (by decide) (by decide) (Nat.le_of_ble_eq_true rfl) rfl) (fun x_2 => ?_)
  refine xs_step (fun K HC => xr_aload_n HC.1 4 9 (n := 0) (ix := 0) (j := 0) (c := 3) (x := v0) rfl rfl rfl rfl) ?_
  refine xs_bind (fun q_3 eq_3 => ?_)
  refine xs_step (fun K HC => xr_getr HC.1 5 12 3 7 13 eq_3 rfl rfl wf_Lo_27 (by decide) fb_3_7 fc_3_7 fd_3_7) ?_
  refine xs_step (fun K HC => xr_iconst HC.1 6 13 (n := (0)) (0 : Int32) rfl rfl rfl) ?_
  refine xs_callv (s_Ar_fillI q_3 (0 : Int32) x_2) (fun K HC x9 hM hmo hb => xr_callS HC.1 7 16 (av := [av_R 13 (some q_3), av_I (0 : Int32)]) (st := []) (hM (kg K) (cx_l (kx K))) hmo hb rfl rfl wm_Lo_69 wt_Ar_fillI wn_Ar_fillI wc_Ar_fillI wh_Ar_fillI (by decide) (by decide) (Nat.le_of_ble_eq_true rfl) rfl) (fun x_4 => ?_)
  refine xs_step (fun K HC => xr_iconst HC.1 8 17 (n := (0)) (0 : Int32) rfl rfl rfl) ?_
  refine xs_step (fun K HC => xr_istore_n HC.1 9 18 (n := 2) (ix := 2) (lv' := [(0, av_R 3 (some v0)), (1, av_I v1), (2, av_I (0 : Int32))]) rfl rfl rfl (by decide) rfl) ?_
  exact t_Lo_gather_18 v0 v1 (0 : Int32) x_4
theorem s_Lo_gather (v0 : Nat) (v1 : Int32) (h : HP) : ∀ x, f_Lo_gather v0 v1 h = some x → hp_mo h x ∧ ∀ g l, xx_M g l y_Lo_gather prog_5_method_10_code 4 none 2 [av_R 3 (some v0), av_I v1] h none x :=
  xM_v (tb := tb_Lo_gather) (b := false) (by decide +kernel) dt_Lo_gather trivial (Nat.le_of_ble_eq_true rfl) (fun hb => by cases hb) (t_Lo_gather v0 v1 h)
def tb_Lo_dayByWhichAll : TBL := [(0, .aload_n 0, 1), (1, .iload_n 2, 1), (2, .invokevirtual 38, 3), (5, .iconst 1, 1), (6, .iload_n 1, 1), (7, .ishl, 1), (8, .iconst 1, 1), (9, .isub, 1), (10, .istore_n 3, 1), (11, .iconst 0, 1), (12, .istore 4, 2), (14, .iconst 0, 1), (15, .istore 5, 2), (17, .iload 5, 2), (19, .bipush 100, 2), (21, .if_icmp .ge 47, 3), (24, .iload_n 3, 1), (25, .ifCond .eq 43, 3), (28, .aload_n 0, 1), (29, .getfield 24, 3), (32, .iload 5, 2), (34, .iaload, 1), (35, .iconst (-1), 1), (36, .if_icmp .eq 17, 3), (39, .iload 4, 2), (41, .iconst 1, 1), (42, .aload_n 0, 1), (43, .getfield 24, 3), (46, .iload 5, 2), (48, .iaload, 1), (49, .ishl, 1), (50, .ior, 1), (51, .istore 4, 2), (53, .iload 4, 2), (55, .iload_n 3, 1), (56, .if_icmp .ne 6, 3), (59, .iload 5, 2), (61, .ireturn, 1), (62, .iinc 5 1, 3), (65, .goto (-48), 3), (68, .iconst (-1), 1), (69, .ireturn, 1)]
theorem dt_Lo_dayByWhichAll : ∀ q ∈ tb_Lo_dayByWhichAll, decode prog_5_method_5_code q.1 = .ok (q.2.1, q.2.2) := by decide +kernel
set_option maxHeartbeats 4000000 in
set_option maxRecDepth 100000 in
theorem t_Lo_dayByWhichAll_53 (v0 : Nat) (v3 : Int32) (v4 : Int32) (v5 : Int32) (h : HP) : xx_S (xx_D "LampYard$Logs" tb_Lo_dayByWhichAll 6 3 (some .int) false) (xx_z2 (fun s : (Int32 × Int32 × HP) => s.2.2) xz_i) (fun K => xx_L2 (fun s : (Int32 × Int32 × HP) => xx_X K 17 [(0, av_R 3 (some v0)), (3, av_I v3), (4, av_I s.1), (5, av_I s.2.1)] [] (s.2.2)) (xL_i K)) 53 [(0, av_R 3 (some v0)), (3, av_I v3), (4, av_I v4), (5, av_I v5)] [] h (f_Lo_dayByWhichAll_53 v0 v3 v4 v5 h) := by
  unfold f_Lo_dayByWhichAll_53
  refine xs_step (fun K HC => xr_iload HC.1 33 55 (ix := 4) (j := 2) (x := v4) rfl rfl rfl) ?_
  refine xs_step (fun K HC => xr_iload_n HC.1 34 56 (n := 3) (ix := 3) (j := 1) (x := v3) rfl rfl rfl rfl) ?_
  refine xs_ite (fun K HC a b => xr_icmp_ne HC.1 35 62 59 rfl (by decide) rfl b a) ?_ ?_
  · refine xs_step (fun K HC => xr_iload HC.1 36 61 (ix := 5) (j := 3) (x := v5) rfl rfl rfl) ?_
    exact xs_reti 37 rfl rfl (fun K q => q) (fun ty ht => by cases ht; rfl)
  refine xs_gen (fun v5_5 ev5_5 => ?_)
  refine xs_step (fun K HC => xr_iinc HC.1 38 65 (ix := 5) (j := 3) (n := (1)) (x := v5) v5_5 (lv' := [(0, av_R 3 (some v0)), (3, av_I v3), (4, av_I v4), (5, av_I v5_5)]) rfl (by rw [ev5_5]; rfl) rfl rfl (by decide) rfl) ?_
  refine xs_step (fun K HC => xr_goto HC.1 39 17 rfl (by decide)) ?_
  exact xs_back rfl (fun K q => q)
set_option maxHeartbeats 4000000 in
set_option maxRecDepth 100000 in
theorem t_Lo_dayByWhichAll_17b (v0 : Nat) (v3 : Int32) (v4 : Int32) (v5 : Int32) (h : HP) : xx_S (xx_D "LampYard$Logs" tb_Lo_dayByWhichAll 6 3 (some .int) false) (xx_z2 (fun s : (Int32 × Int32 × HP) => s.2.2) xz_i) (fun K => xx_L2 (fun s : (Int32 × Int32 × HP) => xx_X K 17 [(0, av_R 3 (some v0)), (3, av_I v3), (4, av_I s.1), (5, av_I s.2.1)] [] (s.2.2)) (xL_i K)) 17 [(0, av_R 3 (some v0)), (3, av_I v3), (4, av_I v4), (5, av_I v5)] [] h (f_Lo_dayByWhichAll_17b v0 v3 v4 v5 h) := by
  unfold f_Lo_dayByWhichAll_17b
  refine xs_step (fun K HC => xr_iload HC.1 13 19 (ix := 5) (j := 3) (x := v5) rfl rfl rfl) ?_
  refine xs_step (fun K HC => xr_bipush HC.1 14 21 (n := (100)) (100 : Int32) rfl rfl rfl) ?_
  refine xs_ite (fun K HC => xr_icmp_ge HC.1 15 68 24 rfl (by decide) rfl) ?_ ?_
  · refine xs_step (fun K HC => xr_iconst HC.1 40 69 (n := (-1)) (-1 : Int32) rfl rfl rfl) ?_
    exact xs_reti 41 rfl rfl (fun K q => q) (fun ty ht => by cases ht; rfl)
  refine xs_step (fun K HC => xr_iload_n HC.1 16 25 (n := 3) (ix := 3) (j := 1) (x := v3) rfl rfl rfl rfl) ?_
  refine xs_ite (fun K HC => xr_if_eq HC.1 17 68 28 rfl (by decide) rfl) ?_ ?_
  · refine xs_step (fun K HC => xr_iconst HC.1 40 69 (n := (-1)) (-1 : Int32) rfl rfl rfl) ?_
    exact xs_reti 41 rfl rfl (fun K q => q) (fun ty ht => by cases ht; rfl)
  refine xs_step (fun K HC => xr_aload_n HC.1 18 29 (n := 0) (ix := 0) (j := 0) (c := 3) (x := v0) rfl rfl rfl rfl) ?_
  refine xs_bind (fun q_3 eq_3 => ?_)
  refine xs_step (fun K HC => xr_getr HC.1 19 32 3 6 13 eq_3 rfl rfl wf_Lo_24 (by decide) fb_3_6 fc_3_6 fd_3_6) ?_
  refine xs_step (fun K HC => xr_iload HC.1 20 34 (ix := 5) (j := 3) (x := v5) rfl rfl rfl) ?_
  refine xs_chk (fun hb_4 => ?_)
  refine xs_step (fun K HC => xr_iald HC.1 21 35 (hp_in_vp hb_4) rfl rfl) ?_
  refine xs_step (fun K HC => xr_iconst HC.1 22 36 (n := (-1)) (-1 : Int32) rfl rfl rfl) ?_
  refine xs_ite (fun K HC => xr_icmp_eq HC.1 23 53 39 rfl (by decide) rfl) ?_ ?_
  · exact t_Lo_dayByWhichAll_53 v0 v3 v4 v5 h
  refine xs_step (fun K HC => xr_iload HC.1 24 41 (ix := 4) (j := 2) (x := v4) rfl rfl rfl) ?_
  refine xs_step (fun K HC => xr_iconst HC.1 25 42 (n := (1)) (1 : Int32) rfl rfl rfl) ?_
  refine xs_step (fun K HC => xr_aload_n HC.1 26 43 (n := 0) (ix := 0) (j := 0) (c := 3) (x := v0) rfl rfl rfl rfl) ?_
  refine xs_bind (fun q_6 eq_6 => ?_)
  refine xs_step (fun K HC => xr_getr HC.1 27 46 3 6 13 eq_6 rfl rfl wf_Lo_24 (by decide) fb_3_6 fc_3_6 fd_3_6) ?_
  refine xs_step (fun K HC => xr_iload HC.1 28 48 (ix := 5) (j := 3) (x := v5) rfl rfl rfl) ?_
  refine xs_chk (fun hb_7 => ?_)
  refine xs_step (fun K HC => xr_iald HC.1 29 49 (hp_in_vp hb_7) rfl rfl) ?_
  refine xs_step (fun K HC => xr_ishl HC.1 30 50 rfl rfl) ?_
  refine xs_step (fun K HC => xr_ior HC.1 31 51 rfl rfl) ?_
  refine xs_topi (fun v4_8 => ?_)
  refine xs_step (fun K HC => xr_istore HC.1 32 53 (ix := 4) (lv' := [(0, av_R 3 (some v0)), (3, av_I v3), (4, av_I v4_8), (5, av_I v5)]) rfl rfl (by decide) rfl) ?_
  exact t_Lo_dayByWhichAll_53 v0 v3 v4_8 v5 h
theorem t_Lo_dayByWhichAll_17 (v0 : Nat) (v3 : Int32) (v4 : Int32) (v5 : Int32) (h : HP) : xx_S (xx_D "LampYard$Logs" tb_Lo_dayByWhichAll 6 3 (some .int) false) xz_i (fun K => xL_i K) 17 [(0, av_R 3 (some v0)), (3, av_I v3), (4, av_I v4), (5, av_I v5)] [] h (f_Lo_dayByWhichAll_17 v0 v3 v4 v5 h) :=
  xs_loop (zf := xz_i) (L := (fun K => xL_i K)) (fun s : (Int32 × Int32 × HP) => [(0, av_R 3 (some v0)), (3, av_I v3), (4, av_I s.1), (5, av_I s.2.1)]) (fun s : (Int32 × Int32 × HP) => s.2.2) (fun s => t_Lo_dayByWhichAll_17b v0 v3 s.1 s.2.1 s.2.2) (v4, v5, h)
set_option maxHeartbeats 4000000 in
set_option maxRecDepth 100000 in
theorem t_Lo_dayByWhichAll (v0 : Nat) (v1 : Int32) (v2 : Int32) (h : HP) : xx_S (xx_D "LampYard$Logs" tb_Lo_dayByWhichAll 6 3 (some .int) false) xz_i (fun K => xL_i K) 0 [(0, av_R 3 (some v0)), (1, av_I v1), (2, av_I v2)] [] h (f_Lo_dayByWhichAll v0 v1 v2 h) := by
  unfold f_Lo_dayByWhichAll
  refine xs_step (fun K HC => xr_aload_n HC.1 0 1 (n := 0) (ix := 0) (j := 0) (c := 3) (x := v0) rfl rfl rfl rfl) ?_
  refine xs_step (fun K HC => xr_iload_n HC.1 1 2 (n := 2) (ix := 2) (j := 2) (x := v2) rfl rfl rfl rfl) ?_
  refine xs_callv (s_Lo_gather v0 v2 h) (fun K HC x9 hM hmo hb => xr_callV HC.1 2 5 (av := [av_I v2]) (st := []) (hM (kg K) (cx_l (kx K))) hmo hb rfl rfl wm_Lo_38 wi_Lo_gather ws_Lo_gather wc_Lo_gather rfl wh_Lo_gather (by decide) (by decide) (by decide) (Nat.le_of_ble_eq_true rfl) rfl) (fun x_1 => ?_)
  refine xs_step (fun K HC => xr_iconst HC.1 3 6 (n := (1)) (1 : Int32) rfl rfl rfl) ?_
  refine xs_step (fun K HC => xr_iload_n HC.1 4 7 (n := 1) (ix := 1) (j := 1) (x := v1) rfl rfl rfl rfl) ?_
  refine xs_step (fun K HC => xr_ishl HC.1 5 8 rfl rfl) ?_
  refine xs_step (fun K HC => xr_iconst HC.1 6 9 (n := (1)) (1 : Int32) rfl rfl rfl) ?_
  refine xs_step (fun K HC => xr_isub HC.1 7 10 rfl rfl) ?_
  refine xs_topi (fun v3_2 => ?_)
  refine xs_step (fun K HC => xr_istore_n HC.1 8 11 (n := 3) (ix := 3) (lv' := [(0, av_R 3 (some v0)), (1, av_I v1), (2, av_I v2), (3, av_I v3_2)]) rfl rfl rfl (by decide) rfl) ?_
  refine xs_step (fun K HC => xr_iconst HC.1 9 12 (n := (0)) (0 : Int32) rfl rfl rfl) ?_
  refine xs_step (fun K HC => xr_istore HC.1 10 14 (ix := 4) (lv' := [(0, av_R 3 (some v0)), (1, av_I v1), (2, av_I v2), (3, av_I v3_2), (4, av_I (0 : Int32))]) rfl rfl (by decide) rfl) ?_
  refine xs_step (fun K HC => xr_iconst HC.1 11 15 (n := (0)) (0 : Int32) rfl rfl rfl) ?_
  refine xs_step (fun K HC => xr_istore HC.1 12 17 (ix := 5) (lv' := [(0, av_R 3 (some v0)), (1, av_I v1), (2, av_I v2), (3, av_I v3_2), (4, av_I (0 : Int32)), (5, av_I (0 : Int32))]) rfl rfl (by decide) rfl) ?_
  refine xs_step (fun K HC => xr_sub (lv' := [(0, av_R 3 (some v0)), (3, av_I v3_2), (4, av_I (0 : Int32)), (5, av_I (0 : Int32))]) [0, 3, 4, 5] rfl) ?_
  exact t_Lo_dayByWhichAll_17 v0 v3_2 (0 : Int32) (0 : Int32) x_1
theorem s_Lo_dayByWhichAll (v0 : Nat) (v1 : Int32) (v2 : Int32) (h : HP) : ∀ x, f_Lo_dayByWhichAll v0 v1 v2 h = some x → hp_mo h x.2 ∧ ∀ g l, xx_M g l y_Lo_dayByWhichAll prog_5_method_5_code 6 (some .int) 3 [av_R 3 (some v0), av_I v1, av_I v2] h (some (av_I x.1)) x.2 :=
  xM_i (tb := tb_Lo_dayByWhichAll) (b := false) (by decide +kernel) dt_Lo_dayByWhichAll (fun _ => trivial) (Nat.le_of_ble_eq_true rfl) (fun hb => by cases hb) (t_Lo_dayByWhichAll v0 v1 v2 h)
def tb_In_bitCount : TBL := [(0, .iload_n 0, 1), (1, .iload_n 0, 1), (2, .iconst 1, 1), (3, .iushr, 1), (4, .ldc_w 265, 3), (7, .iand, 1), (8, .isub, 1), (9, .istore_n 0, 1), (10, .iload_n 0, 1), (11, .ldc_w 266, 3), (14, .iand, 1), (15, .iload_n 0, 1), (16, .iconst 2, 1), (17, .iushr, 1), (18, .ldc_w 266, 3), (21, .iand, 1), (22, .iadd, 1), (23, .istore_n 0, 1), (24, .iload_n 0, 1), (25, .iload_n 0, 1), (26, .iconst 4, 1), (27, .iushr, 1), (28, .iadd, 1), (29, .ldc_w 267, 3), (32, .iand, 1), (33, .istore_n 0, 1), (34, .iload_n 0, 1), (35, .iload_n 0, 1), (36, .bipush 8, 2), (38, .iushr, 1), (39, .iadd, 1), (40, .istore_n 0, 1), (41, .iload_n 0, 1), (42, .iload_n 0, 1), (43, .bipush 16, 2), (45, .iushr, 1), (46, .iadd, 1), (47, .istore_n 0, 1), (48, .iload_n 0, 1), (49, .bipush 63, 2), (51, .iand, 1), (52, .ireturn, 1)]
theorem dt_In_bitCount : ∀ q ∈ tb_In_bitCount, decode prog_15_method_49_code q.1 = .ok (q.2.1, q.2.2) := by decide +kernel
set_option maxHeartbeats 4000000 in
set_option maxRecDepth 100000 in
theorem t_In_bitCount (v0 : Int32) (h : HP) : xx_S (xx_D "java/lang/Integer" tb_In_bitCount 1 1 (some .int) false) xz_i (fun K => xL_i K) 0 [(0, av_I v0)] [] h (f_In_bitCount v0 h) := by
  unfold f_In_bitCount
  refine xs_step (fun K HC => xr_iload_n HC.1 0 1 (n := 0) (ix := 0) (j := 0) (x := v0) rfl rfl rfl rfl) ?_
  refine xs_step (fun K HC => xr_iload_n HC.1 1 2 (n := 0) (ix := 0) (j := 0) (x := v0) rfl rfl rfl rfl) ?_
  refine xs_step (fun K HC => xr_iconst HC.1 2 3 (n := (1)) (1 : Int32) rfl rfl rfl) ?_
  refine xs_step (fun K HC => xr_iushr HC.1 3 4 rfl rfl) ?_
  refine xs_step (fun K HC => xr_ldcw HC.1 4 7 wk_In_265 rfl rfl) ?_
  refine xs_step (fun K HC => xr_iand HC.1 5 8 rfl rfl) ?_
  refine xs_step (fun K HC => xr_isub HC.1 6 9 rfl rfl) ?_
  refine xs_topi (fun v0_1 => ?_)
  refine xs_step (fun K HC => xr_istore_n HC.1 7 10 (n := 0) (ix := 0) (lv' := [(0, av_I v0_1)]) rfl rfl rfl (by decide) rfl) ?_
  refine xs_step (fun K HC => xr_iload_n HC.1 8 11 (n := 0) (ix := 0) (j := 0) (x := v0_1) rfl rfl rfl rfl) ?_
  refine xs_step (fun K HC => xr_ldcw HC.1 9 14 wk_In_266 rfl rfl) ?_
  refine xs_step (fun K HC => xr_iand HC.1 10 15 rfl rfl) ?_
  refine xs_step (fun K HC => xr_iload_n HC.1 11 16 (n := 0) (ix := 0) (j := 0) (x := v0_1) rfl rfl rfl rfl) ?_
  refine xs_step (fun K HC => xr_iconst HC.1 12 17 (n := (2)) (2 : Int32) rfl rfl rfl) ?_
  refine xs_step (fun K HC => xr_iushr HC.1 13 18 rfl rfl) ?_
  refine xs_step (fun K HC => xr_ldcw HC.1 14 21 wk_In_266 rfl rfl) ?_
  refine xs_step (fun K HC => xr_iand HC.1 15 22 rfl rfl) ?_
  refine xs_step (fun K HC => xr_iadd HC.1 16 23 rfl rfl) ?_
  refine xs_topi (fun v0_2 => ?_)
  refine xs_step (fun K HC => xr_istore_n HC.1 17 24 (n := 0) (ix := 0) (lv' := [(0, av_I v0_2)]) rfl rfl rfl (by decide) rfl) ?_
  refine xs_step (fun K HC => xr_iload_n HC.1 18 25 (n := 0) (ix := 0) (j := 0) (x := v0_2) rfl rfl rfl rfl) ?_
  refine xs_step (fun K HC => xr_iload_n HC.1 19 26 (n := 0) (ix := 0) (j := 0) (x := v0_2) rfl rfl rfl rfl) ?_
  refine xs_step (fun K HC => xr_iconst HC.1 20 27 (n := (4)) (4 : Int32) rfl rfl rfl) ?_
  refine xs_step (fun K HC => xr_iushr HC.1 21 28 rfl rfl) ?_
  refine xs_step (fun K HC => xr_iadd HC.1 22 29 rfl rfl) ?_
  refine xs_step (fun K HC => xr_ldcw HC.1 23 32 wk_In_267 rfl rfl) ?_
  refine xs_step (fun K HC => xr_iand HC.1 24 33 rfl rfl) ?_
  refine xs_topi (fun v0_3 => ?_)
  refine xs_step (fun K HC => xr_istore_n HC.1 25 34 (n := 0) (ix := 0) (lv' := [(0, av_I v0_3)]) rfl rfl rfl (by decide) rfl) ?_
  refine xs_step (fun K HC => xr_iload_n HC.1 26 35 (n := 0) (ix := 0) (j := 0) (x := v0_3) rfl rfl rfl rfl) ?_
  refine xs_step (fun K HC => xr_iload_n HC.1 27 36 (n := 0) (ix := 0) (j := 0) (x := v0_3) rfl rfl rfl rfl) ?_
  refine xs_step (fun K HC => xr_bipush HC.1 28 38 (n := (8)) (8 : Int32) rfl rfl rfl) ?_
  refine xs_step (fun K HC => xr_iushr HC.1 29 39 rfl rfl) ?_
  refine xs_step (fun K HC => xr_iadd HC.1 30 40 rfl rfl) ?_
  refine xs_topi (fun v0_4 => ?_)
  refine xs_step (fun K HC => xr_istore_n HC.1 31 41 (n := 0) (ix := 0) (lv' := [(0, av_I v0_4)]) rfl rfl rfl (by decide) rfl) ?_
  refine xs_step (fun K HC => xr_iload_n HC.1 32 42 (n := 0) (ix := 0) (j := 0) (x := v0_4) rfl rfl rfl rfl) ?_
  refine xs_step (fun K HC => xr_iload_n HC.1 33 43 (n := 0) (ix := 0) (j := 0) (x := v0_4) rfl rfl rfl rfl) ?_
  refine xs_step (fun K HC => xr_bipush HC.1 34 45 (n := (16)) (16 : Int32) rfl rfl rfl) ?_
  refine xs_step (fun K HC => xr_iushr HC.1 35 46 rfl rfl) ?_
  refine xs_step (fun K HC => xr_iadd HC.1 36 47 rfl rfl) ?_
  refine xs_topi (fun v0_5 => ?_)
  refine xs_step (fun K HC => xr_istore_n HC.1 37 48 (n := 0) (ix := 0) (lv' := [(0, av_I v0_5)]) rfl rfl rfl (by decide) rfl) ?_
  refine xs_step (fun K HC => xr_iload_n HC.1 38 49 (n := 0) (ix := 0) (j := 0) (x := v0_5) rfl rfl rfl rfl) ?_
  refine xs_step (fun K HC => xr_bipush HC.1 39 51 (n := (63)) (63 : Int32) rfl rfl rfl) ?_
  refine xs_step (fun K HC => xr_iand HC.1 40 52 rfl rfl) ?_
  exact xs_reti 41 rfl rfl (fun K q => q) (fun ty ht => by cases ht; rfl)
theorem s_In_bitCount (v0 : Int32) (h : HP) : ∀ x, f_In_bitCount v0 h = some x → hp_mo h x.2 ∧ ∀ g l, xx_M g l y_In_bitCount prog_15_method_49_code 1 (some .int) 1 [av_I v0] h (some (av_I x.1)) x.2 :=
  xM_i (tb := tb_In_bitCount) (b := false) (by decide +kernel) dt_In_bitCount (fun _ => trivial) (Nat.le_of_ble_eq_true rfl) (fun hb => by cases hb) (t_In_bitCount v0 h)
def tb_Lo_clashes : TBL := [(0, .aload_n 0, 1), (1, .iload_n 1, 1), (2, .invokevirtual 38, 3), (5, .iconst 0, 1), (6, .istore_n 2, 1), (7, .iconst 0, 1), (8, .istore_n 3, 1), (9, .iload_n 3, 1), (10, .bipush 100, 2), (12, .if_icmp .ge 25, 3), (15, .aload_n 0, 1), (16, .getfield 27, 3), (19, .iload_n 3, 1), (20, .iaload, 1), (21, .invokestatic 42, 3), (24, .iconst 1, 1), (25, .if_icmp .le 6, 3), (28, .iinc 2 1, 3), (31, .iinc 3 1, 3), (34, .goto (-25), 3), (37, .iload_n 2, 1), (38, .ireturn, 1)]
theorem dt_Lo_clashes : ∀ q ∈ tb_Lo_clashes, decode prog_5_method_6_code q.1 = .ok (q.2.1, q.2.2) := by decide +kernel
set_option maxHeartbeats 4000000 in
set_option maxRecDepth 100000 in
theorem t_Lo_clashes_31 (v0 : Nat) (v2 : Int32) (v3 : Int32) (h : HP) : xx_S (xx_D "LampYard$Logs" tb_Lo_clashes 4 3 (some .int) false) (xx_z2 (fun s : (Int32 × Int32 × HP) => s.2.2) xz_i) (fun K => xx_L2 (fun s : (Int32 × Int32 × HP) => xx_X K 9 [(0, av_R 3 (some v0)), (2, av_I s.1), (3, av_I s.2.1)] [] (s.2.2)) (xL_i K)) 31 [(0, av_R 3 (some v0)), (2, av_I v2), (3, av_I v3)] [] h (f_Lo_clashes_31 v0 v2 v3 h) := by
  unfold f_Lo_clashes_31
  refine xs_gen (fun v3_5 ev3_5 => ?_)
  refine xs_step (fun K HC => xr_iinc HC.1 18 34 (ix := 3) (j := 2) (n := (1)) (x := v3) v3_5 (lv' := [(0, av_R 3 (some v0)), (2, av_I v2), (3, av_I v3_5)]) rfl (by rw [ev3_5]; rfl) rfl rfl (by decide) rfl) ?_
  refine xs_step (fun K HC => xr_goto HC.1 19 9 rfl (by decide)) ?_
  exact xs_back rfl (fun K q => q)
set_option maxHeartbeats 4000000 in
set_option maxRecDepth 100000 in
theorem t_Lo_clashes_9b (v0 : Nat) (v2 : Int32) (v3 : Int32) (h : HP) : xx_S (xx_D "LampYard$Logs" tb_Lo_clashes 4 3 (some .int) false) (xx_z2 (fun s : (Int32 × Int32 × HP) => s.2.2) xz_i) (fun K => xx_L2 (fun s : (Int32 × Int32 × HP) => xx_X K 9 [(0, av_R 3 (some v0)), (2, av_I s.1), (3, av_I s.2.1)] [] (s.2.2)) (xL_i K)) 9 [(0, av_R 3 (some v0)), (2, av_I v2), (3, av_I v3)] [] h (f_Lo_clashes_9b v0 v2 v3 h) := by
  unfold f_Lo_clashes_9b
  refine xs_step (fun K HC => xr_iload_n HC.1 7 10 (n := 3) (ix := 3) (j := 2) (x := v3) rfl rfl rfl rfl) ?_
  refine xs_step (fun K HC => xr_bipush HC.1 8 12 (n := (100)) (100 : Int32) rfl rfl rfl) ?_
  refine xs_ite (fun K HC => xr_icmp_ge HC.1 9 37 15 rfl (by decide) rfl) ?_ ?_
  · refine xs_step (fun K HC => xr_iload_n HC.1 20 38 (n := 2) (ix := 2) (j := 1) (x := v2) rfl rfl rfl rfl) ?_
    exact xs_reti 21 rfl rfl (fun K q => q) (fun ty ht => by cases ht; rfl)
  refine xs_step (fun K HC => xr_aload_n HC.1 10 16 (n := 0) (ix := 0) (j := 0) (c := 3) (x := v0) rfl rfl rfl rfl) ?_
  refine xs_bind (fun q_2 eq_2 => ?_)
  refine xs_step (fun K HC => xr_getr HC.1 11 19 3 7 13 eq_2 rfl rfl wf_Lo_27 (by decide) fb_3_7 fc_3_7 fd_3_7) ?_
  refine xs_step (fun K HC => xr_iload_n HC.1 12 20 (n := 3) (ix := 3) (j := 2) (x := v3) rfl rfl rfl rfl) ?_
  refine xs_chk (fun hb_3 => ?_)
  refine xs_step (fun K HC => xr_iald HC.1 13 21 (hp_in_vp hb_3) rfl rfl) ?_
  refine xs_calli (s_In_bitCount (hp_i h q_2 (v3).toNatClampNeg) h) (fun K HC x9 hM hmo hb => xr_callS HC.1 14 24 (av := [av_I (hp_i h q_2 (v3).toNatClampNeg)]) (st := []) (hM (kg K) (cx_l (kx K))) hmo hb rfl rfl wm_Lo_42 wt_In_bitCount wn_In_bitCount wc_In_bitCount wh_In_bitCount (by decide) (by decide) (Nat.le_of_ble_eq_true rfl) rfl) (fun x_4 => ?_)
  refine xs_step (fun K HC => xr_iconst HC.1 15 25 (n := (1)) (1 : Int32) rfl rfl rfl) ?_
  refine xs_ite (fun K HC => xr_icmp_le HC.1 16 31 28 rfl (by decide) rfl) ?_ ?_
  · exact t_Lo_clashes_31 v0 v2 v3 x_4.2
  refine xs_gen (fun v2_6 ev2_6 => ?_)
  refine xs_step (fun K HC => xr_iinc HC.1 17 31 (ix := 2) (j := 1) (n := (1)) (x := v2) v2_6 (lv' := [(0, av_R 3 (some v0)), (2, av_I v2_6), (3, av_I v3)]) rfl (by rw [ev2_6]; rfl) rfl rfl (by decide) rfl) ?_
  exact t_Lo_clashes_31 v0 v2_6 v3 x_4.2
theorem t_Lo_clashes_9 (v0 : Nat) (v2 : Int32) (v3 : Int32) (h : HP) : xx_S (xx_D "LampYard$Logs" tb_Lo_clashes 4 3 (some .int) false) xz_i (fun K => xL_i K) 9 [(0, av_R 3 (some v0)), (2, av_I v2), (3, av_I v3)] [] h (f_Lo_clashes_9 v0 v2 v3 h) :=
  xs_loop (zf := xz_i) (L := (fun K => xL_i K)) (fun s : (Int32 × Int32 × HP) => [(0, av_R 3 (some v0)), (2, av_I s.1), (3, av_I s.2.1)]) (fun s : (Int32 × Int32 × HP) => s.2.2) (fun s => t_Lo_clashes_9b v0 s.1 s.2.1 s.2.2) (v2, v3, h)
set_option maxHeartbeats 4000000 in
set_option maxRecDepth 100000 in
theorem t_Lo_clashes (v0 : Nat) (v1 : Int32) (h : HP) : xx_S (xx_D "LampYard$Logs" tb_Lo_clashes 4 3 (some .int) false) xz_i (fun K => xL_i K) 0 [(0, av_R 3 (some v0)), (1, av_I v1)] [] h (f_Lo_clashes v0 v1 h) := by
  unfold f_Lo_clashes
  refine xs_step (fun K HC => xr_aload_n HC.1 0 1 (n := 0) (ix := 0) (j := 0) (c := 3) (x := v0) rfl rfl rfl rfl) ?_
  refine xs_step (fun K HC => xr_iload_n HC.1 1 2 (n := 1) (ix := 1) (j := 1) (x := v1) rfl rfl rfl rfl) ?_
  refine xs_callv (s_Lo_gather v0 v1 h) (fun K HC x9 hM hmo hb => xr_callV HC.1 2 5 (av := [av_I v1]) (st := []) (hM (kg K) (cx_l (kx K))) hmo hb rfl rfl wm_Lo_38 wi_Lo_gather ws_Lo_gather wc_Lo_gather rfl wh_Lo_gather (by decide) (by decide) (by decide) (Nat.le_of_ble_eq_true rfl) rfl) (fun x_1 => ?_)
  refine xs_step (fun K HC => xr_iconst HC.1 3 6 (n := (0)) (0 : Int32) rfl rfl rfl) ?_
  refine xs_step (fun K HC => xr_istore_n HC.1 4 7 (n := 2) (ix := 2) (lv' := [(0, av_R 3 (some v0)), (1, av_I v1), (2, av_I (0 : Int32))]) rfl rfl rfl (by decide) rfl) ?_
  refine xs_step (fun K HC => xr_iconst HC.1 5 8 (n := (0)) (0 : Int32) rfl rfl rfl) ?_
  refine xs_step (fun K HC => xr_istore_n HC.1 6 9 (n := 3) (ix := 3) (lv' := [(0, av_R 3 (some v0)), (1, av_I v1), (2, av_I (0 : Int32)), (3, av_I (0 : Int32))]) rfl rfl rfl (by decide) rfl) ?_
  refine xs_step (fun K HC => xr_sub (lv' := [(0, av_R 3 (some v0)), (2, av_I (0 : Int32)), (3, av_I (0 : Int32))]) [0, 2, 3] rfl) ?_
  exact t_Lo_clashes_9 v0 (0 : Int32) (0 : Int32) x_1
theorem s_Lo_clashes (v0 : Nat) (v1 : Int32) (h : HP) : ∀ x, f_Lo_clashes v0 v1 h = some x → hp_mo h x.2 ∧ ∀ g l, xx_M g l y_Lo_clashes prog_5_method_6_code 4 (some .int) 3 [av_R 3 (some v0), av_I v1] h (some (av_I x.1)) x.2 :=
  xM_i (tb := tb_Lo_clashes) (b := false) (by decide +kernel) dt_Lo_clashes (fun _ => trivial) (Nat.le_of_ble_eq_true rfl) (fun hb => by cases hb) (t_Lo_clashes v0 v1 h)
def tb_X_logged : TBL := [(0, .iload_n 1, 1), (1, .ifCond .ne 19, 3), (4, .aload_n 0, 1), (5, .getfield 44, 3), (8, .aload_n 0, 1), (9, .getfield 23, 3), (12, .getfield 63, 3), (15, .iload_n 2, 1), (16, .invokevirtual 238, 3), (19, .ireturn, 1), (20, .iload_n 1, 1), (21, .iconst 1, 1), (22, .if_icmp .ne 14, 3), (25, .aload_n 0, 1), (26, .getfield 44, 3), (29, .iload_n 2, 1), (30, .invokevirtual 241, 3), (33, .goto 4, 3), (36, .iconst (-1), 1), (37, .ireturn, 1)]
theorem dt_X_logged : ∀ q ∈ tb_X_logged, decode prog_1_method_30_code q.1 = .ok (q.2.1, q.2.2) := by decide +kernel
set_option maxHeartbeats 4000000 in
set_option maxRecDepth 100000 in
theorem t_X_logged (v0 : Nat) (v1 : Int32) (v2 : Int32) (h : HP) : xx_S (xx_D "LampYard" tb_X_logged 3 4 (some .int) false) xz_i (fun K => xL_i K) 0 [(0, av_R 10 (some v0)), (1, av_I v1), (2, av_I v2)] [] h (f_X_logged v0 v1 v2 h) := by
  unfold f_X_logged
  refine xs_step (fun K HC => xr_iload_n HC.1 0 1 (n := 1) (ix := 1) (j := 1) (x := v1) rfl rfl rfl rfl) ?_
  refine xs_ite (fun K HC a b => xr_if_ne HC.1 1 20 4 rfl (by decide) rfl b a) ?_ ?_
  · refine xs_step (fun K HC => xr_aload_n HC.1 2 5 (n := 0) (ix := 0) (j := 0) (c := 10) (x := v0) rfl rfl rfl rfl) ?_
    refine xs_bind (fun q_1 eq_1 => ?_)
    refine xs_step (fun K HC => xr_getr HC.1 3 8 10 7 3 eq_1 rfl rfl wf_X_44 (by decide) fb_10_7 fc_10_7 fd_10_7) ?_
    refine xs_step (fun K HC => xr_aload_n HC.1 4 9 (n := 0) (ix := 0) (j := 0) (c := 10) (x := v0) rfl rfl rfl rfl) ?_
    refine xs_bind (fun q_2 eq_2 => ?_)
    refine xs_step (fun K HC => xr_getr HC.1 5 12 10 3 4 eq_2 rfl rfl wf_X_23 (by decide) fb_10_3 fc_10_3 fd_10_3) ?_
    refine xs_step (fun K HC => xr_geti HC.1 6 15 4 5 rfl rfl wf_X_63 (by decide) fb_4_5 fc_4_5) ?_
    refine xs_step (fun K HC => xr_iload_n HC.1 7 16 (n := 2) (ix := 2) (j := 2) (x := v2) rfl rfl rfl rfl) ?_
    refine xs_calli (s_Lo_dayByWhichAll q_1 (hp_i h q_2 5) v2 h) (fun K HC x9 hM hmo hb => xr_callV HC.1 8 19 (av := [av_I (hp_i h q_2 5), av_I v2]) (st := []) (hM (kg K) (cx_l (kx K))) hmo hb rfl rfl wm_X_238 wi_Lo_dayByWhichAll ws_Lo_dayByWhichAll wc_Lo_dayByWhichAll rfl wh_Lo_dayByWhichAll (by decide) (by decide) (by decide) (Nat.le_of_ble_eq_true rfl) rfl) (fun x_3 => ?_)
    exact xs_reti 9 rfl rfl (fun K q => q) (fun ty ht => by cases ht; rfl)
  refine xs_step (fun K HC => xr_iload_n HC.1 10 21 (n := 1) (ix := 1) (j := 1) (x := v1) rfl rfl rfl rfl) ?_
  refine xs_step (fun K HC => xr_iconst HC.1 11 22 (n := (1)) (1 : Int32) rfl rfl rfl) ?_
  refine xs_ite (fun K HC a b => xr_icmp_ne HC.1 12 36 25 rfl (by decide) rfl b a) ?_ ?_
  · refine xs_step (fun K HC => xr_aload_n HC.1 13 26 (n := 0) (ix := 0) (j := 0) (c := 10) (x := v0) rfl rfl rfl rfl) ?_
    refine xs_bind (fun q_4 eq_4 => ?_)
    refine xs_step (fun K HC => xr_getr HC.1 14 29 10 7 3 eq_4 rfl rfl wf_X_44 (by decide) fb_10_7 fc_10_7 fd_10_7) ?_
    refine xs_step (fun K HC => xr_iload_n HC.1 15 30 (n := 2) (ix := 2) (j := 2) (x := v2) rfl rfl rfl rfl) ?_
    refine xs_calli (s_Lo_clashes q_4 v2 h) (fun K HC x9 hM hmo hb => xr_callV HC.1 16 33 (av := [av_I v2]) (st := []) (hM (kg K) (cx_l (kx K))) hmo hb rfl rfl wm_X_241 wi_Lo_clashes ws_Lo_clashes wc_Lo_clashes rfl wh_Lo_clashes (by decide) (by decide) (by decide) (Nat.le_of_ble_eq_true rfl) rfl) (fun x_5 => ?_)
    refine xs_step (fun K HC => xr_goto HC.1 17 37 rfl (by decide)) ?_
    exact xs_reti 19 rfl rfl (fun K q => q) (fun ty ht => by cases ht; rfl)
  refine xs_step (fun K HC => xr_iconst HC.1 18 37 (n := (-1)) (-1 : Int32) rfl rfl rfl) ?_
  exact xs_reti 19 rfl rfl (fun K q => q) (fun ty ht => by cases ht; rfl)
theorem s_X_logged (v0 : Nat) (v1 : Int32) (v2 : Int32) (h : HP) : ∀ x, f_X_logged v0 v1 v2 h = some x → hp_mo h x.2 ∧ ∀ g l, xx_M g l y_X_logged prog_1_method_30_code 3 (some .int) 4 [av_R 10 (some v0), av_I v1, av_I v2] h (some (av_I x.1)) x.2 :=
  xM_i (tb := tb_X_logged) (b := false) (by decide +kernel) dt_X_logged (fun _ => trivial) (Nat.le_of_ble_eq_true rfl) (fun hb => by cases hb) (t_X_logged v0 v1 v2 h)
def tb_Lo_latestOf : TBL := [(0, .aload_n 0, 1), (1, .iload_n 2, 1), (2, .invokevirtual 38, 3), (5, .iconst (-1), 1), (6, .istore_n 3, 1), (7, .iconst 0, 1), (8, .istore 4, 2), (10, .iload 4, 2), (12, .bipush 100, 2), (14, .if_icmp .ge 23, 3), (17, .aload_n 0, 1), (18, .getfield 24, 3), (21, .iload 4, 2), (23, .iaload, 1), (24, .iload_n 1, 1), (25, .if_icmp .ne 6, 3), (28, .iload 4, 2), (30, .istore_n 3, 1), (31, .iinc 4 1, 3), (34, .goto (-24), 3), (37, .iload_n 3, 1), (38, .ireturn, 1)]
theorem dt_Lo_latestOf : ∀ q ∈ tb_Lo_latestOf, decode prog_5_method_7_code q.1 = .ok (q.2.1, q.2.2) := by decide +kernel
set_option maxHeartbeats 4000000 in
set_option maxRecDepth 100000 in
theorem t_Lo_latestOf_31 (v0 : Nat) (v1 : Int32) (v3 : Int32) (v4 : Int32) (h : HP) : xx_S (xx_D "LampYard$Logs" tb_Lo_latestOf 5 3 (some .int) false) (xx_z2 (fun s : (Int32 × Int32 × HP) => s.2.2) xz_i) (fun K => xx_L2 (fun s : (Int32 × Int32 × HP) => xx_X K 10 [(0, av_R 3 (some v0)), (1, av_I v1), (3, av_I s.1), (4, av_I s.2.1)] [] (s.2.2)) (xL_i K)) 31 [(0, av_R 3 (some v0)), (1, av_I v1), (3, av_I v3), (4, av_I v4)] [] h (f_Lo_latestOf_31 v0 v1 v3 v4 h) := by
  unfold f_Lo_latestOf_31
  refine xs_gen (fun v4_4 ev4_4 => ?_)
  refine xs_step (fun K HC => xr_iinc HC.1 18 34 (ix := 4) (j := 3) (n := (1)) (x := v4) v4_4 (lv' := [(0, av_R 3 (some v0)), (1, av_I v1), (3, av_I v3), (4, av_I v4_4)]) rfl (by rw [ev4_4]; rfl) rfl rfl (by decide) rfl) ?_
  refine xs_step (fun K HC => xr_goto HC.1 19 10 rfl (by decide)) ?_
  exact xs_back rfl (fun K q => q)
set_option maxHeartbeats 4000000 in
set_option maxRecDepth 100000 in
theorem t_Lo_latestOf_10b (v0 : Nat) (v1 : Int32) (v3 : Int32) (v4 : Int32) (h : HP) : xx_S (xx_D "LampYard$Logs" tb_Lo_latestOf 5 3 (some .int) false) (xx_z2 (fun s : (Int32 × Int32 × HP) => s.2.2) xz_i) (fun K => xx_L2 (fun s : (Int32 × Int32 × HP) => xx_X K 10 [(0, av_R 3 (some v0)), (1, av_I v1), (3, av_I s.1), (4, av_I s.2.1)] [] (s.2.2)) (xL_i K)) 10 [(0, av_R 3 (some v0)), (1, av_I v1), (3, av_I v3), (4, av_I v4)] [] h (f_Lo_latestOf_10b v0 v1 v3 v4 h) := by
  unfold f_Lo_latestOf_10b
  refine xs_step (fun K HC => xr_iload HC.1 7 12 (ix := 4) (j := 3) (x := v4) rfl rfl rfl) ?_
  refine xs_step (fun K HC => xr_bipush HC.1 8 14 (n := (100)) (100 : Int32) rfl rfl rfl) ?_
  refine xs_ite (fun K HC => xr_icmp_ge HC.1 9 37 17 rfl (by decide) rfl) ?_ ?_
  · refine xs_step (fun K HC => xr_iload_n HC.1 20 38 (n := 3) (ix := 3) (j := 2) (x := v3) rfl rfl rfl rfl) ?_
    exact xs_reti 21 rfl rfl (fun K q => q) (fun ty ht => by cases ht; rfl)
  refine xs_step (fun K HC => xr_aload_n HC.1 10 18 (n := 0) (ix := 0) (j := 0) (c := 3) (x := v0) rfl rfl rfl rfl) ?_
  refine xs_bind (fun q_2 eq_2 => ?_)
  refine xs_step (fun K HC => xr_getr HC.1 11 21 3 6 13 eq_2 rfl rfl wf_Lo_24 (by decide) fb_3_6 fc_3_6 fd_3_6) ?_
  refine xs_step (fun K HC => xr_iload HC.1 12 23 (ix := 4) (j := 3) (x := v4) rfl rfl rfl) ?_
  refine xs_chk (fun hb_3 => ?_)
  refine xs_step (fun K HC => xr_iald HC.1 13 24 (hp_in_vp hb_3) rfl rfl) ?_
  refine xs_step (fun K HC => xr_iload_n HC.1 14 25 (n := 1) (ix := 1) (j := 1) (x := v1) rfl rfl rfl rfl) ?_
  refine xs_ite (fun K HC a b => xr_icmp_ne HC.1 15 31 28 rfl (by decide) rfl b a) ?_ ?_
  · refine xs_step (fun K HC => xr_iload HC.1 16 30 (ix := 4) (j := 3) (x := v4) rfl rfl rfl) ?_
    refine xs_step (fun K HC => xr_istore_n HC.1 17 31 (n := 3) (ix := 3) (lv' := [(0, av_R 3 (some v0)), (1, av_I v1), (3, av_I v4), (4, av_I v4)]) rfl rfl rfl (by decide) rfl) ?_
    exact t_Lo_latestOf_31 v0 v1 v4 v4 h
  exact t_Lo_latestOf_31 v0 v1 v3 v4 h
theorem t_Lo_latestOf_10 (v0 : Nat) (v1 : Int32) (v3 : Int32) (v4 : Int32) (h : HP) : xx_S (xx_D "LampYard$Logs" tb_Lo_latestOf 5 3 (some .int) false) xz_i (fun K => xL_i K) 10 [(0, av_R 3 (some v0)), (1, av_I v1), (3, av_I v3), (4, av_I v4)] [] h (f_Lo_latestOf_10 v0 v1 v3 v4 h) :=
  xs_loop (zf := xz_i) (L := (fun K => xL_i K)) (fun s : (Int32 × Int32 × HP) => [(0, av_R 3 (some v0)), (1, av_I v1), (3, av_I s.1), (4, av_I s.2.1)]) (fun s : (Int32 × Int32 × HP) => s.2.2) (fun s => t_Lo_latestOf_10b v0 v1 s.1 s.2.1 s.2.2) (v3, v4, h)
set_option maxHeartbeats 4000000 in
set_option maxRecDepth 100000 in
theorem t_Lo_latestOf (v0 : Nat) (v1 : Int32) (v2 : Int32) (h : HP) : xx_S (xx_D "LampYard$Logs" tb_Lo_latestOf 5 3 (some .int) false) xz_i (fun K => xL_i K) 0 [(0, av_R 3 (some v0)), (1, av_I v1), (2, av_I v2)] [] h (f_Lo_latestOf v0 v1 v2 h) := by
  unfold f_Lo_latestOf
  refine xs_step (fun K HC => xr_aload_n HC.1 0 1 (n := 0) (ix := 0) (j := 0) (c := 3) (x := v0) rfl rfl rfl rfl) ?_
  refine xs_step (fun K HC => xr_iload_n HC.1 1 2 (n := 2) (ix := 2) (j := 2) (x := v2) rfl rfl rfl rfl) ?_
  refine xs_callv (s_Lo_gather v0 v2 h) (fun K HC x9 hM hmo hb => xr_callV HC.1 2 5 (av := [av_I v2]) (st := []) (hM (kg K) (cx_l (kx K))) hmo hb rfl rfl wm_Lo_38 wi_Lo_gather ws_Lo_gather wc_Lo_gather rfl wh_Lo_gather (by decide) (by decide) (by decide) (Nat.le_of_ble_eq_true rfl) rfl) (fun x_1 => ?_)
  refine xs_step (fun K HC => xr_iconst HC.1 3 6 (n := (-1)) (-1 : Int32) rfl rfl rfl) ?_
  refine xs_step (fun K HC => xr_istore_n HC.1 4 7 (n := 3) (ix := 3) (lv' := [(0, av_R 3 (some v0)), (1, av_I v1), (2, av_I v2), (3, av_I (-1 : Int32))]) rfl rfl rfl (by decide) rfl) ?_
  refine xs_step (fun K HC => xr_iconst HC.1 5 8 (n := (0)) (0 : Int32) rfl rfl rfl) ?_
  refine xs_step (fun K HC => xr_istore HC.1 6 10 (ix := 4) (lv' := [(0, av_R 3 (some v0)), (1, av_I v1), (2, av_I v2), (3, av_I (-1 : Int32)), (4, av_I (0 : Int32))]) rfl rfl (by decide) rfl) ?_
  refine xs_step (fun K HC => xr_sub (lv' := [(0, av_R 3 (some v0)), (1, av_I v1), (3, av_I (-1 : Int32)), (4, av_I (0 : Int32))]) [0, 1, 3, 4] rfl) ?_
  exact t_Lo_latestOf_10 v0 v1 (-1 : Int32) (0 : Int32) x_1
theorem s_Lo_latestOf (v0 : Nat) (v1 : Int32) (v2 : Int32) (h : HP) : ∀ x, f_Lo_latestOf v0 v1 v2 h = some x → hp_mo h x.2 ∧ ∀ g l, xx_M g l y_Lo_latestOf prog_5_method_7_code 5 (some .int) 3 [av_R 3 (some v0), av_I v1, av_I v2] h (some (av_I x.1)) x.2 :=
  xM_i (tb := tb_Lo_latestOf) (b := false) (by decide +kernel) dt_Lo_latestOf (fun _ => trivial) (Nat.le_of_ble_eq_true rfl) (fun hb => by cases hb) (t_Lo_latestOf v0 v1 v2 h)
def tb_X_last : TBL := [(0, .aload_n 0, 1), (1, .getfield 23, 3), (4, .iload_n 1, 1), (5, .invokevirtual 80, 3), (8, .ifCond .eq 15, 3), (11, .aload_n 0, 1), (12, .getfield 44, 3), (15, .iload_n 1, 1), (16, .iload_n 2, 1), (17, .invokevirtual 244, 3), (20, .goto 4, 3), (23, .iconst (-1), 1), (24, .ireturn, 1)]
theorem dt_X_last : ∀ q ∈ tb_X_last, decode prog_1_method_31_code q.1 = .ok (q.2.1, q.2.2) := by decide +kernel
set_option maxHeartbeats 4000000 in
set_option maxRecDepth 100000 in
theorem t_X_last (v0 : Nat) (v1 : Int32) (v2 : Int32) (h : HP) : xx_S (xx_D "LampYard" tb_X_last 3 4 (some .int) false) xz_i (fun K => xL_i K) 0 [(0, av_R 10 (some v0)), (1, av_I v1), (2, av_I v2)] [] h (f_X_last v0 v1 v2 h) := by
  unfold f_X_last
  refine xs_step (fun K HC => xr_aload_n HC.1 0 1 (n := 0) (ix := 0) (j := 0) (c := 10) (x := v0) rfl rfl rfl rfl) ?_
  refine xs_bind (fun q_1 eq_1 => ?_)
  refine xs_step (fun K HC => xr_getr HC.1 1 4 10 3 4 eq_1 rfl rfl wf_X_23 (by decide) fb_10_3 fc_10_3 fd_10_3) ?_
  refine xs_step (fun K HC => xr_iload_n HC.1 2 5 (n := 1) (ix := 1) (j := 1) (x := v1) rfl rfl rfl rfl) ?_
  refine xs_calli (s_Pl_hasMan q_1 v1 h) (fun K HC x9 hM hmo hb => xr_callV HC.1 3 8 (av := [av_I v1]) (st := []) (hM (kg K) (cx_l (kx K))) hmo hb rfl rfl wm_X_80 wi_Pl_hasMan ws_Pl_hasMan wc_Pl_hasMan rfl wh_Pl_hasMan (by decide) (by decide) (by decide) (Nat.le_of_ble_eq_true rfl) rfl) (fun x_2 => ?_)
  refine xs_ite (fun K HC => xr_if_eq HC.1 4 23 11 rfl (by decide) rfl) ?_ ?_
  · refine xs_step (fun K HC => xr_iconst HC.1 11 24 (n := (-1)) (-1 : Int32) rfl rfl rfl) ?_
    exact xs_reti 12 rfl rfl (fun K q => q) (fun ty ht => by cases ht; rfl)
  refine xs_step (fun K HC => xr_aload_n HC.1 5 12 (n := 0) (ix := 0) (j := 0) (c := 10) (x := v0) rfl rfl rfl rfl) ?_
  refine xs_bind (fun q_3 eq_3 => ?_)
  refine xs_step (fun K HC => xr_getr HC.1 6 15 10 7 3 eq_3 rfl rfl wf_X_44 (by decide) fb_10_7 fc_10_7 fd_10_7) ?_
  refine xs_step (fun K HC => xr_iload_n HC.1 7 16 (n := 1) (ix := 1) (j := 1) (x := v1) rfl rfl rfl rfl) ?_
  refine xs_step (fun K HC => xr_iload_n HC.1 8 17 (n := 2) (ix := 2) (j := 2) (x := v2) rfl rfl rfl rfl) ?_
  refine xs_calli (s_Lo_latestOf q_3 v1 v2 x_2.2) (fun K HC x9 hM hmo hb => xr_callV HC.1 9 20 (av := [av_I v1, av_I v2]) (st := []) (hM (kg K) (cx_l (kx K))) hmo hb rfl rfl wm_X_244 wi_Lo_latestOf ws_Lo_latestOf wc_Lo_latestOf rfl wh_Lo_latestOf (by decide) (by decide) (by decide) (Nat.le_of_ble_eq_true rfl) rfl) (fun x_4 => ?_)
  refine xs_step (fun K HC => xr_goto HC.1 10 24 rfl (by decide)) ?_
  exact xs_reti 12 rfl rfl (fun K q => q) (fun ty ht => by cases ht; rfl)
theorem s_X_last (v0 : Nat) (v1 : Int32) (v2 : Int32) (h : HP) : ∀ x, f_X_last v0 v1 v2 h = some x → hp_mo h x.2 ∧ ∀ g l, xx_M g l y_X_last prog_1_method_31_code 3 (some .int) 4 [av_R 10 (some v0), av_I v1, av_I v2] h (some (av_I x.1)) x.2 :=
  xM_i (tb := tb_X_last) (b := false) (by decide +kernel) dt_X_last (fun _ => trivial) (Nat.le_of_ble_eq_true rfl) (fun hb => by cases hb) (t_X_last v0 v1 v2 h)
def tb_Lo_latestWithoutGap : TBL := [(0, .aload_n 0, 1), (1, .iload_n 1, 1), (2, .invokevirtual 38, 3), (5, .iconst (-1), 1), (6, .istore_n 2, 1), (7, .iconst 0, 1), (8, .istore_n 3, 1), (9, .iconst 0, 1), (10, .istore 4, 2), (12, .iload 4, 2), (14, .bipush 100, 2), (16, .if_icmp .ge 26, 3), (19, .aload_n 0, 1), (20, .getfield 24, 3), (23, .iload 4, 2), (25, .iaload, 1), (26, .iconst (-1), 1), (27, .if_icmp .eq 9, 3), (30, .iload 4, 2), (32, .istore_n 2, 1), (33, .iinc 3 1, 3), (36, .iinc 4 1, 3), (39, .goto (-27), 3), (42, .iload_n 3, 1), (43, .iload_n 2, 1), (44, .iconst 1, 1), (45, .iadd, 1), (46, .if_icmp .ne 7, 3), (49, .iload_n 2, 1), (50, .goto 4, 3), (53, .iconst (-1), 1), (54, .ireturn, 1)]
theorem dt_Lo_latestWithoutGap : ∀ q ∈ tb_Lo_latestWithoutGap, decode prog_5_method_9_code q.1 = .ok (q.2.1, q.2.2) := by decide +kernel
set_option maxHeartbeats 4000000 in
set_option maxRecDepth 100000 in
theorem t_Lo_latestWithoutGap_42 (v2 : Int32) (v3 : Int32) (h : HP) : xx_S (xx_D "LampYard$Logs" tb_Lo_latestWithoutGap 5 3 (some .int) false) xz_i (fun K => xL_i K) 42 [(2, av_I v2), (3, av_I v3)] [] h (f_Lo_latestWithoutGap_42 v2 v3 h) := by
  unfold f_Lo_latestWithoutGap_42
  refine xs_step (fun K HC => xr_iload_n HC.1 23 43 (n := 3) (ix := 3) (j := 1) (x := v3) rfl rfl rfl rfl) ?_
  refine xs_step (fun K HC => xr_iload_n HC.1 24 44 (n := 2) (ix := 2) (j := 0) (x := v2) rfl rfl rfl rfl) ?_
  refine xs_step (fun K HC => xr_iconst HC.1 25 45 (n := (1)) (1 : Int32) rfl rfl rfl) ?_
  refine xs_step (fun K HC => xr_iadd HC.1 26 46 rfl rfl) ?_
  refine xs_ite (fun K HC a b => xr_icmp_ne HC.1 27 53 49 rfl (by decide) rfl b a) ?_ ?_
  · refine xs_step (fun K HC => xr_iload_n HC.1 28 50 (n := 2) (ix := 2) (j := 0) (x := v2) rfl rfl rfl rfl) ?_
    refine xs_step (fun K HC => xr_goto HC.1 29 54 rfl (by decide)) ?_
    exact xs_reti 31 rfl rfl (fun K q => q) (fun ty ht => by cases ht; rfl)
  refine xs_step (fun K HC => xr_iconst HC.1 30 54 (n := (-1)) (-1 : Int32) rfl rfl rfl) ?_
  exact xs_reti 31 rfl rfl (fun K q => q) (fun ty ht => by cases ht; rfl)
set_option maxHeartbeats 4000000 in
set_option maxRecDepth 100000 in
theorem t_Lo_latestWithoutGap_36 (v0 : Nat) (v2 : Int32) (v3 : Int32) (v4 : Int32) (h : HP) : xx_S (xx_D "LampYard$Logs" tb_Lo_latestWithoutGap 5 3 (some .int) false) (xx_z2 (fun s : (Int32 × Int32 × Int32 × HP) => s.2.2.2) xz_i) (fun K => xx_L2 (fun s : (Int32 × Int32 × Int32 × HP) => xx_X K 12 [(0, av_R 3 (some v0)), (2, av_I s.1), (3, av_I s.2.1), (4, av_I s.2.2.1)] [] (s.2.2.2)) (xL_i K)) 36 [(0, av_R 3 (some v0)), (2, av_I v2), (3, av_I v3), (4, av_I v4)] [] h (f_Lo_latestWithoutGap_36 v0 v2 v3 v4 h) := by
  unfold f_Lo_latestWithoutGap_36
  refine xs_gen (fun v4_4 ev4_4 => ?_)
  refine xs_step (fun K HC => xr_iinc HC.1 21 39 (ix := 4) (j := 3) (n := (1)) (x := v4) v4_4 (lv' := [(0, av_R 3 (some v0)), (2, av_I v2), (3, av_I v3), (4, av_I v4_4)]) rfl (by rw [ev4_4]; rfl) rfl rfl (by decide) rfl) ?_
  refine xs_step (fun K HC => xr_goto HC.1 22 12 rfl (by decide)) ?_
  exact xs_back rfl (fun K q => q)
set_option maxHeartbeats 4000000 in
set_option maxRecDepth 100000 in
theorem t_Lo_latestWithoutGap_12b (v0 : Nat) (v2 : Int32) (v3 : Int32) (v4 : Int32) (h : HP) : xx_S (xx_D "LampYard$Logs" tb_Lo_latestWithoutGap 5 3 (some .int) false) (xx_z2 (fun s : (Int32 × Int32 × Int32 × HP) => s.2.2.2) xz_i) (fun K => xx_L2 (fun s : (Int32 × Int32 × Int32 × HP) => xx_X K 12 [(0, av_R 3 (some v0)), (2, av_I s.1), (3, av_I s.2.1), (4, av_I s.2.2.1)] [] (s.2.2.2)) (xL_i K)) 12 [(0, av_R 3 (some v0)), (2, av_I v2), (3, av_I v3), (4, av_I v4)] [] h (f_Lo_latestWithoutGap_12b v0 v2 v3 v4 h) := by
  unfold f_Lo_latestWithoutGap_12b
  refine xs_step (fun K HC => xr_iload HC.1 9 14 (ix := 4) (j := 3) (x := v4) rfl rfl rfl) ?_
  refine xs_step (fun K HC => xr_bipush HC.1 10 16 (n := (100)) (100 : Int32) rfl rfl rfl) ?_
  refine xs_ite (fun K HC => xr_icmp_ge HC.1 11 42 19 rfl (by decide) rfl) ?_ ?_
  · refine xs_step (fun K HC => xr_sub (lv' := [(2, av_I v2), (3, av_I v3)]) [1, 2] rfl) ?_
    exact xs_map (fun _ => rfl) (fun _ _ q => q) (t_Lo_latestWithoutGap_42 v2 v3 h)
  refine xs_step (fun K HC => xr_aload_n HC.1 12 20 (n := 0) (ix := 0) (j := 0) (c := 3) (x := v0) rfl rfl rfl rfl) ?_
  refine xs_bind (fun q_2 eq_2 => ?_)
  refine xs_step (fun K HC => xr_getr HC.1 13 23 3 6 13 eq_2 rfl rfl wf_Lo_24 (by decide) fb_3_6 fc_3_6 fd_3_6) ?_
  refine xs_step (fun K HC => xr_iload HC.1 14 25 (ix := 4) (j := 3) (x := v4) rfl rfl rfl) ?_
  refine xs_chk (fun hb_3 => ?_)
  refine xs_step (fun K HC => xr_iald HC.1 15 26 (hp_in_vp hb_3) rfl rfl) ?_
  refine xs_step (fun K HC => xr_iconst HC.1 16 27 (n := (-1)) (-1 : Int32) rfl rfl rfl) ?_
  refine xs_ite (fun K HC => xr_icmp_eq HC.1 17 36 30 rfl (by decide) rfl) ?_ ?_
  · exact t_Lo_latestWithoutGap_36 v0 v2 v3 v4 h
  refine xs_step (fun K HC => xr_iload HC.1 18 32 (ix := 4) (j := 3) (x := v4) rfl rfl rfl) ?_
  refine xs_step (fun K HC => xr_istore_n HC.1 19 33 (n := 2) (ix := 2) (lv' := [(0, av_R 3 (some v0)), (2, av_I v4), (3, av_I v3), (4, av_I v4)]) rfl rfl rfl (by decide) rfl) ?_
  refine xs_gen (fun v3_5 ev3_5 => ?_)
  refine xs_step (fun K HC => xr_iinc HC.1 20 36 (ix := 3) (j := 2) (n := (1)) (x := v3) v3_5 (lv' := [(0, av_R 3 (some v0)), (2, av_I v4), (3, av_I v3_5), (4, av_I v4)]) rfl (by rw [ev3_5]; rfl) rfl rfl (by decide) rfl) ?_
  exact t_Lo_latestWithoutGap_36 v0 v4 v3_5 v4 h
theorem t_Lo_latestWithoutGap_12 (v0 : Nat) (v2 : Int32) (v3 : Int32) (v4 : Int32) (h : HP) : xx_S (xx_D "LampYard$Logs" tb_Lo_latestWithoutGap 5 3 (some .int) false) xz_i (fun K => xL_i K) 12 [(0, av_R 3 (some v0)), (2, av_I v2), (3, av_I v3), (4, av_I v4)] [] h (f_Lo_latestWithoutGap_12 v0 v2 v3 v4 h) :=
  xs_loop (zf := xz_i) (L := (fun K => xL_i K)) (fun s : (Int32 × Int32 × Int32 × HP) => [(0, av_R 3 (some v0)), (2, av_I s.1), (3, av_I s.2.1), (4, av_I s.2.2.1)]) (fun s : (Int32 × Int32 × Int32 × HP) => s.2.2.2) (fun s => t_Lo_latestWithoutGap_12b v0 s.1 s.2.1 s.2.2.1 s.2.2.2) (v2, v3, v4, h)
set_option maxHeartbeats 4000000 in
set_option maxRecDepth 100000 in
theorem t_Lo_latestWithoutGap (v0 : Nat) (v1 : Int32) (h : HP) : xx_S (xx_D "LampYard$Logs" tb_Lo_latestWithoutGap 5 3 (some .int) false) xz_i (fun K => xL_i K) 0 [(0, av_R 3 (some v0)), (1, av_I v1)] [] h (f_Lo_latestWithoutGap v0 v1 h) := by
  unfold f_Lo_latestWithoutGap
  refine xs_step (fun K HC => xr_aload_n HC.1 0 1 (n := 0) (ix := 0) (j := 0) (c := 3) (x := v0) rfl rfl rfl rfl) ?_
  refine xs_step (fun K HC => xr_iload_n HC.1 1 2 (n := 1) (ix := 1) (j := 1) (x := v1) rfl rfl rfl rfl) ?_
  refine xs_callv (s_Lo_gather v0 v1 h) (fun K HC x9 hM hmo hb => xr_callV HC.1 2 5 (av := [av_I v1]) (st := []) (hM (kg K) (cx_l (kx K))) hmo hb rfl rfl wm_Lo_38 wi_Lo_gather ws_Lo_gather wc_Lo_gather rfl wh_Lo_gather (by decide) (by decide) (by decide) (Nat.le_of_ble_eq_true rfl) rfl) (fun x_1 => ?_)
  refine xs_step (fun K HC => xr_iconst HC.1 3 6 (n := (-1)) (-1 : Int32) rfl rfl rfl) ?_
  refine xs_step (fun K HC => xr_istore_n HC.1 4 7 (n := 2) (ix := 2) (lv' := [(0, av_R 3 (some v0)), (1, av_I v1), (2, av_I (-1 : Int32))]) rfl rfl rfl (by decide) rfl) ?_
  refine xs_step (fun K HC => xr_iconst HC.1 5 8 (n := (0)) (0 : Int32) rfl rfl rfl) ?_
  refine xs_step (fun K HC => xr_istore_n HC.1 6 9 (n := 3) (ix := 3) (lv' := [(0, av_R 3 (some v0)), (1, av_I v1), (2, av_I (-1 : Int32)), (3, av_I (0 : Int32))]) rfl rfl rfl (by decide) rfl) ?_
  refine xs_step (fun K HC => xr_iconst HC.1 7 10 (n := (0)) (0 : Int32) rfl rfl rfl) ?_
  refine xs_step (fun K HC => xr_istore HC.1 8 12 (ix := 4) (lv' := [(0, av_R 3 (some v0)), (1, av_I v1), (2, av_I (-1 : Int32)), (3, av_I (0 : Int32)), (4, av_I (0 : Int32))]) rfl rfl (by decide) rfl) ?_
  refine xs_step (fun K HC => xr_sub (lv' := [(0, av_R 3 (some v0)), (2, av_I (-1 : Int32)), (3, av_I (0 : Int32)), (4, av_I (0 : Int32))]) [0, 2, 3, 4] rfl) ?_
  exact t_Lo_latestWithoutGap_12 v0 (-1 : Int32) (0 : Int32) (0 : Int32) x_1
theorem s_Lo_latestWithoutGap (v0 : Nat) (v1 : Int32) (h : HP) : ∀ x, f_Lo_latestWithoutGap v0 v1 h = some x → hp_mo h x.2 ∧ ∀ g l, xx_M g l y_Lo_latestWithoutGap prog_5_method_9_code 5 (some .int) 3 [av_R 3 (some v0), av_I v1] h (some (av_I x.1)) x.2 :=
  xM_i (tb := tb_Lo_latestWithoutGap) (b := false) (by decide +kernel) dt_Lo_latestWithoutGap (fun _ => trivial) (Nat.le_of_ble_eq_true rfl) (fun hb => by cases hb) (t_Lo_latestWithoutGap v0 v1 h)
