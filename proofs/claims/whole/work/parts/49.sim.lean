def tb_M_right : TBL := [(0, .aload_n 0, 1), (1, .iconst (-1), 1), (2, .invokevirtual 521, 3), (5, .ifCond .ne 8, 3), (8, .bipush (-2), 2), (10, .goto 17, 3), (13, .aload_n 0, 1), (14, .bipush (-3), 2), (16, .invokevirtual 524, 3), (19, .ifCond .ne 7, 3), (22, .iconst 1, 1), (23, .goto 4, 3), (26, .iconst 0, 1), (27, .ireturn, 1)]
theorem dt_M_right : ∀ q ∈ tb_M_right, decode prog_14_method_67_code q.1 = .ok (q.2.1, q.2.2) := by decide +kernel
set_option maxHeartbeats 4000000 in
set_option maxRecDepth 100000 in
theorem t_M_right (v0 : Nat) (h : HP) : xx_S (xx_D "LampYardModel" tb_M_right 1 8 (some .int) false) xz_i (fun K => xL_i K) 0 [(0, av_R 11 (some v0))] [] h (f_M_right v0 h) := by
  unfold f_M_right
  refine xs_step (fun K HC => xr_aload_n HC.1 0 1 (n := 0) (ix := 0) (j := 0) (c := 11) (x := v0) rfl rfl rfl rfl) ?_
  refine xs_step (fun K HC => xr_iconst HC.1 1 2 (n := (-1)) (-1 : Int32) rfl rfl rfl) ?_
  refine xs_calli (s_M_layPlan v0 (-1 : Int32) h) (fun K HC x9 hM hmo hb => xr_callV HC.1 2 5 (av := [av_I (-1 : Int32)]) (st := []) (hM (kg K) (cx_l (kx K))) hmo hb rfl rfl wm_M_521 wi_M_layPlan ws_M_layPlan wc_M_layPlan rfl wh_M_layPlan (by decide) (by decide) (by decide) (Nat.le_of_ble_eq_true rfl) rfl) (fun x_1 => ?_)
  refine xs_ite (fun K HC a b => xr_if_ne HC.1 3 13 8 rfl (by decide) rfl b a) ?_ ?_
  · refine xs_step (fun K HC => xr_bipush HC.1 4 10 (n := (-2)) (-2 : Int32) rfl rfl rfl) ?_
    refine xs_step (fun K HC => xr_goto HC.1 5 27 rfl (by decide)) ?_
    exact xs_reti 13 rfl rfl (fun K q => q) (fun ty ht => by cases ht; rfl)
  refine xs_step (fun K HC => xr_aload_n HC.1 6 14 (n := 0) (ix := 0) (j := 0) (c := 11) (x := v0) rfl rfl rfl rfl) ?_
  refine xs_step (fun K HC => xr_bipush HC.1 7 16 (n := (-3)) (-3 : Int32) rfl rfl rfl) ?_
  refine xs_calli (s_M_leads v0 (-3 : Int32) x_1.2) (fun K HC x9 hM hmo hb => xr_callV HC.1 8 19 (av := [av_I (-3 : Int32)]) (st := []) (hM (kg K) (cx_l (kx K))) hmo hb rfl rfl wm_M_524 wi_M_leads ws_M_leads wc_M_leads rfl wh_M_leads (by decide) (by decide) (by decide) (Nat.le_of_ble_eq_true rfl) rfl) (fun x_2 => ?_)
  refine xs_ite (fun K HC a b => xr_if_ne HC.1 9 26 22 rfl (by decide) rfl b a) ?_ ?_
  · refine xs_step (fun K HC => xr_iconst HC.1 10 23 (n := (1)) (1 : Int32) rfl rfl rfl) ?_
    refine xs_step (fun K HC => xr_goto HC.1 11 27 rfl (by decide)) ?_
    exact xs_reti 13 rfl rfl (fun K q => q) (fun ty ht => by cases ht; rfl)
  refine xs_step (fun K HC => xr_iconst HC.1 12 27 (n := (0)) (0 : Int32) rfl rfl rfl) ?_
  exact xs_reti 13 rfl rfl (fun K q => q) (fun ty ht => by cases ht; rfl)
theorem s_M_right (v0 : Nat) (h : HP) : ∀ x, f_M_right v0 h = some x → hp_mo h x.2 ∧ ∀ g l, xx_M g l y_M_right prog_14_method_67_code 1 (some .int) 8 [av_R 11 (some v0)] h (some (av_I x.1)) x.2 :=
  xM_i (tb := tb_M_right) (b := false) (by decide +kernel) dt_M_right (fun _ => trivial) (Nat.le_of_ble_eq_true rfl) (fun hb => by cases hb) (t_M_right v0 h)
def tb_M_bears : TBL := [(0, .iload_n 1, 1), (1, .ifCond .lt 8, 3), (4, .iload_n 1, 1), (5, .iconst 2, 1), (6, .if_icmp .le 7, 3), (9, .iconst (-1), 1), (10, .goto 30, 3), (13, .aload_n 0, 1), (14, .iload_n 1, 1), (15, .invokevirtual 521, 3), (18, .ifCond .ne 8, 3), (21, .bipush (-2), 2), (23, .goto 17, 3), (26, .aload_n 0, 1), (27, .bipush (-3), 2), (29, .invokevirtual 524, 3), (32, .ifCond .ne 7, 3), (35, .iconst 1, 1), (36, .goto 4, 3), (39, .iconst 0, 1), (40, .ireturn, 1)]
theorem dt_M_bears : ∀ q ∈ tb_M_bears, decode prog_14_method_68_code q.1 = .ok (q.2.1, q.2.2) := by decide +kernel
set_option maxHeartbeats 4000000 in
set_option maxRecDepth 100000 in
theorem t_M_bears (v0 : Nat) (v1 : Int32) (h : HP) : xx_S (xx_D "LampYardModel" tb_M_bears 2 8 (some .int) false) xz_i (fun K => xL_i K) 0 [(0, av_R 11 (some v0)), (1, av_I v1)] [] h (f_M_bears v0 v1 h) := by
  unfold f_M_bears
  refine xs_step (fun K HC => xr_iload_n HC.1 0 1 (n := 1) (ix := 1) (j := 1) (x := v1) rfl rfl rfl rfl) ?_
  refine xs_ite (fun K HC => xr_if_lt HC.1 1 9 4 rfl (by decide) rfl) ?_ ?_
  · refine xs_step (fun K HC => xr_iconst HC.1 5 10 (n := (-1)) (-1 : Int32) rfl rfl rfl) ?_
    refine xs_step (fun K HC => xr_goto HC.1 6 40 rfl (by decide)) ?_
    exact xs_reti 20 rfl rfl (fun K q => q) (fun ty ht => by cases ht; rfl)
  refine xs_step (fun K HC => xr_iload_n HC.1 2 5 (n := 1) (ix := 1) (j := 1) (x := v1) rfl rfl rfl rfl) ?_
  refine xs_step (fun K HC => xr_iconst HC.1 3 6 (n := (2)) (2 : Int32) rfl rfl rfl) ?_
  refine xs_ite (fun K HC => xr_icmp_le HC.1 4 13 9 rfl (by decide) rfl) ?_ ?_
  · refine xs_step (fun K HC => xr_aload_n HC.1 7 14 (n := 0) (ix := 0) (j := 0) (c := 11) (x := v0) rfl rfl rfl rfl) ?_
    refine xs_step (fun K HC => xr_iload_n HC.1 8 15 (n := 1) (ix := 1) (j := 1) (x := v1) rfl rfl rfl rfl) ?_
    refine xs_calli (s_M_layPlan v0 v1 h) (fun K HC x9 hM hmo hb => xr_callV HC.1 9 18 (av := [av_I v1]) (st := []) (hM (kg K) (cx_l (kx K))) hmo hb rfl rfl wm_M_521 wi_M_layPlan ws_M_layPlan wc_M_layPlan rfl wh_M_layPlan (by decide) (by decide) (by decide) (Nat.le_of_ble_eq_true rfl) rfl) (fun x_1 => ?_)
    refine xs_ite (fun K HC a b => xr_if_ne HC.1 10 26 21 rfl (by decide) rfl b a) ?_ ?_
    · refine xs_step (fun K HC => xr_bipush HC.1 11 23 (n := (-2)) (-2 : Int32) rfl rfl rfl) ?_
      refine xs_step (fun K HC => xr_goto HC.1 12 40 rfl (by decide)) ?_
      exact xs_reti 20 rfl rfl (fun K q => q) (fun ty ht => by cases ht; rfl)
    refine xs_step (fun K HC => xr_aload_n HC.1 13 27 (n := 0) (ix := 0) (j := 0) (c := 11) (x := v0) rfl rfl rfl rfl) ?_
    refine xs_step (fun K HC => xr_bipush HC.1 14 29 (n := (-3)) (-3 : Int32) rfl rfl rfl) ?_
    refine xs_calli (s_M_leads v0 (-3 : Int32) x_1.2) (fun K HC x9 hM hmo hb => xr_callV HC.1 15 32 (av := [av_I (-3 : Int32)]) (st := []) (hM (kg K) (cx_l (kx K))) hmo hb rfl rfl wm_M_524 wi_M_leads ws_M_leads wc_M_leads rfl wh_M_leads (by decide) (by decide) (by decide) (Nat.le_of_ble_eq_true rfl) rfl) (fun x_2 => ?_)
    refine xs_ite (fun K HC a b => xr_if_ne HC.1 16 39 35 rfl (by decide) rfl b a) ?_ ?_
    · refine xs_step (fun K HC => xr_iconst HC.1 17 36 (n := (1)) (1 : Int32) rfl rfl rfl) ?_
      refine xs_step (fun K HC => xr_goto HC.1 18 40 rfl (by decide)) ?_
      exact xs_reti 20 rfl rfl (fun K q => q) (fun ty ht => by cases ht; rfl)
    refine xs_step (fun K HC => xr_iconst HC.1 19 40 (n := (0)) (0 : Int32) rfl rfl rfl) ?_
    exact xs_reti 20 rfl rfl (fun K q => q) (fun ty ht => by cases ht; rfl)
  refine xs_step (fun K HC => xr_iconst HC.1 5 10 (n := (-1)) (-1 : Int32) rfl rfl rfl) ?_
  refine xs_step (fun K HC => xr_goto HC.1 6 40 rfl (by decide)) ?_
  exact xs_reti 20 rfl rfl (fun K q => q) (fun ty ht => by cases ht; rfl)
theorem s_M_bears (v0 : Nat) (v1 : Int32) (h : HP) : ∀ x, f_M_bears v0 v1 h = some x → hp_mo h x.2 ∧ ∀ g l, xx_M g l y_M_bears prog_14_method_68_code 2 (some .int) 8 [av_R 11 (some v0), av_I v1] h (some (av_I x.1)) x.2 :=
  xM_i (tb := tb_M_bears) (b := false) (by decide +kernel) dt_M_bears (fun _ => trivial) (Nat.le_of_ble_eq_true rfl) (fun hb => by cases hb) (t_M_bears v0 v1 h)
def tb_M_isNear : TBL := [(0, .iconst 0, 1), (1, .istore 4, 2), (3, .iload 4, 2), (5, .aload_n 0, 1), (6, .getfield 401, 3), (9, .if_icmp .ge 57, 3), (12, .aload_n 0, 1), (13, .getfield 100, 3), (16, .bipush 6, 2), (18, .iload_n 1, 1), (19, .imul, 1), (20, .iload 4, 2), (22, .iadd, 1), (23, .iaload, 1), (24, .istore 5, 2), (26, .iload_n 3, 1), (27, .iconst 1, 1), (28, .if_icmp .ne 12, 3), (31, .iload 5, 2), (33, .iload_n 2, 1), (34, .if_icmp .ne 26, 3), (37, .goto 21, 3), (40, .iload 5, 2), (42, .ifCond .lt 18, 3), (45, .aload_n 0, 1), (46, .getfield 103, 3), (49, .iload 5, 2), (51, .iaload, 1), (52, .iload_n 3, 1), (53, .iconst 1, 1), (54, .isub, 1), (55, .if_icmp .ne 5, 3), (58, .iconst 1, 1), (59, .ireturn, 1), (60, .iinc 4 1, 3), (63, .goto (-60), 3), (66, .iconst 0, 1), (67, .ireturn, 1)]
theorem dt_M_isNear : ∀ q ∈ tb_M_isNear, decode prog_14_method_69_code q.1 = .ok (q.2.1, q.2.2) := by decide +kernel
set_option maxHeartbeats 4000000 in
set_option maxRecDepth 100000 in
theorem t_M_isNear_60 (v0 : Nat) (v1 : Int32) (v2 : Int32) (v3 : Int32) (v4 : Int32) (h : HP) : xx_S (xx_D "LampYardModel" tb_M_isNear 6 1 (some .boolean) false) (xx_z2 (fun s : (Int32 × HP) => s.2) xz_i) (fun K => xx_L2 (fun s : (Int32 × HP) => xx_X K 3 [(0, av_R 11 (some v0)), (1, av_I v1), (2, av_I v2), (3, av_I v3), (4, av_I s.1)] [] (s.2)) (xL_i K)) 60 [(0, av_R 11 (some v0)), (1, av_I v1), (2, av_I v2), (3, av_I v3), (4, av_I v4)] [] h (f_M_isNear_60 v0 v1 v2 v3 v4 h) := by
  unfold f_M_isNear_60
  refine xs_gen (fun v4_4 ev4_4 => ?_)
  refine xs_step (fun K HC => xr_iinc HC.1 34 63 (ix := 4) (j := 4) (n := (1)) (x := v4) v4_4 (lv' := [(0, av_R 11 (some v0)), (1, av_I v1), (2, av_I v2), (3, av_I v3), (4, av_I v4_4)]) rfl (by rw [ev4_4]; rfl) rfl rfl (by decide) rfl) ?_
  refine xs_step (fun K HC => xr_goto HC.1 35 3 rfl (by decide)) ?_
  exact xs_back rfl (fun K q => q)
set_option maxHeartbeats 4000000 in
set_option maxRecDepth 100000 in
theorem t_M_isNear_3b (v0 : Nat) (v1 : Int32) (v2 : Int32) (v3 : Int32) (v4 : Int32) (h : HP) : xx_S (xx_D "LampYardModel" tb_M_isNear 6 1 (some .boolean) false) (xx_z2 (fun s : (Int32 × HP) => s.2) xz_i) (fun K => xx_L2 (fun s : (Int32 × HP) => xx_X K 3 [(0, av_R 11 (some v0)), (1, av_I v1), (2, av_I v2), (3, av_I v3), (4, av_I s.1)] [] (s.2)) (xL_i K)) 3 [(0, av_R 11 (some v0)), (1, av_I v1), (2, av_I v2), (3, av_I v3), (4, av_I v4)] [] h (f_M_isNear_3b v0 v1 v2 v3 v4 h) := by
  unfold f_M_isNear_3b
  refine xs_step (fun K HC => xr_iload HC.1 2 5 (ix := 4) (j := 4) (x := v4) rfl rfl rfl) ?_
  refine xs_step (fun K HC => xr_aload_n HC.1 3 6 (n := 0) (ix := 0) (j := 0) (c := 11) (x := v0) rfl rfl rfl rfl) ?_
  refine xs_step (fun K HC => xr_geti HC.1 4 9 11 33 rfl rfl wf_M_401 (by decide) fb_11_33 fc_11_33) ?_
  refine xs_ite (fun K HC => xr_icmp_ge HC.1 5 66 12 rfl (by decide) rfl) ?_ ?_
  · refine xs_step (fun K HC => xr_iconst HC.1 36 67 (n := (0)) (0 : Int32) rfl rfl rfl) ?_
    exact xs_reti 37 rfl rfl (fun K q => q) (fun ty ht => by cases ht; rfl)
  refine xs_step (fun K HC => xr_aload_n HC.1 6 13 (n := 0) (ix := 0) (j := 0) (c := 11) (x := v0) rfl rfl rfl rfl) ?_
  refine xs_bind (fun q_1 eq_1 => ?_)
  refine xs_step (fun K HC => xr_getr HC.1 7 16 11 64 13 eq_1 rfl rfl wf_M_100 (by decide) fb_11_64 fc_11_64 fd_11_64) ?_
  refine xs_step (fun K HC => xr_bipush HC.1 8 18 (n := (6)) (6 : Int32) rfl rfl rfl) ?_
  refine xs_step (fun K HC => xr_iload_n HC.1 9 19 (n := 1) (ix := 1) (j := 1) (x := v1) rfl rfl rfl rfl) ?_
  refine xs_step (fun K HC => xr_imul HC.1 10 20 rfl rfl) ?_
  refine xs_step (fun K HC => xr_iload HC.1 11 22 (ix := 4) (j := 4) (x := v4) rfl rfl rfl) ?_
  refine xs_step (fun K HC => xr_iadd HC.1 12 23 rfl rfl) ?_
  refine xs_chk (fun hb_2 => ?_)
  refine xs_step (fun K HC => xr_iald HC.1 13 24 (hp_in_vp hb_2) rfl rfl) ?_
  refine xs_topi (fun v5_3 => ?_)
  refine xs_step (fun K HC => xr_istore HC.1 14 26 (ix := 5) (lv' := [(0, av_R 11 (some v0)), (1, av_I v1), (2, av_I v2), (3, av_I v3), (4, av_I v4), (5, av_I v5_3)]) rfl rfl (by decide) rfl) ?_
  refine xs_step (fun K HC => xr_iload_n HC.1 15 27 (n := 3) (ix := 3) (j := 3) (x := v3) rfl rfl rfl rfl) ?_
  refine xs_step (fun K HC => xr_iconst HC.1 16 28 (n := (1)) (1 : Int32) rfl rfl rfl) ?_
  refine xs_ite (fun K HC a b => xr_icmp_ne HC.1 17 40 31 rfl (by decide) rfl b a) ?_ ?_
  · refine xs_step (fun K HC => xr_iload HC.1 18 33 (ix := 5) (j := 5) (x := v5_3) rfl rfl rfl) ?_
    refine xs_step (fun K HC => xr_iload_n HC.1 19 34 (n := 2) (ix := 2) (j := 2) (x := v2) rfl rfl rfl rfl) ?_
    refine xs_ite (fun K HC a b => xr_icmp_ne HC.1 20 60 37 rfl (by decide) rfl b a) ?_ ?_
    · refine xs_step (fun K HC => xr_goto HC.1 21 58 rfl (by decide)) ?_
      refine xs_step (fun K HC => xr_iconst HC.1 32 59 (n := (1)) (1 : Int32) rfl rfl rfl) ?_
      exact xs_reti 33 rfl rfl (fun K q => q) (fun ty ht => by cases ht; rfl)
    refine xs_step (fun K HC => xr_sub (lv' := [(0, av_R 11 (some v0)), (1, av_I v1), (2, av_I v2), (3, av_I v3), (4, av_I v4)]) [0, 1, 2, 3, 4] rfl) ?_
    exact t_M_isNear_60 v0 v1 v2 v3 v4 h
  refine xs_step (fun K HC => xr_iload HC.1 22 42 (ix := 5) (j := 5) (x := v5_3) rfl rfl rfl) ?_
  refine xs_ite (fun K HC => xr_if_lt HC.1 23 60 45 rfl (by decide) rfl) ?_ ?_
  · refine xs_step (fun K HC => xr_sub (lv' := [(0, av_R 11 (some v0)), (1, av_I v1), (2, av_I v2), (3, av_I v3), (4, av_I v4)]) [0, 1, 2, 3, 4] rfl) ?_
    exact t_M_isNear_60 v0 v1 v2 v3 v4 h
  refine xs_step (fun K HC => xr_aload_n HC.1 24 46 (n := 0) (ix := 0) (j := 0) (c := 11) (x := v0) rfl rfl rfl rfl) ?_
  refine xs_bind (fun q_5 eq_5 => ?_)
  refine xs_step (fun K HC => xr_getr HC.1 25 49 11 68 13 eq_5 rfl rfl wf_M_103 (by decide) fb_11_68 fc_11_68 fd_11_68) ?_
  refine xs_step (fun K HC => xr_iload HC.1 26 51 (ix := 5) (j := 5) (x := v5_3) rfl rfl rfl) ?_
  refine xs_chk (fun hb_6 => ?_)
  refine xs_step (fun K HC => xr_iald HC.1 27 52 (hp_in_vp hb_6) rfl rfl) ?_
  refine xs_step (fun K HC => xr_iload_n HC.1 28 53 (n := 3) (ix := 3) (j := 3) (x := v3) rfl rfl rfl rfl) ?_
  refine xs_step (fun K HC => xr_iconst HC.1 29 54 (n := (1)) (1 : Int32) rfl rfl rfl) ?_
  refine xs_step (fun K HC => xr_isub HC.1 30 55 rfl rfl) ?_
  refine xs_ite (fun K HC a b => xr_icmp_ne HC.1 31 60 58 rfl (by decide) rfl b a) ?_ ?_
  · refine xs_step (fun K HC => xr_iconst HC.1 32 59 (n := (1)) (1 : Int32) rfl rfl rfl) ?_
    exact xs_reti 33 rfl rfl (fun K q => q) (fun ty ht => by cases ht; rfl)
  refine xs_step (fun K HC => xr_sub (lv' := [(0, av_R 11 (some v0)), (1, av_I v1), (2, av_I v2), (3, av_I v3), (4, av_I v4)]) [0, 1, 2, 3, 4] rfl) ?_
  exact t_M_isNear_60 v0 v1 v2 v3 v4 h
theorem t_M_isNear_3 (v0 : Nat) (v1 : Int32) (v2 : Int32) (v3 : Int32) (v4 : Int32) (h : HP) : xx_S (xx_D "LampYardModel" tb_M_isNear 6 1 (some .boolean) false) xz_i (fun K => xL_i K) 3 [(0, av_R 11 (some v0)), (1, av_I v1), (2, av_I v2), (3, av_I v3), (4, av_I v4)] [] h (f_M_isNear_3 v0 v1 v2 v3 v4 h) :=
  xs_loop (zf := xz_i) (L := (fun K => xL_i K)) (fun s : (Int32 × HP) => [(0, av_R 11 (some v0)), (1, av_I v1), (2, av_I v2), (3, av_I v3), (4, av_I s.1)]) (fun s : (Int32 × HP) => s.2) (fun s => t_M_isNear_3b v0 v1 v2 v3 s.1 s.2) (v4, h)
set_option maxHeartbeats 4000000 in
set_option maxRecDepth 100000 in
theorem t_M_isNear (v0 : Nat) (v1 : Int32) (v2 : Int32) (v3 : Int32) (h : HP) : xx_S (xx_D "LampYardModel" tb_M_isNear 6 1 (some .boolean) false) xz_i (fun K => xL_i K) 0 [(0, av_R 11 (some v0)), (1, av_I v1), (2, av_I v2), (3, av_I v3)] [] h (f_M_isNear v0 v1 v2 v3 h) := by
  unfold f_M_isNear
  refine xs_step (fun K HC => xr_iconst HC.1 0 1 (n := (0)) (0 : Int32) rfl rfl rfl) ?_
  refine xs_step (fun K HC => xr_istore HC.1 1 3 (ix := 4) (lv' := [(0, av_R 11 (some v0)), (1, av_I v1), (2, av_I v2), (3, av_I v3), (4, av_I (0 : Int32))]) rfl rfl (by decide) rfl) ?_
  exact t_M_isNear_3 v0 v1 v2 v3 (0 : Int32) h
theorem s_M_isNear (v0 : Nat) (v1 : Int32) (v2 : Int32) (v3 : Int32) (h : HP) : ∀ x, f_M_isNear v0 v1 v2 v3 h = some x → hp_mo h x.2 ∧ ∀ g l, xx_M g l y_M_isNear prog_14_method_69_code 6 (some .boolean) 1 [av_R 11 (some v0), av_I v1, av_I v2, av_I v3] h (some (av_I x.1)) x.2 :=
  xM_i (tb := tb_M_isNear) (b := false) (by decide +kernel) dt_M_isNear (fun _ => trivial) (Nat.le_of_ble_eq_true rfl) (fun hb => by cases hb) (t_M_isNear v0 v1 v2 v3 h)
def tb_M_laySoon : TBL := [(0, .iconst 0, 1), (1, .istore_n 2, 1), (2, .iload_n 2, 1), (3, .aload_n 0, 1), (4, .getfield 489, 3), (7, .if_icmp .ge 16, 3), (10, .aload_n 0, 1), (11, .getfield 103, 3), (14, .iload_n 2, 1), (15, .iconst 0, 1), (16, .iastore, 1), (17, .iinc 2 1, 3), (20, .goto (-18), 3), (23, .iconst 1, 1), (24, .istore_n 2, 1), (25, .iconst 1, 1), (26, .istore_n 3, 1), (27, .iload_n 2, 1), (28, .ifCond .eq 63, 3), (31, .iconst 0, 1), (32, .istore_n 2, 1), (33, .iconst 0, 1), (34, .istore 4, 2), (36, .iload 4, 2), (38, .aload_n 0, 1), (39, .getfield 489, 3), (42, .if_icmp .ge 43, 3), (45, .aload_n 0, 1), (46, .getfield 103, 3), (49, .iload 4, 2), (51, .iaload, 1), (52, .ifCond .gt 27, 3), (55, .aload_n 0, 1), (56, .iload 4, 2), (58, .iload_n 1, 1), (59, .iload_n 3, 1), (60, .invokevirtual 527, 3), (63, .ifCond .ne 6, 3), (66, .goto 13, 3), (69, .aload_n 0, 1), (70, .getfield 103, 3), (73, .iload 4, 2), (75, .iload_n 3, 1), (76, .iastore, 1), (77, .iconst 1, 1), (78, .istore_n 2, 1), (79, .iinc 4 1, 3), (82, .goto (-46), 3), (85, .iinc 3 1, 3), (88, .goto (-61), 3), (91, .return_, 1)]
theorem dt_M_laySoon : ∀ q ∈ tb_M_laySoon, decode prog_14_method_70_code q.1 = .ok (q.2.1, q.2.2) := by decide +kernel
set_option maxHeartbeats 4000000 in
set_option maxRecDepth 100000 in
theorem t_M_laySoon_85 (v0 : Nat) (v1 : Int32) (v2 : Int32) (v3 : Int32) (h : HP) : xx_S (xx_D "LampYardModel" tb_M_laySoon 5 2 none false) (xx_z2 (fun s : (Int32 × Int32 × HP) => s.2.2) xz_v) (fun K => xx_L2 (fun s : (Int32 × Int32 × HP) => xx_X K 27 [(0, av_R 11 (some v0)), (1, av_I v1), (2, av_I s.1), (3, av_I s.2.1)] [] (s.2.2)) (xL_v K)) 85 [(0, av_R 11 (some v0)), (1, av_I v1), (2, av_I v2), (3, av_I v3)] [] h (f_M_laySoon_85 v0 v1 v2 v3 h) := by
  unfold f_M_laySoon_85
  refine xs_gen (fun v3_1 ev3_1 => ?_)
  refine xs_step (fun K HC => xr_iinc HC.1 48 88 (ix := 3) (j := 3) (n := (1)) (x := v3) v3_1 (lv' := [(0, av_R 11 (some v0)), (1, av_I v1), (2, av_I v2), (3, av_I v3_1)]) rfl (by rw [ev3_1]; rfl) rfl rfl (by decide) rfl) ?_
  refine xs_step (fun K HC => xr_goto HC.1 49 27 rfl (by decide)) ?_
  exact xs_back rfl (fun K q => q)
set_option maxHeartbeats 4000000 in
set_option maxRecDepth 100000 in
theorem t_M_laySoon_79 (v0 : Nat) (v1 : Int32) (v2 : Int32) (v3 : Int32) (v4 : Int32) (h : HP) : xx_S (xx_D "LampYardModel" tb_M_laySoon 5 2 none false) (xx_z2 (fun s : (Int32 × Int32 × HP) => s.2.2) (xx_z2 (fun s : (Int32 × Int32 × HP) => s.2.2) xz_v)) (fun K => xx_L2 (fun s : (Int32 × Int32 × HP) => xx_X K 36 [(0, av_R 11 (some v0)), (1, av_I v1), (2, av_I s.1), (3, av_I v3), (4, av_I s.2.1)] [] (s.2.2)) (xx_L2 (fun s : (Int32 × Int32 × HP) => xx_X K 27 [(0, av_R 11 (some v0)), (1, av_I v1), (2, av_I s.1), (3, av_I s.2.1)] [] (s.2.2)) (xL_v K))) 79 [(0, av_R 11 (some v0)), (1, av_I v1), (2, av_I v2), (3, av_I v3), (4, av_I v4)] [] h (f_M_laySoon_79 v0 v1 v2 v3 v4 h) := by
  unfold f_M_laySoon_79
  refine xs_gen (fun v4_4 ev4_4 => ?_)
  refine xs_step (fun K HC => xr_iinc HC.1 46 82 (ix := 4) (j := 4) (n := (1)) (x := v4) v4_4 (lv' := [(0, av_R 11 (some v0)), (1, av_I v1), (2, av_I v2), (3, av_I v3), (4, av_I v4_4)]) rfl (by rw [ev4_4]; rfl) rfl rfl (by decide) rfl) ?_
  refine xs_step (fun K HC => xr_goto HC.1 47 36 rfl (by decide)) ?_
  exact xs_back rfl (fun K q => q)
set_option maxHeartbeats 4000000 in
set_option maxRecDepth 100000 in
theorem t_M_laySoon_36b (v0 : Nat) (v1 : Int32) (v3 : Int32) (v2 : Int32) (v4 : Int32) (h : HP) : xx_S (xx_D "LampYardModel" tb_M_laySoon 5 2 none false) (xx_z2 (fun s : (Int32 × Int32 × HP) => s.2.2) (xx_z2 (fun s : (Int32 × Int32 × HP) => s.2.2) xz_v)) (fun K => xx_L2 (fun s : (Int32 × Int32 × HP) => xx_X K 36 [(0, av_R 11 (some v0)), (1, av_I v1), (2, av_I s.1), (3, av_I v3), (4, av_I s.2.1)] [] (s.2.2)) (xx_L2 (fun s : (Int32 × Int32 × HP) => xx_X K 27 [(0, av_R 11 (some v0)), (1, av_I v1), (2, av_I s.1), (3, av_I s.2.1)] [] (s.2.2)) (xL_v K))) 36 [(0, av_R 11 (some v0)), (1, av_I v1), (2, av_I v2), (3, av_I v3), (4, av_I v4)] [] h (f_M_laySoon_36b v0 v1 v3 v2 v4 h) := by
  unfold f_M_laySoon_36b
  refine xs_step (fun K HC => xr_iload HC.1 23 38 (ix := 4) (j := 4) (x := v4) rfl rfl rfl) ?_
  refine xs_step (fun K HC => xr_aload_n HC.1 24 39 (n := 0) (ix := 0) (j := 0) (c := 11) (x := v0) rfl rfl rfl rfl) ?_
  refine xs_step (fun K HC => xr_geti HC.1 25 42 11 65 rfl rfl wf_M_489 (by decide) fb_11_65 fc_11_65) ?_
  refine xs_ite (fun K HC => xr_icmp_ge HC.1 26 85 45 rfl (by decide) rfl) ?_ ?_
  · refine xs_step (fun K HC => xr_sub (lv' := [(0, av_R 11 (some v0)), (1, av_I v1), (2, av_I v2), (3, av_I v3)]) [0, 1, 2, 3] rfl) ?_
    exact xs_map (fun _ => rfl) (fun _ _ q => q) (t_M_laySoon_85 v0 v1 v2 v3 h)
  refine xs_step (fun K HC => xr_aload_n HC.1 27 46 (n := 0) (ix := 0) (j := 0) (c := 11) (x := v0) rfl rfl rfl rfl) ?_
  refine xs_bind (fun q_2 eq_2 => ?_)
  refine xs_step (fun K HC => xr_getr HC.1 28 49 11 68 13 eq_2 rfl rfl wf_M_103 (by decide) fb_11_68 fc_11_68 fd_11_68) ?_
  refine xs_step (fun K HC => xr_iload HC.1 29 51 (ix := 4) (j := 4) (x := v4) rfl rfl rfl) ?_
  refine xs_chk (fun hb_3 => ?_)
  refine xs_step (fun K HC => xr_iald HC.1 30 52 (hp_in_vp hb_3) rfl rfl) ?_
  refine xs_ite (fun K HC => xr_if_gt HC.1 31 79 55 rfl (by decide) rfl) ?_ ?_
  · exact t_M_laySoon_79 v0 v1 v2 v3 v4 h
  refine xs_step (fun K HC => xr_aload_n HC.1 32 56 (n := 0) (ix := 0) (j := 0) (c := 11) (x := v0) rfl rfl rfl rfl) ?_
  refine xs_step (fun K HC => xr_iload HC.1 33 58 (ix := 4) (j := 4) (x := v4) rfl rfl rfl) ?_
  refine xs_step (fun K HC => xr_iload_n HC.1 34 59 (n := 1) (ix := 1) (j := 1) (x := v1) rfl rfl rfl rfl) ?_
  refine xs_step (fun K HC => xr_iload_n HC.1 35 60 (n := 3) (ix := 3) (j := 3) (x := v3) rfl rfl rfl rfl) ?_
  refine xs_calli (s_M_isNear v0 v4 v1 v3 h) (fun K HC x9 hM hmo hb => xr_callV HC.1 36 63 (av := [av_I v4, av_I v1, av_I v3]) (st := []) (hM (kg K) (cx_l (kx K))) hmo hb rfl rfl wm_M_527 wi_M_isNear ws_M_isNear wc_M_isNear rfl wh_M_isNear (by decide) (by decide) (by decide) (Nat.le_of_ble_eq_true rfl) rfl) (fun x_5 => ?_)
  refine xs_ite (fun K HC a b => xr_if_ne HC.1 37 69 66 rfl (by decide) rfl b a) ?_ ?_
  · refine xs_step (fun K HC => xr_goto HC.1 38 79 rfl (by decide)) ?_
    exact t_M_laySoon_79 v0 v1 v2 v3 v4 x_5.2
  refine xs_step (fun K HC => xr_aload_n HC.1 39 70 (n := 0) (ix := 0) (j := 0) (c := 11) (x := v0) rfl rfl rfl rfl) ?_
  refine xs_bind (fun q_6 eq_6 => ?_)
  refine xs_step (fun K HC => xr_getr HC.1 40 73 11 68 13 eq_6 rfl rfl wf_M_103 (by decide) fb_11_68 fc_11_68 fd_11_68) ?_
  refine xs_step (fun K HC => xr_iload HC.1 41 75 (ix := 4) (j := 4) (x := v4) rfl rfl rfl) ?_
  refine xs_step (fun K HC => xr_iload_n HC.1 42 76 (n := 3) (ix := 3) (j := 3) (x := v3) rfl rfl rfl rfl) ?_
  refine xs_chk (fun hb_7 => ?_)
  refine xs_heap (hp_mo_si _ _ _ _) (fun K HC => xr_iast HC.1 43 77 (hp_in_vp hb_7) rfl rfl) (fun h_8 => ?_)
  refine xs_step (fun K HC => xr_iconst HC.1 44 78 (n := (1)) (1 : Int32) rfl rfl rfl) ?_
  refine xs_step (fun K HC => xr_istore_n HC.1 45 79 (n := 2) (ix := 2) (lv' := [(0, av_R 11 (some v0)), (1, av_I v1), (2, av_I (1 : Int32)), (3, av_I v3), (4, av_I v4)]) rfl rfl rfl (by decide) rfl) ?_
  exact t_M_laySoon_79 v0 v1 (1 : Int32) v3 v4 h_8
theorem t_M_laySoon_36 (v0 : Nat) (v1 : Int32) (v3 : Int32) (v2 : Int32) (v4 : Int32) (h : HP) : xx_S (xx_D "LampYardModel" tb_M_laySoon 5 2 none false) (xx_z2 (fun s : (Int32 × Int32 × HP) => s.2.2) xz_v) (fun K => xx_L2 (fun s : (Int32 × Int32 × HP) => xx_X K 27 [(0, av_R 11 (some v0)), (1, av_I v1), (2, av_I s.1), (3, av_I s.2.1)] [] (s.2.2)) (xL_v K)) 36 [(0, av_R 11 (some v0)), (1, av_I v1), (2, av_I v2), (3, av_I v3), (4, av_I v4)] [] h (f_M_laySoon_36 v0 v1 v3 v2 v4 h) :=
  xs_loop (zf := (xx_z2 (fun s : (Int32 × Int32 × HP) => s.2.2) xz_v)) (L := (fun K => xx_L2 (fun s : (Int32 × Int32 × HP) => xx_X K 27 [(0, av_R 11 (some v0)), (1, av_I v1), (2, av_I s.1), (3, av_I s.2.1)] [] (s.2.2)) (xL_v K))) (fun s : (Int32 × Int32 × HP) => [(0, av_R 11 (some v0)), (1, av_I v1), (2, av_I s.1), (3, av_I v3), (4, av_I s.2.1)]) (fun s : (Int32 × Int32 × HP) => s.2.2) (fun s => t_M_laySoon_36b v0 v1 v3 s.1 s.2.1 s.2.2) (v2, v4, h)
set_option maxHeartbeats 4000000 in
set_option maxRecDepth 100000 in
theorem t_M_laySoon_27b (v0 : Nat) (v1 : Int32) (v2 : Int32) (v3 : Int32) (h : HP) : xx_S (xx_D "LampYardModel" tb_M_laySoon 5 2 none false) (xx_z2 (fun s : (Int32 × Int32 × HP) => s.2.2) xz_v) (fun K => xx_L2 (fun s : (Int32 × Int32 × HP) => xx_X K 27 [(0, av_R 11 (some v0)), (1, av_I v1), (2, av_I s.1), (3, av_I s.2.1)] [] (s.2.2)) (xL_v K)) 27 [(0, av_R 11 (some v0)), (1, av_I v1), (2, av_I v2), (3, av_I v3)] [] h (f_M_laySoon_27b v0 v1 v2 v3 h) := by
  unfold f_M_laySoon_27b
  refine xs_step (fun K HC => xr_iload_n HC.1 17 28 (n := 2) (ix := 2) (j := 2) (x := v2) rfl rfl rfl rfl) ?_
  refine xs_ite (fun K HC => xr_if_eq HC.1 18 91 31 rfl (by decide) rfl) ?_ ?_
  · exact xs_ret 50 rfl rfl (fun K q => q)
  refine xs_step (fun K HC => xr_iconst HC.1 19 32 (n := (0)) (0 : Int32) rfl rfl rfl) ?_
  refine xs_step (fun K HC => xr_istore_n HC.1 20 33 (n := 2) (ix := 2) (lv' := [(0, av_R 11 (some v0)), (1, av_I v1), (2, av_I (0 : Int32)), (3, av_I v3)]) rfl rfl rfl (by decide) rfl) ?_
  refine xs_step (fun K HC => xr_iconst HC.1 21 34 (n := (0)) (0 : Int32) rfl rfl rfl) ?_
  refine xs_step (fun K HC => xr_istore HC.1 22 36 (ix := 4) (lv' := [(0, av_R 11 (some v0)), (1, av_I v1), (2, av_I (0 : Int32)), (3, av_I v3), (4, av_I (0 : Int32))]) rfl rfl (by decide) rfl) ?_
  exact t_M_laySoon_36 v0 v1 v3 (0 : Int32) (0 : Int32) h
theorem t_M_laySoon_27 (v0 : Nat) (v1 : Int32) (v2 : Int32) (v3 : Int32) (h : HP) : xx_S (xx_D "LampYardModel" tb_M_laySoon 5 2 none false) xz_v (fun K => xL_v K) 27 [(0, av_R 11 (some v0)), (1, av_I v1), (2, av_I v2), (3, av_I v3)] [] h (f_M_laySoon_27 v0 v1 v2 v3 h) :=
  xs_loop (zf := xz_v) (L := (fun K => xL_v K)) (fun s : (Int32 × Int32 × HP) => [(0, av_R 11 (some v0)), (1, av_I v1), (2, av_I s.1), (3, av_I s.2.1)]) (fun s : (Int32 × Int32 × HP) => s.2.2) (fun s => t_M_laySoon_27b v0 v1 s.1 s.2.1 s.2.2) (v2, v3, h)
set_option maxHeartbeats 4000000 in
set_option maxRecDepth 100000 in
theorem t_M_laySoon_23 (v0 : Nat) (v1 : Int32) (h : HP) : xx_S (xx_D "LampYardModel" tb_M_laySoon 5 2 none false) xz_v (fun K => xL_v K) 23 [(0, av_R 11 (some v0)), (1, av_I v1)] [] h (f_M_laySoon_23 v0 v1 h) := by
  unfold f_M_laySoon_23
  refine xs_step (fun K HC => xr_iconst HC.1 13 24 (n := (1)) (1 : Int32) rfl rfl rfl) ?_
  refine xs_step (fun K HC => xr_istore_n HC.1 14 25 (n := 2) (ix := 2) (lv' := [(0, av_R 11 (some v0)), (1, av_I v1), (2, av_I (1 : Int32))]) rfl rfl rfl (by decide) rfl) ?_
  refine xs_step (fun K HC => xr_iconst HC.1 15 26 (n := (1)) (1 : Int32) rfl rfl rfl) ?_
  refine xs_step (fun K HC => xr_istore_n HC.1 16 27 (n := 3) (ix := 3) (lv' := [(0, av_R 11 (some v0)), (1, av_I v1), (2, av_I (1 : Int32)), (3, av_I (1 : Int32))]) rfl rfl rfl (by decide) rfl) ?_
  exact t_M_laySoon_27 v0 v1 (1 : Int32) (1 : Int32) h
set_option maxHeartbeats 4000000 in
set_option maxRecDepth 100000 in
theorem t_M_laySoon_2b (v0 : Nat) (v1 : Int32) (v2 : Int32) (h : HP) : xx_S (xx_D "LampYardModel" tb_M_laySoon 5 2 none false) (xx_z2 (fun s : (Int32 × HP) => s.2) xz_v) (fun K => xx_L2 (fun s : (Int32 × HP) => xx_X K 2 [(0, av_R 11 (some v0)), (1, av_I v1), (2, av_I s.1)] [] (s.2)) (xL_v K)) 2 [(0, av_R 11 (some v0)), (1, av_I v1), (2, av_I v2)] [] h (f_M_laySoon_2b v0 v1 v2 h) := by
  unfold f_M_laySoon_2b
  refine xs_step (fun K HC => xr_iload_n HC.1 2 3 (n := 2) (ix := 2) (j := 2) (x := v2) rfl rfl rfl rfl) ?_
  refine xs_step (fun K HC => xr_aload_n HC.1 3 4 (n := 0) (ix := 0) (j := 0) (c := 11) (x := v0) rfl rfl rfl rfl) ?_
  refine xs_step (fun K HC => xr_geti HC.1 4 7 11 65 rfl rfl wf_M_489 (by decide) fb_11_65 fc_11_65) ?_
  refine xs_ite (fun K HC => xr_icmp_ge HC.1 5 23 10 rfl (by decide) rfl) ?_ ?_
  · refine xs_step (fun K HC => xr_sub (lv' := [(0, av_R 11 (some v0)), (1, av_I v1)]) [0, 1] rfl) ?_
    exact xs_map (fun _ => rfl) (fun _ _ q => q) (t_M_laySoon_23 v0 v1 h)
  refine xs_step (fun K HC => xr_aload_n HC.1 6 11 (n := 0) (ix := 0) (j := 0) (c := 11) (x := v0) rfl rfl rfl rfl) ?_
  refine xs_bind (fun q_9 eq_9 => ?_)
  refine xs_step (fun K HC => xr_getr HC.1 7 14 11 68 13 eq_9 rfl rfl wf_M_103 (by decide) fb_11_68 fc_11_68 fd_11_68) ?_
  refine xs_step (fun K HC => xr_iload_n HC.1 8 15 (n := 2) (ix := 2) (j := 2) (x := v2) rfl rfl rfl rfl) ?_
  refine xs_step (fun K HC => xr_iconst HC.1 9 16 (n := (0)) (0 : Int32) rfl rfl rfl) ?_
  refine xs_chk (fun hb_10 => ?_)
  refine xs_heap (hp_mo_si _ _ _ _) (fun K HC => xr_iast HC.1 10 17 (hp_in_vp hb_10) rfl rfl) (fun h_11 => ?_)
  refine xs_gen (fun v2_12 ev2_12 => ?_)
  refine xs_step (fun K HC => xr_iinc HC.1 11 20 (ix := 2) (j := 2) (n := (1)) (x := v2) v2_12 (lv' := [(0, av_R 11 (some v0)), (1, av_I v1), (2, av_I v2_12)]) rfl (by rw [ev2_12]; rfl) rfl rfl (by decide) rfl) ?_
  refine xs_step (fun K HC => xr_goto HC.1 12 2 rfl (by decide)) ?_
  exact xs_back rfl (fun K q => q)
theorem t_M_laySoon_2 (v0 : Nat) (v1 : Int32) (v2 : Int32) (h : HP) : xx_S (xx_D "LampYardModel" tb_M_laySoon 5 2 none false) xz_v (fun K => xL_v K) 2 [(0, av_R 11 (some v0)), (1, av_I v1), (2, av_I v2)] [] h (f_M_laySoon_2 v0 v1 v2 h) :=
  xs_loop (zf := xz_v) (L := (fun K => xL_v K)) (fun s : (Int32 × HP) => [(0, av_R 11 (some v0)), (1, av_I v1), (2, av_I s.1)]) (fun s : (Int32 × HP) => s.2) (fun s => t_M_laySoon_2b v0 v1 s.1 s.2) (v2, h)
set_option maxHeartbeats 4000000 in
set_option maxRecDepth 100000 in
theorem t_M_laySoon (v0 : Nat) (v1 : Int32) (h : HP) : xx_S (xx_D "LampYardModel" tb_M_laySoon 5 2 none false) xz_v (fun K => xL_v K) 0 [(0, av_R 11 (some v0)), (1, av_I v1)] [] h (f_M_laySoon v0 v1 h) := by
  unfold f_M_laySoon
  refine xs_step (fun K HC => xr_iconst HC.1 0 1 (n := (0)) (0 : Int32) rfl rfl rfl) ?_
  refine xs_step (fun K HC => xr_istore_n HC.1 1 2 (n := 2) (ix := 2) (lv' := [(0, av_R 11 (some v0)), (1, av_I v1), (2, av_I (0 : Int32))]) rfl rfl rfl (by decide) rfl) ?_
  exact t_M_laySoon_2 v0 v1 (0 : Int32) h
theorem s_M_laySoon (v0 : Nat) (v1 : Int32) (h : HP) : ∀ x, f_M_laySoon v0 v1 h = some x → hp_mo h x ∧ ∀ g l, xx_M g l y_M_laySoon prog_14_method_70_code 5 none 2 [av_R 11 (some v0), av_I v1] h none x :=
  xM_v (tb := tb_M_laySoon) (b := false) (by decide +kernel) dt_M_laySoon trivial (Nat.le_of_ble_eq_true rfl) (fun hb => by cases hb) (t_M_laySoon v0 v1 h)
def tb_M_startNumber : TBL := [(0, .iconst 0, 1), (1, .istore_n 2, 1), (2, .iconst 0, 1), (3, .istore_n 3, 1), (4, .iload_n 3, 1), (5, .iload_n 1, 1), (6, .if_icmp .ge 25, 3), (9, .iload_n 2, 1), (10, .aload_n 0, 1), (11, .iload_n 3, 1), (12, .invokevirtual 506, 3), (15, .ifCond .eq 7, 3), (18, .iconst 1, 1), (19, .goto 4, 3), (22, .iconst 0, 1), (23, .iadd, 1), (24, .istore_n 2, 1), (25, .iinc 3 1, 3), (28, .goto (-24), 3), (31, .iload_n 2, 1), (32, .ireturn, 1)]
theorem dt_M_startNumber : ∀ q ∈ tb_M_startNumber, decode prog_14_method_71_code q.1 = .ok (q.2.1, q.2.2) := by decide +kernel
set_option maxHeartbeats 4000000 in
set_option maxRecDepth 100000 in
theorem t_M_startNumber_23 (v0 : Nat) (v1 : Int32) (v3 : Int32) (s0 : Int32) (s1 : Int32) (h : HP) : xx_S (xx_D "LampYardModel" tb_M_startNumber 4 3 (some .int) false) (xx_z2 (fun s : (Int32 × Int32 × HP) => s.2.2) xz_i) (fun K => xx_L2 (fun s : (Int32 × Int32 × HP) => xx_X K 4 [(0, av_R 11 (some v0)), (1, av_I v1), (2, av_I s.1), (3, av_I s.2.1)] [] (s.2.2)) (xL_i K)) 23 [(0, av_R 11 (some v0)), (1, av_I v1), (3, av_I v3)] [av_I s0, av_I s1] h (f_M_startNumber_23 v0 v1 v3 s0 s1 h) := by
  unfold f_M_startNumber_23
  refine xs_step (fun K HC => xr_iadd HC.1 15 24 rfl rfl) ?_
  refine xs_topi (fun v2_2 => ?_)
  refine xs_step (fun K HC => xr_istore_n HC.1 16 25 (n := 2) (ix := 2) (lv' := [(0, av_R 11 (some v0)), (1, av_I v1), (2, av_I v2_2), (3, av_I v3)]) rfl rfl rfl (by decide) rfl) ?_
  refine xs_gen (fun v3_3 ev3_3 => ?_)
  refine xs_step (fun K HC => xr_iinc HC.1 17 28 (ix := 3) (j := 3) (n := (1)) (x := v3) v3_3 (lv' := [(0, av_R 11 (some v0)), (1, av_I v1), (2, av_I v2_2), (3, av_I v3_3)]) rfl (by rw [ev3_3]; rfl) rfl rfl (by decide) rfl) ?_
  refine xs_step (fun K HC => xr_goto HC.1 18 4 rfl (by decide)) ?_
  exact xs_back rfl (fun K q => q)
set_option maxHeartbeats 4000000 in
set_option maxRecDepth 100000 in
theorem t_M_startNumber_4b (v0 : Nat) (v1 : Int32) (v2 : Int32) (v3 : Int32) (h : HP) : xx_S (xx_D "LampYardModel" tb_M_startNumber 4 3 (some .int) false) (xx_z2 (fun s : (Int32 × Int32 × HP) => s.2.2) xz_i) (fun K => xx_L2 (fun s : (Int32 × Int32 × HP) => xx_X K 4 [(0, av_R 11 (some v0)), (1, av_I v1), (2, av_I s.1), (3, av_I s.2.1)] [] (s.2.2)) (xL_i K)) 4 [(0, av_R 11 (some v0)), (1, av_I v1), (2, av_I v2), (3, av_I v3)] [] h (f_M_startNumber_4b v0 v1 v2 v3 h) := by
  unfold f_M_startNumber_4b
  refine xs_step (fun K HC => xr_iload_n HC.1 4 5 (n := 3) (ix := 3) (j := 3) (x := v3) rfl rfl rfl rfl) ?_
  refine xs_step (fun K HC => xr_iload_n HC.1 5 6 (n := 1) (ix := 1) (j := 1) (x := v1) rfl rfl rfl rfl) ?_
  refine xs_ite (fun K HC => xr_icmp_ge HC.1 6 31 9 rfl (by decide) rfl) ?_ ?_
  · refine xs_step (fun K HC => xr_iload_n HC.1 19 32 (n := 2) (ix := 2) (j := 2) (x := v2) rfl rfl rfl rfl) ?_
    exact xs_reti 20 rfl rfl (fun K q => q) (fun ty ht => by cases ht; rfl)
  refine xs_step (fun K HC => xr_iload_n HC.1 7 10 (n := 2) (ix := 2) (j := 2) (x := v2) rfl rfl rfl rfl) ?_
  refine xs_step (fun K HC => xr_aload_n HC.1 8 11 (n := 0) (ix := 0) (j := 0) (c := 11) (x := v0) rfl rfl rfl rfl) ?_
  refine xs_step (fun K HC => xr_iload_n HC.1 9 12 (n := 3) (ix := 3) (j := 3) (x := v3) rfl rfl rfl rfl) ?_
  refine xs_calli (s_M_isStart v0 v3 h) (fun K HC x9 hM hmo hb => xr_callV HC.1 10 15 (av := [av_I v3]) (st := [av_I v2]) (hM (kg K) (cx_l (kx K))) hmo hb rfl rfl wm_M_506 wi_M_isStart ws_M_isStart wc_M_isStart rfl wh_M_isStart (by decide) (by decide) (by decide) (Nat.le_of_ble_eq_true rfl) rfl) (fun x_1 => ?_)
  refine xs_ite (fun K HC => xr_if_eq HC.1 11 22 18 rfl (by decide) rfl) ?_ ?_
  · refine xs_step (fun K HC => xr_iconst HC.1 14 23 (n := (0)) (0 : Int32) rfl rfl rfl) ?_
    refine xs_step (fun K HC => xr_sub (lv' := [(0, av_R 11 (some v0)), (1, av_I v1), (3, av_I v3)]) [0, 1, 3] rfl) ?_
    exact t_M_startNumber_23 v0 v1 v3 (0 : Int32) v2 x_1.2
  refine xs_step (fun K HC => xr_iconst HC.1 12 19 (n := (1)) (1 : Int32) rfl rfl rfl) ?_
  refine xs_step (fun K HC => xr_goto HC.1 13 23 rfl (by decide)) ?_
  refine xs_step (fun K HC => xr_sub (lv' := [(0, av_R 11 (some v0)), (1, av_I v1), (3, av_I v3)]) [0, 1, 3] rfl) ?_
  exact t_M_startNumber_23 v0 v1 v3 (1 : Int32) v2 x_1.2
theorem t_M_startNumber_4 (v0 : Nat) (v1 : Int32) (v2 : Int32) (v3 : Int32) (h : HP) : xx_S (xx_D "LampYardModel" tb_M_startNumber 4 3 (some .int) false) xz_i (fun K => xL_i K) 4 [(0, av_R 11 (some v0)), (1, av_I v1), (2, av_I v2), (3, av_I v3)] [] h (f_M_startNumber_4 v0 v1 v2 v3 h) :=
  xs_loop (zf := xz_i) (L := (fun K => xL_i K)) (fun s : (Int32 × Int32 × HP) => [(0, av_R 11 (some v0)), (1, av_I v1), (2, av_I s.1), (3, av_I s.2.1)]) (fun s : (Int32 × Int32 × HP) => s.2.2) (fun s => t_M_startNumber_4b v0 v1 s.1 s.2.1 s.2.2) (v2, v3, h)
set_option maxHeartbeats 4000000 in
set_option maxRecDepth 100000 in
theorem t_M_startNumber (v0 : Nat) (v1 : Int32) (h : HP) : xx_S (xx_D "LampYardModel" tb_M_startNumber 4 3 (some .int) false) xz_i (fun K => xL_i K) 0 [(0, av_R 11 (some v0)), (1, av_I v1)] [] h (f_M_startNumber v0 v1 h) := by
  unfold f_M_startNumber
  refine xs_step (fun K HC => xr_iconst HC.1 0 1 (n := (0)) (0 : Int32) rfl rfl rfl) ?_
  refine xs_step (fun K HC => xr_istore_n HC.1 1 2 (n := 2) (ix := 2) (lv' := [(0, av_R 11 (some v0)), (1, av_I v1), (2, av_I (0 : Int32))]) rfl rfl rfl (by decide) rfl) ?_
  refine xs_step (fun K HC => xr_iconst HC.1 2 3 (n := (0)) (0 : Int32) rfl rfl rfl) ?_
  refine xs_step (fun K HC => xr_istore_n HC.1 3 4 (n := 3) (ix := 3) (lv' := [(0, av_R 11 (some v0)), (1, av_I v1), (2, av_I (0 : Int32)), (3, av_I (0 : Int32))]) rfl rfl rfl (by decide) rfl) ?_
  exact t_M_startNumber_4 v0 v1 (0 : Int32) (0 : Int32) h
theorem s_M_startNumber (v0 : Nat) (v1 : Int32) (h : HP) : ∀ x, f_M_startNumber v0 v1 h = some x → hp_mo h x.2 ∧ ∀ g l, xx_M g l y_M_startNumber prog_14_method_71_code 4 (some .int) 3 [av_R 11 (some v0), av_I v1] h (some (av_I x.1)) x.2 :=
  xM_i (tb := tb_M_startNumber) (b := false) (by decide +kernel) dt_M_startNumber (fun _ => trivial) (Nat.le_of_ble_eq_true rfl) (fun hb => by cases hb) (t_M_startNumber v0 v1 h)
def tb_M_soonStart : TBL := [(0, .aload_n 0, 1), (1, .iload_n 1, 1), (2, .invokevirtual 531, 3), (5, .iconst (-1), 1), (6, .istore_n 2, 1), (7, .iconst 0, 1), (8, .istore_n 3, 1), (9, .iload_n 3, 1), (10, .aload_n 0, 1), (11, .invokevirtual 495, 3), (14, .if_icmp .gt 58, 3), (17, .aload_n 0, 1), (18, .iload_n 3, 1), (19, .invokevirtual 506, 3), (22, .ifCond .ne 6, 3), (25, .goto 41, 3), (28, .aload_n 0, 1), (29, .getfield 103, 3), (32, .aload_n 0, 1), (33, .iload_n 3, 1), (34, .invokevirtual 534, 3), (37, .iaload, 1), (38, .istore 4, 2), (40, .iload 4, 2), (42, .ifCond .le 24, 3), (45, .iload_n 2, 1), (46, .ifCond .lt 18, 3), (49, .iload 4, 2), (51, .aload_n 0, 1), (52, .getfield 103, 3), (55, .aload_n 0, 1), (56, .iload_n 2, 1), (57, .invokevirtual 534, 3), (60, .iaload, 1), (61, .if_icmp .ge 5, 3), (64, .iload_n 3, 1), (65, .istore_n 2, 1), (66, .iinc 3 1, 3), (69, .goto (-60), 3), (72, .iload_n 2, 1), (73, .ireturn, 1)]
theorem dt_M_soonStart : ∀ q ∈ tb_M_soonStart, decode prog_14_method_72_code q.1 = .ok (q.2.1, q.2.2) := by decide +kernel
set_option maxHeartbeats 4000000 in
set_option maxRecDepth 100000 in
theorem t_M_soonStart_66 (v0 : Nat) (v2 : Int32) (v3 : Int32) (h : HP) : xx_S (xx_D "LampYardModel" tb_M_soonStart 5 4 (some .int) false) (xx_z2 (fun s : (Int32 × Int32 × HP) => s.2.2) xz_i) (fun K => xx_L2 (fun s : (Int32 × Int32 × HP) => xx_X K 9 [(0, av_R 11 (some v0)), (2, av_I s.1), (3, av_I s.2.1)] [] (s.2.2)) (xL_i K)) 66 [(0, av_R 11 (some v0)), (2, av_I v2), (3, av_I v3)] [] h (f_M_soonStart_66 v0 v2 v3 h) := by
  unfold f_M_soonStart_66
  refine xs_gen (fun v3_4 ev3_4 => ?_)
  refine xs_step (fun K HC => xr_iinc HC.1 37 69 (ix := 3) (j := 2) (n := (1)) (x := v3) v3_4 (lv' := [(0, av_R 11 (some v0)), (2, av_I v2), (3, av_I v3_4)]) rfl (by rw [ev3_4]; rfl) rfl rfl (by decide) rfl) ?_
  refine xs_step (fun K HC => xr_goto HC.1 38 9 rfl (by decide)) ?_
  exact xs_back rfl (fun K q => q)
set_option maxHeartbeats 4000000 in
set_option maxRecDepth 100000 in
theorem t_M_soonStart_64 (v0 : Nat) (v3 : Int32) (h : HP) : xx_S (xx_D "LampYardModel" tb_M_soonStart 5 4 (some .int) false) (xx_z2 (fun s : (Int32 × Int32 × HP) => s.2.2) xz_i) (fun K => xx_L2 (fun s : (Int32 × Int32 × HP) => xx_X K 9 [(0, av_R 11 (some v0)), (2, av_I s.1), (3, av_I s.2.1)] [] (s.2.2)) (xL_i K)) 64 [(0, av_R 11 (some v0)), (3, av_I v3)] [] h (f_M_soonStart_64 v0 v3 h) := by
  unfold f_M_soonStart_64
  refine xs_step (fun K HC => xr_iload_n HC.1 35 65 (n := 3) (ix := 3) (j := 1) (x := v3) rfl rfl rfl rfl) ?_
  refine xs_step (fun K HC => xr_istore_n HC.1 36 66 (n := 2) (ix := 2) (lv' := [(0, av_R 11 (some v0)), (2, av_I v3), (3, av_I v3)]) rfl rfl rfl (by decide) rfl) ?_
  exact t_M_soonStart_66 v0 v3 v3 h
set_option maxHeartbeats 4000000 in
set_option maxRecDepth 100000 in
theorem t_M_soonStart_9b (v0 : Nat) (v2 : Int32) (v3 : Int32) (h : HP) : xx_S (xx_D "LampYardModel" tb_M_soonStart 5 4 (some .int) false) (xx_z2 (fun s : (Int32 × Int32 × HP) => s.2.2) xz_i) (fun K => xx_L2 (fun s : (Int32 × Int32 × HP) => xx_X K 9 [(0, av_R 11 (some v0)), (2, av_I s.1), (3, av_I s.2.1)] [] (s.2.2)) (xL_i K)) 9 [(0, av_R 11 (some v0)), (2, av_I v2), (3, av_I v3)] [] h (f_M_soonStart_9b v0 v2 v3 h) := by
  unfold f_M_soonStart_9b
  refine xs_step (fun K HC => xr_iload_n HC.1 7 10 (n := 3) (ix := 3) (j := 2) (x := v3) rfl rfl rfl rfl) ?_
  refine xs_step (fun K HC => xr_aload_n HC.1 8 11 (n := 0) (ix := 0) (j := 0) (c := 11) (x := v0) rfl rfl rfl rfl) ?_
  refine xs_calli (s_M_full v0 h) (fun K HC x9 hM hmo hb => xr_callV HC.1 9 14 (av := []) (st := [av_I v3]) (hM (kg K) (cx_l (kx K))) hmo hb rfl rfl wm_M_495 wi_M_full ws_M_full wc_M_full rfl wh_M_full (by decide) (by decide) (by decide) (Nat.le_of_ble_eq_true rfl) rfl) (fun x_2 => ?_)
  refine xs_ite (fun K HC => xr_icmp_gt HC.1 10 72 17 rfl (by decide) rfl) ?_ ?_
  · refine xs_step (fun K HC => xr_iload_n HC.1 39 73 (n := 2) (ix := 2) (j := 1) (x := v2) rfl rfl rfl rfl) ?_
    exact xs_reti 40 rfl rfl (fun K q => q) (fun ty ht => by cases ht; rfl)
  refine xs_step (fun K HC => xr_aload_n HC.1 11 18 (n := 0) (ix := 0) (j := 0) (c := 11) (x := v0) rfl rfl rfl rfl) ?_
  refine xs_step (fun K HC => xr_iload_n HC.1 12 19 (n := 3) (ix := 3) (j := 2) (x := v3) rfl rfl rfl rfl) ?_
  refine xs_calli (s_M_isStart v0 v3 x_2.2) (fun K HC x9 hM hmo hb => xr_callV HC.1 13 22 (av := [av_I v3]) (st := []) (hM (kg K) (cx_l (kx K))) hmo hb rfl rfl wm_M_506 wi_M_isStart ws_M_isStart wc_M_isStart rfl wh_M_isStart (by decide) (by decide) (by decide) (Nat.le_of_ble_eq_true rfl) rfl) (fun x_3 => ?_)
  refine xs_ite (fun K HC a b => xr_if_ne HC.1 14 28 25 rfl (by decide) rfl b a) ?_ ?_
  · refine xs_step (fun K HC => xr_goto HC.1 15 66 rfl (by decide)) ?_
    exact t_M_soonStart_66 v0 v2 v3 x_3.2
  refine xs_step (fun K HC => xr_aload_n HC.1 16 29 (n := 0) (ix := 0) (j := 0) (c := 11) (x := v0) rfl rfl rfl rfl) ?_
  refine xs_bind (fun q_5 eq_5 => ?_)
  refine xs_step (fun K HC => xr_getr HC.1 17 32 11 68 13 eq_5 rfl rfl wf_M_103 (by decide) fb_11_68 fc_11_68 fd_11_68) ?_
  refine xs_step (fun K HC => xr_aload_n HC.1 18 33 (n := 0) (ix := 0) (j := 0) (c := 11) (x := v0) rfl rfl rfl rfl) ?_
  refine xs_step (fun K HC => xr_iload_n HC.1 19 34 (n := 3) (ix := 3) (j := 2) (x := v3) rfl rfl rfl rfl) ?_
  refine xs_calli (s_M_startNumber v0 v3 x_3.2) (fun K HC x9 hM hmo hb => xr_callV HC.1 20 37 (av := [av_I v3]) (st := [av_R 13 (some q_5)]) (hM (kg K) (cx_l (kx K))) hmo hb rfl rfl wm_M_534 wi_M_startNumber ws_M_startNumber wc_M_startNumber rfl wh_M_startNumber (by decide) (by decide) (by decide) (Nat.le_of_ble_eq_true rfl) rfl) (fun x_6 => ?_)
  refine xs_chk (fun hb_7 => ?_)
  refine xs_step (fun K HC => xr_iald HC.1 21 38 (hp_in_vp hb_7) rfl rfl) ?_
  refine xs_topi (fun v4_8 => ?_)
  refine xs_step (fun K HC => xr_istore HC.1 22 40 (ix := 4) (lv' := [(0, av_R 11 (some v0)), (2, av_I v2), (3, av_I v3), (4, av_I v4_8)]) rfl rfl (by decide) rfl) ?_
  refine xs_step (fun K HC => xr_iload HC.1 23 42 (ix := 4) (j := 3) (x := v4_8) rfl rfl rfl) ?_
  refine xs_ite (fun K HC => xr_if_le HC.1 24 66 45 rfl (by decide) rfl) ?_ ?_
  · refine xs_step (fun K HC => xr_sub (lv' := [(0, av_R 11 (some v0)), (2, av_I v2), (3, av_I v3)]) [0, 1, 2] rfl) ?_
    exact t_M_soonStart_66 v0 v2 v3 x_6.2
  refine xs_step (fun K HC => xr_iload_n HC.1 25 46 (n := 2) (ix := 2) (j := 1) (x := v2) rfl rfl rfl rfl) ?_
  refine xs_ite (fun K HC => xr_if_lt HC.1 26 64 49 rfl (by decide) rfl) ?_ ?_
  · refine xs_step (fun K HC => xr_sub (lv' := [(0, av_R 11 (some v0)), (3, av_I v3)]) [0, 2] rfl) ?_
    exact t_M_soonStart_64 v0 v3 x_6.2
  refine xs_step (fun K HC => xr_iload HC.1 27 51 (ix := 4) (j := 3) (x := v4_8) rfl rfl rfl) ?_
  refine xs_step (fun K HC => xr_aload_n HC.1 28 52 (n := 0) (ix := 0) (j := 0) (c := 11) (x := v0) rfl rfl rfl rfl) ?_
  refine xs_bind (fun q_9 eq_9 => ?_)
  refine xs_step (fun K HC => xr_getr HC.1 29 55 11 68 13 eq_9 rfl rfl wf_M_103 (by decide) fb_11_68 fc_11_68 fd_11_68) ?_
  refine xs_step (fun K HC => xr_aload_n HC.1 30 56 (n := 0) (ix := 0) (j := 0) (c := 11) (x := v0) rfl rfl rfl rfl) ?_
  refine xs_step (fun K HC => xr_iload_n HC.1 31 57 (n := 2) (ix := 2) (j := 1) (x := v2) rfl rfl rfl rfl) ?_
  refine xs_calli (s_M_startNumber v0 v2 x_6.2) (fun K HC x9 hM hmo hb => xr_callV HC.1 32 60 (av := [av_I v2]) (st := [av_R 13 (some q_9), av_I v4_8]) (hM (kg K) (cx_l (kx K))) hmo hb rfl rfl wm_M_534 wi_M_startNumber ws_M_startNumber wc_M_startNumber rfl wh_M_startNumber (by decide) (by decide) (by decide) (Nat.le_of_ble_eq_true rfl) rfl) (fun x_10 => ?_)
  refine xs_chk (fun hb_11 => ?_)
  refine xs_step (fun K HC => xr_iald HC.1 33 61 (hp_in_vp hb_11) rfl rfl) ?_
  refine xs_ite (fun K HC => xr_icmp_ge HC.1 34 66 64 rfl (by decide) rfl) ?_ ?_
  · refine xs_step (fun K HC => xr_sub (lv' := [(0, av_R 11 (some v0)), (2, av_I v2), (3, av_I v3)]) [0, 1, 2] rfl) ?_
    exact t_M_soonStart_66 v0 v2 v3 x_10.2
  refine xs_step (fun K HC => xr_sub (lv' := [(0, av_R 11 (some v0)), (3, av_I v3)]) [0, 2] rfl) ?_
  exact t_M_soonStart_64 v0 v3 x_10.2
theorem t_M_soonStart_9 (v0 : Nat) (v2 : Int32) (v3 : Int32) (h : HP) : xx_S (xx_D "LampYardModel" tb_M_soonStart 5 4 (some .int) false) xz_i (fun K => xL_i K) 9 [(0, av_R 11 (some v0)), (2, av_I v2), (3, av_I v3)] [] h (f_M_soonStart_9 v0 v2 v3 h) :=
  xs_loop (zf := xz_i) (L := (fun K => xL_i K)) (fun s : (Int32 × Int32 × HP) => [(0, av_R 11 (some v0)), (2, av_I s.1), (3, av_I s.2.1)]) (fun s : (Int32 × Int32 × HP) => s.2.2) (fun s => t_M_soonStart_9b v0 s.1 s.2.1 s.2.2) (v2, v3, h)
set_option maxHeartbeats 4000000 in
set_option maxRecDepth 100000 in
theorem t_M_soonStart (v0 : Nat) (v1 : Int32) (h : HP) : xx_S (xx_D "LampYardModel" tb_M_soonStart 5 4 (some .int) false) xz_i (fun K => xL_i K) 0 [(0, av_R 11 (some v0)), (1, av_I v1)] [] h (f_M_soonStart v0 v1 h) := by
  unfold f_M_soonStart
  refine xs_step (fun K HC => xr_aload_n HC.1 0 1 (n := 0) (ix := 0) (j := 0) (c := 11) (x := v0) rfl rfl rfl rfl) ?_
  refine xs_step (fun K HC => xr_iload_n HC.1 1 2 (n := 1) (ix := 1) (j := 1) (x := v1) rfl rfl rfl rfl) ?_
  refine xs_callv (s_M_laySoon v0 v1 h) (fun K HC x9 hM hmo hb => xr_callV HC.1 2 5 (av := [av_I v1]) (st := []) (hM (kg K) (cx_l (kx K))) hmo hb rfl rfl wm_M_531 wi_M_laySoon ws_M_laySoon wc_M_laySoon rfl wh_M_laySoon (by decide) (by decide) (by decide) (Nat.le_of_ble_eq_true rfl) rfl) (fun x_1 => ?_)
  refine xs_step (fun K HC => xr_iconst HC.1 3 6 (n := (-1)) (-1 : Int32) rfl rfl rfl) ?_
  refine xs_step (fun K HC => xr_istore_n HC.1 4 7 (n := 2) (ix := 2) (lv' := [(0, av_R 11 (some v0)), (1, av_I v1), (2, av_I (-1 : Int32))]) rfl rfl rfl (by decide) rfl) ?_
  refine xs_step (fun K HC => xr_iconst HC.1 5 8 (n := (0)) (0 : Int32) rfl rfl rfl) ?_
  refine xs_step (fun K HC => xr_istore_n HC.1 6 9 (n := 3) (ix := 3) (lv' := [(0, av_R 11 (some v0)), (1, av_I v1), (2, av_I (-1 : Int32)), (3, av_I (0 : Int32))]) rfl rfl rfl (by decide) rfl) ?_
  refine xs_step (fun K HC => xr_sub (lv' := [(0, av_R 11 (some v0)), (2, av_I (-1 : Int32)), (3, av_I (0 : Int32))]) [0, 2, 3] rfl) ?_
  exact t_M_soonStart_9 v0 (-1 : Int32) (0 : Int32) x_1
theorem s_M_soonStart (v0 : Nat) (v1 : Int32) (h : HP) : ∀ x, f_M_soonStart v0 v1 h = some x → hp_mo h x.2 ∧ ∀ g l, xx_M g l y_M_soonStart prog_14_method_72_code 5 (some .int) 4 [av_R 11 (some v0), av_I v1] h (some (av_I x.1)) x.2 :=
  xM_i (tb := tb_M_soonStart) (b := false) (by decide +kernel) dt_M_soonStart (fun _ => trivial) (Nat.le_of_ble_eq_true rfl) (fun hb => by cases hb) (t_M_soonStart v0 v1 h)
def tb_M_shown : TBL := [(0, .iload_n 1, 1), (1, .ifCond .lt 8, 3), (4, .iload_n 1, 1), (5, .iconst 1, 1), (6, .if_icmp .le 5, 3), (9, .iconst (-1), 1), (10, .ireturn, 1), (11, .aload_n 0, 1), (12, .iconst (-1), 1), (13, .invokevirtual 521, 3), (16, .ifCond .ne 6, 3), (19, .bipush (-2), 2), (21, .ireturn, 1), (22, .aload_n 0, 1), (23, .bipush (-3), 2), (25, .invokevirtual 537, 3), (28, .istore_n 2, 1), (29, .iload_n 2, 1), (30, .ifCond .ge 7, 3), (33, .iconst (-1), 1), (34, .goto 21, 3), (37, .iload_n 1, 1), (38, .ifCond .ne 16, 3), (41, .aload_n 0, 1), (42, .getfield 103, 3), (45, .aload_n 0, 1), (46, .iload_n 2, 1), (47, .invokevirtual 534, 3), (50, .iaload, 1), (51, .goto 4, 3), (54, .iload_n 2, 1), (55, .ireturn, 1)]
theorem dt_M_shown : ∀ q ∈ tb_M_shown, decode prog_14_method_73_code q.1 = .ok (q.2.1, q.2.2) := by decide +kernel
set_option maxHeartbeats 4000000 in
set_option maxRecDepth 100000 in
theorem t_M_shown (v0 : Nat) (v1 : Int32) (h : HP) : xx_S (xx_D "LampYardModel" tb_M_shown 3 8 (some .int) false) xz_i (fun K => xL_i K) 0 [(0, av_R 11 (some v0)), (1, av_I v1)] [] h (f_M_shown v0 v1 h) := by
  unfold f_M_shown
  refine xs_step (fun K HC => xr_iload_n HC.1 0 1 (n := 1) (ix := 1) (j := 1) (x := v1) rfl rfl rfl rfl) ?_
  refine xs_ite (fun K HC => xr_if_lt HC.1 1 9 4 rfl (by decide) rfl) ?_ ?_
  · refine xs_step (fun K HC => xr_iconst HC.1 5 10 (n := (-1)) (-1 : Int32) rfl rfl rfl) ?_
    exact xs_reti 6 rfl rfl (fun K q => q) (fun ty ht => by cases ht; rfl)
  refine xs_step (fun K HC => xr_iload_n HC.1 2 5 (n := 1) (ix := 1) (j := 1) (x := v1) rfl rfl rfl rfl) ?_
  refine xs_step (fun K HC => xr_iconst HC.1 3 6 (n := (1)) (1 : Int32) rfl rfl rfl) ?_
  refine xs_ite (fun K HC => xr_icmp_le HC.1 4 11 9 rfl (by decide) rfl) ?_ ?_
  · refine xs_step (fun K HC => xr_aload_n HC.1 7 12 (n := 0) (ix := 0) (j := 0) (c := 11) (x := v0) rfl rfl rfl rfl) ?_
    refine xs_step (fun K HC => xr_iconst HC.1 8 13 (n := (-1)) (-1 : Int32) rfl rfl rfl) ?_
    refine xs_calli (s_M_layPlan v0 (-1 : Int32) h) (fun K HC x9 hM hmo hb => xr_callV HC.1 9 16 (av := [av_I (-1 : Int32)]) (st := []) (hM (kg K) (cx_l (kx K))) hmo hb rfl rfl wm_M_521 wi_M_layPlan ws_M_layPlan wc_M_layPlan rfl wh_M_layPlan (by decide) (by decide) (by decide) (Nat.le_of_ble_eq_true rfl) rfl) (fun x_1 => ?_)
    refine xs_ite (fun K HC a b => xr_if_ne HC.1 10 22 19 rfl (by decide) rfl b a) ?_ ?_
    · refine xs_step (fun K HC => xr_bipush HC.1 11 21 (n := (-2)) (-2 : Int32) rfl rfl rfl) ?_
      exact xs_reti 12 rfl rfl (fun K q => q) (fun ty ht => by cases ht; rfl)
    refine xs_step (fun K HC => xr_aload_n HC.1 13 23 (n := 0) (ix := 0) (j := 0) (c := 11) (x := v0) rfl rfl rfl rfl) ?_
    refine xs_step (fun K HC => xr_bipush HC.1 14 25 (n := (-3)) (-3 : Int32) rfl rfl rfl) ?_
    refine xs_calli (s_M_soonStart v0 (-3 : Int32) x_1.2) (fun K HC x9 hM hmo hb => xr_callV HC.1 15 28 (av := [av_I (-3 : Int32)]) (st := []) (hM (kg K) (cx_l (kx K))) hmo hb rfl rfl wm_M_537 wi_M_soonStart ws_M_soonStart wc_M_soonStart rfl wh_M_soonStart (by decide) (by decide) (by decide) (Nat.le_of_ble_eq_true rfl) rfl) (fun x_2 => ?_)
    refine xs_step (fun K HC => xr_istore_n HC.1 16 29 (n := 2) (ix := 2) (lv' := [(0, av_R 11 (some v0)), (1, av_I v1), (2, av_I x_2.1)]) rfl rfl rfl (by decide) rfl) ?_
    refine xs_step (fun K HC => xr_iload_n HC.1 17 30 (n := 2) (ix := 2) (j := 2) (x := x_2.1) rfl rfl rfl rfl) ?_
    refine xs_ite (fun K HC => xr_if_ge HC.1 18 37 33 rfl (by decide) rfl) ?_ ?_
    · refine xs_step (fun K HC => xr_iload_n HC.1 21 38 (n := 1) (ix := 1) (j := 1) (x := v1) rfl rfl rfl rfl) ?_
      refine xs_ite (fun K HC a b => xr_if_ne HC.1 22 54 41 rfl (by decide) rfl b a) ?_ ?_
      · refine xs_step (fun K HC => xr_aload_n HC.1 23 42 (n := 0) (ix := 0) (j := 0) (c := 11) (x := v0) rfl rfl rfl rfl) ?_
        refine xs_bind (fun q_3 eq_3 => ?_)
        refine xs_step (fun K HC => xr_getr HC.1 24 45 11 68 13 eq_3 rfl rfl wf_M_103 (by decide) fb_11_68 fc_11_68 fd_11_68) ?_
        refine xs_step (fun K HC => xr_aload_n HC.1 25 46 (n := 0) (ix := 0) (j := 0) (c := 11) (x := v0) rfl rfl rfl rfl) ?_
        refine xs_step (fun K HC => xr_iload_n HC.1 26 47 (n := 2) (ix := 2) (j := 2) (x := x_2.1) rfl rfl rfl rfl) ?_
        refine xs_calli (s_M_startNumber v0 x_2.1 x_2.2) (fun K HC x9 hM hmo hb => xr_callV HC.1 27 50 (av := [av_I x_2.1]) (st := [av_R 13 (some q_3)]) (hM (kg K) (cx_l (kx K))) hmo hb rfl rfl wm_M_534 wi_M_startNumber ws_M_startNumber wc_M_startNumber rfl wh_M_startNumber (by decide) (by decide) (by decide) (Nat.le_of_ble_eq_true rfl) rfl) (fun x_4 => ?_)
        refine xs_chk (fun hb_5 => ?_)
        refine xs_step (fun K HC => xr_iald HC.1 28 51 (hp_in_vp hb_5) rfl rfl) ?_
        refine xs_step (fun K HC => xr_goto HC.1 29 55 rfl (by decide)) ?_
        exact xs_reti 31 rfl rfl (fun K q => q) (fun ty ht => by cases ht; rfl)
      refine xs_step (fun K HC => xr_iload_n HC.1 30 55 (n := 2) (ix := 2) (j := 2) (x := x_2.1) rfl rfl rfl rfl) ?_
      exact xs_reti 31 rfl rfl (fun K q => q) (fun ty ht => by cases ht; rfl)
    refine xs_step (fun K HC => xr_iconst HC.1 19 34 (n := (-1)) (-1 : Int32) rfl rfl rfl) ?_
    refine xs_step (fun K HC => xr_goto HC.1 20 55 rfl (by decide)) ?_
    exact xs_reti 31 rfl rfl (fun K q => q) (fun ty ht => by cases ht; rfl)
  refine xs_step (fun K HC => xr_iconst HC.1 5 10 (n := (-1)) (-1 : Int32) rfl rfl rfl) ?_
  exact xs_reti 6 rfl rfl (fun K q => q) (fun ty ht => by cases ht; rfl)
theorem s_M_shown (v0 : Nat) (v1 : Int32) (h : HP) : ∀ x, f_M_shown v0 v1 h = some x → hp_mo h x.2 ∧ ∀ g l, xx_M g l y_M_shown prog_14_method_73_code 3 (some .int) 8 [av_R 11 (some v0), av_I v1] h (some (av_I x.1)) x.2 :=
  xM_i (tb := tb_M_shown) (b := false) (by decide +kernel) dt_M_shown (fun _ => trivial) (Nat.le_of_ble_eq_true rfl) (fun hb => by cases hb) (t_M_shown v0 v1 h)
def tb_M_shows : TBL := [(0, .aload_n 0, 1), (1, .iconst (-1), 1), (2, .invokevirtual 521, 3), (5, .ifCond .ne 6, 3), (8, .bipush (-2), 2), (10, .ireturn, 1), (11, .aload_n 0, 1), (12, .bipush (-3), 2), (14, .invokevirtual 537, 3), (17, .istore_n 2, 1), (18, .iload_n 2, 1), (19, .ifCond .lt 21, 3), (22, .iload_n 1, 1), (23, .ifCond .lt 17, 3), (26, .iload_n 1, 1), (27, .aload_n 0, 1), (28, .getfield 103, 3), (31, .aload_n 0, 1), (32, .iload_n 2, 1), (33, .invokevirtual 534, 3), (36, .iaload, 1), (37, .if_icmp .lt 5, 3), (40, .iconst (-1), 1), (41, .ireturn, 1), (42, .aload_n 0, 1), (43, .iload_n 2, 1), (44, .invokevirtual 534, 3), (47, .istore_n 3, 1), (48, .iconst 0, 1), (49, .istore 4, 2), (51, .iconst 0, 1), (52, .istore 5, 2), (54, .iload 5, 2), (56, .iload_n 1, 1), (57, .if_icmp .gt 114, 3), (60, .aload_n 0, 1), (61, .getfield 103, 3), (64, .iload_n 3, 1), (65, .iaload, 1), (66, .istore 6, 2), (68, .iconst 0, 1), (69, .istore 4, 2), (71, .iload 6, 2), (73, .iconst 1, 1), (74, .if_icmp .ne 23, 3), (77, .aload_n 0, 1), (78, .getfield 100, 3), (81, .bipush 6, 2), (83, .iload_n 3, 1), (84, .imul, 1), (85, .iload 4, 2), (87, .iadd, 1), (88, .iaload, 1), (89, .bipush (-3), 2), (91, .if_icmp .eq 51, 3), (94, .goto 42, 3), (97, .aload_n 0, 1), (98, .getfield 100, 3), (101, .bipush 6, 2), (103, .iload_n 3, 1), (104, .imul, 1), (105, .iload 4, 2), (107, .iadd, 1), (108, .iaload, 1), (109, .ifCond .lt 27, 3), (112, .aload_n 0, 1), (113, .getfield 103, 3), (116, .aload_n 0, 1), (117, .getfield 100, 3), (120, .bipush 6, 2), (122, .iload_n 3, 1), (123, .imul, 1), (124, .iload 4, 2), (126, .iadd, 1), (127, .iaload, 1), (128, .iaload, 1), (129, .iload 6, 2), (131, .iconst 1, 1), (132, .isub, 1), (133, .if_icmp .eq 9, 3), (136, .iinc 4 1, 3), (139, .goto (-68), 3), (142, .iload 6, 2), (144, .iconst 1, 1), (145, .if_icmp .ne 7, 3), (148, .iload_n 3, 1), (149, .goto 15, 3), (152, .aload_n 0, 1), (153, .getfield 100, 3), (156, .bipush 6, 2), (158, .iload_n 3, 1), (159, .imul, 1), (160, .iload 4, 2), (162, .iadd, 1), (163, .iaload, 1), (164, .istore_n 3, 1), (165, .iinc 5 1, 3), (168, .goto (-114), 3), (171, .iload 4, 2), (173, .ireturn, 1)]
theorem dt_M_shows : ∀ q ∈ tb_M_shows, decode prog_14_method_74_code q.1 = .ok (q.2.1, q.2.2) := by decide +kernel
set_option maxHeartbeats 4000000 in
set_option maxRecDepth 100000 in
theorem t_M_shows_164 (v0 : Nat) (v1 : Int32) (v4 : Int32) (v5 : Int32) (s0 : Int32) (h : HP) : xx_S (xx_D "LampYardModel" tb_M_shows 7 8 (some .int) false) (xx_z2 (fun s : (Int32 × Int32 × Int32 × HP) => s.2.2.2) xz_i) (fun K => xx_L2 (fun s : (Int32 × Int32 × Int32 × HP) => xx_X K 54 [(0, av_R 11 (some v0)), (1, av_I v1), (3, av_I s.1), (4, av_I s.2.1), (5, av_I s.2.2.1)] [] (s.2.2.2)) (xL_i K)) 164 [(0, av_R 11 (some v0)), (1, av_I v1), (4, av_I v4), (5, av_I v5)] [av_I s0] h (f_M_shows_164 v0 v1 v4 v5 s0 h) := by
  unfold f_M_shows_164
  refine xs_step (fun K HC => xr_istore_n HC.1 95 165 (n := 3) (ix := 3) (lv' := [(0, av_R 11 (some v0)), (1, av_I v1), (3, av_I s0), (4, av_I v4), (5, av_I v5)]) rfl rfl rfl (by decide) rfl) ?_
  refine xs_gen (fun v5_12 ev5_12 => ?_)
  refine xs_step (fun K HC => xr_iinc HC.1 96 168 (ix := 5) (j := 4) (n := (1)) (x := v5) v5_12 (lv' := [(0, av_R 11 (some v0)), (1, av_I v1), (3, av_I s0), (4, av_I v4), (5, av_I v5_12)]) rfl (by rw [ev5_12]; rfl) rfl rfl (by decide) rfl) ?_
  refine xs_step (fun K HC => xr_goto HC.1 97 54 rfl (by decide)) ?_
  exact xs_back rfl (fun K q => q)
set_option maxHeartbeats 4000000 in
set_option maxRecDepth 100000 in
theorem t_M_shows_142 (v0 : Nat) (v1 : Int32) (v3 : Int32) (v4 : Int32) (v5 : Int32) (v6 : Int32) (h : HP) : xx_S (xx_D "LampYardModel" tb_M_shows 7 8 (some .int) false) (xx_z2 (fun s : (Int32 × Int32 × Int32 × HP) => s.2.2.2) xz_i) (fun K => xx_L2 (fun s : (Int32 × Int32 × Int32 × HP) => xx_X K 54 [(0, av_R 11 (some v0)), (1, av_I v1), (3, av_I s.1), (4, av_I s.2.1), (5, av_I s.2.2.1)] [] (s.2.2.2)) (xL_i K)) 142 [(0, av_R 11 (some v0)), (1, av_I v1), (3, av_I v3), (4, av_I v4), (5, av_I v5), (6, av_I v6)] [] h (f_M_shows_142 v0 v1 v3 v4 v5 v6 h) := by
  unfold f_M_shows_142
  refine xs_step (fun K HC => xr_iload HC.1 82 144 (ix := 6) (j := 5) (x := v6) rfl rfl rfl) ?_
  refine xs_step (fun K HC => xr_iconst HC.1 83 145 (n := (1)) (1 : Int32) rfl rfl rfl) ?_
  refine xs_ite (fun K HC a b => xr_icmp_ne HC.1 84 152 148 rfl (by decide) rfl b a) ?_ ?_
  · refine xs_step (fun K HC => xr_iload_n HC.1 85 149 (n := 3) (ix := 3) (j := 2) (x := v3) rfl rfl rfl rfl) ?_
    refine xs_step (fun K HC => xr_goto HC.1 86 164 rfl (by decide)) ?_
    refine xs_step (fun K HC => xr_sub (lv' := [(0, av_R 11 (some v0)), (1, av_I v1), (4, av_I v4), (5, av_I v5)]) [0, 1, 3, 4] rfl) ?_
    exact t_M_shows_164 v0 v1 v4 v5 v3 h
  refine xs_step (fun K HC => xr_aload_n HC.1 87 153 (n := 0) (ix := 0) (j := 0) (c := 11) (x := v0) rfl rfl rfl rfl) ?_
  refine xs_bind (fun q_13 eq_13 => ?_)
  refine xs_step (fun K HC => xr_getr HC.1 88 156 11 64 13 eq_13 rfl rfl wf_M_100 (by decide) fb_11_64 fc_11_64 fd_11_64) ?_
  refine xs_step (fun K HC => xr_bipush HC.1 89 158 (n := (6)) (6 : Int32) rfl rfl rfl) ?_
  refine xs_step (fun K HC => xr_iload_n HC.1 90 159 (n := 3) (ix := 3) (j := 2) (x := v3) rfl rfl rfl rfl) ?_
  refine xs_step (fun K HC => xr_imul HC.1 91 160 rfl rfl) ?_
  refine xs_step (fun K HC => xr_iload HC.1 92 162 (ix := 4) (j := 3) (x := v4) rfl rfl rfl) ?_
  refine xs_step (fun K HC => xr_iadd HC.1 93 163 rfl rfl) ?_
  refine xs_chk (fun hb_14 => ?_)
  refine xs_step (fun K HC => xr_iald HC.1 94 164 (hp_in_vp hb_14) rfl rfl) ?_
  refine xs_step (fun K HC => xr_sub (lv' := [(0, av_R 11 (some v0)), (1, av_I v1), (4, av_I v4), (5, av_I v5)]) [0, 1, 3, 4] rfl) ?_
  exact t_M_shows_164 v0 v1 v4 v5 (hp_i h q_13 ((((6 : Int32) * v3) + v4)).toNatClampNeg) h
set_option maxHeartbeats 4000000 in
set_option maxRecDepth 100000 in
theorem t_M_shows_136 (v0 : Nat) (v1 : Int32) (v3 : Int32) (v4 : Int32) (v5 : Int32) (v6 : Int32) (h : HP) : xx_S (xx_D "LampYardModel" tb_M_shows 7 8 (some .int) false) (xx_z2 (fun s : (Int32 × HP) => s.2) (xx_z2 (fun s : (Int32 × Int32 × Int32 × HP) => s.2.2.2) xz_i)) (fun K => xx_L2 (fun s : (Int32 × HP) => xx_X K 71 [(0, av_R 11 (some v0)), (1, av_I v1), (3, av_I v3), (4, av_I s.1), (5, av_I v5), (6, av_I v6)] [] (s.2)) (xx_L2 (fun s : (Int32 × Int32 × Int32 × HP) => xx_X K 54 [(0, av_R 11 (some v0)), (1, av_I v1), (3, av_I s.1), (4, av_I s.2.1), (5, av_I s.2.2.1)] [] (s.2.2.2)) (xL_i K))) 136 [(0, av_R 11 (some v0)), (1, av_I v1), (3, av_I v3), (4, av_I v4), (5, av_I v5), (6, av_I v6)] [] h (f_M_shows_136 v0 v1 v3 v4 v5 v6 h) := by
  unfold f_M_shows_136
  refine xs_gen (fun v4_15 ev4_15 => ?_)
  refine xs_step (fun K HC => xr_iinc HC.1 80 139 (ix := 4) (j := 3) (n := (1)) (x := v4) v4_15 (lv' := [(0, av_R 11 (some v0)), (1, av_I v1), (3, av_I v3), (4, av_I v4_15), (5, av_I v5), (6, av_I v6)]) rfl (by rw [ev4_15]; rfl) rfl rfl (by decide) rfl) ?_
  refine xs_step (fun K HC => xr_goto HC.1 81 71 rfl (by decide)) ?_
  exact xs_back rfl (fun K q => q)
set_option maxHeartbeats 4000000 in
set_option maxRecDepth 100000 in
theorem t_M_shows_71b (v0 : Nat) (v1 : Int32) (v3 : Int32) (v5 : Int32) (v6 : Int32) (v4 : Int32) (h : HP) : xx_S (xx_D "LampYardModel" tb_M_shows 7 8 (some .int) false) (xx_z2 (fun s : (Int32 × HP) => s.2) (xx_z2 (fun s : (Int32 × Int32 × Int32 × HP) => s.2.2.2) xz_i)) (fun K => xx_L2 (fun s : (Int32 × HP) => xx_X K 71 [(0, av_R 11 (some v0)), (1, av_I v1), (3, av_I v3), (4, av_I s.1), (5, av_I v5), (6, av_I v6)] [] (s.2)) (xx_L2 (fun s : (Int32 × Int32 × Int32 × HP) => xx_X K 54 [(0, av_R 11 (some v0)), (1, av_I v1), (3, av_I s.1), (4, av_I s.2.1), (5, av_I s.2.2.1)] [] (s.2.2.2)) (xL_i K))) 71 [(0, av_R 11 (some v0)), (1, av_I v1), (3, av_I v3), (4, av_I v4), (5, av_I v5), (6, av_I v6)] [] h (f_M_shows_71b v0 v1 v3 v5 v6 v4 h) := by
  unfold f_M_shows_71b
  refine xs_step (fun K HC => xr_iload HC.1 42 73 (ix := 6) (j := 5) (x := v6) rfl rfl rfl) ?_
  refine xs_step (fun K HC => xr_iconst HC.1 43 74 (n := (1)) (1 : Int32) rfl rfl rfl) ?_
  refine xs_ite (fun K HC a b => xr_icmp_ne HC.1 44 97 77 rfl (by decide) rfl b a) ?_ ?_
  · refine xs_step (fun K HC => xr_aload_n HC.1 45 78 (n := 0) (ix := 0) (j := 0) (c := 11) (x := v0) rfl rfl rfl rfl) ?_
    refine xs_bind (fun q_10 eq_10 => ?_)
    refine xs_step (fun K HC => xr_getr HC.1 46 81 11 64 13 eq_10 rfl rfl wf_M_100 (by decide) fb_11_64 fc_11_64 fd_11_64) ?_
    refine xs_step (fun K HC => xr_bipush HC.1 47 83 (n := (6)) (6 : Int32) rfl rfl rfl) ?_
    refine xs_step (fun K HC => xr_iload_n HC.1 48 84 (n := 3) (ix := 3) (j := 2) (x := v3) rfl rfl rfl rfl) ?_
    refine xs_step (fun K HC => xr_imul HC.1 49 85 rfl rfl) ?_
    refine xs_step (fun K HC => xr_iload HC.1 50 87 (ix := 4) (j := 3) (x := v4) rfl rfl rfl) ?_
    refine xs_step (fun K HC => xr_iadd HC.1 51 88 rfl rfl) ?_
    refine xs_chk (fun hb_11 => ?_)
    refine xs_step (fun K HC => xr_iald HC.1 52 89 (hp_in_vp hb_11) rfl rfl) ?_
    refine xs_step (fun K HC => xr_bipush HC.1 53 91 (n := (-3)) (-3 : Int32) rfl rfl rfl) ?_
    refine xs_ite (fun K HC => xr_icmp_eq HC.1 54 142 94 rfl (by decide) rfl) ?_ ?_
    · exact xs_map (fun _ => rfl) (fun _ _ q => q) (t_M_shows_142 v0 v1 v3 v4 v5 v6 h)
    refine xs_step (fun K HC => xr_goto HC.1 55 136 rfl (by decide)) ?_
    exact t_M_shows_136 v0 v1 v3 v4 v5 v6 h
  refine xs_step (fun K HC => xr_aload_n HC.1 56 98 (n := 0) (ix := 0) (j := 0) (c := 11) (x := v0) rfl rfl rfl rfl) ?_
  refine xs_bind (fun q_16 eq_16 => ?_)
  refine xs_step (fun K HC => xr_getr HC.1 57 101 11 64 13 eq_16 rfl rfl wf_M_100 (by decide) fb_11_64 fc_11_64 fd_11_64) ?_
  refine xs_step (fun K HC => xr_bipush HC.1 58 103 (n := (6)) (6 : Int32) rfl rfl rfl) ?_
  refine xs_step (fun K HC => xr_iload_n HC.1 59 104 (n := 3) (ix := 3) (j := 2) (x := v3) rfl rfl rfl rfl) ?_
  refine xs_step (fun K HC => xr_imul HC.1 60 105 rfl rfl) ?_
  refine xs_step (fun K HC => xr_iload HC.1 61 107 (ix := 4) (j := 3) (x := v4) rfl rfl rfl) ?_
  refine xs_step (fun K HC => xr_iadd HC.1 62 108 rfl rfl) ?_
  refine xs_chk (fun hb_17 => ?_)
  refine xs_step (fun K HC => xr_iald HC.1 63 109 (hp_in_vp hb_17) rfl rfl) ?_
  refine xs_ite (fun K HC => xr_if_lt HC.1 64 136 112 rfl (by decide) rfl) ?_ ?_
  · exact t_M_shows_136 v0 v1 v3 v4 v5 v6 h
  refine xs_step (fun K HC => xr_aload_n HC.1 65 113 (n := 0) (ix := 0) (j := 0) (c := 11) (x := v0) rfl rfl rfl rfl) ?_
  refine xs_bind (fun q_18 eq_18 => ?_)
  refine xs_step (fun K HC => xr_getr HC.1 66 116 11 68 13 eq_18 rfl rfl wf_M_103 (by decide) fb_11_68 fc_11_68 fd_11_68) ?_
  refine xs_step (fun K HC => xr_aload_n HC.1 67 117 (n := 0) (ix := 0) (j := 0) (c := 11) (x := v0) rfl rfl rfl rfl) ?_
  refine xs_bind (fun q_19 eq_19 => ?_)
  refine xs_step (fun K HC => xr_getr HC.1 68 120 11 64 13 eq_19 rfl rfl wf_M_100 (by decide) fb_11_64 fc_11_64 fd_11_64) ?_
  refine xs_step (fun K HC => xr_bipush HC.1 69 122 (n := (6)) (6 : Int32) rfl rfl rfl) ?_
  refine xs_step (fun K HC => xr_iload_n HC.1 70 123 (n := 3) (ix := 3) (j := 2) (x := v3) rfl rfl rfl rfl) ?_
  refine xs_step (fun K HC => xr_imul HC.1 71 124 rfl rfl) ?_
  refine xs_step (fun K HC => xr_iload HC.1 72 126 (ix := 4) (j := 3) (x := v4) rfl rfl rfl) ?_
  refine xs_step (fun K HC => xr_iadd HC.1 73 127 rfl rfl) ?_
  refine xs_chk (fun hb_20 => ?_)
  refine xs_step (fun K HC => xr_iald HC.1 74 128 (hp_in_vp hb_20) rfl rfl) ?_
  refine xs_chk (fun hb_21 => ?_)
  refine xs_step (fun K HC => xr_iald HC.1 75 129 (hp_in_vp hb_21) rfl rfl) ?_
  refine xs_step (fun K HC => xr_iload HC.1 76 131 (ix := 6) (j := 5) (x := v6) rfl rfl rfl) ?_
  refine xs_step (fun K HC => xr_iconst HC.1 77 132 (n := (1)) (1 : Int32) rfl rfl rfl) ?_
  refine xs_step (fun K HC => xr_isub HC.1 78 133 rfl rfl) ?_
  refine xs_ite (fun K HC => xr_icmp_eq HC.1 79 142 136 rfl (by decide) rfl) ?_ ?_
  · exact xs_map (fun _ => rfl) (fun _ _ q => q) (t_M_shows_142 v0 v1 v3 v4 v5 v6 h)
  exact t_M_shows_136 v0 v1 v3 v4 v5 v6 h
theorem t_M_shows_71 (v0 : Nat) (v1 : Int32) (v3 : Int32) (v5 : Int32) (v6 : Int32) (v4 : Int32) (h : HP) : xx_S (xx_D "LampYardModel" tb_M_shows 7 8 (some .int) false) (xx_z2 (fun s : (Int32 × Int32 × Int32 × HP) => s.2.2.2) xz_i) (fun K => xx_L2 (fun s : (Int32 × Int32 × Int32 × HP) => xx_X K 54 [(0, av_R 11 (some v0)), (1, av_I v1), (3, av_I s.1), (4, av_I s.2.1), (5, av_I s.2.2.1)] [] (s.2.2.2)) (xL_i K)) 71 [(0, av_R 11 (some v0)), (1, av_I v1), (3, av_I v3), (4, av_I v4), (5, av_I v5), (6, av_I v6)] [] h (f_M_shows_71 v0 v1 v3 v5 v6 v4 h) :=
  xs_loop (zf := (xx_z2 (fun s : (Int32 × Int32 × Int32 × HP) => s.2.2.2) xz_i)) (L := (fun K => xx_L2 (fun s : (Int32 × Int32 × Int32 × HP) => xx_X K 54 [(0, av_R 11 (some v0)), (1, av_I v1), (3, av_I s.1), (4, av_I s.2.1), (5, av_I s.2.2.1)] [] (s.2.2.2)) (xL_i K))) (fun s : (Int32 × HP) => [(0, av_R 11 (some v0)), (1, av_I v1), (3, av_I v3), (4, av_I s.1), (5, av_I v5), (6, av_I v6)]) (fun s : (Int32 × HP) => s.2) (fun s => t_M_shows_71b v0 v1 v3 v5 v6 s.1 s.2) (v4, h)
set_option maxHeartbeats 4000000 in
set_option maxRecDepth 100000 in
theorem t_M_shows_54b (v0 : Nat) (v1 : Int32) (v3 : Int32) (v4 : Int32) (v5 : Int32) (h : HP) : xx_S (xx_D "LampYardModel" tb_M_shows 7 8 (some .int) false) (xx_z2 (fun s : (Int32 × Int32 × Int32 × HP) => s.2.2.2) xz_i) (fun K => xx_L2 (fun s : (Int32 × Int32 × Int32 × HP) => xx_X K 54 [(0, av_R 11 (some v0)), (1, av_I v1), (3, av_I s.1), (4, av_I s.2.1), (5, av_I s.2.2.1)] [] (s.2.2.2)) (xL_i K)) 54 [(0, av_R 11 (some v0)), (1, av_I v1), (3, av_I v3), (4, av_I v4), (5, av_I v5)] [] h (f_M_shows_54b v0 v1 v3 v4 v5 h) := by
  unfold f_M_shows_54b
  refine xs_step (fun K HC => xr_iload HC.1 32 56 (ix := 5) (j := 4) (x := v5) rfl rfl rfl) ?_
  refine xs_step (fun K HC => xr_iload_n HC.1 33 57 (n := 1) (ix := 1) (j := 1) (x := v1) rfl rfl rfl rfl) ?_
  refine xs_ite (fun K HC => xr_icmp_gt HC.1 34 171 60 rfl (by decide) rfl) ?_ ?_
  · refine xs_step (fun K HC => xr_iload HC.1 98 173 (ix := 4) (j := 3) (x := v4) rfl rfl rfl) ?_
    exact xs_reti 99 rfl rfl (fun K q => q) (fun ty ht => by cases ht; rfl)
  refine xs_step (fun K HC => xr_aload_n HC.1 35 61 (n := 0) (ix := 0) (j := 0) (c := 11) (x := v0) rfl rfl rfl rfl) ?_
  refine xs_bind (fun q_7 eq_7 => ?_)
  refine xs_step (fun K HC => xr_getr HC.1 36 64 11 68 13 eq_7 rfl rfl wf_M_103 (by decide) fb_11_68 fc_11_68 fd_11_68) ?_
  refine xs_step (fun K HC => xr_iload_n HC.1 37 65 (n := 3) (ix := 3) (j := 2) (x := v3) rfl rfl rfl rfl) ?_
  refine xs_chk (fun hb_8 => ?_)
  refine xs_step (fun K HC => xr_iald HC.1 38 66 (hp_in_vp hb_8) rfl rfl) ?_
  refine xs_topi (fun v6_9 => ?_)
  refine xs_step (fun K HC => xr_istore HC.1 39 68 (ix := 6) (lv' := [(0, av_R 11 (some v0)), (1, av_I v1), (3, av_I v3), (4, av_I v4), (5, av_I v5), (6, av_I v6_9)]) rfl rfl (by decide) rfl) ?_
  refine xs_step (fun K HC => xr_iconst HC.1 40 69 (n := (0)) (0 : Int32) rfl rfl rfl) ?_
  refine xs_step (fun K HC => xr_istore HC.1 41 71 (ix := 4) (lv' := [(0, av_R 11 (some v0)), (1, av_I v1), (3, av_I v3), (4, av_I (0 : Int32)), (5, av_I v5), (6, av_I v6_9)]) rfl rfl (by decide) rfl) ?_
  exact t_M_shows_71 v0 v1 v3 v5 v6_9 (0 : Int32) h
theorem t_M_shows_54 (v0 : Nat) (v1 : Int32) (v3 : Int32) (v4 : Int32) (v5 : Int32) (h : HP) : xx_S (xx_D "LampYardModel" tb_M_shows 7 8 (some .int) false) xz_i (fun K => xL_i K) 54 [(0, av_R 11 (some v0)), (1, av_I v1), (3, av_I v3), (4, av_I v4), (5, av_I v5)] [] h (f_M_shows_54 v0 v1 v3 v4 v5 h) :=
  xs_loop (zf := xz_i) (L := (fun K => xL_i K)) (fun s : (Int32 × Int32 × Int32 × HP) => [(0, av_R 11 (some v0)), (1, av_I v1), (3, av_I s.1), (4, av_I s.2.1), (5, av_I s.2.2.1)]) (fun s : (Int32 × Int32 × Int32 × HP) => s.2.2.2) (fun s => t_M_shows_54b v0 v1 s.1 s.2.1 s.2.2.1 s.2.2.2) (v3, v4, v5, h)
set_option maxHeartbeats 4000000 in
set_option maxRecDepth 100000 in
theorem t_M_shows (v0 : Nat) (v1 : Int32) (h : HP) : xx_S (xx_D "LampYardModel" tb_M_shows 7 8 (some .int) false) xz_i (fun K => xL_i K) 0 [(0, av_R 11 (some v0)), (1, av_I v1)] [] h (f_M_shows v0 v1 h) := by
  unfold f_M_shows
  refine xs_step (fun K HC => xr_aload_n HC.1 0 1 (n := 0) (ix := 0) (j := 0) (c := 11) (x := v0) rfl rfl rfl rfl) ?_
  refine xs_step (fun K HC => xr_iconst HC.1 1 2 (n := (-1)) (-1 : Int32) rfl rfl rfl) ?_
  refine xs_calli (s_M_layPlan v0 (-1 : Int32) h) (fun K HC x9 hM hmo hb => xr_callV HC.1 2 5 (av := [av_I (-1 : Int32)]) (st := []) (hM (kg K) (cx_l (kx K))) hmo hb rfl rfl wm_M_521 wi_M_layPlan ws_M_layPlan wc_M_layPlan rfl wh_M_layPlan (by decide) (by decide) (by decide) (Nat.le_of_ble_eq_true rfl) rfl) (fun x_1 => ?_)
  refine xs_ite (fun K HC a b => xr_if_ne HC.1 3 11 8 rfl (by decide) rfl b a) ?_ ?_
  · refine xs_step (fun K HC => xr_bipush HC.1 4 10 (n := (-2)) (-2 : Int32) rfl rfl rfl) ?_
    exact xs_reti 5 rfl rfl (fun K q => q) (fun ty ht => by cases ht; rfl)
  refine xs_step (fun K HC => xr_aload_n HC.1 6 12 (n := 0) (ix := 0) (j := 0) (c := 11) (x := v0) rfl rfl rfl rfl) ?_
  refine xs_step (fun K HC => xr_bipush HC.1 7 14 (n := (-3)) (-3 : Int32) rfl rfl rfl) ?_
  refine xs_calli (s_M_soonStart v0 (-3 : Int32) x_1.2) (fun K HC x9 hM hmo hb => xr_callV HC.1 8 17 (av := [av_I (-3 : Int32)]) (st := []) (hM (kg K) (cx_l (kx K))) hmo hb rfl rfl wm_M_537 wi_M_soonStart ws_M_soonStart wc_M_soonStart rfl wh_M_soonStart (by decide) (by decide) (by decide) (Nat.le_of_ble_eq_true rfl) rfl) (fun x_2 => ?_)
  refine xs_step (fun K HC => xr_istore_n HC.1 9 18 (n := 2) (ix := 2) (lv' := [(0, av_R 11 (some v0)), (1, av_I v1), (2, av_I x_2.1)]) rfl rfl rfl (by decide) rfl) ?_
  refine xs_step (fun K HC => xr_iload_n HC.1 10 19 (n := 2) (ix := 2) (j := 2) (x := x_2.1) rfl rfl rfl rfl) ?_
  refine xs_ite (fun K HC => xr_if_lt HC.1 11 40 22 rfl (by decide) rfl) ?_ ?_
  · refine xs_step (fun K HC => xr_iconst HC.1 22 41 (n := (-1)) (-1 : Int32) rfl rfl rfl) ?_
    exact xs_reti 23 rfl rfl (fun K q => q) (fun ty ht => by cases ht; rfl)
  refine xs_step (fun K HC => xr_iload_n HC.1 12 23 (n := 1) (ix := 1) (j := 1) (x := v1) rfl rfl rfl rfl) ?_
  refine xs_ite (fun K HC => xr_if_lt HC.1 13 40 26 rfl (by decide) rfl) ?_ ?_
  · refine xs_step (fun K HC => xr_iconst HC.1 22 41 (n := (-1)) (-1 : Int32) rfl rfl rfl) ?_
    exact xs_reti 23 rfl rfl (fun K q => q) (fun ty ht => by cases ht; rfl)
  refine xs_step (fun K HC => xr_iload_n HC.1 14 27 (n := 1) (ix := 1) (j := 1) (x := v1) rfl rfl rfl rfl) ?_
  refine xs_step (fun K HC => xr_aload_n HC.1 15 28 (n := 0) (ix := 0) (j := 0) (c := 11) (x := v0) rfl rfl rfl rfl) ?_
  refine xs_bind (fun q_3 eq_3 => ?_)
  refine xs_step (fun K HC => xr_getr HC.1 16 31 11 68 13 eq_3 rfl rfl wf_M_103 (by decide) fb_11_68 fc_11_68 fd_11_68) ?_
  refine xs_step (fun K HC => xr_aload_n HC.1 17 32 (n := 0) (ix := 0) (j := 0) (c := 11) (x := v0) rfl rfl rfl rfl) ?_
  refine xs_step (fun K HC => xr_iload_n HC.1 18 33 (n := 2) (ix := 2) (j := 2) (x := x_2.1) rfl rfl rfl rfl) ?_
  refine xs_calli (s_M_startNumber v0 x_2.1 x_2.2) (fun K HC x9 hM hmo hb => xr_callV HC.1 19 36 (av := [av_I x_2.1]) (st := [av_R 13 (some q_3), av_I v1]) (hM (kg K) (cx_l (kx K))) hmo hb rfl rfl wm_M_534 wi_M_startNumber ws_M_startNumber wc_M_startNumber rfl wh_M_startNumber (by decide) (by decide) (by decide) (Nat.le_of_ble_eq_true rfl) rfl) (fun x_4 => ?_)
  refine xs_chk (fun hb_5 => ?_)
  refine xs_step (fun K HC => xr_iald HC.1 20 37 (hp_in_vp hb_5) rfl rfl) ?_
  refine xs_ite (fun K HC => xr_icmp_lt HC.1 21 42 40 rfl (by decide) rfl) ?_ ?_
  · refine xs_step (fun K HC => xr_aload_n HC.1 24 43 (n := 0) (ix := 0) (j := 0) (c := 11) (x := v0) rfl rfl rfl rfl) ?_
    refine xs_step (fun K HC => xr_iload_n HC.1 25 44 (n := 2) (ix := 2) (j := 2) (x := x_2.1) rfl rfl rfl rfl) ?_
    refine xs_calli (s_M_startNumber v0 x_2.1 x_4.2) (fun K HC x9 hM hmo hb => xr_callV HC.1 26 47 (av := [av_I x_2.1]) (st := []) (hM (kg K) (cx_l (kx K))) hmo hb rfl rfl wm_M_534 wi_M_startNumber ws_M_startNumber wc_M_startNumber rfl wh_M_startNumber (by decide) (by decide) (by decide) (Nat.le_of_ble_eq_true rfl) rfl) (fun x_6 => ?_)
    refine xs_step (fun K HC => xr_istore_n HC.1 27 48 (n := 3) (ix := 3) (lv' := [(0, av_R 11 (some v0)), (1, av_I v1), (2, av_I x_2.1), (3, av_I x_6.1)]) rfl rfl rfl (by decide) rfl) ?_
    refine xs_step (fun K HC => xr_iconst HC.1 28 49 (n := (0)) (0 : Int32) rfl rfl rfl) ?_
    refine xs_step (fun K HC => xr_istore HC.1 29 51 (ix := 4) (lv' := [(0, av_R 11 (some v0)), (1, av_I v1), (2, av_I x_2.1), (3, av_I x_6.1), (4, av_I (0 : Int32))]) rfl rfl (by decide) rfl) ?_
    refine xs_step (fun K HC => xr_iconst HC.1 30 52 (n := (0)) (0 : Int32) rfl rfl rfl) ?_
    refine xs_step (fun K HC => xr_istore HC.1 31 54 (ix := 5) (lv' := [(0, av_R 11 (some v0)), (1, av_I v1), (2, av_I x_2.1), (3, av_I x_6.1), (4, av_I (0 : Int32)), (5, av_I (0 : Int32))]) rfl rfl (by decide) rfl) ?_
    refine xs_step (fun K HC => xr_sub (lv' := [(0, av_R 11 (some v0)), (1, av_I v1), (3, av_I x_6.1), (4, av_I (0 : Int32)), (5, av_I (0 : Int32))]) [0, 1, 3, 4, 5] rfl) ?_
    exact t_M_shows_54 v0 v1 x_6.1 (0 : Int32) (0 : Int32) x_6.2
  refine xs_step (fun K HC => xr_iconst HC.1 22 41 (n := (-1)) (-1 : Int32) rfl rfl rfl) ?_
  exact xs_reti 23 rfl rfl (fun K q => q) (fun ty ht => by cases ht; rfl)
theorem s_M_shows (v0 : Nat) (v1 : Int32) (h : HP) : ∀ x, f_M_shows v0 v1 h = some x → hp_mo h x.2 ∧ ∀ g l, xx_M g l y_M_shows prog_14_method_74_code 7 (some .int) 8 [av_R 11 (some v0), av_I v1] h (some (av_I x.1)) x.2 :=
  xM_i (tb := tb_M_shows) (b := false) (by decide +kernel) dt_M_shows (fun _ => trivial) (Nat.le_of_ble_eq_true rfl) (fun hb => by cases hb) (t_M_shows v0 v1 h)
def tb_M_soonest : TBL := [(0, .aload_n 0, 1), (1, .iconst (-1), 1), (2, .invokevirtual 521, 3), (5, .ifCond .ne 6, 3), (8, .bipush (-2), 2), (10, .ireturn, 1), (11, .aload_n 0, 1), (12, .bipush (-2), 2), (14, .invokevirtual 537, 3), (17, .istore_n 1, 1), (18, .iload_n 1, 1), (19, .ifCond .ge 7, 3), (22, .iconst (-1), 1), (23, .goto 13, 3), (26, .aload_n 0, 1), (27, .getfield 103, 3), (30, .aload_n 0, 1), (31, .iload_n 1, 1), (32, .invokevirtual 534, 3), (35, .iaload, 1), (36, .ireturn, 1)]
theorem dt_M_soonest : ∀ q ∈ tb_M_soonest, decode prog_14_method_75_code q.1 = .ok (q.2.1, q.2.2) := by decide +kernel
set_option maxHeartbeats 4000000 in
set_option maxRecDepth 100000 in
theorem t_M_soonest (v0 : Nat) (h : HP) : xx_S (xx_D "LampYardModel" tb_M_soonest 2 8 (some .int) false) xz_i (fun K => xL_i K) 0 [(0, av_R 11 (some v0))] [] h (f_M_soonest v0 h) := by
  unfold f_M_soonest
  refine xs_step (fun K HC => xr_aload_n HC.1 0 1 (n := 0) (ix := 0) (j := 0) (c := 11) (x := v0) rfl rfl rfl rfl) ?_
  refine xs_step (fun K HC => xr_iconst HC.1 1 2 (n := (-1)) (-1 : Int32) rfl rfl rfl) ?_
  refine xs_calli (s_M_layPlan v0 (-1 : Int32) h) (fun K HC x9 hM hmo hb => xr_callV HC.1 2 5 (av := [av_I (-1 : Int32)]) (st := []) (hM (kg K) (cx_l (kx K))) hmo hb rfl rfl wm_M_521 wi_M_layPlan ws_M_layPlan wc_M_layPlan rfl wh_M_layPlan (by decide) (by decide) (by decide) (Nat.le_of_ble_eq_true rfl) rfl) (fun x_1 => ?_)
  refine xs_ite (fun K HC a b => xr_if_ne HC.1 3 11 8 rfl (by decide) rfl b a) ?_ ?_
  · refine xs_step (fun K HC => xr_bipush HC.1 4 10 (n := (-2)) (-2 : Int32) rfl rfl rfl) ?_
    exact xs_reti 5 rfl rfl (fun K q => q) (fun ty ht => by cases ht; rfl)
  refine xs_step (fun K HC => xr_aload_n HC.1 6 12 (n := 0) (ix := 0) (j := 0) (c := 11) (x := v0) rfl rfl rfl rfl) ?_
  refine xs_step (fun K HC => xr_bipush HC.1 7 14 (n := (-2)) (-2 : Int32) rfl rfl rfl) ?_
  refine xs_calli (s_M_soonStart v0 (-2 : Int32) x_1.2) (fun K HC x9 hM hmo hb => xr_callV HC.1 8 17 (av := [av_I (-2 : Int32)]) (st := []) (hM (kg K) (cx_l (kx K))) hmo hb rfl rfl wm_M_537 wi_M_soonStart ws_M_soonStart wc_M_soonStart rfl wh_M_soonStart (by decide) (by decide) (by decide) (Nat.le_of_ble_eq_true rfl) rfl) (fun x_2 => ?_)
  refine xs_step (fun K HC => xr_istore_n HC.1 9 18 (n := 1) (ix := 1) (lv' := [(0, av_R 11 (some v0)), (1, av_I x_2.1)]) rfl rfl rfl (by decide) rfl) ?_
  refine xs_step (fun K HC => xr_iload_n HC.1 10 19 (n := 1) (ix := 1) (j := 1) (x := x_2.1) rfl rfl rfl rfl) ?_
  refine xs_ite (fun K HC => xr_if_ge HC.1 11 26 22 rfl (by decide) rfl) ?_ ?_
  · refine xs_step (fun K HC => xr_aload_n HC.1 14 27 (n := 0) (ix := 0) (j := 0) (c := 11) (x := v0) rfl rfl rfl rfl) ?_
    refine xs_bind (fun q_3 eq_3 => ?_)
    refine xs_step (fun K HC => xr_getr HC.1 15 30 11 68 13 eq_3 rfl rfl wf_M_103 (by decide) fb_11_68 fc_11_68 fd_11_68) ?_
    refine xs_step (fun K HC => xr_aload_n HC.1 16 31 (n := 0) (ix := 0) (j := 0) (c := 11) (x := v0) rfl rfl rfl rfl) ?_
    refine xs_step (fun K HC => xr_iload_n HC.1 17 32 (n := 1) (ix := 1) (j := 1) (x := x_2.1) rfl rfl rfl rfl) ?_
    refine xs_calli (s_M_startNumber v0 x_2.1 x_2.2) (fun K HC x9 hM hmo hb => xr_callV HC.1 18 35 (av := [av_I x_2.1]) (st := [av_R 13 (some q_3)]) (hM (kg K) (cx_l (kx K))) hmo hb rfl rfl wm_M_534 wi_M_startNumber ws_M_startNumber wc_M_startNumber rfl wh_M_startNumber (by decide) (by decide) (by decide) (Nat.le_of_ble_eq_true rfl) rfl) (fun x_4 => ?_)
    refine xs_chk (fun hb_5 => ?_)
    refine xs_step (fun K HC => xr_iald HC.1 19 36 (hp_in_vp hb_5) rfl rfl) ?_
    exact xs_reti 20 rfl rfl (fun K q => q) (fun ty ht => by cases ht; rfl)
  refine xs_step (fun K HC => xr_iconst HC.1 12 23 (n := (-1)) (-1 : Int32) rfl rfl rfl) ?_
  refine xs_step (fun K HC => xr_goto HC.1 13 36 rfl (by decide)) ?_
  exact xs_reti 20 rfl rfl (fun K q => q) (fun ty ht => by cases ht; rfl)
theorem s_M_soonest (v0 : Nat) (h : HP) : ∀ x, f_M_soonest v0 h = some x → hp_mo h x.2 ∧ ∀ g l, xx_M g l y_M_soonest prog_14_method_75_code 2 (some .int) 8 [av_R 11 (some v0)] h (some (av_I x.1)) x.2 :=
  xM_i (tb := tb_M_soonest) (b := false) (by decide +kernel) dt_M_soonest (fun _ => trivial) (Nat.le_of_ble_eq_true rfl) (fun hb => by cases hb) (t_M_soonest v0 h)
