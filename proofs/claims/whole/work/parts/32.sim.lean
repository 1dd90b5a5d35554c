def tb_Rd_splitText : TBL := [(0, .iconst 0, 1), (1, .istore_n 1, 1), (2, .aload_n 0, 1), (3, .iconst 0, 1), (4, .putfield 72, 3), (7, .iconst 0, 1), (8, .istore_n 2, 1), (9, .iload_n 2, 1), (10, .sipush 1400, 3), (13, .if_icmp .gt 24, 3), (16, .iload_n 1, 1), (17, .iconst (-1), 1), (18, .if_icmp .eq 19, 3), (21, .aload_n 0, 1), (22, .aload_n 0, 1), (23, .iload_n 1, 1), (24, .invokevirtual 75, 3), (27, .invokevirtual 79, 3), (30, .istore_n 1, 1), (31, .iinc 2 1, 3), (34, .goto (-25), 3), (37, .return_, 1)]
theorem dt_Rd_splitText : ∀ q ∈ tb_Rd_splitText, decode prog_7_method_3_code q.1 = .ok (q.2.1, q.2.2) := by decide +kernel
set_option maxHeartbeats 4000000 in
set_option maxRecDepth 100000 in
theorem t_Rd_splitText_9b (v0 : Nat) (v1 : Int32) (v2 : Int32) (h : HP) : xx_S (xx_D "LampYard$Reader" tb_Rd_splitText 3 12 none false) (xx_z2 (fun s : (Int32 × Int32 × HP) => s.2.2) xz_v) (fun K => xx_L2 (fun s : (Int32 × Int32 × HP) => xx_X K 9 [(0, av_R 5 (some v0)), (1, av_I s.1), (2, av_I s.2.1)] [] (s.2.2)) (xL_v K)) 9 [(0, av_R 5 (some v0)), (1, av_I v1), (2, av_I v2)] [] h (f_Rd_splitText_9b v0 v1 v2 h) := by
  unfold f_Rd_splitText_9b
  refine xs_step (fun K HC => xr_iload_n HC.1 7 10 (n := 2) (ix := 2) (j := 2) (x := v2) rfl rfl rfl rfl) ?_
  refine xs_step (fun K HC => xr_sipush HC.1 8 13 (n := (1400)) (1400 : Int32) rfl rfl rfl) ?_
  refine xs_ite (fun K HC => xr_icmp_gt HC.1 9 37 16 rfl (by decide) rfl) ?_ ?_
  · exact xs_ret 21 rfl rfl (fun K q => q)
  refine xs_step (fun K HC => xr_iload_n HC.1 10 17 (n := 1) (ix := 1) (j := 1) (x := v1) rfl rfl rfl rfl) ?_
  refine xs_step (fun K HC => xr_iconst HC.1 11 18 (n := (-1)) (-1 : Int32) rfl rfl rfl) ?_
  refine xs_ite (fun K HC => xr_icmp_eq HC.1 12 37 21 rfl (by decide) rfl) ?_ ?_
  · exact xs_ret 21 rfl rfl (fun K q => q)
  refine xs_step (fun K HC => xr_aload_n HC.1 13 22 (n := 0) (ix := 0) (j := 0) (c := 5) (x := v0) rfl rfl rfl rfl) ?_
  refine xs_step (fun K HC => xr_aload_n HC.1 14 23 (n := 0) (ix := 0) (j := 0) (c := 5) (x := v0) rfl rfl rfl rfl) ?_
  refine xs_step (fun K HC => xr_iload_n HC.1 15 24 (n := 1) (ix := 1) (j := 1) (x := v1) rfl rfl rfl rfl) ?_
  refine xs_calli (s_Rd_afterBlanks v0 v1 h) (fun K HC x9 hM hmo hb => xr_callV HC.1 16 27 (av := [av_I v1]) (st := [av_R 5 (some v0)]) (hM (kg K) (cx_l (kx K))) hmo hb rfl rfl wm_Rd_75 wi_Rd_afterBlanks ws_Rd_afterBlanks wc_Rd_afterBlanks rfl wh_Rd_afterBlanks (by decide) (by decide) (by decide) (Nat.le_of_ble_eq_true rfl) rfl) (fun x_2 => ?_)
  refine xs_calli (s_Rd_takeToken v0 x_2.1 x_2.2) (fun K HC x9 hM hmo hb => xr_callV HC.1 17 30 (av := [av_I x_2.1]) (st := []) (hM (kg K) (cx_l (kx K))) hmo hb rfl rfl wm_Rd_79 wi_Rd_takeToken ws_Rd_takeToken wc_Rd_takeToken rfl wh_Rd_takeToken (by decide) (by decide) (by decide) (Nat.le_of_ble_eq_true rfl) rfl) (fun x_3 => ?_)
  refine xs_step (fun K HC => xr_istore_n HC.1 18 31 (n := 1) (ix := 1) (lv' := [(0, av_R 5 (some v0)), (1, av_I x_3.1), (2, av_I v2)]) rfl rfl rfl (by decide) rfl) ?_
  refine xs_gen (fun v2_4 ev2_4 => ?_)
  refine xs_step (fun K HC => xr_iinc HC.1 19 34 (ix := 2) (j := 2) (n := (1)) (x := v2) v2_4 (lv' := [(0, av_R 5 (some v0)), (1, av_I x_3.1), (2, av_I v2_4)]) rfl (by rw [ev2_4]; rfl) rfl rfl (by decide) rfl) ?_
  refine xs_step (fun K HC => xr_goto HC.1 20 9 rfl (by decide)) ?_
  exact xs_back rfl (fun K q => q)
theorem t_Rd_splitText_9 (v0 : Nat) (v1 : Int32) (v2 : Int32) (h : HP) : xx_S (xx_D "LampYard$Reader" tb_Rd_splitText 3 12 none false) xz_v (fun K => xL_v K) 9 [(0, av_R 5 (some v0)), (1, av_I v1), (2, av_I v2)] [] h (f_Rd_splitText_9 v0 v1 v2 h) :=
  xs_loop (zf := xz_v) (L := (fun K => xL_v K)) (fun s : (Int32 × Int32 × HP) => [(0, av_R 5 (some v0)), (1, av_I s.1), (2, av_I s.2.1)]) (fun s : (Int32 × Int32 × HP) => s.2.2) (fun s => t_Rd_splitText_9b v0 s.1 s.2.1 s.2.2) (v1, v2, h)
set_option maxHeartbeats 4000000 in
set_option maxRecDepth 100000 in
theorem t_Rd_splitText (v0 : Nat) (h : HP) : xx_S (xx_D "LampYard$Reader" tb_Rd_splitText 3 12 none false) xz_v (fun K => xL_v K) 0 [(0, av_R 5 (some v0))] [] h (f_Rd_splitText v0 h) := by
  unfold f_Rd_splitText
  refine xs_step (fun K HC => xr_iconst HC.1 0 1 (n := (0)) (0 : Int32) rfl rfl rfl) ?_
  refine xs_step (fun K HC => xr_istore_n HC.1 1 2 (n := 1) (ix := 1) (lv' := [(0, av_R 5 (some v0)), (1, av_I (0 : Int32))]) rfl rfl rfl (by decide) rfl) ?_
  refine xs_step (fun K HC => xr_aload_n HC.1 2 3 (n := 0) (ix := 0) (j := 0) (c := 5) (x := v0) rfl rfl rfl rfl) ?_
  refine xs_step (fun K HC => xr_iconst HC.1 3 4 (n := (0)) (0 : Int32) rfl rfl rfl) ?_
  refine xs_heap (hp_mo_si _ _ _ _) (fun K HC => xr_puti HC.1 4 7 5 10 rfl rfl wf_Rd_72 (by decide) fb_5_10 fn_5_10 fy_5_10) (fun h_1 => ?_)
  refine xs_step (fun K HC => xr_iconst HC.1 5 8 (n := (0)) (0 : Int32) rfl rfl rfl) ?_
  refine xs_step (fun K HC => xr_istore_n HC.1 6 9 (n := 2) (ix := 2) (lv' := [(0, av_R 5 (some v0)), (1, av_I (0 : Int32)), (2, av_I (0 : Int32))]) rfl rfl rfl (by decide) rfl) ?_
  exact t_Rd_splitText_9 v0 (0 : Int32) (0 : Int32) h_1
theorem s_Rd_splitText (v0 : Nat) (h : HP) : ∀ x, f_Rd_splitText v0 h = some x → hp_mo h x ∧ ∀ g l, xx_M g l y_Rd_splitText prog_7_method_3_code 3 none 12 [av_R 5 (some v0)] h none x :=
  xM_v (tb := tb_Rd_splitText) (b := false) (by decide +kernel) dt_Rd_splitText trivial (Nat.le_of_ble_eq_true rfl) (fun hb => by cases hb) (t_Rd_splitText v0 h)
def tb_Rd_numberWithin : TBL := [(0, .aload_n 0, 1), (1, .getfield 66, 3), (4, .bipush 21, 2), (6, .if_icmp .eq 10, 3), (9, .aload_n 0, 1), (10, .iconst 2, 1), (11, .invokevirtual 131, 3), (14, .iload_n 1, 1), (15, .ireturn, 1), (16, .aload_n 0, 1), (17, .getfield 24, 3), (20, .aload_n 0, 1), (21, .getfield 60, 3), (24, .laload, 1), (25, .l2i, 1), (26, .istore_n 3, 1), (27, .iload_n 3, 1), (28, .iload_n 1, 1), (29, .if_icmp .lt 8, 3), (32, .iload_n 3, 1), (33, .iload_n 2, 1), (34, .if_icmp .le 10, 3), (37, .aload_n 0, 1), (38, .iconst 4, 1), (39, .invokevirtual 131, 3), (42, .iload_n 1, 1), (43, .ireturn, 1), (44, .aload_n 0, 1), (45, .invokevirtual 63, 3), (48, .iload_n 3, 1), (49, .ireturn, 1)]
theorem dt_Rd_numberWithin : ∀ q ∈ tb_Rd_numberWithin, decode prog_7_method_27_code q.1 = .ok (q.2.1, q.2.2) := by decide +kernel
set_option maxHeartbeats 4000000 in
set_option maxRecDepth 100000 in
theorem t_Rd_numberWithin_37 (v0 : Nat) (v1 : Int32) (h : HP) : xx_S (xx_D "LampYard$Reader" tb_Rd_numberWithin 4 3 (some .int) false) xz_i (fun K => xL_i K) 37 [(0, av_R 5 (some v0)), (1, av_I v1)] [] h (f_Rd_numberWithin_37 v0 v1 h) := by
  unfold f_Rd_numberWithin_37
  refine xs_step (fun K HC => xr_aload_n HC.1 22 38 (n := 0) (ix := 0) (j := 0) (c := 5) (x := v0) rfl rfl rfl rfl) ?_
  refine xs_step (fun K HC => xr_iconst HC.1 23 39 (n := (4)) (4 : Int32) rfl rfl rfl) ?_
  refine xs_callv (s_Rd_refuse v0 (4 : Int32) h) (fun K HC x9 hM hmo hb => xr_callV HC.1 24 42 (av := [av_I (4 : Int32)]) (st := []) (hM (kg K) (cx_l (kx K))) hmo hb rfl rfl wm_Rd_131 wi_Rd_refuse ws_Rd_refuse wc_Rd_refuse rfl wh_Rd_refuse (by decide) (by decide) (by decide) (Nat.le_of_ble_eq_true rfl) rfl) (fun x_4 => ?_)
  refine xs_step (fun K HC => xr_iload_n HC.1 25 43 (n := 1) (ix := 1) (j := 1) (x := v1) rfl rfl rfl rfl) ?_
  exact xs_reti 26 rfl rfl (fun K q => q) (fun ty ht => by cases ht; rfl)
set_option maxHeartbeats 4000000 in
set_option maxRecDepth 100000 in
theorem t_Rd_numberWithin (v0 : Nat) (v1 : Int32) (v2 : Int32) (h : HP) : xx_S (xx_D "LampYard$Reader" tb_Rd_numberWithin 4 3 (some .int) false) xz_i (fun K => xL_i K) 0 [(0, av_R 5 (some v0)), (1, av_I v1), (2, av_I v2)] [] h (f_Rd_numberWithin v0 v1 v2 h) := by
  unfold f_Rd_numberWithin
  refine xs_step (fun K HC => xr_aload_n HC.1 0 1 (n := 0) (ix := 0) (j := 0) (c := 5) (x := v0) rfl rfl rfl rfl) ?_
  refine xs_step (fun K HC => xr_geti HC.1 1 4 5 12 rfl rfl wf_Rd_66 (by decide) fb_5_12 fc_5_12) ?_
  refine xs_step (fun K HC => xr_bipush HC.1 2 6 (n := (21)) (21 : Int32) rfl rfl rfl) ?_
  refine xs_ite (fun K HC => xr_icmp_eq HC.1 3 16 9 rfl (by decide) rfl) ?_ ?_
  · refine xs_step (fun K HC => xr_aload_n HC.1 9 17 (n := 0) (ix := 0) (j := 0) (c := 5) (x := v0) rfl rfl rfl rfl) ?_
    refine xs_bind (fun q_1 eq_1 => ?_)
    refine xs_step (fun K HC => xr_getr HC.1 10 20 5 9 14 eq_1 rfl rfl wf_Rd_24 (by decide) fb_5_9 fc_5_9 fd_5_9) ?_
    refine xs_step (fun K HC => xr_aload_n HC.1 11 21 (n := 0) (ix := 0) (j := 0) (c := 5) (x := v0) rfl rfl rfl rfl) ?_
    refine xs_step (fun K HC => xr_geti HC.1 12 24 5 11 rfl rfl wf_Rd_60 (by decide) fb_5_11 fc_5_11) ?_
    refine xs_chk (fun hb_2 => ?_)
    refine xs_step (fun K HC => xr_lald HC.1 13 25 (hp_in_vp hb_2) rfl rfl) ?_
    refine xs_step (fun K HC => xr_l2i HC.1 14 26 rfl rfl) ?_
    refine xs_topi (fun v3_3 => ?_)
    refine xs_step (fun K HC => xr_istore_n HC.1 15 27 (n := 3) (ix := 3) (lv' := [(0, av_R 5 (some v0)), (1, av_I v1), (2, av_I v2), (3, av_I v3_3)]) rfl rfl rfl (by decide) rfl) ?_
    refine xs_step (fun K HC => xr_iload_n HC.1 16 28 (n := 3) (ix := 3) (j := 3) (x := v3_3) rfl rfl rfl rfl) ?_
    refine xs_step (fun K HC => xr_iload_n HC.1 17 29 (n := 1) (ix := 1) (j := 1) (x := v1) rfl rfl rfl rfl) ?_
    refine xs_ite (fun K HC => xr_icmp_lt HC.1 18 37 32 rfl (by decide) rfl) ?_ ?_
    · refine xs_step (fun K HC => xr_sub (lv' := [(0, av_R 5 (some v0)), (1, av_I v1)]) [0, 1] rfl) ?_
      exact t_Rd_numberWithin_37 v0 v1 h
    refine xs_step (fun K HC => xr_iload_n HC.1 19 33 (n := 3) (ix := 3) (j := 3) (x := v3_3) rfl rfl rfl rfl) ?_
    refine xs_step (fun K HC => xr_iload_n HC.1 20 34 (n := 2) (ix := 2) (j := 2) (x := v2) rfl rfl rfl rfl) ?_
    refine xs_ite (fun K HC => xr_icmp_le HC.1 21 44 37 rfl (by decide) rfl) ?_ ?_
    · refine xs_step (fun K HC => xr_aload_n HC.1 27 45 (n := 0) (ix := 0) (j := 0) (c := 5) (x := v0) rfl rfl rfl rfl) ?_
      refine xs_callv (s_Rd_advance v0 h) (fun K HC x9 hM hmo hb => xr_callV HC.1 28 48 (av := []) (st := []) (hM (kg K) (cx_l (kx K))) hmo hb rfl rfl wm_Rd_63 wi_Rd_advance ws_Rd_advance wc_Rd_advance rfl wh_Rd_advance (by decide) (by decide) (by decide) (Nat.le_of_ble_eq_true rfl) rfl) (fun x_5 => ?_)
      refine xs_step (fun K HC => xr_iload_n HC.1 29 49 (n := 3) (ix := 3) (j := 3) (x := v3_3) rfl rfl rfl rfl) ?_
      exact xs_reti 30 rfl rfl (fun K q => q) (fun ty ht => by cases ht; rfl)
    refine xs_step (fun K HC => xr_sub (lv' := [(0, av_R 5 (some v0)), (1, av_I v1)]) [0, 1] rfl) ?_
    exact t_Rd_numberWithin_37 v0 v1 h
  refine xs_step (fun K HC => xr_aload_n HC.1 4 10 (n := 0) (ix := 0) (j := 0) (c := 5) (x := v0) rfl rfl rfl rfl) ?_
  refine xs_step (fun K HC => xr_iconst HC.1 5 11 (n := (2)) (2 : Int32) rfl rfl rfl) ?_
  refine xs_callv (s_Rd_refuse v0 (2 : Int32) h) (fun K HC x9 hM hmo hb => xr_callV HC.1 6 14 (av := [av_I (2 : Int32)]) (st := []) (hM (kg K) (cx_l (kx K))) hmo hb rfl rfl wm_Rd_131 wi_Rd_refuse ws_Rd_refuse wc_Rd_refuse rfl wh_Rd_refuse (by decide) (by decide) (by decide) (Nat.le_of_ble_eq_true rfl) rfl) (fun x_6 => ?_)
  refine xs_step (fun K HC => xr_iload_n HC.1 7 15 (n := 1) (ix := 1) (j := 1) (x := v1) rfl rfl rfl rfl) ?_
  exact xs_reti 8 rfl rfl (fun K q => q) (fun ty ht => by cases ht; rfl)
theorem s_Rd_numberWithin (v0 : Nat) (v1 : Int32) (v2 : Int32) (h : HP) : ∀ x, f_Rd_numberWithin v0 v1 v2 h = some x → hp_mo h x.2 ∧ ∀ g l, xx_M g l y_Rd_numberWithin prog_7_method_27_code 4 (some .int) 3 [av_R 5 (some v0), av_I v1, av_I v2] h (some (av_I x.1)) x.2 :=
  xM_i (tb := tb_Rd_numberWithin) (b := false) (by decide +kernel) dt_Rd_numberWithin (fun _ => trivial) (Nat.le_of_ble_eq_true rfl) (fun hb => by cases hb) (t_Rd_numberWithin v0 v1 v2 h)
def tb_Rd_readStart : TBL := [(0, .aload_n 0, 1), (1, .getfield 66, 3), (4, .iconst 4, 1), (5, .if_icmp .ne 14, 3), (8, .aload_n 0, 1), (9, .getfield 44, 3), (12, .iconst 0, 1), (13, .putfield 153, 3), (16, .goto 47, 3), (19, .aload_n 0, 1), (20, .getfield 66, 3), (23, .iconst 5, 1), (24, .if_icmp .ne 14, 3), (27, .aload_n 0, 1), (28, .getfield 44, 3), (31, .iconst 1, 1), (32, .putfield 153, 3), (35, .goto 28, 3), (38, .aload_n 0, 1), (39, .getfield 66, 3), (42, .bipush 6, 2), (44, .if_icmp .ne 14, 3), (47, .aload_n 0, 1), (48, .getfield 44, 3), (51, .iconst 2, 1), (52, .putfield 153, 3), (55, .goto 8, 3), (58, .aload_n 0, 1), (59, .iconst 2, 1), (60, .invokevirtual 131, 3), (63, .aload_n 0, 1), (64, .invokevirtual 63, 3), (67, .return_, 1)]
theorem dt_Rd_readStart : ∀ q ∈ tb_Rd_readStart, decode prog_7_method_17_code q.1 = .ok (q.2.1, q.2.2) := by decide +kernel
set_option maxHeartbeats 4000000 in
set_option maxRecDepth 100000 in
theorem t_Rd_readStart_63 (v0 : Nat) (h : HP) : xx_S (xx_D "LampYard$Reader" tb_Rd_readStart 1 3 none false) xz_v (fun K => xL_v K) 63 [(0, av_R 5 (some v0))] [] h (f_Rd_readStart_63 v0 h) := by
  unfold f_Rd_readStart_63
  refine xs_step (fun K HC => xr_aload_n HC.1 30 64 (n := 0) (ix := 0) (j := 0) (c := 5) (x := v0) rfl rfl rfl rfl) ?_
  refine xs_callv (s_Rd_advance v0 h) (fun K HC x9 hM hmo hb => xr_callV HC.1 31 67 (av := []) (st := []) (hM (kg K) (cx_l (kx K))) hmo hb rfl rfl wm_Rd_63 wi_Rd_advance ws_Rd_advance wc_Rd_advance rfl wh_Rd_advance (by decide) (by decide) (by decide) (Nat.le_of_ble_eq_true rfl) rfl) (fun x_3 => ?_)
  exact xs_ret 32 rfl rfl (fun K q => q)
set_option maxHeartbeats 4000000 in
set_option maxRecDepth 100000 in
theorem t_Rd_readStart (v0 : Nat) (h : HP) : xx_S (xx_D "LampYard$Reader" tb_Rd_readStart 1 3 none false) xz_v (fun K => xL_v K) 0 [(0, av_R 5 (some v0))] [] h (f_Rd_readStart v0 h) := by
  unfold f_Rd_readStart
  refine xs_step (fun K HC => xr_aload_n HC.1 0 1 (n := 0) (ix := 0) (j := 0) (c := 5) (x := v0) rfl rfl rfl rfl) ?_
  refine xs_step (fun K HC => xr_geti HC.1 1 4 5 12 rfl rfl wf_Rd_66 (by decide) fb_5_12 fc_5_12) ?_
  refine xs_step (fun K HC => xr_iconst HC.1 2 5 (n := (4)) (4 : Int32) rfl rfl rfl) ?_
  refine xs_ite (fun K HC a b => xr_icmp_ne HC.1 3 19 8 rfl (by decide) rfl b a) ?_ ?_
  · refine xs_step (fun K HC => xr_aload_n HC.1 4 9 (n := 0) (ix := 0) (j := 0) (c := 5) (x := v0) rfl rfl rfl rfl) ?_
    refine xs_bind (fun q_1 eq_1 => ?_)
    refine xs_step (fun K HC => xr_getr HC.1 5 12 5 4 4 eq_1 rfl rfl wf_Rd_44 (by decide) fb_5_4 fc_5_4 fd_5_4) ?_
    refine xs_step (fun K HC => xr_iconst HC.1 6 13 (n := (0)) (0 : Int32) rfl rfl rfl) ?_
    refine xs_heap (hp_mo_si _ _ _ _) (fun K HC => xr_puti HC.1 7 16 4 3 rfl rfl wf_Rd_153 (by decide) fb_4_3 fn_4_3 fy_4_3) (fun h_2 => ?_)
    refine xs_step (fun K HC => xr_goto HC.1 8 63 rfl (by decide)) ?_
    exact t_Rd_readStart_63 v0 h_2
  refine xs_step (fun K HC => xr_aload_n HC.1 9 20 (n := 0) (ix := 0) (j := 0) (c := 5) (x := v0) rfl rfl rfl rfl) ?_
  refine xs_step (fun K HC => xr_geti HC.1 10 23 5 12 rfl rfl wf_Rd_66 (by decide) fb_5_12 fc_5_12) ?_
  refine xs_step (fun K HC => xr_iconst HC.1 11 24 (n := (5)) (5 : Int32) rfl rfl rfl) ?_
  refine xs_ite (fun K HC a b => xr_icmp_ne HC.1 12 38 27 rfl (by decide) rfl b a) ?_ ?_
  · refine xs_step (fun K HC => xr_aload_n HC.1 13 28 (n := 0) (ix := 0) (j := 0) (c := 5) (x := v0) rfl rfl rfl rfl) ?_
    refine xs_bind (fun q_4 eq_4 => ?_)
    refine xs_step (fun K HC => xr_getr HC.1 14 31 5 4 4 eq_4 rfl rfl wf_Rd_44 (by decide) fb_5_4 fc_5_4 fd_5_4) ?_
    refine xs_step (fun K HC => xr_iconst HC.1 15 32 (n := (1)) (1 : Int32) rfl rfl rfl) ?_
    refine xs_heap (hp_mo_si _ _ _ _) (fun K HC => xr_puti HC.1 16 35 4 3 rfl rfl wf_Rd_153 (by decide) fb_4_3 fn_4_3 fy_4_3) (fun h_5 => ?_)
    refine xs_step (fun K HC => xr_goto HC.1 17 63 rfl (by decide)) ?_
    exact t_Rd_readStart_63 v0 h_5
  refine xs_step (fun K HC => xr_aload_n HC.1 18 39 (n := 0) (ix := 0) (j := 0) (c := 5) (x := v0) rfl rfl rfl rfl) ?_
  refine xs_step (fun K HC => xr_geti HC.1 19 42 5 12 rfl rfl wf_Rd_66 (by decide) fb_5_12 fc_5_12) ?_
  refine xs_step (fun K HC => xr_bipush HC.1 20 44 (n := (6)) (6 : Int32) rfl rfl rfl) ?_
  refine xs_ite (fun K HC a b => xr_icmp_ne HC.1 21 58 47 rfl (by decide) rfl b a) ?_ ?_
  · refine xs_step (fun K HC => xr_aload_n HC.1 22 48 (n := 0) (ix := 0) (j := 0) (c := 5) (x := v0) rfl rfl rfl rfl) ?_
    refine xs_bind (fun q_6 eq_6 => ?_)
    refine xs_step (fun K HC => xr_getr HC.1 23 51 5 4 4 eq_6 rfl rfl wf_Rd_44 (by decide) fb_5_4 fc_5_4 fd_5_4) ?_
    refine xs_step (fun K HC => xr_iconst HC.1 24 52 (n := (2)) (2 : Int32) rfl rfl rfl) ?_
    refine xs_heap (hp_mo_si _ _ _ _) (fun K HC => xr_puti HC.1 25 55 4 3 rfl rfl wf_Rd_153 (by decide) fb_4_3 fn_4_3 fy_4_3) (fun h_7 => ?_)
    refine xs_step (fun K HC => xr_goto HC.1 26 63 rfl (by decide)) ?_
    exact t_Rd_readStart_63 v0 h_7
  refine xs_step (fun K HC => xr_aload_n HC.1 27 59 (n := 0) (ix := 0) (j := 0) (c := 5) (x := v0) rfl rfl rfl rfl) ?_
  refine xs_step (fun K HC => xr_iconst HC.1 28 60 (n := (2)) (2 : Int32) rfl rfl rfl) ?_
  refine xs_callv (s_Rd_refuse v0 (2 : Int32) h) (fun K HC x9 hM hmo hb => xr_callV HC.1 29 63 (av := [av_I (2 : Int32)]) (st := []) (hM (kg K) (cx_l (kx K))) hmo hb rfl rfl wm_Rd_131 wi_Rd_refuse ws_Rd_refuse wc_Rd_refuse rfl wh_Rd_refuse (by decide) (by decide) (by decide) (Nat.le_of_ble_eq_true rfl) rfl) (fun x_8 => ?_)
  exact t_Rd_readStart_63 v0 x_8
theorem s_Rd_readStart (v0 : Nat) (h : HP) : ∀ x, f_Rd_readStart v0 h = some x → hp_mo h x ∧ ∀ g l, xx_M g l y_Rd_readStart prog_7_method_17_code 1 none 3 [av_R 5 (some v0)] h none x :=
  xM_v (tb := tb_Rd_readStart) (b := false) (by decide +kernel) dt_Rd_readStart trivial (Nat.le_of_ble_eq_true rfl) (fun hb => by cases hb) (t_Rd_readStart v0 h)
def tb_Rd_readSetting : TBL := [(0, .aload_n 0, 1), (1, .getfield 66, 3), (4, .istore_n 1, 1), (5, .aload_n 0, 1), (6, .getfield 54, 3), (9, .iconst 1, 1), (10, .iload_n 1, 1), (11, .ishl, 1), (12, .iand, 1), (13, .ifCond .eq 9, 3), (16, .aload_n 0, 1), (17, .iconst 2, 1), (18, .invokevirtual 131, 3), (21, .return_, 1), (22, .aload_n 0, 1), (23, .dup, 1), (24, .getfield 54, 3), (27, .iconst 1, 1), (28, .iload_n 1, 1), (29, .ishl, 1), (30, .ior, 1), (31, .putfield 54, 3), (34, .aload_n 0, 1), (35, .invokevirtual 63, 3), (38, .iload_n 1, 1), (39, .ifCond .ne 19, 3), (42, .aload_n 0, 1), (43, .getfield 44, 3), (46, .aload_n 0, 1), (47, .iconst 1, 1), (48, .iconst 2, 1), (49, .invokevirtual 138, 3), (52, .putfield 141, 3), (55, .goto 51, 3), (58, .iload_n 1, 1), (59, .iconst 1, 1), (60, .if_icmp .ne 20, 3), (63, .aload_n 0, 1), (64, .getfield 44, 3), (67, .aload_n 0, 1), (68, .iconst 1, 1), (69, .bipush 12, 2), (71, .invokevirtual 138, 3), (74, .putfield 144, 3), (77, .goto 29, 3), (80, .iload_n 1, 1), (81, .iconst 2, 1), (82, .if_icmp .ne 20, 3), (85, .aload_n 0, 1), (86, .getfield 44, 3), (89, .aload_n 0, 1), (90, .iconst 0, 1), (91, .bipush 11, 2), (93, .invokevirtual 138, 3), (96, .putfield 147, 3), (99, .goto 7, 3), (102, .aload_n 0, 1), (103, .invokevirtual 150, 3), (106, .return_, 1)]
theorem dt_Rd_readSetting : ∀ q ∈ tb_Rd_readSetting, decode prog_7_method_16_code q.1 = .ok (q.2.1, q.2.2) := by decide +kernel
set_option maxHeartbeats 4000000 in
set_option maxRecDepth 100000 in
theorem t_Rd_readSetting (v0 : Nat) (h : HP) : xx_S (xx_D "LampYard$Reader" tb_Rd_readSetting 2 4 none false) xz_v (fun K => xL_v K) 0 [(0, av_R 5 (some v0))] [] h (f_Rd_readSetting v0 h) := by
  unfold f_Rd_readSetting
  refine xs_step (fun K HC => xr_aload_n HC.1 0 1 (n := 0) (ix := 0) (j := 0) (c := 5) (x := v0) rfl rfl rfl rfl) ?_
  refine xs_step (fun K HC => xr_geti HC.1 1 4 5 12 rfl rfl wf_Rd_66 (by decide) fb_5_12 fc_5_12) ?_
  refine xs_topi (fun v1_1 => ?_)
  refine xs_step (fun K HC => xr_istore_n HC.1 2 5 (n := 1) (ix := 1) (lv' := [(0, av_R 5 (some v0)), (1, av_I v1_1)]) rfl rfl rfl (by decide) rfl) ?_
  refine xs_step (fun K HC => xr_aload_n HC.1 3 6 (n := 0) (ix := 0) (j := 0) (c := 5) (x := v0) rfl rfl rfl rfl) ?_
  refine xs_step (fun K HC => xr_geti HC.1 4 9 5 6 rfl rfl wf_Rd_54 (by decide) fb_5_6 fc_5_6) ?_
  refine xs_step (fun K HC => xr_iconst HC.1 5 10 (n := (1)) (1 : Int32) rfl rfl rfl) ?_
  refine xs_step (fun K HC => xr_iload_n HC.1 6 11 (n := 1) (ix := 1) (j := 1) (x := v1_1) rfl rfl rfl rfl) ?_
  refine xs_step (fun K HC => xr_ishl HC.1 7 12 rfl rfl) ?_
  refine xs_step (fun K HC => xr_iand HC.1 8 13 rfl rfl) ?_
  refine xs_ite (fun K HC => xr_if_eq HC.1 9 22 16 rfl (by decide) rfl) ?_ ?_
  · refine xs_step (fun K HC => xr_aload_n HC.1 14 23 (n := 0) (ix := 0) (j := 0) (c := 5) (x := v0) rfl rfl rfl rfl) ?_
    refine xs_step (fun K HC => xr_dup HC.1 15 24 rfl rfl rfl) ?_
    refine xs_step (fun K HC => xr_geti HC.1 16 27 5 6 rfl rfl wf_Rd_54 (by decide) fb_5_6 fc_5_6) ?_
    refine xs_step (fun K HC => xr_iconst HC.1 17 28 (n := (1)) (1 : Int32) rfl rfl rfl) ?_
    refine xs_step (fun K HC => xr_iload_n HC.1 18 29 (n := 1) (ix := 1) (j := 1) (x := v1_1) rfl rfl rfl rfl) ?_
    refine xs_step (fun K HC => xr_ishl HC.1 19 30 rfl rfl) ?_
    refine xs_step (fun K HC => xr_ior HC.1 20 31 rfl rfl) ?_
    refine xs_heap (hp_mo_si _ _ _ _) (fun K HC => xr_puti HC.1 21 34 5 6 rfl rfl wf_Rd_54 (by decide) fb_5_6 fn_5_6 fy_5_6) (fun h_2 => ?_)
    refine xs_step (fun K HC => xr_aload_n HC.1 22 35 (n := 0) (ix := 0) (j := 0) (c := 5) (x := v0) rfl rfl rfl rfl) ?_
    refine xs_callv (s_Rd_advance v0 h_2) (fun K HC x9 hM hmo hb => xr_callV HC.1 23 38 (av := []) (st := []) (hM (kg K) (cx_l (kx K))) hmo hb rfl rfl wm_Rd_63 wi_Rd_advance ws_Rd_advance wc_Rd_advance rfl wh_Rd_advance (by decide) (by decide) (by decide) (Nat.le_of_ble_eq_true rfl) rfl) (fun x_3 => ?_)
    refine xs_step (fun K HC => xr_iload_n HC.1 24 39 (n := 1) (ix := 1) (j := 1) (x := v1_1) rfl rfl rfl rfl) ?_
    refine xs_ite (fun K HC a b => xr_if_ne HC.1 25 58 42 rfl (by decide) rfl b a) ?_ ?_
    · refine xs_step (fun K HC => xr_aload_n HC.1 26 43 (n := 0) (ix := 0) (j := 0) (c := 5) (x := v0) rfl rfl rfl rfl) ?_
      refine xs_bind (fun q_4 eq_4 => ?_)
      refine xs_step (fun K HC => xr_getr HC.1 27 46 5 4 4 eq_4 rfl rfl wf_Rd_44 (by decide) fb_5_4 fc_5_4 fd_5_4) ?_
      refine xs_step (fun K HC => xr_aload_n HC.1 28 47 (n := 0) (ix := 0) (j := 0) (c := 5) (x := v0) rfl rfl rfl rfl) ?_
      refine xs_step (fun K HC => xr_iconst HC.1 29 48 (n := (1)) (1 : Int32) rfl rfl rfl) ?_
      refine xs_step (fun K HC => xr_iconst HC.1 30 49 (n := (2)) (2 : Int32) rfl rfl rfl) ?_
      refine xs_calli (s_Rd_numberWithin v0 (1 : Int32) (2 : Int32) x_3) (fun K HC x9 hM hmo hb => xr_callV HC.1 31 52 (av := [av_I (1 : Int32), av_I (2 : Int32)]) (st := [av_R 4 (some q_4)]) (hM (kg K) (cx_l (kx K))) hmo hb rfl rfl wm_Rd_138 wi_Rd_numberWithin ws_Rd_numberWithin wc_Rd_numberWithin rfl wh_Rd_numberWithin (by decide) (by decide) (by decide) (Nat.le_of_ble_eq_true rfl) rfl) (fun x_5 => ?_)
      refine xs_heap (hp_mo_si _ _ _ _) (fun K HC => xr_puti HC.1 32 55 4 0 rfl rfl wf_Rd_141 (by decide) fb_4_0 fn_4_0 fy_4_0) (fun h_6 => ?_)
      refine xs_step (fun K HC => xr_goto HC.1 33 106 rfl (by decide)) ?_
      exact xs_ret 58 rfl rfl (fun K q => q)
    refine xs_step (fun K HC => xr_iload_n HC.1 34 59 (n := 1) (ix := 1) (j := 1) (x := v1_1) rfl rfl rfl rfl) ?_
    refine xs_step (fun K HC => xr_iconst HC.1 35 60 (n := (1)) (1 : Int32) rfl rfl rfl) ?_
    refine xs_ite (fun K HC a b => xr_icmp_ne HC.1 36 80 63 rfl (by decide) rfl b a) ?_ ?_
    · refine xs_step (fun K HC => xr_aload_n HC.1 37 64 (n := 0) (ix := 0) (j := 0) (c := 5) (x := v0) rfl rfl rfl rfl) ?_
      refine xs_bind (fun q_7 eq_7 => ?_)
      refine xs_step (fun K HC => xr_getr HC.1 38 67 5 4 4 eq_7 rfl rfl wf_Rd_44 (by decide) fb_5_4 fc_5_4 fd_5_4) ?_
      refine xs_step (fun K HC => xr_aload_n HC.1 39 68 (n := 0) (ix := 0) (j := 0) (c := 5) (x := v0) rfl rfl rfl rfl) ?_
      refine xs_step (fun K HC => xr_iconst HC.1 40 69 (n := (1)) (1 : Int32) rfl rfl rfl) ?_
      refine xs_step (fun K HC => xr_bipush HC.1 41 71 (n := (12)) (12 : Int32) rfl rfl rfl) ?_
      refine xs_calli (s_Rd_numberWithin v0 (1 : Int32) (12 : Int32) x_3) (fun K HC x9 hM hmo hb => xr_callV HC.1 42 74 (av := [av_I (1 : Int32), av_I (12 : Int32)]) (st := [av_R 4 (some q_7)]) (hM (kg K) (cx_l (kx K))) hmo hb rfl rfl wm_Rd_138 wi_Rd_numberWithin ws_Rd_numberWithin wc_Rd_numberWithin rfl wh_Rd_numberWithin (by decide) (by decide) (by decide) (Nat.le_of_ble_eq_true rfl) rfl) (fun x_8 => ?_)
      refine xs_heap (hp_mo_si _ _ _ _) (fun K HC => xr_puti HC.1 43 77 4 1 rfl rfl wf_Rd_144 (by decide) fb_4_1 fn_4_1 fy_4_1) (fun h_9 => ?_)
      refine xs_step (fun K HC => xr_goto HC.1 44 106 rfl (by decide)) ?_
      exact xs_ret 58 rfl rfl (fun K q => q)
    refine xs_step (fun K HC => xr_iload_n HC.1 45 81 (n := 1) (ix := 1) (j := 1) (x := v1_1) rfl rfl rfl rfl) ?_
    refine xs_step (fun K HC => xr_iconst HC.1 46 82 (n := (2)) (2 : Int32) rfl rfl rfl) ?_
    refine xs_ite (fun K HC a b => xr_icmp_ne HC.1 47 102 85 rfl (by decide) rfl b a) ?_ ?_
    · refine xs_step (fun K HC => xr_aload_n HC.1 48 86 (n := 0) (ix := 0) (j := 0) (c := 5) (x := v0) rfl rfl rfl rfl) ?_
      refine xs_bind (fun q_10 eq_10 => ?_)
      refine xs_step (fun K HC => xr_getr HC.1 49 89 5 4 4 eq_10 rfl rfl wf_Rd_44 (by decide) fb_5_4 fc_5_4 fd_5_4) ?_
      refine xs_step (fun K HC => xr_aload_n HC.1 50 90 (n := 0) (ix := 0) (j := 0) (c := 5) (x := v0) rfl rfl rfl rfl) ?_
      refine xs_step (fun K HC => xr_iconst HC.1 51 91 (n := (0)) (0 : Int32) rfl rfl rfl) ?_
      refine xs_step (fun K HC => xr_bipush HC.1 52 93 (n := (11)) (11 : Int32) rfl rfl rfl) ?_
      refine xs_calli (s_Rd_numberWithin v0 (0 : Int32) (11 : Int32) x_3) (fun K HC x9 hM hmo hb => xr_callV HC.1 53 96 (av := [av_I (0 : Int32), av_I (11 : Int32)]) (st := [av_R 4 (some q_10)]) (hM (kg K) (cx_l (kx K))) hmo hb rfl rfl wm_Rd_138 wi_Rd_numberWithin ws_Rd_numberWithin wc_Rd_numberWithin rfl wh_Rd_numberWithin (by decide) (by decide) (by decide) (Nat.le_of_ble_eq_true rfl) rfl) (fun x_11 => ?_)
      refine xs_heap (hp_mo_si _ _ _ _) (fun K HC => xr_puti HC.1 54 99 4 2 rfl rfl wf_Rd_147 (by decide) fb_4_2 fn_4_2 fy_4_2) (fun h_12 => ?_)
      refine xs_step (fun K HC => xr_goto HC.1 55 106 rfl (by decide)) ?_
      exact xs_ret 58 rfl rfl (fun K q => q)
    refine xs_step (fun K HC => xr_aload_n HC.1 56 103 (n := 0) (ix := 0) (j := 0) (c := 5) (x := v0) rfl rfl rfl rfl) ?_
    refine xs_callv (s_Rd_readStart v0 x_3) (fun K HC x9 hM hmo hb => xr_callV HC.1 57 106 (av := []) (st := []) (hM (kg K) (cx_l (kx K))) hmo hb rfl rfl wm_Rd_150 wi_Rd_readStart ws_Rd_readStart wc_Rd_readStart rfl wh_Rd_readStart (by decide) (by decide) (by decide) (Nat.le_of_ble_eq_true rfl) rfl) (fun x_13 => ?_)
    exact xs_ret 58 rfl rfl (fun K q => q)
  refine xs_step (fun K HC => xr_aload_n HC.1 10 17 (n := 0) (ix := 0) (j := 0) (c := 5) (x := v0) rfl rfl rfl rfl) ?_
  refine xs_step (fun K HC => xr_iconst HC.1 11 18 (n := (2)) (2 : Int32) rfl rfl rfl) ?_
  refine xs_callv (s_Rd_refuse v0 (2 : Int32) h) (fun K HC x9 hM hmo hb => xr_callV HC.1 12 21 (av := [av_I (2 : Int32)]) (st := []) (hM (kg K) (cx_l (kx K))) hmo hb rfl rfl wm_Rd_131 wi_Rd_refuse ws_Rd_refuse wc_Rd_refuse rfl wh_Rd_refuse (by decide) (by decide) (by decide) (Nat.le_of_ble_eq_true rfl) rfl) (fun x_14 => ?_)
  exact xs_ret 13 rfl rfl (fun K q => q)
theorem s_Rd_readSetting (v0 : Nat) (h : HP) : ∀ x, f_Rd_readSetting v0 h = some x → hp_mo h x ∧ ∀ g l, xx_M g l y_Rd_readSetting prog_7_method_16_code 2 none 4 [av_R 5 (some v0)] h none x :=
  xM_v (tb := tb_Rd_readSetting) (b := false) (by decide +kernel) dt_Rd_readSetting trivial (Nat.le_of_ble_eq_true rfl) (fun hb => by cases hb) (t_Rd_readSetting v0 h)
def tb_Rd_roleNamed : TBL := [(0, .iconst 0, 1), (1, .istore_n 3, 1), (2, .iload_n 3, 1), (3, .aload_n 0, 1), (4, .getfield 44, 3), (7, .getfield 156, 3), (10, .if_icmp .ge 27, 3), (13, .iload_n 3, 1), (14, .iconst 4, 1), (15, .if_icmp .ge 22, 3), (18, .aload_n 0, 1), (19, .getfield 11, 3), (22, .iload_n 3, 1), (23, .laload, 1), (24, .lload_n 1, 1), (25, .lcmp, 1), (26, .ifCond .ne 5, 3), (29, .iload_n 3, 1), (30, .ireturn, 1), (31, .iinc 3 1, 3), (34, .goto (-32), 3), (37, .iconst (-1), 1), (38, .ireturn, 1)]
theorem dt_Rd_roleNamed : ∀ q ∈ tb_Rd_roleNamed, decode prog_7_method_28_code q.1 = .ok (q.2.1, q.2.2) := by decide +kernel
set_option maxHeartbeats 4000000 in
set_option maxRecDepth 100000 in
theorem t_Rd_roleNamed_2b (v0 : Nat) (v1 : Int64) (v3 : Int32) (h : HP) : xx_S (xx_D "LampYard$Reader" tb_Rd_roleNamed 4 1 (some .int) false) (xx_z2 (fun s : (Int32 × HP) => s.2) xz_i) (fun K => xx_L2 (fun s : (Int32 × HP) => xx_X K 2 [(0, av_R 5 (some v0)), (1, av_L v1), (3, av_I s.1)] [] (s.2)) (xL_i K)) 2 [(0, av_R 5 (some v0)), (1, av_L v1), (3, av_I v3)] [] h (f_Rd_roleNamed_2b v0 v1 v3 h) := by
  unfold f_Rd_roleNamed_2b
  refine xs_step (fun K HC => xr_iload_n HC.1 2 3 (n := 3) (ix := 3) (j := 2) (x := v3) rfl rfl rfl rfl) ?_
  refine xs_step (fun K HC => xr_aload_n HC.1 3 4 (n := 0) (ix := 0) (j := 0) (c := 5) (x := v0) rfl rfl rfl rfl) ?_
  refine xs_bind (fun q_1 eq_1 => ?_)
  refine xs_step (fun K HC => xr_getr HC.1 4 7 5 4 4 eq_1 rfl rfl wf_Rd_44 (by decide) fb_5_4 fc_5_4 fd_5_4) ?_
  refine xs_step (fun K HC => xr_geti HC.1 5 10 4 4 rfl rfl wf_Rd_156 (by decide) fb_4_4 fc_4_4) ?_
  refine xs_ite (fun K HC => xr_icmp_ge HC.1 6 37 13 rfl (by decide) rfl) ?_ ?_
  · refine xs_step (fun K HC => xr_iconst HC.1 21 38 (n := (-1)) (-1 : Int32) rfl rfl rfl) ?_
    exact xs_reti 22 rfl rfl (fun K q => q) (fun ty ht => by cases ht; rfl)
  refine xs_step (fun K HC => xr_iload_n HC.1 7 14 (n := 3) (ix := 3) (j := 2) (x := v3) rfl rfl rfl rfl) ?_
  refine xs_step (fun K HC => xr_iconst HC.1 8 15 (n := (4)) (4 : Int32) rfl rfl rfl) ?_
  refine xs_ite (fun K HC => xr_icmp_ge HC.1 9 37 18 rfl (by decide) rfl) ?_ ?_
  · refine xs_step (fun K HC => xr_iconst HC.1 21 38 (n := (-1)) (-1 : Int32) rfl rfl rfl) ?_
    exact xs_reti 22 rfl rfl (fun K q => q) (fun ty ht => by cases ht; rfl)
  refine xs_step (fun K HC => xr_aload_n HC.1 10 19 (n := 0) (ix := 0) (j := 0) (c := 5) (x := v0) rfl rfl rfl rfl) ?_
  refine xs_bind (fun q_2 eq_2 => ?_)
  refine xs_step (fun K HC => xr_getr HC.1 11 22 5 5 14 eq_2 rfl rfl wf_Rd_11 (by decide) fb_5_5 fc_5_5 fd_5_5) ?_
  refine xs_step (fun K HC => xr_iload_n HC.1 12 23 (n := 3) (ix := 3) (j := 2) (x := v3) rfl rfl rfl rfl) ?_
  refine xs_chk (fun hb_3 => ?_)
  refine xs_step (fun K HC => xr_lald HC.1 13 24 (hp_in_vp hb_3) rfl rfl) ?_
  refine xs_step (fun K HC => xr_lload_n HC.1 14 25 (n := 1) (ix := 1) (j := 1) (x := v1) rfl rfl rfl rfl) ?_
  refine xs_step (fun K HC => xr_lcmp HC.1 15 26 rfl rfl) ?_
  refine xs_ite (fun K HC a b => xr_if_ne HC.1 16 31 29 rfl (by decide) rfl b a) ?_ ?_
  · refine xs_step (fun K HC => xr_iload_n HC.1 17 30 (n := 3) (ix := 3) (j := 2) (x := v3) rfl rfl rfl rfl) ?_
    exact xs_reti 18 rfl rfl (fun K q => q) (fun ty ht => by cases ht; rfl)
  refine xs_gen (fun v3_4 ev3_4 => ?_)
  refine xs_step (fun K HC => xr_iinc HC.1 19 34 (ix := 3) (j := 2) (n := (1)) (x := v3) v3_4 (lv' := [(0, av_R 5 (some v0)), (1, av_L v1), (3, av_I v3_4)]) rfl (by rw [ev3_4]; rfl) rfl rfl (by decide) rfl) ?_
  refine xs_step (fun K HC => xr_goto HC.1 20 2 rfl (by decide)) ?_
  exact xs_back rfl (fun K q => q)
theorem t_Rd_roleNamed_2 (v0 : Nat) (v1 : Int64) (v3 : Int32) (h : HP) : xx_S (xx_D "LampYard$Reader" tb_Rd_roleNamed 4 1 (some .int) false) xz_i (fun K => xL_i K) 2 [(0, av_R 5 (some v0)), (1, av_L v1), (3, av_I v3)] [] h (f_Rd_roleNamed_2 v0 v1 v3 h) :=
  xs_loop (zf := xz_i) (L := (fun K => xL_i K)) (fun s : (Int32 × HP) => [(0, av_R 5 (some v0)), (1, av_L v1), (3, av_I s.1)]) (fun s : (Int32 × HP) => s.2) (fun s => t_Rd_roleNamed_2b v0 v1 s.1 s.2) (v3, h)
set_option maxHeartbeats 4000000 in
set_option maxRecDepth 100000 in
theorem t_Rd_roleNamed (v0 : Nat) (v1 : Int64) (h : HP) : xx_S (xx_D "LampYard$Reader" tb_Rd_roleNamed 4 1 (some .int) false) xz_i (fun K => xL_i K) 0 [(0, av_R 5 (some v0)), (1, av_L v1)] [] h (f_Rd_roleNamed v0 v1 h) := by
  unfold f_Rd_roleNamed
  refine xs_step (fun K HC => xr_iconst HC.1 0 1 (n := (0)) (0 : Int32) rfl rfl rfl) ?_
  refine xs_step (fun K HC => xr_istore_n HC.1 1 2 (n := 3) (ix := 3) (lv' := [(0, av_R 5 (some v0)), (1, av_L v1), (3, av_I (0 : Int32))]) rfl rfl rfl (by decide) rfl) ?_
  exact t_Rd_roleNamed_2 v0 v1 (0 : Int32) h
theorem s_Rd_roleNamed (v0 : Nat) (v1 : Int64) (h : HP) : ∀ x, f_Rd_roleNamed v0 v1 h = some x → hp_mo h x.2 ∧ ∀ g l, xx_M g l y_Rd_roleNamed prog_7_method_28_code 4 (some .int) 1 [av_R 5 (some v0), av_L v1] h (some (av_I x.1)) x.2 :=
  xM_i (tb := tb_Rd_roleNamed) (b := false) (by decide +kernel) dt_Rd_roleNamed (fun _ => trivial) (Nat.le_of_ble_eq_true rfl) (fun hb => by cases hb) (t_Rd_roleNamed v0 v1 h)
def tb_Pl_addRole : TBL := [(0, .aload_n 0, 1), (1, .getfield 53, 3), (4, .iconst 4, 1), (5, .if_icmp .lt 4, 3), (8, .return_, 1), (9, .aload_n 0, 1), (10, .getfield 11, 3), (13, .aload_n 0, 1), (14, .getfield 53, 3), (17, .iload_n 2, 1), (18, .iastore, 1), (19, .iconst 0, 1), (20, .istore_n 3, 1), (21, .iload_n 3, 1), (22, .iload_n 1, 1), (23, .if_icmp .ge 41, 3), (26, .aload_n 0, 1), (27, .getfield 56, 3), (30, .bipush 6, 2), (32, .if_icmp .ge 32, 3), (35, .aload_n 0, 1), (36, .getfield 15, 3), (39, .aload_n 0, 1), (40, .getfield 56, 3), (43, .aload_n 0, 1), (44, .getfield 53, 3), (47, .iastore, 1), (48, .aload_n 0, 1), (49, .dup, 1), (50, .getfield 56, 3), (53, .iconst 1, 1), (54, .iadd, 1), (55, .putfield 56, 3), (58, .iinc 3 1, 3), (61, .goto (-40), 3), (64, .aload_n 0, 1), (65, .dup, 1), (66, .getfield 53, 3), (69, .iconst 1, 1), (70, .iadd, 1), (71, .putfield 53, 3), (74, .return_, 1)]
theorem dt_Pl_addRole : ∀ q ∈ tb_Pl_addRole, decode prog_6_method_3_code q.1 = .ok (q.2.1, q.2.2) := by decide +kernel
set_option maxHeartbeats 4000000 in
set_option maxRecDepth 100000 in
theorem t_Pl_addRole_21b (v0 : Nat) (v1 : Int32) (v3 : Int32) (h : HP) : xx_S (xx_D "LampYard$Plan" tb_Pl_addRole 4 1 none false) (xx_z2 (fun s : (Int32 × HP) => s.2) xz_v) (fun K => xx_L2 (fun s : (Int32 × HP) => xx_X K 21 [(0, av_R 4 (some v0)), (1, av_I v1), (3, av_I s.1)] [] (s.2)) (xL_v K)) 21 [(0, av_R 4 (some v0)), (1, av_I v1), (3, av_I v3)] [] h (f_Pl_addRole_21b v0 v1 v3 h) := by
  unfold f_Pl_addRole_21b
  refine xs_step (fun K HC => xr_iload_n HC.1 13 22 (n := 3) (ix := 3) (j := 2) (x := v3) rfl rfl rfl rfl) ?_
  refine xs_step (fun K HC => xr_iload_n HC.1 14 23 (n := 1) (ix := 1) (j := 1) (x := v1) rfl rfl rfl rfl) ?_
  refine xs_ite (fun K HC => xr_icmp_ge HC.1 15 64 26 rfl (by decide) rfl) ?_ ?_
  · refine xs_step (fun K HC => xr_aload_n HC.1 35 65 (n := 0) (ix := 0) (j := 0) (c := 4) (x := v0) rfl rfl rfl rfl) ?_
    refine xs_step (fun K HC => xr_dup HC.1 36 66 rfl rfl rfl) ?_
    refine xs_step (fun K HC => xr_geti HC.1 37 69 4 4 rfl rfl wf_Pl_53 (by decide) fb_4_4 fc_4_4) ?_
    refine xs_step (fun K HC => xr_iconst HC.1 38 70 (n := (1)) (1 : Int32) rfl rfl rfl) ?_
    refine xs_step (fun K HC => xr_iadd HC.1 39 71 rfl rfl) ?_
    refine xs_heap (hp_mo_si _ _ _ _) (fun K HC => xr_puti HC.1 40 74 4 4 rfl rfl wf_Pl_53 (by decide) fb_4_4 fn_4_4 fy_4_4) (fun h_4 => ?_)
    exact xs_ret 41 rfl rfl (fun K q => q)
  refine xs_step (fun K HC => xr_aload_n HC.1 16 27 (n := 0) (ix := 0) (j := 0) (c := 4) (x := v0) rfl rfl rfl rfl) ?_
  refine xs_step (fun K HC => xr_geti HC.1 17 30 4 5 rfl rfl wf_Pl_56 (by decide) fb_4_5 fc_4_5) ?_
  refine xs_step (fun K HC => xr_bipush HC.1 18 32 (n := (6)) (6 : Int32) rfl rfl rfl) ?_
  refine xs_ite (fun K HC => xr_icmp_ge HC.1 19 64 35 rfl (by decide) rfl) ?_ ?_
  · refine xs_step (fun K HC => xr_aload_n HC.1 35 65 (n := 0) (ix := 0) (j := 0) (c := 4) (x := v0) rfl rfl rfl rfl) ?_
    refine xs_step (fun K HC => xr_dup HC.1 36 66 rfl rfl rfl) ?_
    refine xs_step (fun K HC => xr_geti HC.1 37 69 4 4 rfl rfl wf_Pl_53 (by decide) fb_4_4 fc_4_4) ?_
    refine xs_step (fun K HC => xr_iconst HC.1 38 70 (n := (1)) (1 : Int32) rfl rfl rfl) ?_
    refine xs_step (fun K HC => xr_iadd HC.1 39 71 rfl rfl) ?_
    refine xs_heap (hp_mo_si _ _ _ _) (fun K HC => xr_puti HC.1 40 74 4 4 rfl rfl wf_Pl_53 (by decide) fb_4_4 fn_4_4 fy_4_4) (fun h_5 => ?_)
    exact xs_ret 41 rfl rfl (fun K q => q)
  refine xs_step (fun K HC => xr_aload_n HC.1 20 36 (n := 0) (ix := 0) (j := 0) (c := 4) (x := v0) rfl rfl rfl rfl) ?_
  refine xs_bind (fun q_6 eq_6 => ?_)
  refine xs_step (fun K HC => xr_getr HC.1 21 39 4 9 13 eq_6 rfl rfl wf_Pl_15 (by decide) fb_4_9 fc_4_9 fd_4_9) ?_
  refine xs_step (fun K HC => xr_aload_n HC.1 22 40 (n := 0) (ix := 0) (j := 0) (c := 4) (x := v0) rfl rfl rfl rfl) ?_
  refine xs_step (fun K HC => xr_geti HC.1 23 43 4 5 rfl rfl wf_Pl_56 (by decide) fb_4_5 fc_4_5) ?_
  refine xs_step (fun K HC => xr_aload_n HC.1 24 44 (n := 0) (ix := 0) (j := 0) (c := 4) (x := v0) rfl rfl rfl rfl) ?_
  refine xs_step (fun K HC => xr_geti HC.1 25 47 4 4 rfl rfl wf_Pl_53 (by decide) fb_4_4 fc_4_4) ?_
  refine xs_chk (fun hb_7 => ?_)
  refine xs_heap (hp_mo_si _ _ _ _) (fun K HC => xr_iast HC.1 26 48 (hp_in_vp hb_7) rfl rfl) (fun h_8 => ?_)
  refine xs_step (fun K HC => xr_aload_n HC.1 27 49 (n := 0) (ix := 0) (j := 0) (c := 4) (x := v0) rfl rfl rfl rfl) ?_
  refine xs_step (fun K HC => xr_dup HC.1 28 50 rfl rfl rfl) ?_
  refine xs_step (fun K HC => xr_geti HC.1 29 53 4 5 rfl rfl wf_Pl_56 (by decide) fb_4_5 fc_4_5) ?_
  refine xs_step (fun K HC => xr_iconst HC.1 30 54 (n := (1)) (1 : Int32) rfl rfl rfl) ?_
  refine xs_step (fun K HC => xr_iadd HC.1 31 55 rfl rfl) ?_
  refine xs_heap (hp_mo_si _ _ _ _) (fun K HC => xr_puti HC.1 32 58 4 5 rfl rfl wf_Pl_56 (by decide) fb_4_5 fn_4_5 fy_4_5) (fun h_9 => ?_)
  refine xs_gen (fun v3_10 ev3_10 => ?_)
  refine xs_step (fun K HC => xr_iinc HC.1 33 61 (ix := 3) (j := 2) (n := (1)) (x := v3) v3_10 (lv' := [(0, av_R 4 (some v0)), (1, av_I v1), (3, av_I v3_10)]) rfl (by rw [ev3_10]; rfl) rfl rfl (by decide) rfl) ?_
  refine xs_step (fun K HC => xr_goto HC.1 34 21 rfl (by decide)) ?_
  exact xs_back rfl (fun K q => q)
theorem t_Pl_addRole_21 (v0 : Nat) (v1 : Int32) (v3 : Int32) (h : HP) : xx_S (xx_D "LampYard$Plan" tb_Pl_addRole 4 1 none false) xz_v (fun K => xL_v K) 21 [(0, av_R 4 (some v0)), (1, av_I v1), (3, av_I v3)] [] h (f_Pl_addRole_21 v0 v1 v3 h) :=
  xs_loop (zf := xz_v) (L := (fun K => xL_v K)) (fun s : (Int32 × HP) => [(0, av_R 4 (some v0)), (1, av_I v1), (3, av_I s.1)]) (fun s : (Int32 × HP) => s.2) (fun s => t_Pl_addRole_21b v0 v1 s.1 s.2) (v3, h)
set_option maxHeartbeats 4000000 in
set_option maxRecDepth 100000 in
theorem t_Pl_addRole (v0 : Nat) (v1 : Int32) (v2 : Int32) (h : HP) : xx_S (xx_D "LampYard$Plan" tb_Pl_addRole 4 1 none false) xz_v (fun K => xL_v K) 0 [(0, av_R 4 (some v0)), (1, av_I v1), (2, av_I v2)] [] h (f_Pl_addRole v0 v1 v2 h) := by
  unfold f_Pl_addRole
  refine xs_step (fun K HC => xr_aload_n HC.1 0 1 (n := 0) (ix := 0) (j := 0) (c := 4) (x := v0) rfl rfl rfl rfl) ?_
  refine xs_step (fun K HC => xr_geti HC.1 1 4 4 4 rfl rfl wf_Pl_53 (by decide) fb_4_4 fc_4_4) ?_
  refine xs_step (fun K HC => xr_iconst HC.1 2 5 (n := (4)) (4 : Int32) rfl rfl rfl) ?_
  refine xs_ite (fun K HC => xr_icmp_lt HC.1 3 9 8 rfl (by decide) rfl) ?_ ?_
  · refine xs_step (fun K HC => xr_aload_n HC.1 5 10 (n := 0) (ix := 0) (j := 0) (c := 4) (x := v0) rfl rfl rfl rfl) ?_
    refine xs_bind (fun q_1 eq_1 => ?_)
    refine xs_step (fun K HC => xr_getr HC.1 6 13 4 8 13 eq_1 rfl rfl wf_Pl_11 (by decide) fb_4_8 fc_4_8 fd_4_8) ?_
    refine xs_step (fun K HC => xr_aload_n HC.1 7 14 (n := 0) (ix := 0) (j := 0) (c := 4) (x := v0) rfl rfl rfl rfl) ?_
    refine xs_step (fun K HC => xr_geti HC.1 8 17 4 4 rfl rfl wf_Pl_53 (by decide) fb_4_4 fc_4_4) ?_
    refine xs_step (fun K HC => xr_iload_n HC.1 9 18 (n := 2) (ix := 2) (j := 2) (x := v2) rfl rfl rfl rfl) ?_
    refine xs_chk (fun hb_2 => ?_)
    refine xs_heap (hp_mo_si _ _ _ _) (fun K HC => xr_iast HC.1 10 19 (hp_in_vp hb_2) rfl rfl) (fun h_3 => ?_)
    refine xs_step (fun K HC => xr_iconst HC.1 11 20 (n := (0)) (0 : Int32) rfl rfl rfl) ?_
    refine xs_step (fun K HC => xr_istore_n HC.1 12 21 (n := 3) (ix := 3) (lv' := [(0, av_R 4 (some v0)), (1, av_I v1), (2, av_I v2), (3, av_I (0 : Int32))]) rfl rfl rfl (by decide) rfl) ?_
    refine xs_step (fun K HC => xr_sub (lv' := [(0, av_R 4 (some v0)), (1, av_I v1), (3, av_I (0 : Int32))]) [0, 1, 3] rfl) ?_
    exact t_Pl_addRole_21 v0 v1 (0 : Int32) h_3
  exact xs_ret 4 rfl rfl (fun K q => q)
theorem s_Pl_addRole (v0 : Nat) (v1 : Int32) (v2 : Int32) (h : HP) : ∀ x, f_Pl_addRole v0 v1 v2 h = some x → hp_mo h x ∧ ∀ g l, xx_M g l y_Pl_addRole prog_6_method_3_code 4 none 1 [av_R 4 (some v0), av_I v1, av_I v2] h none x :=
  xM_v (tb := tb_Pl_addRole) (b := false) (by decide +kernel) dt_Pl_addRole trivial (Nat.le_of_ble_eq_true rfl) (fun hb => by cases hb) (t_Pl_addRole v0 v1 v2 h)
def tb_Rd_readRole : TBL := [(0, .aload_n 0, 1), (1, .getfield 44, 3), (4, .getfield 156, 3), (7, .iconst 4, 1), (8, .if_icmp .lt 9, 3), (11, .aload_n 0, 1), (12, .iconst 2, 1), (13, .invokevirtual 131, 3), (16, .return_, 1), (17, .aload_n 0, 1), (18, .invokevirtual 63, 3), (21, .aload_n 0, 1), (22, .getfield 66, 3), (25, .bipush 20, 2), (27, .if_icmp .eq 9, 3), (30, .aload_n 0, 1), (31, .iconst 2, 1), (32, .invokevirtual 131, 3), (35, .return_, 1), (36, .aload_n 0, 1), (37, .aload_n 0, 1), (38, .getfield 24, 3), (41, .aload_n 0, 1), (42, .getfield 60, 3), (45, .laload, 1), (46, .invokevirtual 159, 3), (49, .iconst (-1), 1), (50, .if_icmp .eq 9, 3), (53, .aload_n 0, 1), (54, .iconst 3, 1), (55, .invokevirtual 131, 3), (58, .return_, 1), (59, .aload_n 0, 1), (60, .getfield 11, 3), (63, .aload_n 0, 1), (64, .getfield 44, 3), (67, .getfield 156, 3), (70, .aload_n 0, 1), (71, .getfield 24, 3), (74, .aload_n 0, 1), (75, .getfield 60, 3), (78, .laload, 1), (79, .lastore, 1), (80, .aload_n 0, 1), (81, .invokevirtual 63, 3), (84, .aload_n 0, 1), (85, .bipush 8, 2), (87, .invokevirtual 135, 3), (90, .aload_n 0, 1), (91, .iconst 1, 1), (92, .bipush 6, 2), (94, .aload_n 0, 1), (95, .getfield 44, 3), (98, .getfield 163, 3), (101, .isub, 1), (102, .invokevirtual 138, 3), (105, .istore_n 1, 1), (106, .aload_n 0, 1), (107, .bipush 9, 2), (109, .invokevirtual 135, 3), (112, .aload_n 0, 1), (113, .iconst 0, 1), (114, .bipush 31, 2), (116, .invokevirtual 138, 3), (119, .istore_n 2, 1), (120, .aload_n 0, 1), (121, .getfield 44, 3), (124, .iload_n 1, 1), (125, .iload_n 2, 1), (126, .invokevirtual 166, 3), (129, .return_, 1)]
theorem dt_Rd_readRole : ∀ q ∈ tb_Rd_readRole, decode prog_7_method_18_code q.1 = .ok (q.2.1, q.2.2) := by decide +kernel
set_option maxHeartbeats 4000000 in
set_option maxRecDepth 100000 in
theorem t_Rd_readRole (v0 : Nat) (h : HP) : xx_S (xx_D "LampYard$Reader" tb_Rd_readRole 3 4 none false) xz_v (fun K => xL_v K) 0 [(0, av_R 5 (some v0))] [] h (f_Rd_readRole v0 h) := by
  unfold f_Rd_readRole
  refine xs_step (fun K HC => xr_aload_n HC.1 0 1 (n := 0) (ix := 0) (j := 0) (c := 5) (x := v0) rfl rfl rfl rfl) ?_
  refine xs_bind (fun q_1 eq_1 => ?_)
  refine xs_step (fun K HC => xr_getr HC.1 1 4 5 4 4 eq_1 rfl rfl wf_Rd_44 (by decide) fb_5_4 fc_5_4 fd_5_4) ?_
  refine xs_step (fun K HC => xr_geti HC.1 2 7 4 4 rfl rfl wf_Rd_156 (by decide) fb_4_4 fc_4_4) ?_
  refine xs_step (fun K HC => xr_iconst HC.1 3 8 (n := (4)) (4 : Int32) rfl rfl rfl) ?_
  refine xs_ite (fun K HC => xr_icmp_lt HC.1 4 17 11 rfl (by decide) rfl) ?_ ?_
  · refine xs_step (fun K HC => xr_aload_n HC.1 9 18 (n := 0) (ix := 0) (j := 0) (c := 5) (x := v0) rfl rfl rfl rfl) ?_
    refine xs_callv (s_Rd_advance v0 h) (fun K HC x9 hM hmo hb => xr_callV HC.1 10 21 (av := []) (st := []) (hM (kg K) (cx_l (kx K))) hmo hb rfl rfl wm_Rd_63 wi_Rd_advance ws_Rd_advance wc_Rd_advance rfl wh_Rd_advance (by decide) (by decide) (by decide) (Nat.le_of_ble_eq_true rfl) rfl) (fun x_2 => ?_)
    refine xs_step (fun K HC => xr_aload_n HC.1 11 22 (n := 0) (ix := 0) (j := 0) (c := 5) (x := v0) rfl rfl rfl rfl) ?_
    refine xs_step (fun K HC => xr_geti HC.1 12 25 5 12 rfl rfl wf_Rd_66 (by decide) fb_5_12 fc_5_12) ?_
    refine xs_step (fun K HC => xr_bipush HC.1 13 27 (n := (20)) (20 : Int32) rfl rfl rfl) ?_
    refine xs_ite (fun K HC => xr_icmp_eq HC.1 14 36 30 rfl (by decide) rfl) ?_ ?_
    · refine xs_step (fun K HC => xr_aload_n HC.1 19 37 (n := 0) (ix := 0) (j := 0) (c := 5) (x := v0) rfl rfl rfl rfl) ?_
      refine xs_step (fun K HC => xr_aload_n HC.1 20 38 (n := 0) (ix := 0) (j := 0) (c := 5) (x := v0) rfl rfl rfl rfl) ?_
      refine xs_bind (fun q_3 eq_3 => ?_)
      refine xs_step (fun K HC => xr_getr HC.1 21 41 5 9 14 eq_3 rfl rfl wf_Rd_24 (by decide) fb_5_9 fc_5_9 fd_5_9) ?_
      refine xs_step (fun K HC => xr_aload_n HC.1 22 42 (n := 0) (ix := 0) (j := 0) (c := 5) (x := v0) rfl rfl rfl rfl) ?_
      refine xs_step (fun K HC => xr_geti HC.1 23 45 5 11 rfl rfl wf_Rd_60 (by decide) fb_5_11 fc_5_11) ?_
      refine xs_chk (fun hb_4 => ?_)
      refine xs_step (fun K HC => xr_lald HC.1 24 46 (hp_in_vp hb_4) rfl rfl) ?_
      refine xs_calli (s_Rd_roleNamed v0 (hp_l x_2 q_3 ((hp_i x_2 v0 11)).toNatClampNeg) x_2) (fun K HC x9 hM hmo hb => xr_callV HC.1 25 49 (av := [av_L (hp_l x_2 q_3 ((hp_i x_2 v0 11)).toNatClampNeg)]) (st := []) (hM (kg K) (cx_l (kx K))) hmo hb rfl rfl wm_Rd_159 wi_Rd_roleNamed ws_Rd_roleNamed wc_Rd_roleNamed rfl wh_Rd_roleNamed (by decide) (by decide) (by decide) (Nat.le_of_ble_eq_true rfl) rfl) (fun x_5 => ?_)
      refine xs_step (fun K HC => xr_iconst HC.1 26 50 (n := (-1)) (-1 : Int32) rfl rfl rfl) ?_
      refine xs_ite (fun K HC => xr_icmp_eq HC.1 27 59 53 rfl (by decide) rfl) ?_ ?_
      · refine xs_step (fun K HC => xr_aload_n HC.1 32 60 (n := 0) (ix := 0) (j := 0) (c := 5) (x := v0) rfl rfl rfl rfl) ?_
        refine xs_bind (fun q_6 eq_6 => ?_)
        refine xs_step (fun K HC => xr_getr HC.1 33 63 5 5 14 eq_6 rfl rfl wf_Rd_11 (by decide) fb_5_5 fc_5_5 fd_5_5) ?_
        refine xs_step (fun K HC => xr_aload_n HC.1 34 64 (n := 0) (ix := 0) (j := 0) (c := 5) (x := v0) rfl rfl rfl rfl) ?_
        refine xs_bind (fun q_7 eq_7 => ?_)
        refine xs_step (fun K HC => xr_getr HC.1 35 67 5 4 4 eq_7 rfl rfl wf_Rd_44 (by decide) fb_5_4 fc_5_4 fd_5_4) ?_
        refine xs_step (fun K HC => xr_geti HC.1 36 70 4 4 rfl rfl wf_Rd_156 (by decide) fb_4_4 fc_4_4) ?_
        refine xs_step (fun K HC => xr_aload_n HC.1 37 71 (n := 0) (ix := 0) (j := 0) (c := 5) (x := v0) rfl rfl rfl rfl) ?_
        refine xs_bind (fun q_8 eq_8 => ?_)
        refine xs_step (fun K HC => xr_getr HC.1 38 74 5 9 14 eq_8 rfl rfl wf_Rd_24 (by decide) fb_5_9 fc_5_9 fd_5_9) ?_
        refine xs_step (fun K HC => xr_aload_n HC.1 39 75 (n := 0) (ix := 0) (j := 0) (c := 5) (x := v0) rfl rfl rfl rfl) ?_
        refine xs_step (fun K HC => xr_geti HC.1 40 78 5 11 rfl rfl wf_Rd_60 (by decide) fb_5_11 fc_5_11) ?_
        refine xs_chk (fun hb_9 => ?_)
        refine xs_step (fun K HC => xr_lald HC.1 41 79 (hp_in_vp hb_9) rfl rfl) ?_
        refine xs_chk (fun hb_10 => ?_)
        refine xs_heap (hp_mo_sl _ _ _ _) (fun K HC => xr_last HC.1 42 80 (hp_in_vp hb_10) rfl rfl) (fun h_11 => ?_)
        refine xs_step (fun K HC => xr_aload_n HC.1 43 81 (n := 0) (ix := 0) (j := 0) (c := 5) (x := v0) rfl rfl rfl rfl) ?_
        refine xs_callv (s_Rd_advance v0 h_11) (fun K HC x9 hM hmo hb => xr_callV HC.1 44 84 (av := []) (st := []) (hM (kg K) (cx_l (kx K))) hmo hb rfl rfl wm_Rd_63 wi_Rd_advance ws_Rd_advance wc_Rd_advance rfl wh_Rd_advance (by decide) (by decide) (by decide) (Nat.le_of_ble_eq_true rfl) rfl) (fun x_12 => ?_)
        refine xs_step (fun K HC => xr_aload_n HC.1 45 85 (n := 0) (ix := 0) (j := 0) (c := 5) (x := v0) rfl rfl rfl rfl) ?_
        refine xs_step (fun K HC => xr_bipush HC.1 46 87 (n := (8)) (8 : Int32) rfl rfl rfl) ?_
        refine xs_callv (s_Rd_expect v0 (8 : Int32) x_12) (fun K HC x9 hM hmo hb => xr_callV HC.1 47 90 (av := [av_I (8 : Int32)]) (st := []) (hM (kg K) (cx_l (kx K))) hmo hb rfl rfl wm_Rd_135 wi_Rd_expect ws_Rd_expect wc_Rd_expect rfl wh_Rd_expect (by decide) (by decide) (by decide) (Nat.le_of_ble_eq_true rfl) rfl) (fun x_13 => ?_)
        refine xs_step (fun K HC => xr_aload_n HC.1 48 91 (n := 0) (ix := 0) (j := 0) (c := 5) (x := v0) rfl rfl rfl rfl) ?_
        refine xs_step (fun K HC => xr_iconst HC.1 49 92 (n := (1)) (1 : Int32) rfl rfl rfl) ?_
        refine xs_step (fun K HC => xr_bipush HC.1 50 94 (n := (6)) (6 : Int32) rfl rfl rfl) ?_
        refine xs_step (fun K HC => xr_aload_n HC.1 51 95 (n := 0) (ix := 0) (j := 0) (c := 5) (x := v0) rfl rfl rfl rfl) ?_
        refine xs_bind (fun q_14 eq_14 => ?_)
        refine xs_step (fun K HC => xr_getr HC.1 52 98 5 4 4 eq_14 rfl rfl wf_Rd_44 (by decide) fb_5_4 fc_5_4 fd_5_4) ?_
        refine xs_step (fun K HC => xr_geti HC.1 53 101 4 5 rfl rfl wf_Rd_163 (by decide) fb_4_5 fc_4_5) ?_
        refine xs_step (fun K HC => xr_isub HC.1 54 102 rfl rfl) ?_
        refine xs_calli (s_Rd_numberWithin v0 (1 : Int32) ((6 : Int32) - (hp_i x_13 q_14 5)) x_13) (fun K HC x9 hM hmo hb => xr_callV HC.1 55 105 (av := [av_I (1 : Int32), av_I ((6 : Int32) - (hp_i x_13 q_14 5))]) (st := []) (hM (kg K) (cx_l (kx K))) hmo hb rfl rfl wm_Rd_138 wi_Rd_numberWithin ws_Rd_numberWithin wc_Rd_numberWithin rfl wh_Rd_numberWithin (by decide) (by decide) (by decide) (Nat.le_of_ble_eq_true rfl) rfl) (fun x_15 => ?_)
        refine xs_step (fun K HC => xr_istore_n HC.1 56 106 (n := 1) (ix := 1) (lv' := [(0, av_R 5 (some v0)), (1, av_I x_15.1)]) rfl rfl rfl (by decide) rfl) ?_
        refine xs_step (fun K HC => xr_aload_n HC.1 57 107 (n := 0) (ix := 0) (j := 0) (c := 5) (x := v0) rfl rfl rfl rfl) ?_
        refine xs_step (fun K HC => xr_bipush HC.1 58 109 (n := (9)) (9 : Int32) rfl rfl rfl) ?_
        refine xs_callv (s_Rd_expect v0 (9 : Int32) x_15.2) (fun K HC x9 hM hmo hb => xr_callV HC.1 59 112 (av := [av_I (9 : Int32)]) (st := []) (hM (kg K) (cx_l (kx K))) hmo hb rfl rfl wm_Rd_135 wi_Rd_expect ws_Rd_expect wc_Rd_expect rfl wh_Rd_expect (by decide) (by decide) (by decide) (Nat.le_of_ble_eq_true rfl) rfl) (fun x_16 => ?_)
        refine xs_step (fun K HC => xr_aload_n HC.1 60 113 (n := 0) (ix := 0) (j := 0) (c := 5) (x := v0) rfl rfl rfl rfl) ?_
        refine xs_step (fun K HC => xr_iconst HC.1 61 114 (n := (0)) (0 : Int32) rfl rfl rfl) ?_
        refine xs_step (fun K HC => xr_bipush HC.1 62 116 (n := (31)) (31 : Int32) rfl rfl rfl) ?_
        refine xs_calli (s_Rd_numberWithin v0 (0 : Int32) (31 : Int32) x_16) (fun K HC x9 hM hmo hb => xr_callV HC.1 63 119 (av := [av_I (0 : Int32), av_I (31 : Int32)]) (st := []) (hM (kg K) (cx_l (kx K))) hmo hb rfl rfl wm_Rd_138 wi_Rd_numberWithin ws_Rd_numberWithin wc_Rd_numberWithin rfl wh_Rd_numberWithin (by decide) (by decide) (by decide) (Nat.le_of_ble_eq_true rfl) rfl) (fun x_17 => ?_)
        refine xs_step (fun K HC => xr_istore_n HC.1 64 120 (n := 2) (ix := 2) (lv' := [(0, av_R 5 (some v0)), (1, av_I x_15.1), (2, av_I x_17.1)]) rfl rfl rfl (by decide) rfl) ?_
        refine xs_step (fun K HC => xr_aload_n HC.1 65 121 (n := 0) (ix := 0) (j := 0) (c := 5) (x := v0) rfl rfl rfl rfl) ?_
        refine xs_bind (fun q_18 eq_18 => ?_)
        refine xs_step (fun K HC => xr_getr HC.1 66 124 5 4 4 eq_18 rfl rfl wf_Rd_44 (by decide) fb_5_4 fc_5_4 fd_5_4) ?_
        refine xs_step (fun K HC => xr_iload_n HC.1 67 125 (n := 1) (ix := 1) (j := 1) (x := x_15.1) rfl rfl rfl rfl) ?_
        refine xs_step (fun K HC => xr_iload_n HC.1 68 126 (n := 2) (ix := 2) (j := 2) (x := x_17.1) rfl rfl rfl rfl) ?_
        refine xs_callv (s_Pl_addRole q_18 x_15.1 x_17.1 x_17.2) (fun K HC x9 hM hmo hb => xr_callV HC.1 69 129 (av := [av_I x_15.1, av_I x_17.1]) (st := []) (hM (kg K) (cx_l (kx K))) hmo hb rfl rfl wm_Rd_166 wi_Pl_addRole ws_Pl_addRole wc_Pl_addRole rfl wh_Pl_addRole (by decide) (by decide) (by decide) (Nat.le_of_ble_eq_true rfl) rfl) (fun x_19 => ?_)
        exact xs_ret 70 rfl rfl (fun K q => q)
      refine xs_step (fun K HC => xr_aload_n HC.1 28 54 (n := 0) (ix := 0) (j := 0) (c := 5) (x := v0) rfl rfl rfl rfl) ?_
      refine xs_step (fun K HC => xr_iconst HC.1 29 55 (n := (3)) (3 : Int32) rfl rfl rfl) ?_
      refine xs_callv (s_Rd_refuse v0 (3 : Int32) x_5.2) (fun K HC x9 hM hmo hb => xr_callV HC.1 30 58 (av := [av_I (3 : Int32)]) (st := []) (hM (kg K) (cx_l (kx K))) hmo hb rfl rfl wm_Rd_131 wi_Rd_refuse ws_Rd_refuse wc_Rd_refuse rfl wh_Rd_refuse (by decide) (by decide) (by decide) (Nat.le_of_ble_eq_true rfl) rfl) (fun x_20 => ?_)
      exact xs_ret 31 rfl rfl (fun K q => q)
    refine xs_step (fun K HC => xr_aload_n HC.1 15 31 (n := 0) (ix := 0) (j := 0) (c := 5) (x := v0) rfl rfl rfl rfl) ?_
    refine xs_step (fun K HC => xr_iconst HC.1 16 32 (n := (2)) (2 : Int32) rfl rfl rfl) ?_
    refine xs_callv (s_Rd_refuse v0 (2 : Int32) x_2) (fun K HC x9 hM hmo hb => xr_callV HC.1 17 35 (av := [av_I (2 : Int32)]) (st := []) (hM (kg K) (cx_l (kx K))) hmo hb rfl rfl wm_Rd_131 wi_Rd_refuse ws_Rd_refuse wc_Rd_refuse rfl wh_Rd_refuse (by decide) (by decide) (by decide) (Nat.le_of_ble_eq_true rfl) rfl) (fun x_21 => ?_)
    exact xs_ret 18 rfl rfl (fun K q => q)
  refine xs_step (fun K HC => xr_aload_n HC.1 5 12 (n := 0) (ix := 0) (j := 0) (c := 5) (x := v0) rfl rfl rfl rfl) ?_
  refine xs_step (fun K HC => xr_iconst HC.1 6 13 (n := (2)) (2 : Int32) rfl rfl rfl) ?_
  refine xs_callv (s_Rd_refuse v0 (2 : Int32) h) (fun K HC x9 hM hmo hb => xr_callV HC.1 7 16 (av := [av_I (2 : Int32)]) (st := []) (hM (kg K) (cx_l (kx K))) hmo hb rfl rfl wm_Rd_131 wi_Rd_refuse ws_Rd_refuse wc_Rd_refuse rfl wh_Rd_refuse (by decide) (by decide) (by decide) (Nat.le_of_ble_eq_true rfl) rfl) (fun x_22 => ?_)
  exact xs_ret 8 rfl rfl (fun K q => q)
theorem s_Rd_readRole (v0 : Nat) (h : HP) : ∀ x, f_Rd_readRole v0 h = some x → hp_mo h x ∧ ∀ g l, xx_M g l y_Rd_readRole prog_7_method_18_code 3 none 4 [av_R 5 (some v0)] h none x :=
  xM_v (tb := tb_Rd_readRole) (b := false) (by decide +kernel) dt_Rd_readRole trivial (Nat.le_of_ble_eq_true rfl) (fun hb => by cases hb) (t_Rd_readRole v0 h)
def tb_Pl_endPart : TBL := [(0, .aload_n 0, 1), (1, .getfield 59, 3), (4, .iconst 3, 1), (5, .imul, 1), (6, .iload_n 1, 1), (7, .iadd, 1), (8, .istore_n 2, 1), (9, .iload_n 2, 1), (10, .ifCond .lt 22, 3), (13, .iload_n 2, 1), (14, .aload_n 0, 1), (15, .getfield 25, 3), (18, .arraylength, 1), (19, .if_icmp .ge 13, 3), (22, .aload_n 0, 1), (23, .getfield 25, 3), (26, .iload_n 2, 1), (27, .aload_n 0, 1), (28, .getfield 65, 3), (31, .iastore, 1), (32, .return_, 1)]
theorem dt_Pl_endPart : ∀ q ∈ tb_Pl_endPart, decode prog_6_method_5_code q.1 = .ok (q.2.1, q.2.2) := by decide +kernel
set_option maxHeartbeats 4000000 in
set_option maxRecDepth 100000 in
theorem t_Pl_endPart (v0 : Nat) (v1 : Int32) (h : HP) : xx_S (xx_D "LampYard$Plan" tb_Pl_endPart 3 1 none false) xz_v (fun K => xL_v K) 0 [(0, av_R 4 (some v0)), (1, av_I v1)] [] h (f_Pl_endPart v0 v1 h) := by
  unfold f_Pl_endPart
  refine xs_step (fun K HC => xr_aload_n HC.1 0 1 (n := 0) (ix := 0) (j := 0) (c := 4) (x := v0) rfl rfl rfl rfl) ?_
  refine xs_step (fun K HC => xr_geti HC.1 1 4 4 6 rfl rfl wf_Pl_59 (by decide) fb_4_6 fc_4_6) ?_
  refine xs_step (fun K HC => xr_iconst HC.1 2 5 (n := (3)) (3 : Int32) rfl rfl rfl) ?_
  refine xs_step (fun K HC => xr_imul HC.1 3 6 rfl rfl) ?_
  refine xs_step (fun K HC => xr_iload_n HC.1 4 7 (n := 1) (ix := 1) (j := 1) (x := v1) rfl rfl rfl rfl) ?_
  refine xs_step (fun K HC => xr_iadd HC.1 5 8 rfl rfl) ?_
  refine xs_topi (fun v2_1 => ?_)
  refine xs_step (fun K HC => xr_istore_n HC.1 6 9 (n := 2) (ix := 2) (lv' := [(0, av_R 4 (some v0)), (1, av_I v1), (2, av_I v2_1)]) rfl rfl rfl (by decide) rfl) ?_
  refine xs_step (fun K HC => xr_iload_n HC.1 7 10 (n := 2) (ix := 2) (j := 2) (x := v2_1) rfl rfl rfl rfl) ?_
  refine xs_ite (fun K HC => xr_if_lt HC.1 8 32 13 rfl (by decide) rfl) ?_ ?_
  · exact xs_ret 20 rfl rfl (fun K q => q)
  refine xs_step (fun K HC => xr_iload_n HC.1 9 14 (n := 2) (ix := 2) (j := 2) (x := v2_1) rfl rfl rfl rfl) ?_
  refine xs_step (fun K HC => xr_aload_n HC.1 10 15 (n := 0) (ix := 0) (j := 0) (c := 4) (x := v0) rfl rfl rfl rfl) ?_
  refine xs_bind (fun q_2 eq_2 => ?_)
  refine xs_step (fun K HC => xr_getr HC.1 11 18 4 12 13 eq_2 rfl rfl wf_Pl_25 (by decide) fb_4_12 fc_4_12 fd_4_12) ?_
  refine xs_step (fun K HC => xr_alen HC.1 12 19 (c := 13) (by decide) (by decide) rfl rfl) ?_
  refine xs_ite (fun K HC => xr_icmp_ge HC.1 13 32 22 rfl (by decide) rfl) ?_ ?_
  · exact xs_ret 20 rfl rfl (fun K q => q)
  refine xs_step (fun K HC => xr_aload_n HC.1 14 23 (n := 0) (ix := 0) (j := 0) (c := 4) (x := v0) rfl rfl rfl rfl) ?_
  refine xs_bind (fun q_3 eq_3 => ?_)
  refine xs_step (fun K HC => xr_getr HC.1 15 26 4 12 13 eq_3 rfl rfl wf_Pl_25 (by decide) fb_4_12 fc_4_12 fd_4_12) ?_
  refine xs_step (fun K HC => xr_iload_n HC.1 16 27 (n := 2) (ix := 2) (j := 2) (x := v2_1) rfl rfl rfl rfl) ?_
  refine xs_step (fun K HC => xr_aload_n HC.1 17 28 (n := 0) (ix := 0) (j := 0) (c := 4) (x := v0) rfl rfl rfl rfl) ?_
  refine xs_step (fun K HC => xr_geti HC.1 18 31 4 14 rfl rfl wf_Pl_65 (by decide) fb_4_14 fc_4_14) ?_
  refine xs_chk (fun hb_4 => ?_)
  refine xs_heap (hp_mo_si _ _ _ _) (fun K HC => xr_iast HC.1 19 32 (hp_in_vp hb_4) rfl rfl) (fun h_5 => ?_)
  exact xs_ret 20 rfl rfl (fun K q => q)
theorem s_Pl_endPart (v0 : Nat) (v1 : Int32) (h : HP) : ∀ x, f_Pl_endPart v0 v1 h = some x → hp_mo h x ∧ ∀ g l, xx_M g l y_Pl_endPart prog_6_method_5_code 3 none 1 [av_R 4 (some v0), av_I v1] h none x :=
  xM_v (tb := tb_Pl_endPart) (b := false) (by decide +kernel) dt_Pl_endPart trivial (Nat.le_of_ble_eq_true rfl) (fun hb => by cases hb) (t_Pl_endPart v0 v1 h)
def tb_Pl_addRule : TBL := [(0, .aload_n 0, 1), (1, .getfield 59, 3), (4, .bipush 16, 2), (6, .if_icmp .ge 33, 3), (9, .aload_n 0, 1), (10, .getfield 18, 3), (13, .aload_n 0, 1), (14, .getfield 59, 3), (17, .iload_n 1, 1), (18, .iastore, 1), (19, .aload_n 0, 1), (20, .getfield 21, 3), (23, .aload_n 0, 1), (24, .getfield 59, 3), (27, .iload_n 2, 1), (28, .bastore, 1), (29, .aload_n 0, 1), (30, .dup, 1), (31, .getfield 59, 3), (34, .iconst 1, 1), (35, .iadd, 1), (36, .putfield 59, 3), (39, .return_, 1)]
theorem dt_Pl_addRule : ∀ q ∈ tb_Pl_addRule, decode prog_6_method_6_code q.1 = .ok (q.2.1, q.2.2) := by decide +kernel
set_option maxHeartbeats 4000000 in
set_option maxRecDepth 100000 in
theorem t_Pl_addRule (v0 : Nat) (v1 : Int32) (v2 : Int32) (h : HP) : xx_S (xx_D "LampYard$Plan" tb_Pl_addRule 3 1 none false) xz_v (fun K => xL_v K) 0 [(0, av_R 4 (some v0)), (1, av_I v1), (2, av_I v2)] [] h (f_Pl_addRule v0 v1 v2 h) := by
  unfold f_Pl_addRule
  refine xs_step (fun K HC => xr_aload_n HC.1 0 1 (n := 0) (ix := 0) (j := 0) (c := 4) (x := v0) rfl rfl rfl rfl) ?_
  refine xs_step (fun K HC => xr_geti HC.1 1 4 4 6 rfl rfl wf_Pl_59 (by decide) fb_4_6 fc_4_6) ?_
  refine xs_step (fun K HC => xr_bipush HC.1 2 6 (n := (16)) (16 : Int32) rfl rfl rfl) ?_
  refine xs_ite (fun K HC => xr_icmp_ge HC.1 3 39 9 rfl (by decide) rfl) ?_ ?_
  · exact xs_ret 22 rfl rfl (fun K q => q)
  refine xs_step (fun K HC => xr_aload_n HC.1 4 10 (n := 0) (ix := 0) (j := 0) (c := 4) (x := v0) rfl rfl rfl rfl) ?_
  refine xs_bind (fun q_1 eq_1 => ?_)
  refine xs_step (fun K HC => xr_getr HC.1 5 13 4 10 13 eq_1 rfl rfl wf_Pl_18 (by decide) fb_4_10 fc_4_10 fd_4_10) ?_
  refine xs_step (fun K HC => xr_aload_n HC.1 6 14 (n := 0) (ix := 0) (j := 0) (c := 4) (x := v0) rfl rfl rfl rfl) ?_
  refine xs_step (fun K HC => xr_geti HC.1 7 17 4 6 rfl rfl wf_Pl_59 (by decide) fb_4_6 fc_4_6) ?_
  refine xs_step (fun K HC => xr_iload_n HC.1 8 18 (n := 1) (ix := 1) (j := 1) (x := v1) rfl rfl rfl rfl) ?_
  refine xs_chk (fun hb_2 => ?_)
  refine xs_heap (hp_mo_si _ _ _ _) (fun K HC => xr_iast HC.1 9 19 (hp_in_vp hb_2) rfl rfl) (fun h_3 => ?_)
  refine xs_step (fun K HC => xr_aload_n HC.1 10 20 (n := 0) (ix := 0) (j := 0) (c := 4) (x := v0) rfl rfl rfl rfl) ?_
  refine xs_bind (fun q_4 eq_4 => ?_)
  refine xs_step (fun K HC => xr_getr HC.1 11 23 4 11 15 eq_4 rfl rfl wf_Pl_21 (by decide) fb_4_11 fc_4_11 fd_4_11) ?_
  refine xs_step (fun K HC => xr_aload_n HC.1 12 24 (n := 0) (ix := 0) (j := 0) (c := 4) (x := v0) rfl rfl rfl rfl) ?_
  refine xs_step (fun K HC => xr_geti HC.1 13 27 4 6 rfl rfl wf_Pl_59 (by decide) fb_4_6 fc_4_6) ?_
  refine xs_step (fun K HC => xr_iload_n HC.1 14 28 (n := 2) (ix := 2) (j := 2) (x := v2) rfl rfl rfl rfl) ?_
  refine xs_chk (fun hb_5 => ?_)
  refine xs_heap (hp_mo_si _ _ _ _) (fun K HC => xr_zast HC.1 15 29 (hp_in_vp hb_5) rfl rfl) (fun h_6 => ?_)
  refine xs_step (fun K HC => xr_aload_n HC.1 16 30 (n := 0) (ix := 0) (j := 0) (c := 4) (x := v0) rfl rfl rfl rfl) ?_
  refine xs_step (fun K HC => xr_dup HC.1 17 31 rfl rfl rfl) ?_
  refine xs_step (fun K HC => xr_geti HC.1 18 34 4 6 rfl rfl wf_Pl_59 (by decide) fb_4_6 fc_4_6) ?_
  refine xs_step (fun K HC => xr_iconst HC.1 19 35 (n := (1)) (1 : Int32) rfl rfl rfl) ?_
  refine xs_step (fun K HC => xr_iadd HC.1 20 36 rfl rfl) ?_
  refine xs_heap (hp_mo_si _ _ _ _) (fun K HC => xr_puti HC.1 21 39 4 6 rfl rfl wf_Pl_59 (by decide) fb_4_6 fn_4_6 fy_4_6) (fun h_7 => ?_)
  exact xs_ret 22 rfl rfl (fun K q => q)
theorem s_Pl_addRule (v0 : Nat) (v1 : Int32) (v2 : Int32) (h : HP) : ∀ x, f_Pl_addRule v0 v1 v2 h = some x → hp_mo h x ∧ ∀ g l, xx_M g l y_Pl_addRule prog_6_method_6_code 3 none 1 [av_R 4 (some v0), av_I v1, av_I v2] h none x :=
  xM_v (tb := tb_Pl_addRule) (b := false) (by decide +kernel) dt_Pl_addRule trivial (Nat.le_of_ble_eq_true rfl) (fun hb => by cases hb) (t_Pl_addRule v0 v1 v2 h)
def tb_Rd_readUnit : TBL := [(0, .aload_n 0, 1), (1, .invokevirtual 201, 3), (4, .istore_n 2, 1), (5, .aload_n 0, 1), (6, .getfield 44, 3), (9, .getfield 205, 3), (12, .bipush 60, 2), (14, .if_icmp .ge 21, 3), (17, .iload_n 2, 1), (18, .bipush (-101), 2), (20, .if_icmp .eq 15, 3), (23, .iload_n 2, 1), (24, .bipush (-100), 2), (26, .if_icmp .ne 15, 3), (29, .iload_n 1, 1), (30, .bipush 6, 2), (32, .if_icmp .le 9, 3), (35, .aload_n 0, 1), (36, .iconst 2, 1), (37, .invokevirtual 131, 3), (40, .return_, 1), (41, .aload_n 0, 1), (42, .getfield 44, 3), (45, .dup, 1), (46, .getfield 205, 3), (49, .iconst 1, 1), (50, .iadd, 1), (51, .putfield 205, 3), (54, .aload_n 0, 1), (55, .invokevirtual 63, 3), (58, .iload_n 2, 1), (59, .bipush (-100), 2), (61, .if_icmp .ne 19, 3), (64, .aload_n 0, 1), (65, .iload_n 1, 1), (66, .iconst 1, 1), (67, .iadd, 1), (68, .invokevirtual 173, 3), (71, .aload_n 0, 1), (72, .bipush 41, 2), (74, .invokevirtual 135, 3), (77, .goto 11, 3), (80, .aload_n 0, 1), (81, .getfield 44, 3), (84, .iload_n 2, 1), (85, .invokevirtual 186, 3), (88, .return_, 1)]
theorem dt_Rd_readUnit : ∀ q ∈ tb_Rd_readUnit, decode prog_7_method_25_code q.1 = .ok (q.2.1, q.2.2) := by decide +kernel
set_option maxHeartbeats 4000000 in
set_option maxRecDepth 100000 in
theorem t_Rd_readUnit_35 (e9 : Nat) (fA : Nat → Int32 → HP → Option HP) (HA : ∀ (v0 : Nat) (v1 : Int32) (h : HP) (x : HP), fA v0 v1 h = some x → hp_mo h x ∧ ∀ g l, xx_M g l y_Rd_readAny prog_7_method_20_code 3 none (e9 + 12) [av_R 5 (some v0), av_I v1] h none x) (v0 : Nat) (h : HP) : xx_S (xx_D "LampYard$Reader" tb_Rd_readUnit 3 (e9 + 13) none false) xz_v (fun K => xL_v K) 35 [(0, av_R 5 (some v0))] [] h (f_Rd_readUnit_35 fA v0 h) := by
  unfold f_Rd_readUnit_35
  refine xs_step (fun K HC => xr_aload_n HC.1 17 36 (n := 0) (ix := 0) (j := 0) (c := 5) (x := v0) rfl rfl rfl rfl) ?_
  refine xs_step (fun K HC => xr_iconst HC.1 18 37 (n := (2)) (2 : Int32) rfl rfl rfl) ?_
  refine xs_callv (s_Rd_refuse v0 (2 : Int32) h) (fun K HC x9 hM hmo hb => xr_callV HC.1 19 40 (av := [av_I (2 : Int32)]) (st := []) (hM (kg K) (cx_l (kx K))) hmo hb rfl rfl wm_Rd_131 wi_Rd_refuse ws_Rd_refuse wc_Rd_refuse rfl wh_Rd_refuse (by decide) (by omega) (by decide) (Nat.le_of_ble_eq_true rfl) rfl) (fun x_3 => ?_)
  exact xs_ret 20 rfl rfl (fun K q => q)
set_option maxHeartbeats 4000000 in
set_option maxRecDepth 100000 in
theorem t_Rd_readUnit_41 (e9 : Nat) (fA : Nat → Int32 → HP → Option HP) (HA : ∀ (v0 : Nat) (v1 : Int32) (h : HP) (x : HP), fA v0 v1 h = some x → hp_mo h x ∧ ∀ g l, xx_M g l y_Rd_readAny prog_7_method_20_code 3 none (e9 + 12) [av_R 5 (some v0), av_I v1] h none x) (v0 : Nat) (v1 : Int32) (v2 : Int32) (h : HP) : xx_S (xx_D "LampYard$Reader" tb_Rd_readUnit 3 (e9 + 13) none false) xz_v (fun K => xL_v K) 41 [(0, av_R 5 (some v0)), (1, av_I v1), (2, av_I v2)] [] h (f_Rd_readUnit_41 fA v0 v1 v2 h) := by
  unfold f_Rd_readUnit_41
  refine xs_step (fun K HC => xr_aload_n HC.1 21 42 (n := 0) (ix := 0) (j := 0) (c := 5) (x := v0) rfl rfl rfl rfl) ?_
  refine xs_bind (fun q_4 eq_4 => ?_)
  refine xs_step (fun K HC => xr_getr HC.1 22 45 5 4 4 eq_4 rfl rfl wf_Rd_44 (by decide) fb_5_4 fc_5_4 fd_5_4) ?_
  refine xs_step (fun K HC => xr_dup HC.1 23 46 rfl rfl rfl) ?_
  refine xs_step (fun K HC => xr_geti HC.1 24 49 4 7 rfl rfl wf_Rd_205 (by decide) fb_4_7 fc_4_7) ?_
  refine xs_step (fun K HC => xr_iconst HC.1 25 50 (n := (1)) (1 : Int32) rfl rfl rfl) ?_
  refine xs_step (fun K HC => xr_iadd HC.1 26 51 rfl rfl) ?_
  refine xs_heap (hp_mo_si _ _ _ _) (fun K HC => xr_puti HC.1 27 54 4 7 rfl rfl wf_Rd_205 (by decide) fb_4_7 fn_4_7 fy_4_7) (fun h_5 => ?_)
  refine xs_step (fun K HC => xr_aload_n HC.1 28 55 (n := 0) (ix := 0) (j := 0) (c := 5) (x := v0) rfl rfl rfl rfl) ?_
  refine xs_callv (s_Rd_advance v0 h_5) (fun K HC x9 hM hmo hb => xr_callV HC.1 29 58 (av := []) (st := []) (hM (kg K) (cx_l (kx K))) hmo hb rfl rfl wm_Rd_63 wi_Rd_advance ws_Rd_advance wc_Rd_advance rfl wh_Rd_advance (by decide) (by omega) (by decide) (Nat.le_of_ble_eq_true rfl) rfl) (fun x_6 => ?_)
  refine xs_step (fun K HC => xr_iload_n HC.1 30 59 (n := 2) (ix := 2) (j := 2) (x := v2) rfl rfl rfl rfl) ?_
  refine xs_step (fun K HC => xr_bipush HC.1 31 61 (n := (-100)) (-100 : Int32) rfl rfl rfl) ?_
  refine xs_ite (fun K HC a b => xr_icmp_ne HC.1 32 80 64 rfl (by decide) rfl b a) ?_ ?_
  · refine xs_step (fun K HC => xr_aload_n HC.1 33 65 (n := 0) (ix := 0) (j := 0) (c := 5) (x := v0) rfl rfl rfl rfl) ?_
    refine xs_step (fun K HC => xr_iload_n HC.1 34 66 (n := 1) (ix := 1) (j := 1) (x := v1) rfl rfl rfl rfl) ?_
    refine xs_step (fun K HC => xr_iconst HC.1 35 67 (n := (1)) (1 : Int32) rfl rfl rfl) ?_
    refine xs_step (fun K HC => xr_iadd HC.1 36 68 rfl rfl) ?_
    refine xs_callv (HA v0 (v1 + (1 : Int32)) x_6) (fun K HC x9 hM hmo hb => xr_callV HC.1 37 71 (av := [av_I (v1 + (1 : Int32))]) (st := []) (hM (kg K) (cx_l (kx K))) hmo hb rfl rfl wm_Rd_173 wi_Rd_readAny ws_Rd_readAny wc_Rd_readAny rfl wh_Rd_readAny (by decide) (by omega) (by decide) (Nat.le_of_ble_eq_true rfl) rfl) (fun x_7 => ?_)
    refine xs_step (fun K HC => xr_aload_n HC.1 38 72 (n := 0) (ix := 0) (j := 0) (c := 5) (x := v0) rfl rfl rfl rfl) ?_
    refine xs_step (fun K HC => xr_bipush HC.1 39 74 (n := (41)) (41 : Int32) rfl rfl rfl) ?_
    refine xs_callv (s_Rd_expect v0 (41 : Int32) x_7) (fun K HC x9 hM hmo hb => xr_callV HC.1 40 77 (av := [av_I (41 : Int32)]) (st := []) (hM (kg K) (cx_l (kx K))) hmo hb rfl rfl wm_Rd_135 wi_Rd_expect ws_Rd_expect wc_Rd_expect rfl wh_Rd_expect (by decide) (by omega) (by decide) (Nat.le_of_ble_eq_true rfl) rfl) (fun x_8 => ?_)
    refine xs_step (fun K HC => xr_goto HC.1 41 88 rfl (by decide)) ?_
    exact xs_ret 46 rfl rfl (fun K q => q)
  refine xs_step (fun K HC => xr_aload_n HC.1 42 81 (n := 0) (ix := 0) (j := 0) (c := 5) (x := v0) rfl rfl rfl rfl) ?_
  refine xs_bind (fun q_9 eq_9 => ?_)
  refine xs_step (fun K HC => xr_getr HC.1 43 84 5 4 4 eq_9 rfl rfl wf_Rd_44 (by decide) fb_5_4 fc_5_4 fd_5_4) ?_
  refine xs_step (fun K HC => xr_iload_n HC.1 44 85 (n := 2) (ix := 2) (j := 2) (x := v2) rfl rfl rfl rfl) ?_
  refine xs_callv (s_Pl_addCode q_9 v2 x_6) (fun K HC x9 hM hmo hb => xr_callV HC.1 45 88 (av := [av_I v2]) (st := []) (hM (kg K) (cx_l (kx K))) hmo hb rfl rfl wm_Rd_186 wi_Pl_addCode ws_Pl_addCode wc_Pl_addCode rfl wh_Pl_addCode (by decide) (by omega) (by decide) (Nat.le_of_ble_eq_true rfl) rfl) (fun x_10 => ?_)
  exact xs_ret 46 rfl rfl (fun K q => q)
set_option maxHeartbeats 4000000 in
set_option maxRecDepth 100000 in
theorem t_Rd_readUnit (e9 : Nat) (fA : Nat → Int32 → HP → Option HP) (HA : ∀ (v0 : Nat) (v1 : Int32) (h : HP) (x : HP), fA v0 v1 h = some x → hp_mo h x ∧ ∀ g l, xx_M g l y_Rd_readAny prog_7_method_20_code 3 none (e9 + 12) [av_R 5 (some v0), av_I v1] h none x) (v0 : Nat) (v1 : Int32) (h : HP) : xx_S (xx_D "LampYard$Reader" tb_Rd_readUnit 3 (e9 + 13) none false) xz_v (fun K => xL_v K) 0 [(0, av_R 5 (some v0)), (1, av_I v1)] [] h (f_Rd_readUnit fA v0 v1 h) := by
  unfold f_Rd_readUnit
  refine xs_step (fun K HC => xr_aload_n HC.1 0 1 (n := 0) (ix := 0) (j := 0) (c := 5) (x := v0) rfl rfl rfl rfl) ?_
  refine xs_calli (s_Rd_unitCode v0 h) (fun K HC x9 hM hmo hb => xr_callV HC.1 1 4 (av := []) (st := []) (hM (kg K) (cx_l (kx K))) hmo hb rfl rfl wm_Rd_201 wi_Rd_unitCode ws_Rd_unitCode wc_Rd_unitCode rfl wh_Rd_unitCode (by decide) (by omega) (by decide) (Nat.le_of_ble_eq_true rfl) rfl) (fun x_1 => ?_)
  refine xs_step (fun K HC => xr_istore_n HC.1 2 5 (n := 2) (ix := 2) (lv' := [(0, av_R 5 (some v0)), (1, av_I v1), (2, av_I x_1.1)]) rfl rfl rfl (by decide) rfl) ?_
  refine xs_step (fun K HC => xr_aload_n HC.1 3 6 (n := 0) (ix := 0) (j := 0) (c := 5) (x := v0) rfl rfl rfl rfl) ?_
  refine xs_bind (fun q_2 eq_2 => ?_)
  refine xs_step (fun K HC => xr_getr HC.1 4 9 5 4 4 eq_2 rfl rfl wf_Rd_44 (by decide) fb_5_4 fc_5_4 fd_5_4) ?_
  refine xs_step (fun K HC => xr_geti HC.1 5 12 4 7 rfl rfl wf_Rd_205 (by decide) fb_4_7 fc_4_7) ?_
  refine xs_step (fun K HC => xr_bipush HC.1 6 14 (n := (60)) (60 : Int32) rfl rfl rfl) ?_
  refine xs_ite (fun K HC => xr_icmp_ge HC.1 7 35 17 rfl (by decide) rfl) ?_ ?_
  · refine xs_step (fun K HC => xr_sub (lv' := [(0, av_R 5 (some v0))]) [0] rfl) ?_
    exact t_Rd_readUnit_35 e9 fA HA v0 x_1.2
  refine xs_step (fun K HC => xr_iload_n HC.1 8 18 (n := 2) (ix := 2) (j := 2) (x := x_1.1) rfl rfl rfl rfl) ?_
  refine xs_step (fun K HC => xr_bipush HC.1 9 20 (n := (-101)) (-101 : Int32) rfl rfl rfl) ?_
  refine xs_ite (fun K HC => xr_icmp_eq HC.1 10 35 23 rfl (by decide) rfl) ?_ ?_
  · refine xs_step (fun K HC => xr_sub (lv' := [(0, av_R 5 (some v0))]) [0] rfl) ?_
    exact t_Rd_readUnit_35 e9 fA HA v0 x_1.2
  refine xs_step (fun K HC => xr_iload_n HC.1 11 24 (n := 2) (ix := 2) (j := 2) (x := x_1.1) rfl rfl rfl rfl) ?_
  refine xs_step (fun K HC => xr_bipush HC.1 12 26 (n := (-100)) (-100 : Int32) rfl rfl rfl) ?_
  refine xs_ite (fun K HC a b => xr_icmp_ne HC.1 13 41 29 rfl (by decide) rfl b a) ?_ ?_
  · refine xs_step (fun K HC => xr_iload_n HC.1 14 30 (n := 1) (ix := 1) (j := 1) (x := v1) rfl rfl rfl rfl) ?_
    refine xs_step (fun K HC => xr_bipush HC.1 15 32 (n := (6)) (6 : Int32) rfl rfl rfl) ?_
    refine xs_ite (fun K HC => xr_icmp_le HC.1 16 41 35 rfl (by decide) rfl) ?_ ?_
    · exact t_Rd_readUnit_41 e9 fA HA v0 v1 x_1.1 x_1.2
    refine xs_step (fun K HC => xr_sub (lv' := [(0, av_R 5 (some v0))]) [0] rfl) ?_
    exact t_Rd_readUnit_35 e9 fA HA v0 x_1.2
  exact t_Rd_readUnit_41 e9 fA HA v0 v1 x_1.1 x_1.2
theorem s_Rd_readUnit (e9 : Nat) (fA : Nat → Int32 → HP → Option HP) (HA : ∀ (v0 : Nat) (v1 : Int32) (h : HP) (x : HP), fA v0 v1 h = some x → hp_mo h x ∧ ∀ g l, xx_M g l y_Rd_readAny prog_7_method_20_code 3 none (e9 + 12) [av_R 5 (some v0), av_I v1] h none x) (v0 : Nat) (v1 : Int32) (h : HP) : ∀ x, f_Rd_readUnit fA v0 v1 h = some x → hp_mo h x ∧ ∀ g l, xx_M g l y_Rd_readUnit prog_7_method_25_code 3 none (e9 + 13) [av_R 5 (some v0), av_I v1] h none x :=
  xM_v (tb := tb_Rd_readUnit) (b := false) (by decide +kernel) dt_Rd_readUnit trivial (Nat.le_of_ble_eq_true rfl) (fun hb => by cases hb) (t_Rd_readUnit e9 fA HA v0 v1 h)
def tb_Rd_readTerm : TBL := [(0, .aload_n 0, 1), (1, .iload_n 1, 1), (2, .invokevirtual 198, 3), (5, .iconst 0, 1), (6, .istore_n 2, 1), (7, .iload_n 2, 1), (8, .sipush 1400, 3), (11, .if_icmp .ge 36, 3), (14, .aload_n 0, 1), (15, .getfield 66, 3), (18, .bipush 42, 2), (20, .if_icmp .ne 27, 3), (23, .aload_n 0, 1), (24, .invokevirtual 63, 3), (27, .aload_n 0, 1), (28, .iload_n 1, 1), (29, .invokevirtual 198, 3), (32, .aload_n 0, 1), (33, .getfield 44, 3), (36, .bipush (-14), 2), (38, .invokevirtual 186, 3), (41, .iinc 2 1, 3), (44, .goto (-37), 3), (47, .return_, 1)]
theorem dt_Rd_readTerm : ∀ q ∈ tb_Rd_readTerm, decode prog_7_method_24_code q.1 = .ok (q.2.1, q.2.2) := by decide +kernel
set_option maxHeartbeats 4000000 in
set_option maxRecDepth 100000 in
theorem t_Rd_readTerm_7b (e9 : Nat) (fA : Nat → Int32 → HP → Option HP) (HA : ∀ (v0 : Nat) (v1 : Int32) (h : HP) (x : HP), fA v0 v1 h = some x → hp_mo h x ∧ ∀ g l, xx_M g l y_Rd_readAny prog_7_method_20_code 3 none (e9 + 12) [av_R 5 (some v0), av_I v1] h none x) (v0 : Nat) (v1 : Int32) (v2 : Int32) (h : HP) : xx_S (xx_D "LampYard$Reader" tb_Rd_readTerm 3 (e9 + 14) none false) (xx_z2 (fun s : (Int32 × HP) => s.2) xz_v) (fun K => xx_L2 (fun s : (Int32 × HP) => xx_X K 7 [(0, av_R 5 (some v0)), (1, av_I v1), (2, av_I s.1)] [] (s.2)) (xL_v K)) 7 [(0, av_R 5 (some v0)), (1, av_I v1), (2, av_I v2)] [] h (f_Rd_readTerm_7b fA v0 v1 v2 h) := by
  unfold f_Rd_readTerm_7b
  refine xs_step (fun K HC => xr_iload_n HC.1 5 8 (n := 2) (ix := 2) (j := 2) (x := v2) rfl rfl rfl rfl) ?_
  refine xs_step (fun K HC => xr_sipush HC.1 6 11 (n := (1400)) (1400 : Int32) rfl rfl rfl) ?_
  refine xs_ite (fun K HC => xr_icmp_ge HC.1 7 47 14 rfl (by decide) rfl) ?_ ?_
  · exact xs_ret 23 rfl rfl (fun K q => q)
  refine xs_step (fun K HC => xr_aload_n HC.1 8 15 (n := 0) (ix := 0) (j := 0) (c := 5) (x := v0) rfl rfl rfl rfl) ?_
  refine xs_step (fun K HC => xr_geti HC.1 9 18 5 12 rfl rfl wf_Rd_66 (by decide) fb_5_12 fc_5_12) ?_
  refine xs_step (fun K HC => xr_bipush HC.1 10 20 (n := (42)) (42 : Int32) rfl rfl rfl) ?_
  refine xs_ite (fun K HC a b => xr_icmp_ne HC.1 11 47 23 rfl (by decide) rfl b a) ?_ ?_
  · refine xs_step (fun K HC => xr_aload_n HC.1 12 24 (n := 0) (ix := 0) (j := 0) (c := 5) (x := v0) rfl rfl rfl rfl) ?_
    refine xs_callv (s_Rd_advance v0 h) (fun K HC x9 hM hmo hb => xr_callV HC.1 13 27 (av := []) (st := []) (hM (kg K) (cx_l (kx K))) hmo hb rfl rfl wm_Rd_63 wi_Rd_advance ws_Rd_advance wc_Rd_advance rfl wh_Rd_advance (by decide) (by omega) (by decide) (Nat.le_of_ble_eq_true rfl) rfl) (fun x_2 => ?_)
    refine xs_step (fun K HC => xr_aload_n HC.1 14 28 (n := 0) (ix := 0) (j := 0) (c := 5) (x := v0) rfl rfl rfl rfl) ?_
    refine xs_step (fun K HC => xr_iload_n HC.1 15 29 (n := 1) (ix := 1) (j := 1) (x := v1) rfl rfl rfl rfl) ?_
    refine xs_callv (s_Rd_readUnit e9 fA HA v0 v1 x_2) (fun K HC x9 hM hmo hb => xr_callV HC.1 16 32 (av := [av_I v1]) (st := []) (hM (kg K) (cx_l (kx K))) hmo hb rfl rfl wm_Rd_198 wi_Rd_readUnit ws_Rd_readUnit wc_Rd_readUnit rfl wh_Rd_readUnit (by decide) (by omega) (by decide) (Nat.le_of_ble_eq_true rfl) rfl) (fun x_3 => ?_)
    refine xs_step (fun K HC => xr_aload_n HC.1 17 33 (n := 0) (ix := 0) (j := 0) (c := 5) (x := v0) rfl rfl rfl rfl) ?_
    refine xs_bind (fun q_4 eq_4 => ?_)
    refine xs_step (fun K HC => xr_getr HC.1 18 36 5 4 4 eq_4 rfl rfl wf_Rd_44 (by decide) fb_5_4 fc_5_4 fd_5_4) ?_
    refine xs_step (fun K HC => xr_bipush HC.1 19 38 (n := (-14)) (-14 : Int32) rfl rfl rfl) ?_
    refine xs_callv (s_Pl_addCode q_4 (-14 : Int32) x_3) (fun K HC x9 hM hmo hb => xr_callV HC.1 20 41 (av := [av_I (-14 : Int32)]) (st := []) (hM (kg K) (cx_l (kx K))) hmo hb rfl rfl wm_Rd_186 wi_Pl_addCode ws_Pl_addCode wc_Pl_addCode rfl wh_Pl_addCode (by decide) (by omega) (by decide) (Nat.le_of_ble_eq_true rfl) rfl) (fun x_5 => ?_)
    refine xs_gen (fun v2_6 ev2_6 => ?_)
    refine xs_step (fun K HC => xr_iinc HC.1 21 44 (ix := 2) (j := 2) (n := (1)) (x := v2) v2_6 (lv' := [(0, av_R 5 (some v0)), (1, av_I v1), (2, av_I v2_6)]) rfl (by rw [ev2_6]; rfl) rfl rfl (by decide) rfl) ?_
    refine xs_step (fun K HC => xr_goto HC.1 22 7 rfl (by decide)) ?_
    exact xs_back rfl (fun K q => q)
  exact xs_ret 23 rfl rfl (fun K q => q)
theorem t_Rd_readTerm_7 (e9 : Nat) (fA : Nat → Int32 → HP → Option HP) (HA : ∀ (v0 : Nat) (v1 : Int32) (h : HP) (x : HP), fA v0 v1 h = some x → hp_mo h x ∧ ∀ g l, xx_M g l y_Rd_readAny prog_7_method_20_code 3 none (e9 + 12) [av_R 5 (some v0), av_I v1] h none x) (v0 : Nat) (v1 : Int32) (v2 : Int32) (h : HP) : xx_S (xx_D "LampYard$Reader" tb_Rd_readTerm 3 (e9 + 14) none false) xz_v (fun K => xL_v K) 7 [(0, av_R 5 (some v0)), (1, av_I v1), (2, av_I v2)] [] h (f_Rd_readTerm_7 fA v0 v1 v2 h) :=
  xs_loop (zf := xz_v) (L := (fun K => xL_v K)) (fun s : (Int32 × HP) => [(0, av_R 5 (some v0)), (1, av_I v1), (2, av_I s.1)]) (fun s : (Int32 × HP) => s.2) (fun s => t_Rd_readTerm_7b e9 fA HA v0 v1 s.1 s.2) (v2, h)
set_option maxHeartbeats 4000000 in
set_option maxRecDepth 100000 in
theorem t_Rd_readTerm (e9 : Nat) (fA : Nat → Int32 → HP → Option HP) (HA : ∀ (v0 : Nat) (v1 : Int32) (h : HP) (x : HP), fA v0 v1 h = some x → hp_mo h x ∧ ∀ g l, xx_M g l y_Rd_readAny prog_7_method_20_code 3 none (e9 + 12) [av_R 5 (some v0), av_I v1] h none x) (v0 : Nat) (v1 : Int32) (h : HP) : xx_S (xx_D "LampYard$Reader" tb_Rd_readTerm 3 (e9 + 14) none false) xz_v (fun K => xL_v K) 0 [(0, av_R 5 (some v0)), (1, av_I v1)] [] h (f_Rd_readTerm fA v0 v1 h) := by
  unfold f_Rd_readTerm
  refine xs_step (fun K HC => xr_aload_n HC.1 0 1 (n := 0) (ix := 0) (j := 0) (c := 5) (x := v0) rfl rfl rfl rfl) ?_
  refine xs_step (fun K HC => xr_iload_n HC.1 1 2 (n := 1) (ix := 1) (j := 1) (x := v1) rfl rfl rfl rfl) ?_
  refine xs_callv (s_Rd_readUnit e9 fA HA v0 v1 h) (fun K HC x9 hM hmo hb => xr_callV HC.1 2 5 (av := [av_I v1]) (st := []) (hM (kg K) (cx_l (kx K))) hmo hb rfl rfl wm_Rd_198 wi_Rd_readUnit ws_Rd_readUnit wc_Rd_readUnit rfl wh_Rd_readUnit (by decide) (by omega) (by decide) (Nat.le_of_ble_eq_true rfl) rfl) (fun x_1 => ?_)
  refine xs_step (fun K HC => xr_iconst HC.1 3 6 (n := (0)) (0 : Int32) rfl rfl rfl) ?_
  refine xs_step (fun K HC => xr_istore_n HC.1 4 7 (n := 2) (ix := 2) (lv' := [(0, av_R 5 (some v0)), (1, av_I v1), (2, av_I (0 : Int32))]) rfl rfl rfl (by decide) rfl) ?_
  exact t_Rd_readTerm_7 e9 fA HA v0 v1 (0 : Int32) x_1
theorem s_Rd_readTerm (e9 : Nat) (fA : Nat → Int32 → HP → Option HP) (HA : ∀ (v0 : Nat) (v1 : Int32) (h : HP) (x : HP), fA v0 v1 h = some x → hp_mo h x ∧ ∀ g l, xx_M g l y_Rd_readAny prog_7_method_20_code 3 none (e9 + 12) [av_R 5 (some v0), av_I v1] h none x) (v0 : Nat) (v1 : Int32) (h : HP) : ∀ x, f_Rd_readTerm fA v0 v1 h = some x → hp_mo h x ∧ ∀ g l, xx_M g l y_Rd_readTerm prog_7_method_24_code 3 none (e9 + 14) [av_R 5 (some v0), av_I v1] h none x :=
  xM_v (tb := tb_Rd_readTerm) (b := false) (by decide +kernel) dt_Rd_readTerm trivial (Nat.le_of_ble_eq_true rfl) (fun hb => by cases hb) (t_Rd_readTerm e9 fA HA v0 v1 h)
def tb_Rd_readSum : TBL := [(0, .aload_n 0, 1), (1, .iload_n 1, 1), (2, .invokevirtual 195, 3), (5, .iconst 0, 1), (6, .istore_n 2, 1), (7, .iload_n 2, 1), (8, .sipush 1400, 3), (11, .if_icmp .ge 61, 3), (14, .aload_n 0, 1), (15, .getfield 66, 3), (18, .bipush 43, 2), (20, .if_icmp .eq 12, 3), (23, .aload_n 0, 1), (24, .getfield 66, 3), (27, .bipush 45, 2), (29, .if_icmp .ne 43, 3), (32, .aload_n 0, 1), (33, .getfield 66, 3), (36, .bipush 43, 2), (38, .if_icmp .ne 8, 3), (41, .bipush (-12), 2), (43, .goto 5, 3), (46, .bipush (-13), 2), (48, .istore_n 3, 1), (49, .aload_n 0, 1), (50, .invokevirtual 63, 3), (53, .aload_n 0, 1), (54, .iload_n 1, 1), (55, .invokevirtual 195, 3), (58, .aload_n 0, 1), (59, .getfield 44, 3), (62, .iload_n 3, 1), (63, .invokevirtual 186, 3), (66, .iinc 2 1, 3), (69, .goto (-62), 3), (72, .return_, 1)]
theorem dt_Rd_readSum : ∀ q ∈ tb_Rd_readSum, decode prog_7_method_23_code q.1 = .ok (q.2.1, q.2.2) := by decide +kernel
set_option maxHeartbeats 4000000 in
set_option maxRecDepth 100000 in
theorem t_Rd_readSum_48 (e9 : Nat) (fA : Nat → Int32 → HP → Option HP) (HA : ∀ (v0 : Nat) (v1 : Int32) (h : HP) (x : HP), fA v0 v1 h = some x → hp_mo h x ∧ ∀ g l, xx_M g l y_Rd_readAny prog_7_method_20_code 3 none (e9 + 12) [av_R 5 (some v0), av_I v1] h none x) (v0 : Nat) (v1 : Int32) (v2 : Int32) (s0 : Int32) (h : HP) : xx_S (xx_D "LampYard$Reader" tb_Rd_readSum 4 (e9 + 15) none false) (xx_z2 (fun s : (Int32 × HP) => s.2) xz_v) (fun K => xx_L2 (fun s : (Int32 × HP) => xx_X K 7 [(0, av_R 5 (some v0)), (1, av_I v1), (2, av_I s.1)] [] (s.2)) (xL_v K)) 48 [(0, av_R 5 (some v0)), (1, av_I v1), (2, av_I v2)] [av_I s0] h (f_Rd_readSum_48 fA v0 v1 v2 s0 h) := by
  unfold f_Rd_readSum_48
  refine xs_step (fun K HC => xr_istore_n HC.1 23 49 (n := 3) (ix := 3) (lv' := [(0, av_R 5 (some v0)), (1, av_I v1), (2, av_I v2), (3, av_I s0)]) rfl rfl rfl (by decide) rfl) ?_
  refine xs_step (fun K HC => xr_aload_n HC.1 24 50 (n := 0) (ix := 0) (j := 0) (c := 5) (x := v0) rfl rfl rfl rfl) ?_
  refine xs_callv (s_Rd_advance v0 h) (fun K HC x9 hM hmo hb => xr_callV HC.1 25 53 (av := []) (st := []) (hM (kg K) (cx_l (kx K))) hmo hb rfl rfl wm_Rd_63 wi_Rd_advance ws_Rd_advance wc_Rd_advance rfl wh_Rd_advance (by decide) (by omega) (by decide) (Nat.le_of_ble_eq_true rfl) rfl) (fun x_2 => ?_)
  refine xs_step (fun K HC => xr_aload_n HC.1 26 54 (n := 0) (ix := 0) (j := 0) (c := 5) (x := v0) rfl rfl rfl rfl) ?_
  refine xs_step (fun K HC => xr_iload_n HC.1 27 55 (n := 1) (ix := 1) (j := 1) (x := v1) rfl rfl rfl rfl) ?_
  refine xs_callv (s_Rd_readTerm e9 fA HA v0 v1 x_2) (fun K HC x9 hM hmo hb => xr_callV HC.1 28 58 (av := [av_I v1]) (st := []) (hM (kg K) (cx_l (kx K))) hmo hb rfl rfl wm_Rd_195 wi_Rd_readTerm ws_Rd_readTerm wc_Rd_readTerm rfl wh_Rd_readTerm (by decide) (by omega) (by decide) (Nat.le_of_ble_eq_true rfl) rfl) (fun x_3 => ?_)
  refine xs_step (fun K HC => xr_aload_n HC.1 29 59 (n := 0) (ix := 0) (j := 0) (c := 5) (x := v0) rfl rfl rfl rfl) ?_
  refine xs_bind (fun q_4 eq_4 => ?_)
  refine xs_step (fun K HC => xr_getr HC.1 30 62 5 4 4 eq_4 rfl rfl wf_Rd_44 (by decide) fb_5_4 fc_5_4 fd_5_4) ?_
  refine xs_step (fun K HC => xr_iload_n HC.1 31 63 (n := 3) (ix := 3) (j := 3) (x := s0) rfl rfl rfl rfl) ?_
  refine xs_callv (s_Pl_addCode q_4 s0 x_3) (fun K HC x9 hM hmo hb => xr_callV HC.1 32 66 (av := [av_I s0]) (st := []) (hM (kg K) (cx_l (kx K))) hmo hb rfl rfl wm_Rd_186 wi_Pl_addCode ws_Pl_addCode wc_Pl_addCode rfl wh_Pl_addCode (by decide) (by omega) (by decide) (Nat.le_of_ble_eq_true rfl) rfl) (fun x_5 => ?_)
  refine xs_gen (fun v2_6 ev2_6 => ?_)
  refine xs_step (fun K HC => xr_iinc HC.1 33 69 (ix := 2) (j := 2) (n := (1)) (x := v2) v2_6 (lv' := [(0, av_R 5 (some v0)), (1, av_I v1), (2, av_I v2_6), (3, av_I s0)]) rfl (by rw [ev2_6]; rfl) rfl rfl (by decide) rfl) ?_
  refine xs_step (fun K HC => xr_goto HC.1 34 7 rfl (by decide)) ?_
  refine xs_step (fun K HC => xr_sub (lv' := [(0, av_R 5 (some v0)), (1, av_I v1), (2, av_I v2_6)]) [0, 1, 2] rfl) ?_
  exact xs_back rfl (fun K q => q)
set_option maxHeartbeats 4000000 in
set_option maxRecDepth 100000 in
theorem t_Rd_readSum_32 (e9 : Nat) (fA : Nat → Int32 → HP → Option HP) (HA : ∀ (v0 : Nat) (v1 : Int32) (h : HP) (x : HP), fA v0 v1 h = some x → hp_mo h x ∧ ∀ g l, xx_M g l y_Rd_readAny prog_7_method_20_code 3 none (e9 + 12) [av_R 5 (some v0), av_I v1] h none x) (v0 : Nat) (v1 : Int32) (v2 : Int32) (h : HP) : xx_S (xx_D "LampYard$Reader" tb_Rd_readSum 4 (e9 + 15) none false) (xx_z2 (fun s : (Int32 × HP) => s.2) xz_v) (fun K => xx_L2 (fun s : (Int32 × HP) => xx_X K 7 [(0, av_R 5 (some v0)), (1, av_I v1), (2, av_I s.1)] [] (s.2)) (xL_v K)) 32 [(0, av_R 5 (some v0)), (1, av_I v1), (2, av_I v2)] [] h (f_Rd_readSum_32 fA v0 v1 v2 h) := by
  unfold f_Rd_readSum_32
  refine xs_step (fun K HC => xr_aload_n HC.1 16 33 (n := 0) (ix := 0) (j := 0) (c := 5) (x := v0) rfl rfl rfl rfl) ?_
  refine xs_step (fun K HC => xr_geti HC.1 17 36 5 12 rfl rfl wf_Rd_66 (by decide) fb_5_12 fc_5_12) ?_
  refine xs_step (fun K HC => xr_bipush HC.1 18 38 (n := (43)) (43 : Int32) rfl rfl rfl) ?_
  refine xs_ite (fun K HC a b => xr_icmp_ne HC.1 19 46 41 rfl (by decide) rfl b a) ?_ ?_
  · refine xs_step (fun K HC => xr_bipush HC.1 20 43 (n := (-12)) (-12 : Int32) rfl rfl rfl) ?_
    refine xs_step (fun K HC => xr_goto HC.1 21 48 rfl (by decide)) ?_
    exact t_Rd_readSum_48 e9 fA HA v0 v1 v2 (-12 : Int32) h
  refine xs_step (fun K HC => xr_bipush HC.1 22 48 (n := (-13)) (-13 : Int32) rfl rfl rfl) ?_
  exact t_Rd_readSum_48 e9 fA HA v0 v1 v2 (-13 : Int32) h
set_option maxHeartbeats 4000000 in
set_option maxRecDepth 100000 in
theorem t_Rd_readSum_7b (e9 : Nat) (fA : Nat → Int32 → HP → Option HP) (HA : ∀ (v0 : Nat) (v1 : Int32) (h : HP) (x : HP), fA v0 v1 h = some x → hp_mo h x ∧ ∀ g l, xx_M g l y_Rd_readAny prog_7_method_20_code 3 none (e9 + 12) [av_R 5 (some v0), av_I v1] h none x) (v0 : Nat) (v1 : Int32) (v2 : Int32) (h : HP) : xx_S (xx_D "LampYard$Reader" tb_Rd_readSum 4 (e9 + 15) none false) (xx_z2 (fun s : (Int32 × HP) => s.2) xz_v) (fun K => xx_L2 (fun s : (Int32 × HP) => xx_X K 7 [(0, av_R 5 (some v0)), (1, av_I v1), (2, av_I s.1)] [] (s.2)) (xL_v K)) 7 [(0, av_R 5 (some v0)), (1, av_I v1), (2, av_I v2)] [] h (f_Rd_readSum_7b fA v0 v1 v2 h) := by
  unfold f_Rd_readSum_7b
  refine xs_step (fun K HC => xr_iload_n HC.1 5 8 (n := 2) (ix := 2) (j := 2) (x := v2) rfl rfl rfl rfl) ?_
  refine xs_step (fun K HC => xr_sipush HC.1 6 11 (n := (1400)) (1400 : Int32) rfl rfl rfl) ?_
  refine xs_ite (fun K HC => xr_icmp_ge HC.1 7 72 14 rfl (by decide) rfl) ?_ ?_
  · exact xs_ret 35 rfl rfl (fun K q => q)
  refine xs_step (fun K HC => xr_aload_n HC.1 8 15 (n := 0) (ix := 0) (j := 0) (c := 5) (x := v0) rfl rfl rfl rfl) ?_
  refine xs_step (fun K HC => xr_geti HC.1 9 18 5 12 rfl rfl wf_Rd_66 (by decide) fb_5_12 fc_5_12) ?_
  refine xs_step (fun K HC => xr_bipush HC.1 10 20 (n := (43)) (43 : Int32) rfl rfl rfl) ?_
  refine xs_ite (fun K HC => xr_icmp_eq HC.1 11 32 23 rfl (by decide) rfl) ?_ ?_
  · exact t_Rd_readSum_32 e9 fA HA v0 v1 v2 h
  refine xs_step (fun K HC => xr_aload_n HC.1 12 24 (n := 0) (ix := 0) (j := 0) (c := 5) (x := v0) rfl rfl rfl rfl) ?_
  refine xs_step (fun K HC => xr_geti HC.1 13 27 5 12 rfl rfl wf_Rd_66 (by decide) fb_5_12 fc_5_12) ?_
  refine xs_step (fun K HC => xr_bipush HC.1 14 29 (n := (45)) (45 : Int32) rfl rfl rfl) ?_
  refine xs_ite (fun K HC a b => xr_icmp_ne HC.1 15 72 32 rfl (by decide) rfl b a) ?_ ?_
  · exact t_Rd_readSum_32 e9 fA HA v0 v1 v2 h
  exact xs_ret 35 rfl rfl (fun K q => q)
theorem t_Rd_readSum_7 (e9 : Nat) (fA : Nat → Int32 → HP → Option HP) (HA : ∀ (v0 : Nat) (v1 : Int32) (h : HP) (x : HP), fA v0 v1 h = some x → hp_mo h x ∧ ∀ g l, xx_M g l y_Rd_readAny prog_7_method_20_code 3 none (e9 + 12) [av_R 5 (some v0), av_I v1] h none x) (v0 : Nat) (v1 : Int32) (v2 : Int32) (h : HP) : xx_S (xx_D "LampYard$Reader" tb_Rd_readSum 4 (e9 + 15) none false) xz_v (fun K => xL_v K) 7 [(0, av_R 5 (some v0)), (1, av_I v1), (2, av_I v2)] [] h (f_Rd_readSum_7 fA v0 v1 v2 h) :=
  xs_loop (zf := xz_v) (L := (fun K => xL_v K)) (fun s : (Int32 × HP) => [(0, av_R 5 (some v0)), (1, av_I v1), (2, av_I s.1)]) (fun s : (Int32 × HP) => s.2) (fun s => t_Rd_readSum_7b e9 fA HA v0 v1 s.1 s.2) (v2, h)
set_option maxHeartbeats 4000000 in
set_option maxRecDepth 100000 in
theorem t_Rd_readSum (e9 : Nat) (fA : Nat → Int32 → HP → Option HP) (HA : ∀ (v0 : Nat) (v1 : Int32) (h : HP) (x : HP), fA v0 v1 h = some x → hp_mo h x ∧ ∀ g l, xx_M g l y_Rd_readAny prog_7_method_20_code 3 none (e9 + 12) [av_R 5 (some v0), av_I v1] h none x) (v0 : Nat) (v1 : Int32) (h : HP) : xx_S (xx_D "LampYard$Reader" tb_Rd_readSum 4 (e9 + 15) none false) xz_v (fun K => xL_v K) 0 [(0, av_R 5 (some v0)), (1, av_I v1)] [] h (f_Rd_readSum fA v0 v1 h) := by
  unfold f_Rd_readSum
  refine xs_step (fun K HC => xr_aload_n HC.1 0 1 (n := 0) (ix := 0) (j := 0) (c := 5) (x := v0) rfl rfl rfl rfl) ?_
  refine xs_step (fun K HC => xr_iload_n HC.1 1 2 (n := 1) (ix := 1) (j := 1) (x := v1) rfl rfl rfl rfl) ?_
  refine xs_callv (s_Rd_readTerm e9 fA HA v0 v1 h) (fun K HC x9 hM hmo hb => xr_callV HC.1 2 5 (av := [av_I v1]) (st := []) (hM (kg K) (cx_l (kx K))) hmo hb rfl rfl wm_Rd_195 wi_Rd_readTerm ws_Rd_readTerm wc_Rd_readTerm rfl wh_Rd_readTerm (by decide) (by omega) (by decide) (Nat.le_of_ble_eq_true rfl) rfl) (fun x_1 => ?_)
  refine xs_step (fun K HC => xr_iconst HC.1 3 6 (n := (0)) (0 : Int32) rfl rfl rfl) ?_
  refine xs_step (fun K HC => xr_istore_n HC.1 4 7 (n := 2) (ix := 2) (lv' := [(0, av_R 5 (some v0)), (1, av_I v1), (2, av_I (0 : Int32))]) rfl rfl rfl (by decide) rfl) ?_
  exact t_Rd_readSum_7 e9 fA HA v0 v1 (0 : Int32) x_1
theorem s_Rd_readSum (e9 : Nat) (fA : Nat → Int32 → HP → Option HP) (HA : ∀ (v0 : Nat) (v1 : Int32) (h : HP) (x : HP), fA v0 v1 h = some x → hp_mo h x ∧ ∀ g l, xx_M g l y_Rd_readAny prog_7_method_20_code 3 none (e9 + 12) [av_R 5 (some v0), av_I v1] h none x) (v0 : Nat) (v1 : Int32) (h : HP) : ∀ x, f_Rd_readSum fA v0 v1 h = some x → hp_mo h x ∧ ∀ g l, xx_M g l y_Rd_readSum prog_7_method_23_code 4 none (e9 + 15) [av_R 5 (some v0), av_I v1] h none x :=
  xM_v (tb := tb_Rd_readSum) (b := false) (by decide +kernel) dt_Rd_readSum trivial (Nat.le_of_ble_eq_true rfl) (fun hb => by cases hb) (t_Rd_readSum e9 fA HA v0 v1 h)
