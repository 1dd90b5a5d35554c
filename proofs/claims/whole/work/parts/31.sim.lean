def tb_X_putOnTape : TBL := [(0, .bipush 24, 2), (2, .istore_n 2, 1), (3, .iload_n 2, 1), (4, .ifCond .lt 42, 3), (7, .aload_n 0, 1), (8, .getfield 51, 3), (11, .sipush 1400, 3), (14, .if_icmp .ge 32, 3), (17, .aload_n 0, 1), (18, .getfield 9, 3), (21, .aload_n 0, 1), (22, .getfield 51, 3), (25, .iload_n 1, 1), (26, .iload_n 2, 1), (27, .iushr, 1), (28, .i2b, 1), (29, .bastore, 1), (30, .aload_n 0, 1), (31, .dup, 1), (32, .getfield 51, 3), (35, .iconst 1, 1), (36, .iadd, 1), (37, .putfield 51, 3), (40, .iinc 2 (-8), 3), (43, .goto (-40), 3), (46, .return_, 1)]
theorem dt_X_putOnTape : ∀ q ∈ tb_X_putOnTape, decode prog_1_method_36_code q.1 = .ok (q.2.1, q.2.2) := by decide +kernel
set_option maxHeartbeats 4000000 in
set_option maxRecDepth 100000 in
theorem t_X_putOnTape_3b (v0 : Nat) (v1 : Int32) (v2 : Int32) (h : HP) : xx_S (xx_D "LampYard" tb_X_putOnTape 3 1 none false) (xx_z2 (fun s : (Int32 × HP) => s.2) xz_v) (fun K => xx_L2 (fun s : (Int32 × HP) => xx_X K 3 [(0, av_R 10 (some v0)), (1, av_I v1), (2, av_I s.1)] [] (s.2)) (xL_v K)) 3 [(0, av_R 10 (some v0)), (1, av_I v1), (2, av_I v2)] [] h (f_X_putOnTape_3b v0 v1 v2 h) := by
  unfold f_X_putOnTape_3b
  refine xs_step (fun K HC => xr_iload_n HC.1 2 4 (n := 2) (ix := 2) (j := 2) (x := v2) rfl rfl rfl rfl) ?_
  refine xs_ite (fun K HC => xr_if_lt HC.1 3 46 7 rfl (by decide) rfl) ?_ ?_
  · exact xs_ret 25 rfl rfl (fun K q => q)
  refine xs_step (fun K HC => xr_aload_n HC.1 4 8 (n := 0) (ix := 0) (j := 0) (c := 10) (x := v0) rfl rfl rfl rfl) ?_
  refine xs_step (fun K HC => xr_geti HC.1 5 11 10 1 rfl rfl wf_X_51 (by decide) fb_10_1 fc_10_1) ?_
  refine xs_step (fun K HC => xr_sipush HC.1 6 14 (n := (1400)) (1400 : Int32) rfl rfl rfl) ?_
  refine xs_ite (fun K HC => xr_icmp_ge HC.1 7 46 17 rfl (by decide) rfl) ?_ ?_
  · exact xs_ret 25 rfl rfl (fun K q => q)
  refine xs_step (fun K HC => xr_aload_n HC.1 8 18 (n := 0) (ix := 0) (j := 0) (c := 10) (x := v0) rfl rfl rfl rfl) ?_
  refine xs_bind (fun q_1 eq_1 => ?_)
  refine xs_step (fun K HC => xr_getr HC.1 9 21 10 0 12 eq_1 rfl rfl wf_X_9 (by decide) fb_10_0 fc_10_0 fd_10_0) ?_
  refine xs_step (fun K HC => xr_aload_n HC.1 10 22 (n := 0) (ix := 0) (j := 0) (c := 10) (x := v0) rfl rfl rfl rfl) ?_
  refine xs_step (fun K HC => xr_geti HC.1 11 25 10 1 rfl rfl wf_X_51 (by decide) fb_10_1 fc_10_1) ?_
  refine xs_step (fun K HC => xr_iload_n HC.1 12 26 (n := 1) (ix := 1) (j := 1) (x := v1) rfl rfl rfl rfl) ?_
  refine xs_step (fun K HC => xr_iload_n HC.1 13 27 (n := 2) (ix := 2) (j := 2) (x := v2) rfl rfl rfl rfl) ?_
  refine xs_step (fun K HC => xr_iushr HC.1 14 28 rfl rfl) ?_
  refine xs_step (fun K HC => xr_i2b HC.1 15 29 rfl rfl) ?_
  refine xs_chk (fun hb_2 => ?_)
  refine xs_heap (hp_mo_si _ _ _ _) (fun K HC => xr_bast HC.1 16 30 (hp_in_vp hb_2) rfl rfl) (fun h_3 => ?_)
  refine xs_step (fun K HC => xr_aload_n HC.1 17 31 (n := 0) (ix := 0) (j := 0) (c := 10) (x := v0) rfl rfl rfl rfl) ?_
  refine xs_step (fun K HC => xr_dup HC.1 18 32 rfl rfl rfl) ?_
  refine xs_step (fun K HC => xr_geti HC.1 19 35 10 1 rfl rfl wf_X_51 (by decide) fb_10_1 fc_10_1) ?_
  refine xs_step (fun K HC => xr_iconst HC.1 20 36 (n := (1)) (1 : Int32) rfl rfl rfl) ?_
  refine xs_step (fun K HC => xr_iadd HC.1 21 37 rfl rfl) ?_
  refine xs_heap (hp_mo_si _ _ _ _) (fun K HC => xr_puti HC.1 22 40 10 1 rfl rfl wf_X_51 (by decide) fb_10_1 fn_10_1 fy_10_1) (fun h_4 => ?_)
  refine xs_gen (fun v2_5 ev2_5 => ?_)
  refine xs_step (fun K HC => xr_iinc HC.1 23 43 (ix := 2) (j := 2) (n := (-8)) (x := v2) v2_5 (lv' := [(0, av_R 10 (some v0)), (1, av_I v1), (2, av_I v2_5)]) rfl (by rw [ev2_5]; rfl) rfl rfl (by decide) rfl) ?_
  refine xs_step (fun K HC => xr_goto HC.1 24 3 rfl (by decide)) ?_
  exact xs_back rfl (fun K q => q)
theorem t_X_putOnTape_3 (v0 : Nat) (v1 : Int32) (v2 : Int32) (h : HP) : xx_S (xx_D "LampYard" tb_X_putOnTape 3 1 none false) xz_v (fun K => xL_v K) 3 [(0, av_R 10 (some v0)), (1, av_I v1), (2, av_I v2)] [] h (f_X_putOnTape_3 v0 v1 v2 h) :=
  xs_loop (zf := xz_v) (L := (fun K => xL_v K)) (fun s : (Int32 × HP) => [(0, av_R 10 (some v0)), (1, av_I v1), (2, av_I s.1)]) (fun s : (Int32 × HP) => s.2) (fun s => t_X_putOnTape_3b v0 v1 s.1 s.2) (v2, h)
set_option maxHeartbeats 4000000 in
set_option maxRecDepth 100000 in
theorem t_X_putOnTape (v0 : Nat) (v1 : Int32) (h : HP) : xx_S (xx_D "LampYard" tb_X_putOnTape 3 1 none false) xz_v (fun K => xL_v K) 0 [(0, av_R 10 (some v0)), (1, av_I v1)] [] h (f_X_putOnTape v0 v1 h) := by
  unfold f_X_putOnTape
  refine xs_step (fun K HC => xr_bipush HC.1 0 2 (n := (24)) (24 : Int32) rfl rfl rfl) ?_
  refine xs_step (fun K HC => xr_istore_n HC.1 1 3 (n := 2) (ix := 2) (lv' := [(0, av_R 10 (some v0)), (1, av_I v1), (2, av_I (24 : Int32))]) rfl rfl rfl (by decide) rfl) ?_
  exact t_X_putOnTape_3 v0 v1 (24 : Int32) h
theorem s_X_putOnTape (v0 : Nat) (v1 : Int32) (h : HP) : ∀ x, f_X_putOnTape v0 v1 h = some x → hp_mo h x ∧ ∀ g l, xx_M g l y_X_putOnTape prog_1_method_36_code 3 none 1 [av_R 10 (some v0), av_I v1] h none x :=
  xM_v (tb := tb_X_putOnTape) (b := false) (by decide +kernel) dt_X_putOnTape trivial (Nat.le_of_ble_eq_true rfl) (fun hb => by cases hb) (t_X_putOnTape v0 v1 h)
def tb_X_feed : TBL := [(0, .aload_n 0, 1), (1, .getfield 51, 3), (4, .sipush 1380, 3), (7, .if_icmp .le 5, 3), (10, .iconst (-1), 1), (11, .ireturn, 1), (12, .aload_n 0, 1), (13, .iload_n 1, 1), (14, .invokevirtual 55, 3), (17, .aload_n 0, 1), (18, .iload_n 2, 1), (19, .invokevirtual 55, 3), (22, .aload_n 0, 1), (23, .iload_n 3, 1), (24, .invokevirtual 55, 3), (27, .aload_n 0, 1), (28, .iload 4, 2), (30, .invokevirtual 55, 3), (33, .aload_n 0, 1), (34, .iload 5, 2), (36, .invokevirtual 55, 3), (39, .aload_n 0, 1), (40, .getfield 51, 3), (43, .ireturn, 1)]
theorem dt_X_feed : ∀ q ∈ tb_X_feed, decode prog_1_method_2_code q.1 = .ok (q.2.1, q.2.2) := by decide +kernel
set_option maxHeartbeats 4000000 in
set_option maxRecDepth 100000 in
theorem t_X_feed (v0 : Nat) (v1 : Int32) (v2 : Int32) (v3 : Int32) (v4 : Int32) (v5 : Int32) (h : HP) : xx_S (xx_D "LampYard" tb_X_feed 6 2 (some .int) false) xz_i (fun K => xL_i K) 0 [(0, av_R 10 (some v0)), (1, av_I v1), (2, av_I v2), (3, av_I v3), (4, av_I v4), (5, av_I v5)] [] h (f_X_feed v0 v1 v2 v3 v4 v5 h) := by
  unfold f_X_feed
  refine xs_step (fun K HC => xr_aload_n HC.1 0 1 (n := 0) (ix := 0) (j := 0) (c := 10) (x := v0) rfl rfl rfl rfl) ?_
  refine xs_step (fun K HC => xr_geti HC.1 1 4 10 1 rfl rfl wf_X_51 (by decide) fb_10_1 fc_10_1) ?_
  refine xs_step (fun K HC => xr_sipush HC.1 2 7 (n := (1380)) (1380 : Int32) rfl rfl rfl) ?_
  refine xs_ite (fun K HC => xr_icmp_le HC.1 3 12 10 rfl (by decide) rfl) ?_ ?_
  · refine xs_step (fun K HC => xr_aload_n HC.1 6 13 (n := 0) (ix := 0) (j := 0) (c := 10) (x := v0) rfl rfl rfl rfl) ?_
    refine xs_step (fun K HC => xr_iload_n HC.1 7 14 (n := 1) (ix := 1) (j := 1) (x := v1) rfl rfl rfl rfl) ?_
    refine xs_callv (s_X_putOnTape v0 v1 h) (fun K HC x9 hM hmo hb => xr_callV HC.1 8 17 (av := [av_I v1]) (st := []) (hM (kg K) (cx_l (kx K))) hmo hb rfl rfl wm_X_55 wi_X_putOnTape ws_X_putOnTape wc_X_putOnTape rfl wh_X_putOnTape (by decide) (by decide) (by decide) (Nat.le_of_ble_eq_true rfl) rfl) (fun x_1 => ?_)
    refine xs_step (fun K HC => xr_aload_n HC.1 9 18 (n := 0) (ix := 0) (j := 0) (c := 10) (x := v0) rfl rfl rfl rfl) ?_
    refine xs_step (fun K HC => xr_iload_n HC.1 10 19 (n := 2) (ix := 2) (j := 2) (x := v2) rfl rfl rfl rfl) ?_
    refine xs_callv (s_X_putOnTape v0 v2 x_1) (fun K HC x9 hM hmo hb => xr_callV HC.1 11 22 (av := [av_I v2]) (st := []) (hM (kg K) (cx_l (kx K))) hmo hb rfl rfl wm_X_55 wi_X_putOnTape ws_X_putOnTape wc_X_putOnTape rfl wh_X_putOnTape (by decide) (by decide) (by decide) (Nat.le_of_ble_eq_true rfl) rfl) (fun x_2 => ?_)
    refine xs_step (fun K HC => xr_aload_n HC.1 12 23 (n := 0) (ix := 0) (j := 0) (c := 10) (x := v0) rfl rfl rfl rfl) ?_
    refine xs_step (fun K HC => xr_iload_n HC.1 13 24 (n := 3) (ix := 3) (j := 3) (x := v3) rfl rfl rfl rfl) ?_
    refine xs_callv (s_X_putOnTape v0 v3 x_2) (fun K HC x9 hM hmo hb => xr_callV HC.1 14 27 (av := [av_I v3]) (st := []) (hM (kg K) (cx_l (kx K))) hmo hb rfl rfl wm_X_55 wi_X_putOnTape ws_X_putOnTape wc_X_putOnTape rfl wh_X_putOnTape (by decide) (by decide) (by decide) (Nat.le_of_ble_eq_true rfl) rfl) (fun x_3 => ?_)
    refine xs_step (fun K HC => xr_aload_n HC.1 15 28 (n := 0) (ix := 0) (j := 0) (c := 10) (x := v0) rfl rfl rfl rfl) ?_
    refine xs_step (fun K HC => xr_iload HC.1 16 30 (ix := 4) (j := 4) (x := v4) rfl rfl rfl) ?_
    refine xs_callv (s_X_putOnTape v0 v4 x_3) (fun K HC x9 hM hmo hb => xr_callV HC.1 17 33 (av := [av_I v4]) (st := []) (hM (kg K) (cx_l (kx K))) hmo hb rfl rfl wm_X_55 wi_X_putOnTape ws_X_putOnTape wc_X_putOnTape rfl wh_X_putOnTape (by decide) (by decide) (by decide) (Nat.le_of_ble_eq_true rfl) rfl) (fun x_4 => ?_)
    refine xs_step (fun K HC => xr_aload_n HC.1 18 34 (n := 0) (ix := 0) (j := 0) (c := 10) (x := v0) rfl rfl rfl rfl) ?_
    refine xs_step (fun K HC => xr_iload HC.1 19 36 (ix := 5) (j := 5) (x := v5) rfl rfl rfl) ?_
    refine xs_callv (s_X_putOnTape v0 v5 x_4) (fun K HC x9 hM hmo hb => xr_callV HC.1 20 39 (av := [av_I v5]) (st := []) (hM (kg K) (cx_l (kx K))) hmo hb rfl rfl wm_X_55 wi_X_putOnTape ws_X_putOnTape wc_X_putOnTape rfl wh_X_putOnTape (by decide) (by decide) (by decide) (Nat.le_of_ble_eq_true rfl) rfl) (fun x_5 => ?_)
    refine xs_step (fun K HC => xr_aload_n HC.1 21 40 (n := 0) (ix := 0) (j := 0) (c := 10) (x := v0) rfl rfl rfl rfl) ?_
    refine xs_step (fun K HC => xr_geti HC.1 22 43 10 1 rfl rfl wf_X_51 (by decide) fb_10_1 fc_10_1) ?_
    exact xs_reti 23 rfl rfl (fun K q => q) (fun ty ht => by cases ht; rfl)
  refine xs_step (fun K HC => xr_iconst HC.1 4 11 (n := (-1)) (-1 : Int32) rfl rfl rfl) ?_
  exact xs_reti 5 rfl rfl (fun K q => q) (fun ty ht => by cases ht; rfl)
theorem s_X_feed (v0 : Nat) (v1 : Int32) (v2 : Int32) (v3 : Int32) (v4 : Int32) (v5 : Int32) (h : HP) : ∀ x, f_X_feed v0 v1 v2 v3 v4 v5 h = some x → hp_mo h x.2 ∧ ∀ g l, xx_M g l y_X_feed prog_1_method_2_code 6 (some .int) 2 [av_R 10 (some v0), av_I v1, av_I v2, av_I v3, av_I v4, av_I v5] h (some (av_I x.1)) x.2 :=
  xM_i (tb := tb_X_feed) (b := false) (by decide +kernel) dt_X_feed (fun _ => trivial) (Nat.le_of_ble_eq_true rfl) (fun hb => by cases hb) (t_X_feed v0 v1 v2 v3 v4 v5 h)
def tb_X_end : TBL := [(0, .iload_n 1, 1), (1, .ifCond .lt 11, 3), (4, .iload_n 1, 1), (5, .aload_n 0, 1), (6, .getfield 51, 3), (9, .if_icmp .le 5, 3), (12, .iconst (-1), 1), (13, .ireturn, 1), (14, .aload_n 0, 1), (15, .iload_n 1, 1), (16, .putfield 51, 3), (19, .iload_n 1, 1), (20, .ireturn, 1)]
theorem dt_X_end : ∀ q ∈ tb_X_end, decode prog_1_method_3_code q.1 = .ok (q.2.1, q.2.2) := by decide +kernel
set_option maxHeartbeats 4000000 in
set_option maxRecDepth 100000 in
theorem t_X_end (v0 : Nat) (v1 : Int32) (h : HP) : xx_S (xx_D "LampYard" tb_X_end 2 1 (some .int) false) xz_i (fun K => xL_i K) 0 [(0, av_R 10 (some v0)), (1, av_I v1)] [] h (f_X_end v0 v1 h) := by
  unfold f_X_end
  refine xs_step (fun K HC => xr_iload_n HC.1 0 1 (n := 1) (ix := 1) (j := 1) (x := v1) rfl rfl rfl rfl) ?_
  refine xs_ite (fun K HC => xr_if_lt HC.1 1 12 4 rfl (by decide) rfl) ?_ ?_
  · refine xs_step (fun K HC => xr_iconst HC.1 6 13 (n := (-1)) (-1 : Int32) rfl rfl rfl) ?_
    exact xs_reti 7 rfl rfl (fun K q => q) (fun ty ht => by cases ht; rfl)
  refine xs_step (fun K HC => xr_iload_n HC.1 2 5 (n := 1) (ix := 1) (j := 1) (x := v1) rfl rfl rfl rfl) ?_
  refine xs_step (fun K HC => xr_aload_n HC.1 3 6 (n := 0) (ix := 0) (j := 0) (c := 10) (x := v0) rfl rfl rfl rfl) ?_
  refine xs_step (fun K HC => xr_geti HC.1 4 9 10 1 rfl rfl wf_X_51 (by decide) fb_10_1 fc_10_1) ?_
  refine xs_ite (fun K HC => xr_icmp_le HC.1 5 14 12 rfl (by decide) rfl) ?_ ?_
  · refine xs_step (fun K HC => xr_aload_n HC.1 8 15 (n := 0) (ix := 0) (j := 0) (c := 10) (x := v0) rfl rfl rfl rfl) ?_
    refine xs_step (fun K HC => xr_iload_n HC.1 9 16 (n := 1) (ix := 1) (j := 1) (x := v1) rfl rfl rfl rfl) ?_
    refine xs_heap (hp_mo_si _ _ _ _) (fun K HC => xr_puti HC.1 10 19 10 1 rfl rfl wf_X_51 (by decide) fb_10_1 fn_10_1 fy_10_1) (fun h_1 => ?_)
    refine xs_step (fun K HC => xr_iload_n HC.1 11 20 (n := 1) (ix := 1) (j := 1) (x := v1) rfl rfl rfl rfl) ?_
    exact xs_reti 12 rfl rfl (fun K q => q) (fun ty ht => by cases ht; rfl)
  refine xs_step (fun K HC => xr_iconst HC.1 6 13 (n := (-1)) (-1 : Int32) rfl rfl rfl) ?_
  exact xs_reti 7 rfl rfl (fun K q => q) (fun ty ht => by cases ht; rfl)
theorem s_X_end (v0 : Nat) (v1 : Int32) (h : HP) : ∀ x, f_X_end v0 v1 h = some x → hp_mo h x.2 ∧ ∀ g l, xx_M g l y_X_end prog_1_method_3_code 2 (some .int) 1 [av_R 10 (some v0), av_I v1] h (some (av_I x.1)) x.2 :=
  xM_i (tb := tb_X_end) (b := false) (by decide +kernel) dt_X_end (fun _ => trivial) (Nat.le_of_ble_eq_true rfl) (fun hb => by cases hb) (t_X_end v0 v1 h)
def tb_Rd_byteAt : TBL := [(0, .iload_n 1, 1), (1, .ifCond .lt 20, 3), (4, .iload_n 1, 1), (5, .aload_n 0, 1), (6, .getfield 41, 3), (9, .if_icmp .ge 12, 3), (12, .aload_n 0, 1), (13, .getfield 31, 3), (16, .iload_n 1, 1), (17, .baload, 1), (18, .goto 4, 3), (21, .iconst (-1), 1), (22, .ireturn, 1)]
theorem dt_Rd_byteAt : ∀ q ∈ tb_Rd_byteAt, decode prog_7_method_11_code q.1 = .ok (q.2.1, q.2.2) := by decide +kernel
set_option maxHeartbeats 4000000 in
set_option maxRecDepth 100000 in
theorem t_Rd_byteAt (v0 : Nat) (v1 : Int32) (h : HP) : xx_S (xx_D "LampYard$Reader" tb_Rd_byteAt 2 1 (some .int) false) xz_i (fun K => xL_i K) 0 [(0, av_R 5 (some v0)), (1, av_I v1)] [] h (f_Rd_byteAt v0 v1 h) := by
  unfold f_Rd_byteAt
  refine xs_step (fun K HC => xr_iload_n HC.1 0 1 (n := 1) (ix := 1) (j := 1) (x := v1) rfl rfl rfl rfl) ?_
  refine xs_ite (fun K HC => xr_if_lt HC.1 1 21 4 rfl (by decide) rfl) ?_ ?_
  · refine xs_step (fun K HC => xr_iconst HC.1 11 22 (n := (-1)) (-1 : Int32) rfl rfl rfl) ?_
    exact xs_reti 12 rfl rfl (fun K q => q) (fun ty ht => by cases ht; rfl)
  refine xs_step (fun K HC => xr_iload_n HC.1 2 5 (n := 1) (ix := 1) (j := 1) (x := v1) rfl rfl rfl rfl) ?_
  refine xs_step (fun K HC => xr_aload_n HC.1 3 6 (n := 0) (ix := 0) (j := 0) (c := 5) (x := v0) rfl rfl rfl rfl) ?_
  refine xs_step (fun K HC => xr_geti HC.1 4 9 5 3 rfl rfl wf_Rd_41 (by decide) fb_5_3 fc_5_3) ?_
  refine xs_ite (fun K HC => xr_icmp_ge HC.1 5 21 12 rfl (by decide) rfl) ?_ ?_
  · refine xs_step (fun K HC => xr_iconst HC.1 11 22 (n := (-1)) (-1 : Int32) rfl rfl rfl) ?_
    exact xs_reti 12 rfl rfl (fun K q => q) (fun ty ht => by cases ht; rfl)
  refine xs_step (fun K HC => xr_aload_n HC.1 6 13 (n := 0) (ix := 0) (j := 0) (c := 5) (x := v0) rfl rfl rfl rfl) ?_
  refine xs_bind (fun q_1 eq_1 => ?_)
  refine xs_step (fun K HC => xr_getr HC.1 7 16 5 2 12 eq_1 rfl rfl wf_Rd_31 (by decide) fb_5_2 fc_5_2 fd_5_2) ?_
  refine xs_step (fun K HC => xr_iload_n HC.1 8 17 (n := 1) (ix := 1) (j := 1) (x := v1) rfl rfl rfl rfl) ?_
  refine xs_chk (fun hb_2 => ?_)
  refine xs_step (fun K HC => xr_bald HC.1 9 18 (hp_in_vp hb_2) rfl rfl) ?_
  refine xs_step (fun K HC => xr_goto HC.1 10 22 rfl (by decide)) ?_
  exact xs_reti 12 rfl rfl (fun K q => q) (fun ty ht => by cases ht; rfl)
theorem s_Rd_byteAt (v0 : Nat) (v1 : Int32) (h : HP) : ∀ x, f_Rd_byteAt v0 v1 h = some x → hp_mo h x.2 ∧ ∀ g l, xx_M g l y_Rd_byteAt prog_7_method_11_code 2 (some .int) 1 [av_R 5 (some v0), av_I v1] h (some (av_I x.1)) x.2 :=
  xM_i (tb := tb_Rd_byteAt) (b := false) (by decide +kernel) dt_Rd_byteAt (fun _ => trivial) (Nat.le_of_ble_eq_true rfl) (fun hb => by cases hb) (t_Rd_byteAt v0 v1 h)
def tb_Rd_afterBlanks : TBL := [(0, .iload_n 1, 1), (1, .istore_n 2, 1), (2, .iconst 0, 1), (3, .istore_n 3, 1), (4, .iload_n 3, 1), (5, .sipush 1400, 3), (8, .if_icmp .ge 32, 3), (11, .aload_n 0, 1), (12, .iload_n 2, 1), (13, .invokevirtual 82, 3), (16, .bipush 32, 2), (18, .if_icmp .eq 13, 3), (21, .aload_n 0, 1), (22, .iload_n 2, 1), (23, .invokevirtual 82, 3), (26, .bipush 10, 2), (28, .if_icmp .ne 12, 3), (31, .iinc 2 1, 3), (34, .iinc 3 1, 3), (37, .goto (-33), 3), (40, .iload_n 2, 1), (41, .ireturn, 1)]
theorem dt_Rd_afterBlanks : ∀ q ∈ tb_Rd_afterBlanks, decode prog_7_method_4_code q.1 = .ok (q.2.1, q.2.2) := by decide +kernel
set_option maxHeartbeats 4000000 in
set_option maxRecDepth 100000 in
theorem t_Rd_afterBlanks_31 (v0 : Nat) (v2 : Int32) (v3 : Int32) (h : HP) : xx_S (xx_D "LampYard$Reader" tb_Rd_afterBlanks 4 2 (some .int) false) (xx_z2 (fun s : (Int32 × Int32 × HP) => s.2.2) xz_i) (fun K => xx_L2 (fun s : (Int32 × Int32 × HP) => xx_X K 4 [(0, av_R 5 (some v0)), (2, av_I s.1), (3, av_I s.2.1)] [] (s.2.2)) (xL_i K)) 31 [(0, av_R 5 (some v0)), (2, av_I v2), (3, av_I v3)] [] h (f_Rd_afterBlanks_31 v0 v2 v3 h) := by
  unfold f_Rd_afterBlanks_31
  refine xs_gen (fun v2_2 ev2_2 => ?_)
  refine xs_step (fun K HC => xr_iinc HC.1 17 34 (ix := 2) (j := 1) (n := (1)) (x := v2) v2_2 (lv' := [(0, av_R 5 (some v0)), (2, av_I v2_2), (3, av_I v3)]) rfl (by rw [ev2_2]; rfl) rfl rfl (by decide) rfl) ?_
  refine xs_gen (fun v3_3 ev3_3 => ?_)
  refine xs_step (fun K HC => xr_iinc HC.1 18 37 (ix := 3) (j := 2) (n := (1)) (x := v3) v3_3 (lv' := [(0, av_R 5 (some v0)), (2, av_I v2_2), (3, av_I v3_3)]) rfl (by rw [ev3_3]; rfl) rfl rfl (by decide) rfl) ?_
  refine xs_step (fun K HC => xr_goto HC.1 19 4 rfl (by decide)) ?_
  exact xs_back rfl (fun K q => q)
set_option maxHeartbeats 4000000 in
set_option maxRecDepth 100000 in
theorem t_Rd_afterBlanks_4b (v0 : Nat) (v2 : Int32) (v3 : Int32) (h : HP) : xx_S (xx_D "LampYard$Reader" tb_Rd_afterBlanks 4 2 (some .int) false) (xx_z2 (fun s : (Int32 × Int32 × HP) => s.2.2) xz_i) (fun K => xx_L2 (fun s : (Int32 × Int32 × HP) => xx_X K 4 [(0, av_R 5 (some v0)), (2, av_I s.1), (3, av_I s.2.1)] [] (s.2.2)) (xL_i K)) 4 [(0, av_R 5 (some v0)), (2, av_I v2), (3, av_I v3)] [] h (f_Rd_afterBlanks_4b v0 v2 v3 h) := by
  unfold f_Rd_afterBlanks_4b
  refine xs_step (fun K HC => xr_iload_n HC.1 4 5 (n := 3) (ix := 3) (j := 2) (x := v3) rfl rfl rfl rfl) ?_
  refine xs_step (fun K HC => xr_sipush HC.1 5 8 (n := (1400)) (1400 : Int32) rfl rfl rfl) ?_
  refine xs_ite (fun K HC => xr_icmp_ge HC.1 6 40 11 rfl (by decide) rfl) ?_ ?_
  · refine xs_step (fun K HC => xr_iload_n HC.1 20 41 (n := 2) (ix := 2) (j := 1) (x := v2) rfl rfl rfl rfl) ?_
    exact xs_reti 21 rfl rfl (fun K q => q) (fun ty ht => by cases ht; rfl)
  refine xs_step (fun K HC => xr_aload_n HC.1 7 12 (n := 0) (ix := 0) (j := 0) (c := 5) (x := v0) rfl rfl rfl rfl) ?_
  refine xs_step (fun K HC => xr_iload_n HC.1 8 13 (n := 2) (ix := 2) (j := 1) (x := v2) rfl rfl rfl rfl) ?_
  refine xs_calli (s_Rd_byteAt v0 v2 h) (fun K HC x9 hM hmo hb => xr_callV HC.1 9 16 (av := [av_I v2]) (st := []) (hM (kg K) (cx_l (kx K))) hmo hb rfl rfl wm_Rd_82 wi_Rd_byteAt ws_Rd_byteAt wc_Rd_byteAt rfl wh_Rd_byteAt (by decide) (by decide) (by decide) (Nat.le_of_ble_eq_true rfl) rfl) (fun x_1 => ?_)
  refine xs_step (fun K HC => xr_bipush HC.1 10 18 (n := (32)) (32 : Int32) rfl rfl rfl) ?_
  refine xs_ite (fun K HC => xr_icmp_eq HC.1 11 31 21 rfl (by decide) rfl) ?_ ?_
  · exact t_Rd_afterBlanks_31 v0 v2 v3 x_1.2
  refine xs_step (fun K HC => xr_aload_n HC.1 12 22 (n := 0) (ix := 0) (j := 0) (c := 5) (x := v0) rfl rfl rfl rfl) ?_
  refine xs_step (fun K HC => xr_iload_n HC.1 13 23 (n := 2) (ix := 2) (j := 1) (x := v2) rfl rfl rfl rfl) ?_
  refine xs_calli (s_Rd_byteAt v0 v2 x_1.2) (fun K HC x9 hM hmo hb => xr_callV HC.1 14 26 (av := [av_I v2]) (st := []) (hM (kg K) (cx_l (kx K))) hmo hb rfl rfl wm_Rd_82 wi_Rd_byteAt ws_Rd_byteAt wc_Rd_byteAt rfl wh_Rd_byteAt (by decide) (by decide) (by decide) (Nat.le_of_ble_eq_true rfl) rfl) (fun x_4 => ?_)
  refine xs_step (fun K HC => xr_bipush HC.1 15 28 (n := (10)) (10 : Int32) rfl rfl rfl) ?_
  refine xs_ite (fun K HC a b => xr_icmp_ne HC.1 16 40 31 rfl (by decide) rfl b a) ?_ ?_
  · exact t_Rd_afterBlanks_31 v0 v2 v3 x_4.2
  refine xs_step (fun K HC => xr_iload_n HC.1 20 41 (n := 2) (ix := 2) (j := 1) (x := v2) rfl rfl rfl rfl) ?_
  exact xs_reti 21 rfl rfl (fun K q => q) (fun ty ht => by cases ht; rfl)
theorem t_Rd_afterBlanks_4 (v0 : Nat) (v2 : Int32) (v3 : Int32) (h : HP) : xx_S (xx_D "LampYard$Reader" tb_Rd_afterBlanks 4 2 (some .int) false) xz_i (fun K => xL_i K) 4 [(0, av_R 5 (some v0)), (2, av_I v2), (3, av_I v3)] [] h (f_Rd_afterBlanks_4 v0 v2 v3 h) :=
  xs_loop (zf := xz_i) (L := (fun K => xL_i K)) (fun s : (Int32 × Int32 × HP) => [(0, av_R 5 (some v0)), (2, av_I s.1), (3, av_I s.2.1)]) (fun s : (Int32 × Int32 × HP) => s.2.2) (fun s => t_Rd_afterBlanks_4b v0 s.1 s.2.1 s.2.2) (v2, v3, h)
set_option maxHeartbeats 4000000 in
set_option maxRecDepth 100000 in
theorem t_Rd_afterBlanks (v0 : Nat) (v1 : Int32) (h : HP) : xx_S (xx_D "LampYard$Reader" tb_Rd_afterBlanks 4 2 (some .int) false) xz_i (fun K => xL_i K) 0 [(0, av_R 5 (some v0)), (1, av_I v1)] [] h (f_Rd_afterBlanks v0 v1 h) := by
  unfold f_Rd_afterBlanks
  refine xs_step (fun K HC => xr_iload_n HC.1 0 1 (n := 1) (ix := 1) (j := 1) (x := v1) rfl rfl rfl rfl) ?_
  refine xs_step (fun K HC => xr_istore_n HC.1 1 2 (n := 2) (ix := 2) (lv' := [(0, av_R 5 (some v0)), (1, av_I v1), (2, av_I v1)]) rfl rfl rfl (by decide) rfl) ?_
  refine xs_step (fun K HC => xr_iconst HC.1 2 3 (n := (0)) (0 : Int32) rfl rfl rfl) ?_
  refine xs_step (fun K HC => xr_istore_n HC.1 3 4 (n := 3) (ix := 3) (lv' := [(0, av_R 5 (some v0)), (1, av_I v1), (2, av_I v1), (3, av_I (0 : Int32))]) rfl rfl rfl (by decide) rfl) ?_
  refine xs_step (fun K HC => xr_sub (lv' := [(0, av_R 5 (some v0)), (2, av_I v1), (3, av_I (0 : Int32))]) [0, 2, 3] rfl) ?_
  exact t_Rd_afterBlanks_4 v0 v1 (0 : Int32) h
theorem s_Rd_afterBlanks (v0 : Nat) (v1 : Int32) (h : HP) : ∀ x, f_Rd_afterBlanks v0 v1 h = some x → hp_mo h x.2 ∧ ∀ g l, xx_M g l y_Rd_afterBlanks prog_7_method_4_code 4 (some .int) 2 [av_R 5 (some v0), av_I v1] h (some (av_I x.1)) x.2 :=
  xM_i (tb := tb_Rd_afterBlanks) (b := false) (by decide +kernel) dt_Rd_afterBlanks (fun _ => trivial) (Nat.le_of_ble_eq_true rfl) (fun hb => by cases hb) (t_Rd_afterBlanks v0 v1 h)
def tb_Rd_addToken : TBL := [(0, .aload_n 0, 1), (1, .getfield 72, 3), (4, .sipush 1400, 3), (7, .if_icmp .gt 43, 3), (10, .aload_n 0, 1), (11, .getfield 17, 3), (14, .aload_n 0, 1), (15, .getfield 72, 3), (18, .iload_n 1, 1), (19, .iastore, 1), (20, .aload_n 0, 1), (21, .getfield 21, 3), (24, .aload_n 0, 1), (25, .getfield 72, 3), (28, .iload_n 2, 1), (29, .iastore, 1), (30, .aload_n 0, 1), (31, .getfield 24, 3), (34, .aload_n 0, 1), (35, .getfield 72, 3), (38, .lload_n 3, 1), (39, .lastore, 1), (40, .aload_n 0, 1), (41, .dup, 1), (42, .getfield 72, 3), (45, .iconst 1, 1), (46, .iadd, 1), (47, .putfield 72, 3), (50, .iload 5, 2), (52, .ireturn, 1)]
theorem dt_Rd_addToken : ∀ q ∈ tb_Rd_addToken, decode prog_7_method_8_code q.1 = .ok (q.2.1, q.2.2) := by decide +kernel
set_option maxHeartbeats 4000000 in
set_option maxRecDepth 100000 in
theorem t_Rd_addToken (v0 : Nat) (v1 : Int32) (v2 : Int32) (v3 : Int64) (v5 : Int32) (h : HP) : xx_S (xx_D "LampYard$Reader" tb_Rd_addToken 6 1 (some .int) false) xz_i (fun K => xL_i K) 0 [(0, av_R 5 (some v0)), (1, av_I v1), (2, av_I v2), (3, av_L v3), (5, av_I v5)] [] h (f_Rd_addToken v0 v1 v2 v3 v5 h) := by
  unfold f_Rd_addToken
  refine xs_step (fun K HC => xr_aload_n HC.1 0 1 (n := 0) (ix := 0) (j := 0) (c := 5) (x := v0) rfl rfl rfl rfl) ?_
  refine xs_step (fun K HC => xr_geti HC.1 1 4 5 10 rfl rfl wf_Rd_72 (by decide) fb_5_10 fc_5_10) ?_
  refine xs_step (fun K HC => xr_sipush HC.1 2 7 (n := (1400)) (1400 : Int32) rfl rfl rfl) ?_
  refine xs_ite (fun K HC => xr_icmp_gt HC.1 3 50 10 rfl (by decide) rfl) ?_ ?_
  · refine xs_step (fun K HC => xr_iload HC.1 28 52 (ix := 5) (j := 4) (x := v5) rfl rfl rfl) ?_
    exact xs_reti 29 rfl rfl (fun K q => q) (fun ty ht => by cases ht; rfl)
  refine xs_step (fun K HC => xr_aload_n HC.1 4 11 (n := 0) (ix := 0) (j := 0) (c := 5) (x := v0) rfl rfl rfl rfl) ?_
  refine xs_bind (fun q_1 eq_1 => ?_)
  refine xs_step (fun K HC => xr_getr HC.1 5 14 5 7 13 eq_1 rfl rfl wf_Rd_17 (by decide) fb_5_7 fc_5_7 fd_5_7) ?_
  refine xs_step (fun K HC => xr_aload_n HC.1 6 15 (n := 0) (ix := 0) (j := 0) (c := 5) (x := v0) rfl rfl rfl rfl) ?_
  refine xs_step (fun K HC => xr_geti HC.1 7 18 5 10 rfl rfl wf_Rd_72 (by decide) fb_5_10 fc_5_10) ?_
  refine xs_step (fun K HC => xr_iload_n HC.1 8 19 (n := 1) (ix := 1) (j := 1) (x := v1) rfl rfl rfl rfl) ?_
  refine xs_chk (fun hb_2 => ?_)
  refine xs_heap (hp_mo_si _ _ _ _) (fun K HC => xr_iast HC.1 9 20 (hp_in_vp hb_2) rfl rfl) (fun h_3 => ?_)
  refine xs_step (fun K HC => xr_aload_n HC.1 10 21 (n := 0) (ix := 0) (j := 0) (c := 5) (x := v0) rfl rfl rfl rfl) ?_
  refine xs_bind (fun q_4 eq_4 => ?_)
  refine xs_step (fun K HC => xr_getr HC.1 11 24 5 8 13 eq_4 rfl rfl wf_Rd_21 (by decide) fb_5_8 fc_5_8 fd_5_8) ?_
  refine xs_step (fun K HC => xr_aload_n HC.1 12 25 (n := 0) (ix := 0) (j := 0) (c := 5) (x := v0) rfl rfl rfl rfl) ?_
  refine xs_step (fun K HC => xr_geti HC.1 13 28 5 10 rfl rfl wf_Rd_72 (by decide) fb_5_10 fc_5_10) ?_
  refine xs_step (fun K HC => xr_iload_n HC.1 14 29 (n := 2) (ix := 2) (j := 2) (x := v2) rfl rfl rfl rfl) ?_
  refine xs_chk (fun hb_5 => ?_)
  refine xs_heap (hp_mo_si _ _ _ _) (fun K HC => xr_iast HC.1 15 30 (hp_in_vp hb_5) rfl rfl) (fun h_6 => ?_)
  refine xs_step (fun K HC => xr_aload_n HC.1 16 31 (n := 0) (ix := 0) (j := 0) (c := 5) (x := v0) rfl rfl rfl rfl) ?_
  refine xs_bind (fun q_7 eq_7 => ?_)
  refine xs_step (fun K HC => xr_getr HC.1 17 34 5 9 14 eq_7 rfl rfl wf_Rd_24 (by decide) fb_5_9 fc_5_9 fd_5_9) ?_
  refine xs_step (fun K HC => xr_aload_n HC.1 18 35 (n := 0) (ix := 0) (j := 0) (c := 5) (x := v0) rfl rfl rfl rfl) ?_
  refine xs_step (fun K HC => xr_geti HC.1 19 38 5 10 rfl rfl wf_Rd_72 (by decide) fb_5_10 fc_5_10) ?_
  refine xs_step (fun K HC => xr_lload_n HC.1 20 39 (n := 3) (ix := 3) (j := 3) (x := v3) rfl rfl rfl rfl) ?_
  refine xs_chk (fun hb_8 => ?_)
  refine xs_heap (hp_mo_sl _ _ _ _) (fun K HC => xr_last HC.1 21 40 (hp_in_vp hb_8) rfl rfl) (fun h_9 => ?_)
  refine xs_step (fun K HC => xr_aload_n HC.1 22 41 (n := 0) (ix := 0) (j := 0) (c := 5) (x := v0) rfl rfl rfl rfl) ?_
  refine xs_step (fun K HC => xr_dup HC.1 23 42 rfl rfl rfl) ?_
  refine xs_step (fun K HC => xr_geti HC.1 24 45 5 10 rfl rfl wf_Rd_72 (by decide) fb_5_10 fc_5_10) ?_
  refine xs_step (fun K HC => xr_iconst HC.1 25 46 (n := (1)) (1 : Int32) rfl rfl rfl) ?_
  refine xs_step (fun K HC => xr_iadd HC.1 26 47 rfl rfl) ?_
  refine xs_heap (hp_mo_si _ _ _ _) (fun K HC => xr_puti HC.1 27 50 5 10 rfl rfl wf_Rd_72 (by decide) fb_5_10 fn_5_10 fy_5_10) (fun h_10 => ?_)
  refine xs_step (fun K HC => xr_iload HC.1 28 52 (ix := 5) (j := 4) (x := v5) rfl rfl rfl) ?_
  exact xs_reti 29 rfl rfl (fun K q => q) (fun ty ht => by cases ht; rfl)
theorem s_Rd_addToken (v0 : Nat) (v1 : Int32) (v2 : Int32) (v3 : Int64) (v5 : Int32) (h : HP) : ∀ x, f_Rd_addToken v0 v1 v2 v3 v5 h = some x → hp_mo h x.2 ∧ ∀ g l, xx_M g l y_Rd_addToken prog_7_method_8_code 6 (some .int) 1 [av_R 5 (some v0), av_I v1, av_I v2, av_L v3, av_I v5] h (some (av_I x.1)) x.2 :=
  xM_i (tb := tb_Rd_addToken) (b := false) (by decide +kernel) dt_Rd_addToken (fun _ => trivial) (Nat.le_of_ble_eq_true rfl) (fun hb => by cases hb) (t_Rd_addToken v0 v1 v2 v3 v5 h)
def tb_Rd_isLetter : TBL := [(0, .iload_n 0, 1), (1, .bipush 97, 2), (3, .if_icmp .lt 13, 3), (6, .iload_n 0, 1), (7, .bipush 122, 2), (9, .if_icmp .gt 7, 3), (12, .iconst 1, 1), (13, .goto 4, 3), (16, .iconst 0, 1), (17, .ireturn, 1)]
theorem dt_Rd_isLetter : ∀ q ∈ tb_Rd_isLetter, decode prog_7_method_12_code q.1 = .ok (q.2.1, q.2.2) := by decide +kernel
set_option maxHeartbeats 4000000 in
set_option maxRecDepth 100000 in
theorem t_Rd_isLetter (v0 : Int32) (h : HP) : xx_S (xx_D "LampYard$Reader" tb_Rd_isLetter 1 1 (some .boolean) false) xz_i (fun K => xL_i K) 0 [(0, av_I v0)] [] h (f_Rd_isLetter v0 h) := by
  unfold f_Rd_isLetter
  refine xs_step (fun K HC => xr_iload_n HC.1 0 1 (n := 0) (ix := 0) (j := 0) (x := v0) rfl rfl rfl rfl) ?_
  refine xs_step (fun K HC => xr_bipush HC.1 1 3 (n := (97)) (97 : Int32) rfl rfl rfl) ?_
  refine xs_ite (fun K HC => xr_icmp_lt HC.1 2 16 6 rfl (by decide) rfl) ?_ ?_
  · refine xs_step (fun K HC => xr_iconst HC.1 8 17 (n := (0)) (0 : Int32) rfl rfl rfl) ?_
    exact xs_reti 9 rfl rfl (fun K q => q) (fun ty ht => by cases ht; rfl)
  refine xs_step (fun K HC => xr_iload_n HC.1 3 7 (n := 0) (ix := 0) (j := 0) (x := v0) rfl rfl rfl rfl) ?_
  refine xs_step (fun K HC => xr_bipush HC.1 4 9 (n := (122)) (122 : Int32) rfl rfl rfl) ?_
  refine xs_ite (fun K HC => xr_icmp_gt HC.1 5 16 12 rfl (by decide) rfl) ?_ ?_
  · refine xs_step (fun K HC => xr_iconst HC.1 8 17 (n := (0)) (0 : Int32) rfl rfl rfl) ?_
    exact xs_reti 9 rfl rfl (fun K q => q) (fun ty ht => by cases ht; rfl)
  refine xs_step (fun K HC => xr_iconst HC.1 6 13 (n := (1)) (1 : Int32) rfl rfl rfl) ?_
  refine xs_step (fun K HC => xr_goto HC.1 7 17 rfl (by decide)) ?_
  exact xs_reti 9 rfl rfl (fun K q => q) (fun ty ht => by cases ht; rfl)
theorem s_Rd_isLetter (v0 : Int32) (h : HP) : ∀ x, f_Rd_isLetter v0 h = some x → hp_mo h x.2 ∧ ∀ g l, xx_M g l y_Rd_isLetter prog_7_method_12_code 1 (some .boolean) 1 [av_I v0] h (some (av_I x.1)) x.2 :=
  xM_i (tb := tb_Rd_isLetter) (b := false) (by decide +kernel) dt_Rd_isLetter (fun _ => trivial) (Nat.le_of_ble_eq_true rfl) (fun hb => by cases hb) (t_Rd_isLetter v0 h)
def tb_Rd_isWord : TBL := [(0, .iload_n 3, 1), (1, .bipush 8, 2), (3, .if_icmp .eq 16, 3), (6, .ldc 114, 2), (8, .iload_n 1, 1), (9, .iload_n 3, 1), (10, .iadd, 1), (11, .invokevirtual 116, 3), (14, .bipush 32, 2), (16, .if_icmp .ne 7, 3), (19, .iconst 1, 1), (20, .goto 4, 3), (23, .iconst 0, 1), (24, .istore 4, 2), (26, .iconst 0, 1), (27, .istore 5, 2), (29, .iload 5, 2), (31, .iload_n 3, 1), (32, .if_icmp .ge 41, 3), (35, .iload 4, 2), (37, .ifCond .eq 36, 3), (40, .ldc 114, 2), (42, .iload_n 1, 1), (43, .iload 5, 2), (45, .iadd, 1), (46, .invokevirtual 116, 3), (49, .aload_n 0, 1), (50, .iload_n 2, 1), (51, .iload 5, 2), (53, .iadd, 1), (54, .invokevirtual 82, 3), (57, .if_icmp .ne 7, 3), (60, .iconst 1, 1), (61, .goto 4, 3), (64, .iconst 0, 1), (65, .istore 4, 2), (67, .iinc 5 1, 3), (70, .goto (-41), 3), (73, .iload 4, 2), (75, .ireturn, 1)]
theorem dt_Rd_isWord : ∀ q ∈ tb_Rd_isWord, decode prog_7_method_10_code q.1 = .ok (q.2.1, q.2.2) := by decide +kernel
set_option maxHeartbeats 4000000 in
set_option maxRecDepth 100000 in
theorem t_Rd_isWord_65 (v0 : Nat) (v1 : Int32) (v2 : Int32) (v3 : Int32) (v5 : Int32) (s0 : Int32) (h : HP) : xx_S (xx_D "LampYard$Reader" tb_Rd_isWord 6 8 (some .boolean) false) (xx_z2 (fun s : (Int32 × Int32 × HP) => s.2.2) xz_i) (fun K => xx_L2 (fun s : (Int32 × Int32 × HP) => xx_X K 29 [(0, av_R 5 (some v0)), (1, av_I v1), (2, av_I v2), (3, av_I v3), (4, av_I s.1), (5, av_I s.2.1)] [] (s.2.2)) (xL_i K)) 65 [(0, av_R 5 (some v0)), (1, av_I v1), (2, av_I v2), (3, av_I v3), (5, av_I v5)] [av_I s0] h (f_Rd_isWord_65 v0 v1 v2 v3 v5 s0 h) := by
  unfold f_Rd_isWord_65
  refine xs_step (fun K HC => xr_istore HC.1 35 67 (ix := 4) (lv' := [(0, av_R 5 (some v0)), (1, av_I v1), (2, av_I v2), (3, av_I v3), (4, av_I s0), (5, av_I v5)]) rfl rfl (by decide) rfl) ?_
  refine xs_gen (fun v5_5 ev5_5 => ?_)
  refine xs_step (fun K HC => xr_iinc HC.1 36 70 (ix := 5) (j := 5) (n := (1)) (x := v5) v5_5 (lv' := [(0, av_R 5 (some v0)), (1, av_I v1), (2, av_I v2), (3, av_I v3), (4, av_I s0), (5, av_I v5_5)]) rfl (by rw [ev5_5]; rfl) rfl rfl (by decide) rfl) ?_
  refine xs_step (fun K HC => xr_goto HC.1 37 29 rfl (by decide)) ?_
  exact xs_back rfl (fun K q => q)
set_option maxHeartbeats 4000000 in
set_option maxRecDepth 100000 in
theorem t_Rd_isWord_29b (v0 : Nat) (v1 : Int32) (v2 : Int32) (v3 : Int32) (v4 : Int32) (v5 : Int32) (h : HP) : xx_S (xx_D "LampYard$Reader" tb_Rd_isWord 6 8 (some .boolean) false) (xx_z2 (fun s : (Int32 × Int32 × HP) => s.2.2) xz_i) (fun K => xx_L2 (fun s : (Int32 × Int32 × HP) => xx_X K 29 [(0, av_R 5 (some v0)), (1, av_I v1), (2, av_I v2), (3, av_I v3), (4, av_I s.1), (5, av_I s.2.1)] [] (s.2.2)) (xL_i K)) 29 [(0, av_R 5 (some v0)), (1, av_I v1), (2, av_I v2), (3, av_I v3), (4, av_I v4), (5, av_I v5)] [] h (f_Rd_isWord_29b v0 v1 v2 v3 v4 v5 h) := by
  unfold f_Rd_isWord_29b
  refine xs_step (fun K HC => xr_iload HC.1 16 31 (ix := 5) (j := 5) (x := v5) rfl rfl rfl) ?_
  refine xs_step (fun K HC => xr_iload_n HC.1 17 32 (n := 3) (ix := 3) (j := 3) (x := v3) rfl rfl rfl rfl) ?_
  refine xs_ite (fun K HC => xr_icmp_ge HC.1 18 73 35 rfl (by decide) rfl) ?_ ?_
  · refine xs_step (fun K HC => xr_iload HC.1 38 75 (ix := 4) (j := 4) (x := v4) rfl rfl rfl) ?_
    refine xs_chk (fun hz_1 => ?_)
    exact xs_reti 39 rfl rfl (fun K q => q) (fun ty ht => by cases ht; rcases hp_z01_or hz_1 with e9 | e9 <;> rw [e9] <;> rfl)
  refine xs_step (fun K HC => xr_iload HC.1 19 37 (ix := 4) (j := 4) (x := v4) rfl rfl rfl) ?_
  refine xs_ite (fun K HC => xr_if_eq HC.1 20 73 40 rfl (by decide) rfl) ?_ ?_
  · refine xs_step (fun K HC => xr_iload HC.1 38 75 (ix := 4) (j := 4) (x := v4) rfl rfl rfl) ?_
    refine xs_chk (fun hz_2 => ?_)
    exact xs_reti 39 rfl rfl (fun K q => q) (fun ty ht => by cases ht; rcases hp_z01_or hz_2 with e9 | e9 <;> rw [e9] <;> rfl)
  refine xs_chk (fun hb_3 => ?_)
  refine xs_stepb (fun K HC hb9 kk9 => xr_str HC.1 21 42 rfl rfl rfl (xr_iload_n HC.1 22 43 (n := 1) (ix := 1) (j := 1) (x := v1) rfl rfl rfl rfl (xr_iload HC.1 23 45 (ix := 5) (j := 5) (x := v5) rfl rfl rfl (xr_iadd HC.1 24 46 rfl rfl (xr_charAt HC.1 25 49 (hp_in_vp hb_3) hb9 rfl rfl wm_Rd_116 (by decide) (Nat.le_of_ble_eq_true rfl) kk9))))) ?_
  refine xs_step (fun K HC => xr_aload_n HC.1 26 50 (n := 0) (ix := 0) (j := 0) (c := 5) (x := v0) rfl rfl rfl rfl) ?_
  refine xs_step (fun K HC => xr_iload_n HC.1 27 51 (n := 2) (ix := 2) (j := 2) (x := v2) rfl rfl rfl rfl) ?_
  refine xs_step (fun K HC => xr_iload HC.1 28 53 (ix := 5) (j := 5) (x := v5) rfl rfl rfl) ?_
  refine xs_step (fun K HC => xr_iadd HC.1 29 54 rfl rfl) ?_
  refine xs_calli (s_Rd_byteAt v0 (v2 + v5) h) (fun K HC x9 hM hmo hb => xr_callV HC.1 30 57 (av := [av_I (v2 + v5)]) (st := [av_I (ly_ch (v1 + v5))]) (hM (kg K) (cx_l (kx K))) hmo hb rfl rfl wm_Rd_82 wi_Rd_byteAt ws_Rd_byteAt wc_Rd_byteAt rfl wh_Rd_byteAt (by decide) (by decide) (by decide) (Nat.le_of_ble_eq_true rfl) rfl) (fun x_4 => ?_)
  refine xs_ite (fun K HC a b => xr_icmp_ne HC.1 31 64 60 rfl (by decide) rfl b a) ?_ ?_
  · refine xs_step (fun K HC => xr_iconst HC.1 32 61 (n := (1)) (1 : Int32) rfl rfl rfl) ?_
    refine xs_step (fun K HC => xr_goto HC.1 33 65 rfl (by decide)) ?_
    refine xs_step (fun K HC => xr_sub (lv' := [(0, av_R 5 (some v0)), (1, av_I v1), (2, av_I v2), (3, av_I v3), (5, av_I v5)]) [0, 1, 2, 3, 5] rfl) ?_
    exact t_Rd_isWord_65 v0 v1 v2 v3 v5 (1 : Int32) x_4.2
  refine xs_step (fun K HC => xr_iconst HC.1 34 65 (n := (0)) (0 : Int32) rfl rfl rfl) ?_
  refine xs_step (fun K HC => xr_sub (lv' := [(0, av_R 5 (some v0)), (1, av_I v1), (2, av_I v2), (3, av_I v3), (5, av_I v5)]) [0, 1, 2, 3, 5] rfl) ?_
  exact t_Rd_isWord_65 v0 v1 v2 v3 v5 (0 : Int32) x_4.2
theorem t_Rd_isWord_29 (v0 : Nat) (v1 : Int32) (v2 : Int32) (v3 : Int32) (v4 : Int32) (v5 : Int32) (h : HP) : xx_S (xx_D "LampYard$Reader" tb_Rd_isWord 6 8 (some .boolean) false) xz_i (fun K => xL_i K) 29 [(0, av_R 5 (some v0)), (1, av_I v1), (2, av_I v2), (3, av_I v3), (4, av_I v4), (5, av_I v5)] [] h (f_Rd_isWord_29 v0 v1 v2 v3 v4 v5 h) :=
  xs_loop (zf := xz_i) (L := (fun K => xL_i K)) (fun s : (Int32 × Int32 × HP) => [(0, av_R 5 (some v0)), (1, av_I v1), (2, av_I v2), (3, av_I v3), (4, av_I s.1), (5, av_I s.2.1)]) (fun s : (Int32 × Int32 × HP) => s.2.2) (fun s => t_Rd_isWord_29b v0 v1 v2 v3 s.1 s.2.1 s.2.2) (v4, v5, h)
set_option maxHeartbeats 4000000 in
set_option maxRecDepth 100000 in
theorem t_Rd_isWord_24 (v0 : Nat) (v1 : Int32) (v2 : Int32) (v3 : Int32) (s0 : Int32) (h : HP) : xx_S (xx_D "LampYard$Reader" tb_Rd_isWord 6 8 (some .boolean) false) xz_i (fun K => xL_i K) 24 [(0, av_R 5 (some v0)), (1, av_I v1), (2, av_I v2), (3, av_I v3)] [av_I s0] h (f_Rd_isWord_24 v0 v1 v2 v3 s0 h) := by
  unfold f_Rd_isWord_24
  refine xs_step (fun K HC => xr_istore HC.1 13 26 (ix := 4) (lv' := [(0, av_R 5 (some v0)), (1, av_I v1), (2, av_I v2), (3, av_I v3), (4, av_I s0)]) rfl rfl (by decide) rfl) ?_
  refine xs_step (fun K HC => xr_iconst HC.1 14 27 (n := (0)) (0 : Int32) rfl rfl rfl) ?_
  refine xs_step (fun K HC => xr_istore HC.1 15 29 (ix := 5) (lv' := [(0, av_R 5 (some v0)), (1, av_I v1), (2, av_I v2), (3, av_I v3), (4, av_I s0), (5, av_I (0 : Int32))]) rfl rfl (by decide) rfl) ?_
  exact t_Rd_isWord_29 v0 v1 v2 v3 s0 (0 : Int32) h
set_option maxHeartbeats 4000000 in
set_option maxRecDepth 100000 in
theorem t_Rd_isWord_19 (v0 : Nat) (v1 : Int32) (v2 : Int32) (v3 : Int32) (h : HP) : xx_S (xx_D "LampYard$Reader" tb_Rd_isWord 6 8 (some .boolean) false) xz_i (fun K => xL_i K) 19 [(0, av_R 5 (some v0)), (1, av_I v1), (2, av_I v2), (3, av_I v3)] [] h (f_Rd_isWord_19 v0 v1 v2 v3 h) := by
  unfold f_Rd_isWord_19
  refine xs_step (fun K HC => xr_iconst HC.1 10 20 (n := (1)) (1 : Int32) rfl rfl rfl) ?_
  refine xs_step (fun K HC => xr_goto HC.1 11 24 rfl (by decide)) ?_
  exact t_Rd_isWord_24 v0 v1 v2 v3 (1 : Int32) h
set_option maxHeartbeats 4000000 in
set_option maxRecDepth 100000 in
theorem t_Rd_isWord (v0 : Nat) (v1 : Int32) (v2 : Int32) (v3 : Int32) (h : HP) : xx_S (xx_D "LampYard$Reader" tb_Rd_isWord 6 8 (some .boolean) false) xz_i (fun K => xL_i K) 0 [(0, av_R 5 (some v0)), (1, av_I v1), (2, av_I v2), (3, av_I v3)] [] h (f_Rd_isWord v0 v1 v2 v3 h) := by
  unfold f_Rd_isWord
  refine xs_step (fun K HC => xr_iload_n HC.1 0 1 (n := 3) (ix := 3) (j := 3) (x := v3) rfl rfl rfl rfl) ?_
  refine xs_step (fun K HC => xr_bipush HC.1 1 3 (n := (8)) (8 : Int32) rfl rfl rfl) ?_
  refine xs_ite (fun K HC => xr_icmp_eq HC.1 2 19 6 rfl (by decide) rfl) ?_ ?_
  · exact t_Rd_isWord_19 v0 v1 v2 v3 h
  refine xs_chk (fun hb_6 => ?_)
  refine xs_stepb (fun K HC hb9 kk9 => xr_str HC.1 3 8 rfl rfl rfl (xr_iload_n HC.1 4 9 (n := 1) (ix := 1) (j := 1) (x := v1) rfl rfl rfl rfl (xr_iload_n HC.1 5 10 (n := 3) (ix := 3) (j := 3) (x := v3) rfl rfl rfl rfl (xr_iadd HC.1 6 11 rfl rfl (xr_charAt HC.1 7 14 (hp_in_vp hb_6) hb9 rfl rfl wm_Rd_116 (by decide) (Nat.le_of_ble_eq_true rfl) kk9))))) ?_
  refine xs_step (fun K HC => xr_bipush HC.1 8 16 (n := (32)) (32 : Int32) rfl rfl rfl) ?_
  refine xs_ite (fun K HC a b => xr_icmp_ne HC.1 9 23 19 rfl (by decide) rfl b a) ?_ ?_
  · exact t_Rd_isWord_19 v0 v1 v2 v3 h
  refine xs_step (fun K HC => xr_iconst HC.1 12 24 (n := (0)) (0 : Int32) rfl rfl rfl) ?_
  exact t_Rd_isWord_24 v0 v1 v2 v3 (0 : Int32) h
theorem s_Rd_isWord (v0 : Nat) (v1 : Int32) (v2 : Int32) (v3 : Int32) (h : HP) : ∀ x, f_Rd_isWord v0 v1 v2 v3 h = some x → hp_mo h x.2 ∧ ∀ g l, xx_M g l y_Rd_isWord prog_7_method_10_code 6 (some .boolean) 8 [av_R 5 (some v0), av_I v1, av_I v2, av_I v3] h (some (av_I x.1)) x.2 :=
  xM_i (tb := tb_Rd_isWord) (b := false) (by decide +kernel) dt_Rd_isWord (fun _ => trivial) (Nat.le_of_ble_eq_true rfl) (fun hb => by cases hb) (t_Rd_isWord v0 v1 v2 v3 h)
def tb_Rd_kindOfWord : TBL := [(0, .iconst 0, 1), (1, .istore_n 3, 1), (2, .iload_n 3, 1), (3, .bipush 20, 2), (5, .if_icmp .ge 24, 3), (8, .aload_n 0, 1), (9, .iload_n 3, 1), (10, .bipush 8, 2), (12, .imul, 1), (13, .iload_n 1, 1), (14, .iload_n 2, 1), (15, .invokevirtual 110, 3), (18, .ifCond .eq 5, 3), (21, .iload_n 3, 1), (22, .ireturn, 1), (23, .iinc 3 1, 3), (26, .goto (-24), 3), (29, .bipush 20, 2), (31, .ireturn, 1)]
theorem dt_Rd_kindOfWord : ∀ q ∈ tb_Rd_kindOfWord, decode prog_7_method_9_code q.1 = .ok (q.2.1, q.2.2) := by decide +kernel
set_option maxHeartbeats 4000000 in
set_option maxRecDepth 100000 in
theorem t_Rd_kindOfWord_2b (v0 : Nat) (v1 : Int32) (v2 : Int32) (v3 : Int32) (h : HP) : xx_S (xx_D "LampYard$Reader" tb_Rd_kindOfWord 4 9 (some .int) false) (xx_z2 (fun s : (Int32 × HP) => s.2) xz_i) (fun K => xx_L2 (fun s : (Int32 × HP) => xx_X K 2 [(0, av_R 5 (some v0)), (1, av_I v1), (2, av_I v2), (3, av_I s.1)] [] (s.2)) (xL_i K)) 2 [(0, av_R 5 (some v0)), (1, av_I v1), (2, av_I v2), (3, av_I v3)] [] h (f_Rd_kindOfWord_2b v0 v1 v2 v3 h) := by
  unfold f_Rd_kindOfWord_2b
  refine xs_step (fun K HC => xr_iload_n HC.1 2 3 (n := 3) (ix := 3) (j := 3) (x := v3) rfl rfl rfl rfl) ?_
  refine xs_step (fun K HC => xr_bipush HC.1 3 5 (n := (20)) (20 : Int32) rfl rfl rfl) ?_
  refine xs_ite (fun K HC => xr_icmp_ge HC.1 4 29 8 rfl (by decide) rfl) ?_ ?_
  · refine xs_step (fun K HC => xr_bipush HC.1 17 31 (n := (20)) (20 : Int32) rfl rfl rfl) ?_
    exact xs_reti 18 rfl rfl (fun K q => q) (fun ty ht => by cases ht; rfl)
  refine xs_step (fun K HC => xr_aload_n HC.1 5 9 (n := 0) (ix := 0) (j := 0) (c := 5) (x := v0) rfl rfl rfl rfl) ?_
  refine xs_step (fun K HC => xr_iload_n HC.1 6 10 (n := 3) (ix := 3) (j := 3) (x := v3) rfl rfl rfl rfl) ?_
  refine xs_step (fun K HC => xr_bipush HC.1 7 12 (n := (8)) (8 : Int32) rfl rfl rfl) ?_
  refine xs_step (fun K HC => xr_imul HC.1 8 13 rfl rfl) ?_
  refine xs_step (fun K HC => xr_iload_n HC.1 9 14 (n := 1) (ix := 1) (j := 1) (x := v1) rfl rfl rfl rfl) ?_
  refine xs_step (fun K HC => xr_iload_n HC.1 10 15 (n := 2) (ix := 2) (j := 2) (x := v2) rfl rfl rfl rfl) ?_
  refine xs_calli (s_Rd_isWord v0 (v3 * (8 : Int32)) v1 v2 h) (fun K HC x9 hM hmo hb => xr_callV HC.1 11 18 (av := [av_I (v3 * (8 : Int32)), av_I v1, av_I v2]) (st := []) (hM (kg K) (cx_l (kx K))) hmo hb rfl rfl wm_Rd_110 wi_Rd_isWord ws_Rd_isWord wc_Rd_isWord rfl wh_Rd_isWord (by decide) (by decide) (by decide) (Nat.le_of_ble_eq_true rfl) rfl) (fun x_1 => ?_)
  refine xs_ite (fun K HC => xr_if_eq HC.1 12 23 21 rfl (by decide) rfl) ?_ ?_
  · refine xs_gen (fun v3_2 ev3_2 => ?_)
    refine xs_step (fun K HC => xr_iinc HC.1 15 26 (ix := 3) (j := 3) (n := (1)) (x := v3) v3_2 (lv' := [(0, av_R 5 (some v0)), (1, av_I v1), (2, av_I v2), (3, av_I v3_2)]) rfl (by rw [ev3_2]; rfl) rfl rfl (by decide) rfl) ?_
    refine xs_step (fun K HC => xr_goto HC.1 16 2 rfl (by decide)) ?_
    exact xs_back rfl (fun K q => q)
  refine xs_step (fun K HC => xr_iload_n HC.1 13 22 (n := 3) (ix := 3) (j := 3) (x := v3) rfl rfl rfl rfl) ?_
  exact xs_reti 14 rfl rfl (fun K q => q) (fun ty ht => by cases ht; rfl)
theorem t_Rd_kindOfWord_2 (v0 : Nat) (v1 : Int32) (v2 : Int32) (v3 : Int32) (h : HP) : xx_S (xx_D "LampYard$Reader" tb_Rd_kindOfWord 4 9 (some .int) false) xz_i (fun K => xL_i K) 2 [(0, av_R 5 (some v0)), (1, av_I v1), (2, av_I v2), (3, av_I v3)] [] h (f_Rd_kindOfWord_2 v0 v1 v2 v3 h) :=
  xs_loop (zf := xz_i) (L := (fun K => xL_i K)) (fun s : (Int32 × HP) => [(0, av_R 5 (some v0)), (1, av_I v1), (2, av_I v2), (3, av_I s.1)]) (fun s : (Int32 × HP) => s.2) (fun s => t_Rd_kindOfWord_2b v0 v1 v2 s.1 s.2) (v3, h)
set_option maxHeartbeats 4000000 in
set_option maxRecDepth 100000 in
theorem t_Rd_kindOfWord (v0 : Nat) (v1 : Int32) (v2 : Int32) (h : HP) : xx_S (xx_D "LampYard$Reader" tb_Rd_kindOfWord 4 9 (some .int) false) xz_i (fun K => xL_i K) 0 [(0, av_R 5 (some v0)), (1, av_I v1), (2, av_I v2)] [] h (f_Rd_kindOfWord v0 v1 v2 h) := by
  unfold f_Rd_kindOfWord
  refine xs_step (fun K HC => xr_iconst HC.1 0 1 (n := (0)) (0 : Int32) rfl rfl rfl) ?_
  refine xs_step (fun K HC => xr_istore_n HC.1 1 2 (n := 3) (ix := 3) (lv' := [(0, av_R 5 (some v0)), (1, av_I v1), (2, av_I v2), (3, av_I (0 : Int32))]) rfl rfl rfl (by decide) rfl) ?_
  exact t_Rd_kindOfWord_2 v0 v1 v2 (0 : Int32) h
theorem s_Rd_kindOfWord (v0 : Nat) (v1 : Int32) (v2 : Int32) (h : HP) : ∀ x, f_Rd_kindOfWord v0 v1 v2 h = some x → hp_mo h x.2 ∧ ∀ g l, xx_M g l y_Rd_kindOfWord prog_7_method_9_code 4 (some .int) 9 [av_R 5 (some v0), av_I v1, av_I v2] h (some (av_I x.1)) x.2 :=
  xM_i (tb := tb_Rd_kindOfWord) (b := false) (by decide +kernel) dt_Rd_kindOfWord (fun _ => trivial) (Nat.le_of_ble_eq_true rfl) (fun hb => by cases hb) (t_Rd_kindOfWord v0 v1 v2 h)
def tb_Rd_takeWord : TBL := [(0, .iload_n 1, 1), (1, .istore_n 2, 1), (2, .lconst 0, 1), (3, .lstore_n 3, 1), (4, .iconst 0, 1), (5, .istore 5, 2), (7, .iload 5, 2), (9, .sipush 1400, 3), (12, .if_icmp .ge 41, 3), (15, .aload_n 0, 1), (16, .iload_n 2, 1), (17, .invokevirtual 82, 3), (20, .invokestatic 89, 3), (23, .ifCond .eq 30, 3), (26, .lload_n 3, 1), (27, .ldc2_w 105, 3), (30, .lmul, 1), (31, .aload_n 0, 1), (32, .iload_n 2, 1), (33, .invokevirtual 82, 3), (36, .bipush 97, 2), (38, .isub, 1), (39, .iconst 1, 1), (40, .iadd, 1), (41, .i2l, 1), (42, .ladd, 1), (43, .lstore_n 3, 1), (44, .iinc 2 1, 3), (47, .iinc 5 1, 3), (50, .goto (-43), 3), (53, .iload_n 2, 1), (54, .iload_n 1, 1), (55, .isub, 1), (56, .bipush 8, 2), (58, .if_icmp .le 13, 3), (61, .aload_n 0, 1), (62, .bipush 23, 2), (64, .iload_n 1, 1), (65, .lconst 0, 1), (66, .iconst (-1), 1), (67, .invokevirtual 85, 3), (70, .ireturn, 1), (71, .aload_n 0, 1), (72, .aload_n 0, 1), (73, .iload_n 1, 1), (74, .iload_n 2, 1), (75, .iload_n 1, 1), (76, .isub, 1), (77, .invokevirtual 107, 3), (80, .iload_n 1, 1), (81, .lload_n 3, 1), (82, .iload_n 2, 1), (83, .invokevirtual 85, 3), (86, .ireturn, 1)]
theorem dt_Rd_takeWord : ∀ q ∈ tb_Rd_takeWord, decode prog_7_method_6_code q.1 = .ok (q.2.1, q.2.2) := by decide +kernel
set_option maxHeartbeats 4000000 in
set_option maxRecDepth 100000 in
theorem t_Rd_takeWord_53 (v0 : Nat) (v1 : Int32) (v2 : Int32) (v3 : Int64) (h : HP) : xx_S (xx_D "LampYard$Reader" tb_Rd_takeWord 6 10 (some .int) false) xz_i (fun K => xL_i K) 53 [(0, av_R 5 (some v0)), (1, av_I v1), (2, av_I v2), (3, av_L v3)] [] h (f_Rd_takeWord_53 v0 v1 v2 v3 h) := by
  unfold f_Rd_takeWord_53
  refine xs_step (fun K HC => xr_iload_n HC.1 30 54 (n := 2) (ix := 2) (j := 2) (x := v2) rfl rfl rfl rfl) ?_
  refine xs_step (fun K HC => xr_iload_n HC.1 31 55 (n := 1) (ix := 1) (j := 1) (x := v1) rfl rfl rfl rfl) ?_
  refine xs_step (fun K HC => xr_isub HC.1 32 56 rfl rfl) ?_
  refine xs_step (fun K HC => xr_bipush HC.1 33 58 (n := (8)) (8 : Int32) rfl rfl rfl) ?_
  refine xs_ite (fun K HC => xr_icmp_le HC.1 34 71 61 rfl (by decide) rfl) ?_ ?_
  · refine xs_step (fun K HC => xr_aload_n HC.1 42 72 (n := 0) (ix := 0) (j := 0) (c := 5) (x := v0) rfl rfl rfl rfl) ?_
    refine xs_step (fun K HC => xr_aload_n HC.1 43 73 (n := 0) (ix := 0) (j := 0) (c := 5) (x := v0) rfl rfl rfl rfl) ?_
    refine xs_step (fun K HC => xr_iload_n HC.1 44 74 (n := 1) (ix := 1) (j := 1) (x := v1) rfl rfl rfl rfl) ?_
    refine xs_step (fun K HC => xr_iload_n HC.1 45 75 (n := 2) (ix := 2) (j := 2) (x := v2) rfl rfl rfl rfl) ?_
    refine xs_step (fun K HC => xr_iload_n HC.1 46 76 (n := 1) (ix := 1) (j := 1) (x := v1) rfl rfl rfl rfl) ?_
    refine xs_step (fun K HC => xr_isub HC.1 47 77 rfl rfl) ?_
    refine xs_calli (s_Rd_kindOfWord v0 v1 (v2 - v1) h) (fun K HC x9 hM hmo hb => xr_callV HC.1 48 80 (av := [av_I v1, av_I (v2 - v1)]) (st := [av_R 5 (some v0)]) (hM (kg K) (cx_l (kx K))) hmo hb rfl rfl wm_Rd_107 wi_Rd_kindOfWord ws_Rd_kindOfWord wc_Rd_kindOfWord rfl wh_Rd_kindOfWord (by decide) (by decide) (by decide) (Nat.le_of_ble_eq_true rfl) rfl) (fun x_1 => ?_)
    refine xs_step (fun K HC => xr_iload_n HC.1 49 81 (n := 1) (ix := 1) (j := 1) (x := v1) rfl rfl rfl rfl) ?_
    refine xs_step (fun K HC => xr_lload_n HC.1 50 82 (n := 3) (ix := 3) (j := 3) (x := v3) rfl rfl rfl rfl) ?_
    refine xs_step (fun K HC => xr_iload_n HC.1 51 83 (n := 2) (ix := 2) (j := 2) (x := v2) rfl rfl rfl rfl) ?_
    refine xs_calli (s_Rd_addToken v0 x_1.1 v1 v3 v2 x_1.2) (fun K HC x9 hM hmo hb => xr_callV HC.1 52 86 (av := [av_I x_1.1, av_I v1, av_L v3, av_I v2]) (st := []) (hM (kg K) (cx_l (kx K))) hmo hb rfl rfl wm_Rd_85 wi_Rd_addToken ws_Rd_addToken wc_Rd_addToken rfl wh_Rd_addToken (by decide) (by decide) (by decide) (Nat.le_of_ble_eq_true rfl) rfl) (fun x_2 => ?_)
    exact xs_reti 53 rfl rfl (fun K q => q) (fun ty ht => by cases ht; rfl)
  refine xs_step (fun K HC => xr_aload_n HC.1 35 62 (n := 0) (ix := 0) (j := 0) (c := 5) (x := v0) rfl rfl rfl rfl) ?_
  refine xs_step (fun K HC => xr_bipush HC.1 36 64 (n := (23)) (23 : Int32) rfl rfl rfl) ?_
  refine xs_step (fun K HC => xr_iload_n HC.1 37 65 (n := 1) (ix := 1) (j := 1) (x := v1) rfl rfl rfl rfl) ?_
  refine xs_step (fun K HC => xr_lconst HC.1 38 66 (n := 0) (0 : Int64) rfl rfl rfl) ?_
  refine xs_step (fun K HC => xr_iconst HC.1 39 67 (n := (-1)) (-1 : Int32) rfl rfl rfl) ?_
  refine xs_calli (s_Rd_addToken v0 (23 : Int32) v1 (0 : Int64) (-1 : Int32) h) (fun K HC x9 hM hmo hb => xr_callV HC.1 40 70 (av := [av_I (23 : Int32), av_I v1, av_L (0 : Int64), av_I (-1 : Int32)]) (st := []) (hM (kg K) (cx_l (kx K))) hmo hb rfl rfl wm_Rd_85 wi_Rd_addToken ws_Rd_addToken wc_Rd_addToken rfl wh_Rd_addToken (by decide) (by decide) (by decide) (Nat.le_of_ble_eq_true rfl) rfl) (fun x_3 => ?_)
  exact xs_reti 41 rfl rfl (fun K q => q) (fun ty ht => by cases ht; rfl)
set_option maxHeartbeats 4000000 in
set_option maxRecDepth 100000 in
theorem t_Rd_takeWord_7b (v0 : Nat) (v1 : Int32) (v2 : Int32) (v3 : Int64) (v5 : Int32) (h : HP) : xx_S (xx_D "LampYard$Reader" tb_Rd_takeWord 6 10 (some .int) false) (xx_z2 (fun s : (Int32 × Int64 × Int32 × HP) => s.2.2.2) xz_i) (fun K => xx_L2 (fun s : (Int32 × Int64 × Int32 × HP) => xx_X K 7 [(0, av_R 5 (some v0)), (1, av_I v1), (2, av_I s.1), (3, av_L s.2.1), (5, av_I s.2.2.1)] [] (s.2.2.2)) (xL_i K)) 7 [(0, av_R 5 (some v0)), (1, av_I v1), (2, av_I v2), (3, av_L v3), (5, av_I v5)] [] h (f_Rd_takeWord_7b v0 v1 v2 v3 v5 h) := by
  unfold f_Rd_takeWord_7b
  refine xs_step (fun K HC => xr_iload HC.1 6 9 (ix := 5) (j := 4) (x := v5) rfl rfl rfl) ?_
  refine xs_step (fun K HC => xr_sipush HC.1 7 12 (n := (1400)) (1400 : Int32) rfl rfl rfl) ?_
  refine xs_ite (fun K HC => xr_icmp_ge HC.1 8 53 15 rfl (by decide) rfl) ?_ ?_
  · refine xs_step (fun K HC => xr_sub (lv' := [(0, av_R 5 (some v0)), (1, av_I v1), (2, av_I v2), (3, av_L v3)]) [0, 1, 2, 3] rfl) ?_
    exact xs_map (fun _ => rfl) (fun _ _ q => q) (t_Rd_takeWord_53 v0 v1 v2 v3 h)
  refine xs_step (fun K HC => xr_aload_n HC.1 9 16 (n := 0) (ix := 0) (j := 0) (c := 5) (x := v0) rfl rfl rfl rfl) ?_
  refine xs_step (fun K HC => xr_iload_n HC.1 10 17 (n := 2) (ix := 2) (j := 2) (x := v2) rfl rfl rfl rfl) ?_
  refine xs_calli (s_Rd_byteAt v0 v2 h) (fun K HC x9 hM hmo hb => xr_callV HC.1 11 20 (av := [av_I v2]) (st := []) (hM (kg K) (cx_l (kx K))) hmo hb rfl rfl wm_Rd_82 wi_Rd_byteAt ws_Rd_byteAt wc_Rd_byteAt rfl wh_Rd_byteAt (by decide) (by decide) (by decide) (Nat.le_of_ble_eq_true rfl) rfl) (fun x_4 => ?_)
  refine xs_calli (s_Rd_isLetter x_4.1 x_4.2) (fun K HC x9 hM hmo hb => xr_callS HC.1 12 23 (av := [av_I x_4.1]) (st := []) (hM (kg K) (cx_l (kx K))) hmo hb rfl rfl wm_Rd_89 wt_Rd_isLetter wn_Rd_isLetter wc_Rd_isLetter wh_Rd_isLetter (by decide) (by decide) (Nat.le_of_ble_eq_true rfl) rfl) (fun x_5 => ?_)
  refine xs_ite (fun K HC => xr_if_eq HC.1 13 53 26 rfl (by decide) rfl) ?_ ?_
  · refine xs_step (fun K HC => xr_sub (lv' := [(0, av_R 5 (some v0)), (1, av_I v1), (2, av_I v2), (3, av_L v3)]) [0, 1, 2, 3] rfl) ?_
    exact xs_map (fun _ => rfl) (fun _ _ q => q) (t_Rd_takeWord_53 v0 v1 v2 v3 x_5.2)
  refine xs_step (fun K HC => xr_lload_n HC.1 14 27 (n := 3) (ix := 3) (j := 3) (x := v3) rfl rfl rfl rfl) ?_
  refine xs_step (fun K HC => xr_ldc2 HC.1 15 30 wk_Rd_105 rfl rfl) ?_
  refine xs_step (fun K HC => xr_lmul HC.1 16 31 rfl rfl) ?_
  refine xs_step (fun K HC => xr_aload_n HC.1 17 32 (n := 0) (ix := 0) (j := 0) (c := 5) (x := v0) rfl rfl rfl rfl) ?_
  refine xs_step (fun K HC => xr_iload_n HC.1 18 33 (n := 2) (ix := 2) (j := 2) (x := v2) rfl rfl rfl rfl) ?_
  refine xs_calli (s_Rd_byteAt v0 v2 x_5.2) (fun K HC x9 hM hmo hb => xr_callV HC.1 19 36 (av := [av_I v2]) (st := [av_L (v3 * (32 : Int64))]) (hM (kg K) (cx_l (kx K))) hmo hb rfl rfl wm_Rd_82 wi_Rd_byteAt ws_Rd_byteAt wc_Rd_byteAt rfl wh_Rd_byteAt (by decide) (by decide) (by decide) (Nat.le_of_ble_eq_true rfl) rfl) (fun x_6 => ?_)
  refine xs_step (fun K HC => xr_bipush HC.1 20 38 (n := (97)) (97 : Int32) rfl rfl rfl) ?_
  refine xs_step (fun K HC => xr_isub HC.1 21 39 rfl rfl) ?_
  refine xs_step (fun K HC => xr_iconst HC.1 22 40 (n := (1)) (1 : Int32) rfl rfl rfl) ?_
  refine xs_step (fun K HC => xr_iadd HC.1 23 41 rfl rfl) ?_
  refine xs_step (fun K HC => xr_i2l HC.1 24 42 rfl rfl) ?_
  refine xs_step (fun K HC => xr_ladd HC.1 25 43 rfl rfl) ?_
  refine xs_topl (fun v3_7 => ?_)
  refine xs_step (fun K HC => xr_lstore_n HC.1 26 44 (n := 3) (ix := 3) (lv' := [(0, av_R 5 (some v0)), (1, av_I v1), (2, av_I v2), (3, av_L v3_7), (5, av_I v5)]) rfl rfl rfl (by decide) rfl) ?_
  refine xs_gen (fun v2_8 ev2_8 => ?_)
  refine xs_step (fun K HC => xr_iinc HC.1 27 47 (ix := 2) (j := 2) (n := (1)) (x := v2) v2_8 (lv' := [(0, av_R 5 (some v0)), (1, av_I v1), (2, av_I v2_8), (3, av_L v3_7), (5, av_I v5)]) rfl (by rw [ev2_8]; rfl) rfl rfl (by decide) rfl) ?_
  refine xs_gen (fun v5_9 ev5_9 => ?_)
  refine xs_step (fun K HC => xr_iinc HC.1 28 50 (ix := 5) (j := 4) (n := (1)) (x := v5) v5_9 (lv' := [(0, av_R 5 (some v0)), (1, av_I v1), (2, av_I v2_8), (3, av_L v3_7), (5, av_I v5_9)]) rfl (by rw [ev5_9]; rfl) rfl rfl (by decide) rfl) ?_
  refine xs_step (fun K HC => xr_goto HC.1 29 7 rfl (by decide)) ?_
  exact xs_back rfl (fun K q => q)
theorem t_Rd_takeWord_7 (v0 : Nat) (v1 : Int32) (v2 : Int32) (v3 : Int64) (v5 : Int32) (h : HP) : xx_S (xx_D "LampYard$Reader" tb_Rd_takeWord 6 10 (some .int) false) xz_i (fun K => xL_i K) 7 [(0, av_R 5 (some v0)), (1, av_I v1), (2, av_I v2), (3, av_L v3), (5, av_I v5)] [] h (f_Rd_takeWord_7 v0 v1 v2 v3 v5 h) :=
  xs_loop (zf := xz_i) (L := (fun K => xL_i K)) (fun s : (Int32 × Int64 × Int32 × HP) => [(0, av_R 5 (some v0)), (1, av_I v1), (2, av_I s.1), (3, av_L s.2.1), (5, av_I s.2.2.1)]) (fun s : (Int32 × Int64 × Int32 × HP) => s.2.2.2) (fun s => t_Rd_takeWord_7b v0 v1 s.1 s.2.1 s.2.2.1 s.2.2.2) (v2, v3, v5, h)
set_option maxHeartbeats 4000000 in
set_option maxRecDepth 100000 in
theorem t_Rd_takeWord (v0 : Nat) (v1 : Int32) (h : HP) : xx_S (xx_D "LampYard$Reader" tb_Rd_takeWord 6 10 (some .int) false) xz_i (fun K => xL_i K) 0 [(0, av_R 5 (some v0)), (1, av_I v1)] [] h (f_Rd_takeWord v0 v1 h) := by
  unfold f_Rd_takeWord
  refine xs_step (fun K HC => xr_iload_n HC.1 0 1 (n := 1) (ix := 1) (j := 1) (x := v1) rfl rfl rfl rfl) ?_
  refine xs_step (fun K HC => xr_istore_n HC.1 1 2 (n := 2) (ix := 2) (lv' := [(0, av_R 5 (some v0)), (1, av_I v1), (2, av_I v1)]) rfl rfl rfl (by decide) rfl) ?_
  refine xs_step (fun K HC => xr_lconst HC.1 2 3 (n := 0) (0 : Int64) rfl rfl rfl) ?_
  refine xs_step (fun K HC => xr_lstore_n HC.1 3 4 (n := 3) (ix := 3) (lv' := [(0, av_R 5 (some v0)), (1, av_I v1), (2, av_I v1), (3, av_L (0 : Int64))]) rfl rfl rfl (by decide) rfl) ?_
  refine xs_step (fun K HC => xr_iconst HC.1 4 5 (n := (0)) (0 : Int32) rfl rfl rfl) ?_
  refine xs_step (fun K HC => xr_istore HC.1 5 7 (ix := 5) (lv' := [(0, av_R 5 (some v0)), (1, av_I v1), (2, av_I v1), (3, av_L (0 : Int64)), (5, av_I (0 : Int32))]) rfl rfl (by decide) rfl) ?_
  exact t_Rd_takeWord_7 v0 v1 v1 (0 : Int64) (0 : Int32) h
theorem s_Rd_takeWord (v0 : Nat) (v1 : Int32) (h : HP) : ∀ x, f_Rd_takeWord v0 v1 h = some x → hp_mo h x.2 ∧ ∀ g l, xx_M g l y_Rd_takeWord prog_7_method_6_code 6 (some .int) 10 [av_R 5 (some v0), av_I v1] h (some (av_I x.1)) x.2 :=
  xM_i (tb := tb_Rd_takeWord) (b := false) (by decide +kernel) dt_Rd_takeWord (fun _ => trivial) (Nat.le_of_ble_eq_true rfl) (fun hb => by cases hb) (t_Rd_takeWord v0 v1 h)
def tb_Rd_isDigit : TBL := [(0, .iload_n 0, 1), (1, .bipush 48, 2), (3, .if_icmp .lt 13, 3), (6, .iload_n 0, 1), (7, .bipush 57, 2), (9, .if_icmp .gt 7, 3), (12, .iconst 1, 1), (13, .goto 4, 3), (16, .iconst 0, 1), (17, .ireturn, 1)]
theorem dt_Rd_isDigit : ∀ q ∈ tb_Rd_isDigit, decode prog_7_method_13_code q.1 = .ok (q.2.1, q.2.2) := by decide +kernel
set_option maxHeartbeats 4000000 in
set_option maxRecDepth 100000 in
theorem t_Rd_isDigit (v0 : Int32) (h : HP) : xx_S (xx_D "LampYard$Reader" tb_Rd_isDigit 1 1 (some .boolean) false) xz_i (fun K => xL_i K) 0 [(0, av_I v0)] [] h (f_Rd_isDigit v0 h) := by
  unfold f_Rd_isDigit
  refine xs_step (fun K HC => xr_iload_n HC.1 0 1 (n := 0) (ix := 0) (j := 0) (x := v0) rfl rfl rfl rfl) ?_
  refine xs_step (fun K HC => xr_bipush HC.1 1 3 (n := (48)) (48 : Int32) rfl rfl rfl) ?_
  refine xs_ite (fun K HC => xr_icmp_lt HC.1 2 16 6 rfl (by decide) rfl) ?_ ?_
  · refine xs_step (fun K HC => xr_iconst HC.1 8 17 (n := (0)) (0 : Int32) rfl rfl rfl) ?_
    exact xs_reti 9 rfl rfl (fun K q => q) (fun ty ht => by cases ht; rfl)
  refine xs_step (fun K HC => xr_iload_n HC.1 3 7 (n := 0) (ix := 0) (j := 0) (x := v0) rfl rfl rfl rfl) ?_
  refine xs_step (fun K HC => xr_bipush HC.1 4 9 (n := (57)) (57 : Int32) rfl rfl rfl) ?_
  refine xs_ite (fun K HC => xr_icmp_gt HC.1 5 16 12 rfl (by decide) rfl) ?_ ?_
  · refine xs_step (fun K HC => xr_iconst HC.1 8 17 (n := (0)) (0 : Int32) rfl rfl rfl) ?_
    exact xs_reti 9 rfl rfl (fun K q => q) (fun ty ht => by cases ht; rfl)
  refine xs_step (fun K HC => xr_iconst HC.1 6 13 (n := (1)) (1 : Int32) rfl rfl rfl) ?_
  refine xs_step (fun K HC => xr_goto HC.1 7 17 rfl (by decide)) ?_
  exact xs_reti 9 rfl rfl (fun K q => q) (fun ty ht => by cases ht; rfl)
theorem s_Rd_isDigit (v0 : Int32) (h : HP) : ∀ x, f_Rd_isDigit v0 h = some x → hp_mo h x.2 ∧ ∀ g l, xx_M g l y_Rd_isDigit prog_7_method_13_code 1 (some .boolean) 1 [av_I v0] h (some (av_I x.1)) x.2 :=
  xM_i (tb := tb_Rd_isDigit) (b := false) (by decide +kernel) dt_Rd_isDigit (fun _ => trivial) (Nat.le_of_ble_eq_true rfl) (fun hb => by cases hb) (t_Rd_isDigit v0 h)
def tb_Rd_takeNumber : TBL := [(0, .iload_n 1, 1), (1, .istore_n 2, 1), (2, .iconst 0, 1), (3, .istore_n 3, 1), (4, .iconst 0, 1), (5, .istore 4, 2), (7, .iload 4, 2), (9, .sipush 1400, 3), (12, .if_icmp .ge 37, 3), (15, .aload_n 0, 1), (16, .iload_n 2, 1), (17, .invokevirtual 82, 3), (20, .invokestatic 96, 3), (23, .ifCond .eq 26, 3), (26, .iload_n 3, 1), (27, .bipush 10, 2), (29, .imul, 1), (30, .aload_n 0, 1), (31, .iload_n 2, 1), (32, .invokevirtual 82, 3), (35, .bipush 48, 2), (37, .isub, 1), (38, .iadd, 1), (39, .istore_n 3, 1), (40, .iinc 2 1, 3), (43, .iinc 4 1, 3), (46, .goto (-39), 3), (49, .iload_n 2, 1), (50, .iload_n 1, 1), (51, .isub, 1), (52, .iconst 4, 1), (53, .if_icmp .gt 14, 3), (56, .aload_n 0, 1), (57, .iload_n 2, 1), (58, .invokevirtual 82, 3), (61, .invokestatic 89, 3), (64, .ifCond .eq 13, 3), (67, .aload_n 0, 1), (68, .bipush 23, 2), (70, .iload_n 1, 1), (71, .lconst 0, 1), (72, .iconst (-1), 1), (73, .invokevirtual 85, 3), (76, .ireturn, 1), (77, .aload_n 0, 1), (78, .bipush 21, 2), (80, .iload_n 1, 1), (81, .iload_n 3, 1), (82, .i2l, 1), (83, .iload_n 2, 1), (84, .invokevirtual 85, 3), (87, .ireturn, 1)]
theorem dt_Rd_takeNumber : ∀ q ∈ tb_Rd_takeNumber, decode prog_7_method_7_code q.1 = .ok (q.2.1, q.2.2) := by decide +kernel
set_option maxHeartbeats 4000000 in
set_option maxRecDepth 100000 in
theorem t_Rd_takeNumber_67 (v0 : Nat) (v1 : Int32) (h : HP) : xx_S (xx_D "LampYard$Reader" tb_Rd_takeNumber 5 2 (some .int) false) xz_i (fun K => xL_i K) 67 [(0, av_R 5 (some v0)), (1, av_I v1)] [] h (f_Rd_takeNumber_67 v0 v1 h) := by
  unfold f_Rd_takeNumber_67
  refine xs_step (fun K HC => xr_aload_n HC.1 37 68 (n := 0) (ix := 0) (j := 0) (c := 5) (x := v0) rfl rfl rfl rfl) ?_
  refine xs_step (fun K HC => xr_bipush HC.1 38 70 (n := (23)) (23 : Int32) rfl rfl rfl) ?_
  refine xs_step (fun K HC => xr_iload_n HC.1 39 71 (n := 1) (ix := 1) (j := 1) (x := v1) rfl rfl rfl rfl) ?_
  refine xs_step (fun K HC => xr_lconst HC.1 40 72 (n := 0) (0 : Int64) rfl rfl rfl) ?_
  refine xs_step (fun K HC => xr_iconst HC.1 41 73 (n := (-1)) (-1 : Int32) rfl rfl rfl) ?_
  refine xs_calli (s_Rd_addToken v0 (23 : Int32) v1 (0 : Int64) (-1 : Int32) h) (fun K HC x9 hM hmo hb => xr_callV HC.1 42 76 (av := [av_I (23 : Int32), av_I v1, av_L (0 : Int64), av_I (-1 : Int32)]) (st := []) (hM (kg K) (cx_l (kx K))) hmo hb rfl rfl wm_Rd_85 wi_Rd_addToken ws_Rd_addToken wc_Rd_addToken rfl wh_Rd_addToken (by decide) (by decide) (by decide) (Nat.le_of_ble_eq_true rfl) rfl) (fun x_1 => ?_)
  exact xs_reti 43 rfl rfl (fun K q => q) (fun ty ht => by cases ht; rfl)
set_option maxHeartbeats 4000000 in
set_option maxRecDepth 100000 in
theorem t_Rd_takeNumber_49 (v0 : Nat) (v1 : Int32) (v2 : Int32) (v3 : Int32) (h : HP) : xx_S (xx_D "LampYard$Reader" tb_Rd_takeNumber 5 2 (some .int) false) xz_i (fun K => xL_i K) 49 [(0, av_R 5 (some v0)), (1, av_I v1), (2, av_I v2), (3, av_I v3)] [] h (f_Rd_takeNumber_49 v0 v1 v2 v3 h) := by
  unfold f_Rd_takeNumber_49
  refine xs_step (fun K HC => xr_iload_n HC.1 27 50 (n := 2) (ix := 2) (j := 2) (x := v2) rfl rfl rfl rfl) ?_
  refine xs_step (fun K HC => xr_iload_n HC.1 28 51 (n := 1) (ix := 1) (j := 1) (x := v1) rfl rfl rfl rfl) ?_
  refine xs_step (fun K HC => xr_isub HC.1 29 52 rfl rfl) ?_
  refine xs_step (fun K HC => xr_iconst HC.1 30 53 (n := (4)) (4 : Int32) rfl rfl rfl) ?_
  refine xs_ite (fun K HC => xr_icmp_gt HC.1 31 67 56 rfl (by decide) rfl) ?_ ?_
  · refine xs_step (fun K HC => xr_sub (lv' := [(0, av_R 5 (some v0)), (1, av_I v1)]) [0, 1] rfl) ?_
    exact t_Rd_takeNumber_67 v0 v1 h
  refine xs_step (fun K HC => xr_aload_n HC.1 32 57 (n := 0) (ix := 0) (j := 0) (c := 5) (x := v0) rfl rfl rfl rfl) ?_
  refine xs_step (fun K HC => xr_iload_n HC.1 33 58 (n := 2) (ix := 2) (j := 2) (x := v2) rfl rfl rfl rfl) ?_
  refine xs_calli (s_Rd_byteAt v0 v2 h) (fun K HC x9 hM hmo hb => xr_callV HC.1 34 61 (av := [av_I v2]) (st := []) (hM (kg K) (cx_l (kx K))) hmo hb rfl rfl wm_Rd_82 wi_Rd_byteAt ws_Rd_byteAt wc_Rd_byteAt rfl wh_Rd_byteAt (by decide) (by decide) (by decide) (Nat.le_of_ble_eq_true rfl) rfl) (fun x_2 => ?_)
  refine xs_calli (s_Rd_isLetter x_2.1 x_2.2) (fun K HC x9 hM hmo hb => xr_callS HC.1 35 64 (av := [av_I x_2.1]) (st := []) (hM (kg K) (cx_l (kx K))) hmo hb rfl rfl wm_Rd_89 wt_Rd_isLetter wn_Rd_isLetter wc_Rd_isLetter wh_Rd_isLetter (by decide) (by decide) (Nat.le_of_ble_eq_true rfl) rfl) (fun x_3 => ?_)
  refine xs_ite (fun K HC => xr_if_eq HC.1 36 77 67 rfl (by decide) rfl) ?_ ?_
  · refine xs_step (fun K HC => xr_aload_n HC.1 44 78 (n := 0) (ix := 0) (j := 0) (c := 5) (x := v0) rfl rfl rfl rfl) ?_
    refine xs_step (fun K HC => xr_bipush HC.1 45 80 (n := (21)) (21 : Int32) rfl rfl rfl) ?_
    refine xs_step (fun K HC => xr_iload_n HC.1 46 81 (n := 1) (ix := 1) (j := 1) (x := v1) rfl rfl rfl rfl) ?_
    refine xs_step (fun K HC => xr_iload_n HC.1 47 82 (n := 3) (ix := 3) (j := 3) (x := v3) rfl rfl rfl rfl) ?_
    refine xs_step (fun K HC => xr_i2l HC.1 48 83 rfl rfl) ?_
    refine xs_step (fun K HC => xr_iload_n HC.1 49 84 (n := 2) (ix := 2) (j := 2) (x := v2) rfl rfl rfl rfl) ?_
    refine xs_calli (s_Rd_addToken v0 (21 : Int32) v1 (v3).toInt64 v2 x_3.2) (fun K HC x9 hM hmo hb => xr_callV HC.1 50 87 (av := [av_I (21 : Int32), av_I v1, av_L (v3).toInt64, av_I v2]) (st := []) (hM (kg K) (cx_l (kx K))) hmo hb rfl rfl wm_Rd_85 wi_Rd_addToken ws_Rd_addToken wc_Rd_addToken rfl wh_Rd_addToken (by decide) (by decide) (by decide) (Nat.le_of_ble_eq_true rfl) rfl) (fun x_4 => ?_)
    exact xs_reti 51 rfl rfl (fun K q => q) (fun ty ht => by cases ht; rfl)
  refine xs_step (fun K HC => xr_sub (lv' := [(0, av_R 5 (some v0)), (1, av_I v1)]) [0, 1] rfl) ?_
  exact t_Rd_takeNumber_67 v0 v1 x_3.2
set_option maxHeartbeats 4000000 in
set_option maxRecDepth 100000 in
theorem t_Rd_takeNumber_7b (v0 : Nat) (v1 : Int32) (v2 : Int32) (v3 : Int32) (v4 : Int32) (h : HP) : xx_S (xx_D "LampYard$Reader" tb_Rd_takeNumber 5 2 (some .int) false) (xx_z2 (fun s : (Int32 × Int32 × Int32 × HP) => s.2.2.2) xz_i) (fun K => xx_L2 (fun s : (Int32 × Int32 × Int32 × HP) => xx_X K 7 [(0, av_R 5 (some v0)), (1, av_I v1), (2, av_I s.1), (3, av_I s.2.1), (4, av_I s.2.2.1)] [] (s.2.2.2)) (xL_i K)) 7 [(0, av_R 5 (some v0)), (1, av_I v1), (2, av_I v2), (3, av_I v3), (4, av_I v4)] [] h (f_Rd_takeNumber_7b v0 v1 v2 v3 v4 h) := by
  unfold f_Rd_takeNumber_7b
  refine xs_step (fun K HC => xr_iload HC.1 6 9 (ix := 4) (j := 4) (x := v4) rfl rfl rfl) ?_
  refine xs_step (fun K HC => xr_sipush HC.1 7 12 (n := (1400)) (1400 : Int32) rfl rfl rfl) ?_
  refine xs_ite (fun K HC => xr_icmp_ge HC.1 8 49 15 rfl (by decide) rfl) ?_ ?_
  · refine xs_step (fun K HC => xr_sub (lv' := [(0, av_R 5 (some v0)), (1, av_I v1), (2, av_I v2), (3, av_I v3)]) [0, 1, 2, 3] rfl) ?_
    exact xs_map (fun _ => rfl) (fun _ _ q => q) (t_Rd_takeNumber_49 v0 v1 v2 v3 h)
  refine xs_step (fun K HC => xr_aload_n HC.1 9 16 (n := 0) (ix := 0) (j := 0) (c := 5) (x := v0) rfl rfl rfl rfl) ?_
  refine xs_step (fun K HC => xr_iload_n HC.1 10 17 (n := 2) (ix := 2) (j := 2) (x := v2) rfl rfl rfl rfl) ?_
  refine xs_calli (s_Rd_byteAt v0 v2 h) (fun K HC x9 hM hmo hb => xr_callV HC.1 11 20 (av := [av_I v2]) (st := []) (hM (kg K) (cx_l (kx K))) hmo hb rfl rfl wm_Rd_82 wi_Rd_byteAt ws_Rd_byteAt wc_Rd_byteAt rfl wh_Rd_byteAt (by decide) (by decide) (by decide) (Nat.le_of_ble_eq_true rfl) rfl) (fun x_5 => ?_)
  refine xs_calli (s_Rd_isDigit x_5.1 x_5.2) (fun K HC x9 hM hmo hb => xr_callS HC.1 12 23 (av := [av_I x_5.1]) (st := []) (hM (kg K) (cx_l (kx K))) hmo hb rfl rfl wm_Rd_96 wt_Rd_isDigit wn_Rd_isDigit wc_Rd_isDigit wh_Rd_isDigit (by decide) (by decide) (Nat.le_of_ble_eq_true rfl) rfl) (fun x_6 => ?_)
  refine xs_ite (fun K HC => xr_if_eq HC.1 13 49 26 rfl (by decide) rfl) ?_ ?_
  · refine xs_step (fun K HC => xr_sub (lv' := [(0, av_R 5 (some v0)), (1, av_I v1), (2, av_I v2), (3, av_I v3)]) [0, 1, 2, 3] rfl) ?_
    exact xs_map (fun _ => rfl) (fun _ _ q => q) (t_Rd_takeNumber_49 v0 v1 v2 v3 x_6.2)
  refine xs_step (fun K HC => xr_iload_n HC.1 14 27 (n := 3) (ix := 3) (j := 3) (x := v3) rfl rfl rfl rfl) ?_
  refine xs_step (fun K HC => xr_bipush HC.1 15 29 (n := (10)) (10 : Int32) rfl rfl rfl) ?_
  refine xs_step (fun K HC => xr_imul HC.1 16 30 rfl rfl) ?_
  refine xs_step (fun K HC => xr_aload_n HC.1 17 31 (n := 0) (ix := 0) (j := 0) (c := 5) (x := v0) rfl rfl rfl rfl) ?_
  refine xs_step (fun K HC => xr_iload_n HC.1 18 32 (n := 2) (ix := 2) (j := 2) (x := v2) rfl rfl rfl rfl) ?_
  refine xs_calli (s_Rd_byteAt v0 v2 x_6.2) (fun K HC x9 hM hmo hb => xr_callV HC.1 19 35 (av := [av_I v2]) (st := [av_I (v3 * (10 : Int32))]) (hM (kg K) (cx_l (kx K))) hmo hb rfl rfl wm_Rd_82 wi_Rd_byteAt ws_Rd_byteAt wc_Rd_byteAt rfl wh_Rd_byteAt (by decide) (by decide) (by decide) (Nat.le_of_ble_eq_true rfl) rfl) (fun x_7 => ?_)
  refine xs_step (fun K HC => xr_bipush HC.1 20 37 (n := (48)) (48 : Int32) rfl rfl rfl) ?_
  refine xs_step (fun K HC => xr_isub HC.1 21 38 rfl rfl) ?_
  refine xs_step (fun K HC => xr_iadd HC.1 22 39 rfl rfl) ?_
  refine xs_topi (fun v3_8 => ?_)
  refine xs_step (fun K HC => xr_istore_n HC.1 23 40 (n := 3) (ix := 3) (lv' := [(0, av_R 5 (some v0)), (1, av_I v1), (2, av_I v2), (3, av_I v3_8), (4, av_I v4)]) rfl rfl rfl (by decide) rfl) ?_
  refine xs_gen (fun v2_9 ev2_9 => ?_)
  refine xs_step (fun K HC => xr_iinc HC.1 24 43 (ix := 2) (j := 2) (n := (1)) (x := v2) v2_9 (lv' := [(0, av_R 5 (some v0)), (1, av_I v1), (2, av_I v2_9), (3, av_I v3_8), (4, av_I v4)]) rfl (by rw [ev2_9]; rfl) rfl rfl (by decide) rfl) ?_
  refine xs_gen (fun v4_10 ev4_10 => ?_)
  refine xs_step (fun K HC => xr_iinc HC.1 25 46 (ix := 4) (j := 4) (n := (1)) (x := v4) v4_10 (lv' := [(0, av_R 5 (some v0)), (1, av_I v1), (2, av_I v2_9), (3, av_I v3_8), (4, av_I v4_10)]) rfl (by rw [ev4_10]; rfl) rfl rfl (by decide) rfl) ?_
  refine xs_step (fun K HC => xr_goto HC.1 26 7 rfl (by decide)) ?_
  exact xs_back rfl (fun K q => q)
theorem t_Rd_takeNumber_7 (v0 : Nat) (v1 : Int32) (v2 : Int32) (v3 : Int32) (v4 : Int32) (h : HP) : xx_S (xx_D "LampYard$Reader" tb_Rd_takeNumber 5 2 (some .int) false) xz_i (fun K => xL_i K) 7 [(0, av_R 5 (some v0)), (1, av_I v1), (2, av_I v2), (3, av_I v3), (4, av_I v4)] [] h (f_Rd_takeNumber_7 v0 v1 v2 v3 v4 h) :=
  xs_loop (zf := xz_i) (L := (fun K => xL_i K)) (fun s : (Int32 × Int32 × Int32 × HP) => [(0, av_R 5 (some v0)), (1, av_I v1), (2, av_I s.1), (3, av_I s.2.1), (4, av_I s.2.2.1)]) (fun s : (Int32 × Int32 × Int32 × HP) => s.2.2.2) (fun s => t_Rd_takeNumber_7b v0 v1 s.1 s.2.1 s.2.2.1 s.2.2.2) (v2, v3, v4, h)
set_option maxHeartbeats 4000000 in
set_option maxRecDepth 100000 in
theorem t_Rd_takeNumber (v0 : Nat) (v1 : Int32) (h : HP) : xx_S (xx_D "LampYard$Reader" tb_Rd_takeNumber 5 2 (some .int) false) xz_i (fun K => xL_i K) 0 [(0, av_R 5 (some v0)), (1, av_I v1)] [] h (f_Rd_takeNumber v0 v1 h) := by
  unfold f_Rd_takeNumber
  refine xs_step (fun K HC => xr_iload_n HC.1 0 1 (n := 1) (ix := 1) (j := 1) (x := v1) rfl rfl rfl rfl) ?_
  refine xs_step (fun K HC => xr_istore_n HC.1 1 2 (n := 2) (ix := 2) (lv' := [(0, av_R 5 (some v0)), (1, av_I v1), (2, av_I v1)]) rfl rfl rfl (by decide) rfl) ?_
  refine xs_step (fun K HC => xr_iconst HC.1 2 3 (n := (0)) (0 : Int32) rfl rfl rfl) ?_
  refine xs_step (fun K HC => xr_istore_n HC.1 3 4 (n := 3) (ix := 3) (lv' := [(0, av_R 5 (some v0)), (1, av_I v1), (2, av_I v1), (3, av_I (0 : Int32))]) rfl rfl rfl (by decide) rfl) ?_
  refine xs_step (fun K HC => xr_iconst HC.1 4 5 (n := (0)) (0 : Int32) rfl rfl rfl) ?_
  refine xs_step (fun K HC => xr_istore HC.1 5 7 (ix := 4) (lv' := [(0, av_R 5 (some v0)), (1, av_I v1), (2, av_I v1), (3, av_I (0 : Int32)), (4, av_I (0 : Int32))]) rfl rfl (by decide) rfl) ?_
  exact t_Rd_takeNumber_7 v0 v1 v1 (0 : Int32) (0 : Int32) h
theorem s_Rd_takeNumber (v0 : Nat) (v1 : Int32) (h : HP) : ∀ x, f_Rd_takeNumber v0 v1 h = some x → hp_mo h x.2 ∧ ∀ g l, xx_M g l y_Rd_takeNumber prog_7_method_7_code 5 (some .int) 2 [av_R 5 (some v0), av_I v1] h (some (av_I x.1)) x.2 :=
  xM_i (tb := tb_Rd_takeNumber) (b := false) (by decide +kernel) dt_Rd_takeNumber (fun _ => trivial) (Nat.le_of_ble_eq_true rfl) (fun hb => by cases hb) (t_Rd_takeNumber v0 v1 h)
def tb_Rd_isSign : TBL := [(0, .iload_n 0, 1), (1, .bipush 59, 2), (3, .if_icmp .eq 51, 3), (6, .iload_n 0, 1), (7, .bipush 40, 2), (9, .if_icmp .eq 45, 3), (12, .iload_n 0, 1), (13, .bipush 41, 2), (15, .if_icmp .eq 39, 3), (18, .iload_n 0, 1), (19, .bipush 60, 2), (21, .if_icmp .eq 33, 3), (24, .iload_n 0, 1), (25, .bipush 62, 2), (27, .if_icmp .eq 27, 3), (30, .iload_n 0, 1), (31, .bipush 61, 2), (33, .if_icmp .eq 21, 3), (36, .iload_n 0, 1), (37, .bipush 43, 2), (39, .if_icmp .eq 15, 3), (42, .iload_n 0, 1), (43, .bipush 45, 2), (45, .if_icmp .eq 9, 3), (48, .iload_n 0, 1), (49, .bipush 42, 2), (51, .if_icmp .ne 7, 3), (54, .iconst 1, 1), (55, .goto 4, 3), (58, .iconst 0, 1), (59, .ireturn, 1)]
theorem dt_Rd_isSign : ∀ q ∈ tb_Rd_isSign, decode prog_7_method_14_code q.1 = .ok (q.2.1, q.2.2) := by decide +kernel
set_option maxHeartbeats 4000000 in
set_option maxRecDepth 100000 in
theorem t_Rd_isSign (v0 : Int32) (h : HP) : xx_S (xx_D "LampYard$Reader" tb_Rd_isSign 1 1 (some .boolean) false) xz_i (fun K => xL_i K) 0 [(0, av_I v0)] [] h (f_Rd_isSign v0 h) := by
  unfold f_Rd_isSign
  refine xs_step (fun K HC => xr_iload_n HC.1 0 1 (n := 0) (ix := 0) (j := 0) (x := v0) rfl rfl rfl rfl) ?_
  refine xs_step (fun K HC => xr_bipush HC.1 1 3 (n := (59)) (59 : Int32) rfl rfl rfl) ?_
  refine xs_ite (fun K HC => xr_icmp_eq HC.1 2 54 6 rfl (by decide) rfl) ?_ ?_
  · refine xs_step (fun K HC => xr_iconst HC.1 27 55 (n := (1)) (1 : Int32) rfl rfl rfl) ?_
    refine xs_step (fun K HC => xr_goto HC.1 28 59 rfl (by decide)) ?_
    exact xs_reti 30 rfl rfl (fun K q => q) (fun ty ht => by cases ht; rfl)
  refine xs_step (fun K HC => xr_iload_n HC.1 3 7 (n := 0) (ix := 0) (j := 0) (x := v0) rfl rfl rfl rfl) ?_
  refine xs_step (fun K HC => xr_bipush HC.1 4 9 (n := (40)) (40 : Int32) rfl rfl rfl) ?_
  refine xs_ite (fun K HC => xr_icmp_eq HC.1 5 54 12 rfl (by decide) rfl) ?_ ?_
  · refine xs_step (fun K HC => xr_iconst HC.1 27 55 (n := (1)) (1 : Int32) rfl rfl rfl) ?_
    refine xs_step (fun K HC => xr_goto HC.1 28 59 rfl (by decide)) ?_
    exact xs_reti 30 rfl rfl (fun K q => q) (fun ty ht => by cases ht; rfl)
  refine xs_step (fun K HC => xr_iload_n HC.1 6 13 (n := 0) (ix := 0) (j := 0) (x := v0) rfl rfl rfl rfl) ?_
  refine xs_step (fun K HC => xr_bipush HC.1 7 15 (n := (41)) (41 : Int32) rfl rfl rfl) ?_
  refine xs_ite (fun K HC => xr_icmp_eq HC.1 8 54 18 rfl (by decide) rfl) ?_ ?_
  · refine xs_step (fun K HC => xr_iconst HC.1 27 55 (n := (1)) (1 : Int32) rfl rfl rfl) ?_
    refine xs_step (fun K HC => xr_goto HC.1 28 59 rfl (by decide)) ?_
    exact xs_reti 30 rfl rfl (fun K q => q) (fun ty ht => by cases ht; rfl)
  refine xs_step (fun K HC => xr_iload_n HC.1 9 19 (n := 0) (ix := 0) (j := 0) (x := v0) rfl rfl rfl rfl) ?_
  refine xs_step (fun K HC => xr_bipush HC.1 10 21 (n := (60)) (60 : Int32) rfl rfl rfl) ?_
  refine xs_ite (fun K HC => xr_icmp_eq HC.1 11 54 24 rfl (by decide) rfl) ?_ ?_
  · refine xs_step (fun K HC => xr_iconst HC.1 27 55 (n := (1)) (1 : Int32) rfl rfl rfl) ?_
    refine xs_step (fun K HC => xr_goto HC.1 28 59 rfl (by decide)) ?_
    exact xs_reti 30 rfl rfl (fun K q => q) (fun ty ht => by cases ht; rfl)
  refine xs_step (fun K HC => xr_iload_n HC.1 12 25 (n := 0) (ix := 0) (j := 0) (x := v0) rfl rfl rfl rfl) ?_
  refine xs_step (fun K HC => xr_bipush HC.1 13 27 (n := (62)) (62 : Int32) rfl rfl rfl) ?_
  refine xs_ite (fun K HC => xr_icmp_eq HC.1 14 54 30 rfl (by decide) rfl) ?_ ?_
  · refine xs_step (fun K HC => xr_iconst HC.1 27 55 (n := (1)) (1 : Int32) rfl rfl rfl) ?_
    refine xs_step (fun K HC => xr_goto HC.1 28 59 rfl (by decide)) ?_
    exact xs_reti 30 rfl rfl (fun K q => q) (fun ty ht => by cases ht; rfl)
  refine xs_step (fun K HC => xr_iload_n HC.1 15 31 (n := 0) (ix := 0) (j := 0) (x := v0) rfl rfl rfl rfl) ?_
  refine xs_step (fun K HC => xr_bipush HC.1 16 33 (n := (61)) (61 : Int32) rfl rfl rfl) ?_
  refine xs_ite (fun K HC => xr_icmp_eq HC.1 17 54 36 rfl (by decide) rfl) ?_ ?_
  · refine xs_step (fun K HC => xr_iconst HC.1 27 55 (n := (1)) (1 : Int32) rfl rfl rfl) ?_
    refine xs_step (fun K HC => xr_goto HC.1 28 59 rfl (by decide)) ?_
    exact xs_reti 30 rfl rfl (fun K q => q) (fun ty ht => by cases ht; rfl)
  refine xs_step (fun K HC => xr_iload_n HC.1 18 37 (n := 0) (ix := 0) (j := 0) (x := v0) rfl rfl rfl rfl) ?_
  refine xs_step (fun K HC => xr_bipush HC.1 19 39 (n := (43)) (43 : Int32) rfl rfl rfl) ?_
  refine xs_ite (fun K HC => xr_icmp_eq HC.1 20 54 42 rfl (by decide) rfl) ?_ ?_
  · refine xs_step (fun K HC => xr_iconst HC.1 27 55 (n := (1)) (1 : Int32) rfl rfl rfl) ?_
    refine xs_step (fun K HC => xr_goto HC.1 28 59 rfl (by decide)) ?_
    exact xs_reti 30 rfl rfl (fun K q => q) (fun ty ht => by cases ht; rfl)
  refine xs_step (fun K HC => xr_iload_n HC.1 21 43 (n := 0) (ix := 0) (j := 0) (x := v0) rfl rfl rfl rfl) ?_
  refine xs_step (fun K HC => xr_bipush HC.1 22 45 (n := (45)) (45 : Int32) rfl rfl rfl) ?_
  refine xs_ite (fun K HC => xr_icmp_eq HC.1 23 54 48 rfl (by decide) rfl) ?_ ?_
  · refine xs_step (fun K HC => xr_iconst HC.1 27 55 (n := (1)) (1 : Int32) rfl rfl rfl) ?_
    refine xs_step (fun K HC => xr_goto HC.1 28 59 rfl (by decide)) ?_
    exact xs_reti 30 rfl rfl (fun K q => q) (fun ty ht => by cases ht; rfl)
  refine xs_step (fun K HC => xr_iload_n HC.1 24 49 (n := 0) (ix := 0) (j := 0) (x := v0) rfl rfl rfl rfl) ?_
  refine xs_step (fun K HC => xr_bipush HC.1 25 51 (n := (42)) (42 : Int32) rfl rfl rfl) ?_
  refine xs_ite (fun K HC a b => xr_icmp_ne HC.1 26 58 54 rfl (by decide) rfl b a) ?_ ?_
  · refine xs_step (fun K HC => xr_iconst HC.1 27 55 (n := (1)) (1 : Int32) rfl rfl rfl) ?_
    refine xs_step (fun K HC => xr_goto HC.1 28 59 rfl (by decide)) ?_
    exact xs_reti 30 rfl rfl (fun K q => q) (fun ty ht => by cases ht; rfl)
  refine xs_step (fun K HC => xr_iconst HC.1 29 59 (n := (0)) (0 : Int32) rfl rfl rfl) ?_
  exact xs_reti 30 rfl rfl (fun K q => q) (fun ty ht => by cases ht; rfl)
theorem s_Rd_isSign (v0 : Int32) (h : HP) : ∀ x, f_Rd_isSign v0 h = some x → hp_mo h x.2 ∧ ∀ g l, xx_M g l y_Rd_isSign prog_7_method_14_code 1 (some .boolean) 1 [av_I v0] h (some (av_I x.1)) x.2 :=
  xM_i (tb := tb_Rd_isSign) (b := false) (by decide +kernel) dt_Rd_isSign (fun _ => trivial) (Nat.le_of_ble_eq_true rfl) (fun hb => by cases hb) (t_Rd_isSign v0 h)
def tb_Rd_takeToken : TBL := [(0, .aload_n 0, 1), (1, .iload_n 1, 1), (2, .invokevirtual 82, 3), (5, .istore_n 2, 1), (6, .iload_n 1, 1), (7, .aload_n 0, 1), (8, .getfield 41, 3), (11, .if_icmp .lt 13, 3), (14, .aload_n 0, 1), (15, .bipush 22, 2), (17, .iload_n 1, 1), (18, .lconst 0, 1), (19, .iconst (-1), 1), (20, .invokevirtual 85, 3), (23, .ireturn, 1), (24, .iload_n 2, 1), (25, .invokestatic 89, 3), (28, .ifCond .eq 9, 3), (31, .aload_n 0, 1), (32, .iload_n 1, 1), (33, .invokevirtual 93, 3), (36, .ireturn, 1), (37, .iload_n 2, 1), (38, .invokestatic 96, 3), (41, .ifCond .eq 9, 3), (44, .aload_n 0, 1), (45, .iload_n 1, 1), (46, .invokevirtual 99, 3), (49, .ireturn, 1), (50, .iload_n 2, 1), (51, .invokestatic 102, 3), (54, .ifCond .eq 14, 3), (57, .aload_n 0, 1), (58, .iload_n 2, 1), (59, .iload_n 1, 1), (60, .lconst 0, 1), (61, .iload_n 1, 1), (62, .iconst 1, 1), (63, .iadd, 1), (64, .invokevirtual 85, 3), (67, .ireturn, 1), (68, .aload_n 0, 1), (69, .bipush 23, 2), (71, .iload_n 1, 1), (72, .lconst 0, 1), (73, .iconst (-1), 1), (74, .invokevirtual 85, 3), (77, .ireturn, 1)]
theorem dt_Rd_takeToken : ∀ q ∈ tb_Rd_takeToken, decode prog_7_method_5_code q.1 = .ok (q.2.1, q.2.2) := by decide +kernel
set_option maxHeartbeats 4000000 in
set_option maxRecDepth 100000 in
theorem t_Rd_takeToken (v0 : Nat) (v1 : Int32) (h : HP) : xx_S (xx_D "LampYard$Reader" tb_Rd_takeToken 3 11 (some .int) false) xz_i (fun K => xL_i K) 0 [(0, av_R 5 (some v0)), (1, av_I v1)] [] h (f_Rd_takeToken v0 v1 h) := by
  unfold f_Rd_takeToken
  refine xs_step (fun K HC => xr_aload_n HC.1 0 1 (n := 0) (ix := 0) (j := 0) (c := 5) (x := v0) rfl rfl rfl rfl) ?_
  refine xs_step (fun K HC => xr_iload_n HC.1 1 2 (n := 1) (ix := 1) (j := 1) (x := v1) rfl rfl rfl rfl) ?_
  refine xs_calli (s_Rd_byteAt v0 v1 h) (fun K HC x9 hM hmo hb => xr_callV HC.1 2 5 (av := [av_I v1]) (st := []) (hM (kg K) (cx_l (kx K))) hmo hb rfl rfl wm_Rd_82 wi_Rd_byteAt ws_Rd_byteAt wc_Rd_byteAt rfl wh_Rd_byteAt (by decide) (by decide) (by decide) (Nat.le_of_ble_eq_true rfl) rfl) (fun x_1 => ?_)
  refine xs_step (fun K HC => xr_istore_n HC.1 3 6 (n := 2) (ix := 2) (lv' := [(0, av_R 5 (some v0)), (1, av_I v1), (2, av_I x_1.1)]) rfl rfl rfl (by decide) rfl) ?_
  refine xs_step (fun K HC => xr_iload_n HC.1 4 7 (n := 1) (ix := 1) (j := 1) (x := v1) rfl rfl rfl rfl) ?_
  refine xs_step (fun K HC => xr_aload_n HC.1 5 8 (n := 0) (ix := 0) (j := 0) (c := 5) (x := v0) rfl rfl rfl rfl) ?_
  refine xs_step (fun K HC => xr_geti HC.1 6 11 5 3 rfl rfl wf_Rd_41 (by decide) fb_5_3 fc_5_3) ?_
  refine xs_ite (fun K HC => xr_icmp_lt HC.1 7 24 14 rfl (by decide) rfl) ?_ ?_
  · refine xs_step (fun K HC => xr_iload_n HC.1 15 25 (n := 2) (ix := 2) (j := 2) (x := x_1.1) rfl rfl rfl rfl) ?_
    refine xs_calli (s_Rd_isLetter x_1.1 x_1.2) (fun K HC x9 hM hmo hb => xr_callS HC.1 16 28 (av := [av_I x_1.1]) (st := []) (hM (kg K) (cx_l (kx K))) hmo hb rfl rfl wm_Rd_89 wt_Rd_isLetter wn_Rd_isLetter wc_Rd_isLetter wh_Rd_isLetter (by decide) (by decide) (Nat.le_of_ble_eq_true rfl) rfl) (fun x_2 => ?_)
    refine xs_ite (fun K HC => xr_if_eq HC.1 17 37 31 rfl (by decide) rfl) ?_ ?_
    · refine xs_step (fun K HC => xr_iload_n HC.1 22 38 (n := 2) (ix := 2) (j := 2) (x := x_1.1) rfl rfl rfl rfl) ?_
      refine xs_calli (s_Rd_isDigit x_1.1 x_2.2) (fun K HC x9 hM hmo hb => xr_callS HC.1 23 41 (av := [av_I x_1.1]) (st := []) (hM (kg K) (cx_l (kx K))) hmo hb rfl rfl wm_Rd_96 wt_Rd_isDigit wn_Rd_isDigit wc_Rd_isDigit wh_Rd_isDigit (by decide) (by decide) (Nat.le_of_ble_eq_true rfl) rfl) (fun x_3 => ?_)
      refine xs_ite (fun K HC => xr_if_eq HC.1 24 50 44 rfl (by decide) rfl) ?_ ?_
      · refine xs_step (fun K HC => xr_iload_n HC.1 29 51 (n := 2) (ix := 2) (j := 2) (x := x_1.1) rfl rfl rfl rfl) ?_
        refine xs_calli (s_Rd_isSign x_1.1 x_3.2) (fun K HC x9 hM hmo hb => xr_callS HC.1 30 54 (av := [av_I x_1.1]) (st := []) (hM (kg K) (cx_l (kx K))) hmo hb rfl rfl wm_Rd_102 wt_Rd_isSign wn_Rd_isSign wc_Rd_isSign wh_Rd_isSign (by decide) (by decide) (Nat.le_of_ble_eq_true rfl) rfl) (fun x_4 => ?_)
        refine xs_ite (fun K HC => xr_if_eq HC.1 31 68 57 rfl (by decide) rfl) ?_ ?_
        · refine xs_step (fun K HC => xr_aload_n HC.1 41 69 (n := 0) (ix := 0) (j := 0) (c := 5) (x := v0) rfl rfl rfl rfl) ?_
          refine xs_step (fun K HC => xr_bipush HC.1 42 71 (n := (23)) (23 : Int32) rfl rfl rfl) ?_
          refine xs_step (fun K HC => xr_iload_n HC.1 43 72 (n := 1) (ix := 1) (j := 1) (x := v1) rfl rfl rfl rfl) ?_
          refine xs_step (fun K HC => xr_lconst HC.1 44 73 (n := 0) (0 : Int64) rfl rfl rfl) ?_
          refine xs_step (fun K HC => xr_iconst HC.1 45 74 (n := (-1)) (-1 : Int32) rfl rfl rfl) ?_
          refine xs_calli (s_Rd_addToken v0 (23 : Int32) v1 (0 : Int64) (-1 : Int32) x_4.2) (fun K HC x9 hM hmo hb => xr_callV HC.1 46 77 (av := [av_I (23 : Int32), av_I v1, av_L (0 : Int64), av_I (-1 : Int32)]) (st := []) (hM (kg K) (cx_l (kx K))) hmo hb rfl rfl wm_Rd_85 wi_Rd_addToken ws_Rd_addToken wc_Rd_addToken rfl wh_Rd_addToken (by decide) (by decide) (by decide) (Nat.le_of_ble_eq_true rfl) rfl) (fun x_5 => ?_)
          exact xs_reti 47 rfl rfl (fun K q => q) (fun ty ht => by cases ht; rfl)
        refine xs_step (fun K HC => xr_aload_n HC.1 32 58 (n := 0) (ix := 0) (j := 0) (c := 5) (x := v0) rfl rfl rfl rfl) ?_
        refine xs_step (fun K HC => xr_iload_n HC.1 33 59 (n := 2) (ix := 2) (j := 2) (x := x_1.1) rfl rfl rfl rfl) ?_
        refine xs_step (fun K HC => xr_iload_n HC.1 34 60 (n := 1) (ix := 1) (j := 1) (x := v1) rfl rfl rfl rfl) ?_
        refine xs_step (fun K HC => xr_lconst HC.1 35 61 (n := 0) (0 : Int64) rfl rfl rfl) ?_
        refine xs_step (fun K HC => xr_iload_n HC.1 36 62 (n := 1) (ix := 1) (j := 1) (x := v1) rfl rfl rfl rfl) ?_
        refine xs_step (fun K HC => xr_iconst HC.1 37 63 (n := (1)) (1 : Int32) rfl rfl rfl) ?_
        refine xs_step (fun K HC => xr_iadd HC.1 38 64 rfl rfl) ?_
        refine xs_calli (s_Rd_addToken v0 x_1.1 v1 (0 : Int64) (v1 + (1 : Int32)) x_4.2) (fun K HC x9 hM hmo hb => xr_callV HC.1 39 67 (av := [av_I x_1.1, av_I v1, av_L (0 : Int64), av_I (v1 + (1 : Int32))]) (st := []) (hM (kg K) (cx_l (kx K))) hmo hb rfl rfl wm_Rd_85 wi_Rd_addToken ws_Rd_addToken wc_Rd_addToken rfl wh_Rd_addToken (by decide) (by decide) (by decide) (Nat.le_of_ble_eq_true rfl) rfl) (fun x_6 => ?_)
        exact xs_reti 40 rfl rfl (fun K q => q) (fun ty ht => by cases ht; rfl)
      refine xs_step (fun K HC => xr_aload_n HC.1 25 45 (n := 0) (ix := 0) (j := 0) (c := 5) (x := v0) rfl rfl rfl rfl) ?_
      refine xs_step (fun K HC => xr_iload_n HC.1 26 46 (n := 1) (ix := 1) (j := 1) (x := v1) rfl rfl rfl rfl) ?_
      refine xs_calli (s_Rd_takeNumber v0 v1 x_3.2) (fun K HC x9 hM hmo hb => xr_callV HC.1 27 49 (av := [av_I v1]) (st := []) (hM (kg K) (cx_l (kx K))) hmo hb rfl rfl wm_Rd_99 wi_Rd_takeNumber ws_Rd_takeNumber wc_Rd_takeNumber rfl wh_Rd_takeNumber (by decide) (by decide) (by decide) (Nat.le_of_ble_eq_true rfl) rfl) (fun x_7 => ?_)
      exact xs_reti 28 rfl rfl (fun K q => q) (fun ty ht => by cases ht; rfl)
    refine xs_step (fun K HC => xr_aload_n HC.1 18 32 (n := 0) (ix := 0) (j := 0) (c := 5) (x := v0) rfl rfl rfl rfl) ?_
    refine xs_step (fun K HC => xr_iload_n HC.1 19 33 (n := 1) (ix := 1) (j := 1) (x := v1) rfl rfl rfl rfl) ?_
    refine xs_calli (s_Rd_takeWord v0 v1 x_2.2) (fun K HC x9 hM hmo hb => xr_callV HC.1 20 36 (av := [av_I v1]) (st := []) (hM (kg K) (cx_l (kx K))) hmo hb rfl rfl wm_Rd_93 wi_Rd_takeWord ws_Rd_takeWord wc_Rd_takeWord rfl wh_Rd_takeWord (by decide) (by decide) (by decide) (Nat.le_of_ble_eq_true rfl) rfl) (fun x_8 => ?_)
    exact xs_reti 21 rfl rfl (fun K q => q) (fun ty ht => by cases ht; rfl)
  refine xs_step (fun K HC => xr_aload_n HC.1 8 15 (n := 0) (ix := 0) (j := 0) (c := 5) (x := v0) rfl rfl rfl rfl) ?_
  refine xs_step (fun K HC => xr_bipush HC.1 9 17 (n := (22)) (22 : Int32) rfl rfl rfl) ?_
  refine xs_step (fun K HC => xr_iload_n HC.1 10 18 (n := 1) (ix := 1) (j := 1) (x := v1) rfl rfl rfl rfl) ?_
  refine xs_step (fun K HC => xr_lconst HC.1 11 19 (n := 0) (0 : Int64) rfl rfl rfl) ?_
  refine xs_step (fun K HC => xr_iconst HC.1 12 20 (n := (-1)) (-1 : Int32) rfl rfl rfl) ?_
  refine xs_calli (s_Rd_addToken v0 (22 : Int32) v1 (0 : Int64) (-1 : Int32) x_1.2) (fun K HC x9 hM hmo hb => xr_callV HC.1 13 23 (av := [av_I (22 : Int32), av_I v1, av_L (0 : Int64), av_I (-1 : Int32)]) (st := []) (hM (kg K) (cx_l (kx K))) hmo hb rfl rfl wm_Rd_85 wi_Rd_addToken ws_Rd_addToken wc_Rd_addToken rfl wh_Rd_addToken (by decide) (by decide) (by decide) (Nat.le_of_ble_eq_true rfl) rfl) (fun x_9 => ?_)
  exact xs_reti 14 rfl rfl (fun K q => q) (fun ty ht => by cases ht; rfl)
theorem s_Rd_takeToken (v0 : Nat) (v1 : Int32) (h : HP) : ∀ x, f_Rd_takeToken v0 v1 h = some x → hp_mo h x.2 ∧ ∀ g l, xx_M g l y_Rd_takeToken prog_7_method_5_code 3 (some .int) 11 [av_R 5 (some v0), av_I v1] h (some (av_I x.1)) x.2 :=
  xM_i (tb := tb_Rd_takeToken) (b := false) (by decide +kernel) dt_Rd_takeToken (fun _ => trivial) (Nat.le_of_ble_eq_true rfl) (fun hb => by cases hb) (t_Rd_takeToken v0 v1 h)
