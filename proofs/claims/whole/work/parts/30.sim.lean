def tb_Rd_unitCode : TBL := [(0, .aload_n 0, 1), (1, .getfield 66, 3), (4, .lookupswitch 96 #[(0, 79), (8, 90), (9, 81), (18, 84), (19, 87), (21, 68), (40, 93)], 68), (72, .aload_n 0, 1), (73, .getfield 24, 3), (76, .aload_n 0, 1), (77, .getfield 60, 3), (80, .laload, 1), (81, .l2i, 1), (82, .ireturn, 1), (83, .iconst (-1), 1), (84, .ireturn, 1), (85, .bipush (-2), 2), (87, .ireturn, 1), (88, .bipush (-3), 2), (90, .ireturn, 1), (91, .bipush (-4), 2), (93, .ireturn, 1), (94, .bipush (-5), 2), (96, .ireturn, 1), (97, .bipush (-100), 2), (99, .ireturn, 1), (100, .bipush (-101), 2), (102, .ireturn, 1)]
theorem dt_Rd_unitCode : ∀ q ∈ tb_Rd_unitCode, decode prog_7_method_26_code q.1 = .ok (q.2.1, q.2.2) := by decide +kernel
set_option maxHeartbeats 4000000 in
set_option maxRecDepth 100000 in
theorem t_Rd_unitCode (v0 : Nat) (h : HP) : xx_S (xx_D "LampYard$Reader" tb_Rd_unitCode 1 1 (some .int) false) xz_i (fun K => xL_i K) 0 [(0, av_R 5 (some v0))] [] h (f_Rd_unitCode v0 h) := by
  unfold f_Rd_unitCode
  refine xs_step (fun K HC => xr_aload_n HC.1 0 1 (n := 0) (ix := 0) (j := 0) (c := 5) (x := v0) rfl rfl rfl rfl) ?_
  refine xs_step (fun K HC => xr_geti HC.1 1 4 5 12 rfl rfl wf_Rd_66 (by decide) fb_5_12 fc_5_12) ?_
  refine xs_topi (fun w_1 => ?_)
  refine xs_if (fun hc_2 => ?_) (fun hc_2 => ?_)
  · refine xs_step (fun K HC => xr_look HC.1 2 83 rfl (by decide) (by rw [hc_2]) (by decide)) ?_
    refine xs_step (fun K HC => xr_iconst HC.1 10 84 (n := (-1)) (-1 : Int32) rfl rfl rfl) ?_
    exact xs_reti 11 rfl rfl (fun K q => q) (fun ty ht => by cases ht; rfl)
  refine xs_if (fun hc_3 => ?_) (fun hc_3 => ?_)
  · refine xs_step (fun K HC => xr_look HC.1 2 94 rfl (by decide) (by rw [hc_3]) (by decide)) ?_
    refine xs_step (fun K HC => xr_bipush HC.1 18 96 (n := (-5)) (-5 : Int32) rfl rfl rfl) ?_
    exact xs_reti 19 rfl rfl (fun K q => q) (fun ty ht => by cases ht; rfl)
  refine xs_if (fun hc_4 => ?_) (fun hc_4 => ?_)
  · refine xs_step (fun K HC => xr_look HC.1 2 85 rfl (by decide) (by rw [hc_4]) (by decide)) ?_
    refine xs_step (fun K HC => xr_bipush HC.1 12 87 (n := (-2)) (-2 : Int32) rfl rfl rfl) ?_
    exact xs_reti 13 rfl rfl (fun K q => q) (fun ty ht => by cases ht; rfl)
  refine xs_if (fun hc_5 => ?_) (fun hc_5 => ?_)
  · refine xs_step (fun K HC => xr_look HC.1 2 88 rfl (by decide) (by rw [hc_5]) (by decide)) ?_
    refine xs_step (fun K HC => xr_bipush HC.1 14 90 (n := (-3)) (-3 : Int32) rfl rfl rfl) ?_
    exact xs_reti 15 rfl rfl (fun K q => q) (fun ty ht => by cases ht; rfl)
  refine xs_if (fun hc_6 => ?_) (fun hc_6 => ?_)
  · refine xs_step (fun K HC => xr_look HC.1 2 91 rfl (by decide) (by rw [hc_6]) (by decide)) ?_
    refine xs_step (fun K HC => xr_bipush HC.1 16 93 (n := (-4)) (-4 : Int32) rfl rfl rfl) ?_
    exact xs_reti 17 rfl rfl (fun K q => q) (fun ty ht => by cases ht; rfl)
  refine xs_if (fun hc_9 => ?_) (fun hc_9 => ?_)
  · refine xs_step (fun K HC => xr_look HC.1 2 72 rfl (by decide) (by rw [hc_9]) (by decide)) ?_
    refine xs_step (fun K HC => xr_aload_n HC.1 3 73 (n := 0) (ix := 0) (j := 0) (c := 5) (x := v0) rfl rfl rfl rfl) ?_
    refine xs_bind (fun q_7 eq_7 => ?_)
    refine xs_step (fun K HC => xr_getr HC.1 4 76 5 9 14 eq_7 rfl rfl wf_Rd_24 (by decide) fb_5_9 fc_5_9 fd_5_9) ?_
    refine xs_step (fun K HC => xr_aload_n HC.1 5 77 (n := 0) (ix := 0) (j := 0) (c := 5) (x := v0) rfl rfl rfl rfl) ?_
    refine xs_step (fun K HC => xr_geti HC.1 6 80 5 11 rfl rfl wf_Rd_60 (by decide) fb_5_11 fc_5_11) ?_
    refine xs_chk (fun hb_8 => ?_)
    refine xs_step (fun K HC => xr_lald HC.1 7 81 (hp_in_vp hb_8) rfl rfl) ?_
    refine xs_step (fun K HC => xr_l2i HC.1 8 82 rfl rfl) ?_
    exact xs_reti 9 rfl rfl (fun K q => q) (fun ty ht => by cases ht; rfl)
  refine xs_if (fun hc_10 => ?_) (fun hc_10 => ?_)
  · refine xs_step (fun K HC => xr_look HC.1 2 97 rfl (by decide) (by rw [hc_10]) (by decide)) ?_
    refine xs_step (fun K HC => xr_bipush HC.1 20 99 (n := (-100)) (-100 : Int32) rfl rfl rfl) ?_
    exact xs_reti 21 rfl rfl (fun K q => q) (fun ty ht => by cases ht; rfl)
  refine xs_step (fun K HC => xr_look (off := 96) HC.1 2 100 rfl (by decide) (ly_lkD (by simp only [List.forall_mem_cons]; exact ⟨ly_lkN (by decide) hc_2, ly_lkN (by decide) hc_3, ly_lkN (by decide) hc_4, ly_lkN (by decide) hc_5, ly_lkN (by decide) hc_6, ly_lkN (by decide) hc_9, ly_lkN (by decide) hc_10, fun _ h9 => absurd h9 List.not_mem_nil⟩)) (by decide)) ?_
  refine xs_step (fun K HC => xr_bipush HC.1 22 102 (n := (-101)) (-101 : Int32) rfl rfl rfl) ?_
  exact xs_reti 23 rfl rfl (fun K q => q) (fun ty ht => by cases ht; rfl)
theorem s_Rd_unitCode (v0 : Nat) (h : HP) : ∀ x, f_Rd_unitCode v0 h = some x → hp_mo h x.2 ∧ ∀ g l, xx_M g l y_Rd_unitCode prog_7_method_26_code 1 (some .int) 1 [av_R 5 (some v0)] h (some (av_I x.1)) x.2 :=
  xM_i (tb := tb_Rd_unitCode) (b := false) (by decide +kernel) dt_Rd_unitCode (fun _ => trivial) (Nat.le_of_ble_eq_true rfl) (fun hb => by cases hb) (t_Rd_unitCode v0 h)
def tb_Rd_refuse : TBL := [(0, .aload_n 0, 1), (1, .getfield 51, 3), (4, .ifCond .ne 21, 3), (7, .aload_n 0, 1), (8, .iload_n 1, 1), (9, .putfield 51, 3), (12, .aload_n 0, 1), (13, .aload_n 0, 1), (14, .getfield 21, 3), (17, .aload_n 0, 1), (18, .getfield 60, 3), (21, .iaload, 1), (22, .putfield 27, 3), (25, .aload_n 0, 1), (26, .bipush 23, 2), (28, .putfield 66, 3), (31, .return_, 1)]
theorem dt_Rd_refuse : ∀ q ∈ tb_Rd_refuse, decode prog_7_method_31_code q.1 = .ok (q.2.1, q.2.2) := by decide +kernel
set_option maxHeartbeats 4000000 in
set_option maxRecDepth 100000 in
theorem t_Rd_refuse (v0 : Nat) (v1 : Int32) (h : HP) : xx_S (xx_D "LampYard$Reader" tb_Rd_refuse 2 1 none false) xz_v (fun K => xL_v K) 0 [(0, av_R 5 (some v0)), (1, av_I v1)] [] h (f_Rd_refuse v0 v1 h) := by
  unfold f_Rd_refuse
  refine xs_step (fun K HC => xr_aload_n HC.1 0 1 (n := 0) (ix := 0) (j := 0) (c := 5) (x := v0) rfl rfl rfl rfl) ?_
  refine xs_step (fun K HC => xr_geti HC.1 1 4 5 0 rfl rfl wf_Rd_51 (by decide) fb_5_0 fc_5_0) ?_
  refine xs_ite (fun K HC a b => xr_if_ne HC.1 2 25 7 rfl (by decide) rfl b a) ?_ ?_
  · refine xs_step (fun K HC => xr_aload_n HC.1 3 8 (n := 0) (ix := 0) (j := 0) (c := 5) (x := v0) rfl rfl rfl rfl) ?_
    refine xs_step (fun K HC => xr_iload_n HC.1 4 9 (n := 1) (ix := 1) (j := 1) (x := v1) rfl rfl rfl rfl) ?_
    refine xs_heap (hp_mo_si _ _ _ _) (fun K HC => xr_puti HC.1 5 12 5 0 rfl rfl wf_Rd_51 (by decide) fb_5_0 fn_5_0 fy_5_0) (fun h_1 => ?_)
    refine xs_step (fun K HC => xr_aload_n HC.1 6 13 (n := 0) (ix := 0) (j := 0) (c := 5) (x := v0) rfl rfl rfl rfl) ?_
    refine xs_step (fun K HC => xr_aload_n HC.1 7 14 (n := 0) (ix := 0) (j := 0) (c := 5) (x := v0) rfl rfl rfl rfl) ?_
    refine xs_bind (fun q_2 eq_2 => ?_)
    refine xs_step (fun K HC => xr_getr HC.1 8 17 5 8 13 eq_2 rfl rfl wf_Rd_21 (by decide) fb_5_8 fc_5_8 fd_5_8) ?_
    refine xs_step (fun K HC => xr_aload_n HC.1 9 18 (n := 0) (ix := 0) (j := 0) (c := 5) (x := v0) rfl rfl rfl rfl) ?_
    refine xs_step (fun K HC => xr_geti HC.1 10 21 5 11 rfl rfl wf_Rd_60 (by decide) fb_5_11 fc_5_11) ?_
    refine xs_chk (fun hb_3 => ?_)
    refine xs_step (fun K HC => xr_iald HC.1 11 22 (hp_in_vp hb_3) rfl rfl) ?_
    refine xs_heap (hp_mo_si _ _ _ _) (fun K HC => xr_puti HC.1 12 25 5 1 rfl rfl wf_Rd_27 (by decide) fb_5_1 fn_5_1 fy_5_1) (fun h_4 => ?_)
    refine xs_step (fun K HC => xr_aload_n HC.1 13 26 (n := 0) (ix := 0) (j := 0) (c := 5) (x := v0) rfl rfl rfl rfl) ?_
    refine xs_step (fun K HC => xr_bipush HC.1 14 28 (n := (23)) (23 : Int32) rfl rfl rfl) ?_
    refine xs_heap (hp_mo_si _ _ _ _) (fun K HC => xr_puti HC.1 15 31 5 12 rfl rfl wf_Rd_66 (by decide) fb_5_12 fn_5_12 fy_5_12) (fun h_5 => ?_)
    exact xs_ret 16 rfl rfl (fun K q => q)
  refine xs_step (fun K HC => xr_aload_n HC.1 13 26 (n := 0) (ix := 0) (j := 0) (c := 5) (x := v0) rfl rfl rfl rfl) ?_
  refine xs_step (fun K HC => xr_bipush HC.1 14 28 (n := (23)) (23 : Int32) rfl rfl rfl) ?_
  refine xs_heap (hp_mo_si _ _ _ _) (fun K HC => xr_puti HC.1 15 31 5 12 rfl rfl wf_Rd_66 (by decide) fb_5_12 fn_5_12 fy_5_12) (fun h_6 => ?_)
  exact xs_ret 16 rfl rfl (fun K q => q)
theorem s_Rd_refuse (v0 : Nat) (v1 : Int32) (h : HP) : ∀ x, f_Rd_refuse v0 v1 h = some x → hp_mo h x ∧ ∀ g l, xx_M g l y_Rd_refuse prog_7_method_31_code 2 none 1 [av_R 5 (some v0), av_I v1] h none x :=
  xM_v (tb := tb_Rd_refuse) (b := false) (by decide +kernel) dt_Rd_refuse trivial (Nat.le_of_ble_eq_true rfl) (fun hb => by cases hb) (t_Rd_refuse v0 v1 h)
def tb_Rd_advance : TBL := [(0, .aload_n 0, 1), (1, .getfield 51, 3), (4, .ifCond .ne 16, 3), (7, .aload_n 0, 1), (8, .getfield 60, 3), (11, .aload_n 0, 1), (12, .getfield 72, 3), (15, .iconst 1, 1), (16, .isub, 1), (17, .if_icmp .lt 4, 3), (20, .return_, 1), (21, .aload_n 0, 1), (22, .dup, 1), (23, .getfield 60, 3), (26, .iconst 1, 1), (27, .iadd, 1), (28, .putfield 60, 3), (31, .aload_n 0, 1), (32, .aload_n 0, 1), (33, .getfield 17, 3), (36, .aload_n 0, 1), (37, .getfield 60, 3), (40, .iaload, 1), (41, .putfield 66, 3), (44, .aload_n 0, 1), (45, .getfield 66, 3), (48, .bipush 23, 2), (50, .if_icmp .ne 8, 3), (53, .aload_n 0, 1), (54, .iconst 1, 1), (55, .invokevirtual 131, 3), (58, .return_, 1)]
theorem dt_Rd_advance : ∀ q ∈ tb_Rd_advance, decode prog_7_method_30_code q.1 = .ok (q.2.1, q.2.2) := by decide +kernel
set_option maxHeartbeats 4000000 in
set_option maxRecDepth 100000 in
theorem t_Rd_advance (v0 : Nat) (h : HP) : xx_S (xx_D "LampYard$Reader" tb_Rd_advance 1 2 none false) xz_v (fun K => xL_v K) 0 [(0, av_R 5 (some v0))] [] h (f_Rd_advance v0 h) := by
  unfold f_Rd_advance
  refine xs_step (fun K HC => xr_aload_n HC.1 0 1 (n := 0) (ix := 0) (j := 0) (c := 5) (x := v0) rfl rfl rfl rfl) ?_
  refine xs_step (fun K HC => xr_geti HC.1 1 4 5 0 rfl rfl wf_Rd_51 (by decide) fb_5_0 fc_5_0) ?_
  refine xs_ite (fun K HC a b => xr_if_ne HC.1 2 20 7 rfl (by decide) rfl b a) ?_ ?_
  · refine xs_step (fun K HC => xr_aload_n HC.1 3 8 (n := 0) (ix := 0) (j := 0) (c := 5) (x := v0) rfl rfl rfl rfl) ?_
    refine xs_step (fun K HC => xr_geti HC.1 4 11 5 11 rfl rfl wf_Rd_60 (by decide) fb_5_11 fc_5_11) ?_
    refine xs_step (fun K HC => xr_aload_n HC.1 5 12 (n := 0) (ix := 0) (j := 0) (c := 5) (x := v0) rfl rfl rfl rfl) ?_
    refine xs_step (fun K HC => xr_geti HC.1 6 15 5 10 rfl rfl wf_Rd_72 (by decide) fb_5_10 fc_5_10) ?_
    refine xs_step (fun K HC => xr_iconst HC.1 7 16 (n := (1)) (1 : Int32) rfl rfl rfl) ?_
    refine xs_step (fun K HC => xr_isub HC.1 8 17 rfl rfl) ?_
    refine xs_ite (fun K HC => xr_icmp_lt HC.1 9 21 20 rfl (by decide) rfl) ?_ ?_
    · refine xs_step (fun K HC => xr_aload_n HC.1 11 22 (n := 0) (ix := 0) (j := 0) (c := 5) (x := v0) rfl rfl rfl rfl) ?_
      refine xs_step (fun K HC => xr_dup HC.1 12 23 rfl rfl rfl) ?_
      refine xs_step (fun K HC => xr_geti HC.1 13 26 5 11 rfl rfl wf_Rd_60 (by decide) fb_5_11 fc_5_11) ?_
      refine xs_step (fun K HC => xr_iconst HC.1 14 27 (n := (1)) (1 : Int32) rfl rfl rfl) ?_
      refine xs_step (fun K HC => xr_iadd HC.1 15 28 rfl rfl) ?_
      refine xs_heap (hp_mo_si _ _ _ _) (fun K HC => xr_puti HC.1 16 31 5 11 rfl rfl wf_Rd_60 (by decide) fb_5_11 fn_5_11 fy_5_11) (fun h_1 => ?_)
      refine xs_step (fun K HC => xr_aload_n HC.1 17 32 (n := 0) (ix := 0) (j := 0) (c := 5) (x := v0) rfl rfl rfl rfl) ?_
      refine xs_step (fun K HC => xr_aload_n HC.1 18 33 (n := 0) (ix := 0) (j := 0) (c := 5) (x := v0) rfl rfl rfl rfl) ?_
      refine xs_bind (fun q_2 eq_2 => ?_)
      refine xs_step (fun K HC => xr_getr HC.1 19 36 5 7 13 eq_2 rfl rfl wf_Rd_17 (by decide) fb_5_7 fc_5_7 fd_5_7) ?_
      refine xs_step (fun K HC => xr_aload_n HC.1 20 37 (n := 0) (ix := 0) (j := 0) (c := 5) (x := v0) rfl rfl rfl rfl) ?_
      refine xs_step (fun K HC => xr_geti HC.1 21 40 5 11 rfl rfl wf_Rd_60 (by decide) fb_5_11 fc_5_11) ?_
      refine xs_chk (fun hb_3 => ?_)
      refine xs_step (fun K HC => xr_iald HC.1 22 41 (hp_in_vp hb_3) rfl rfl) ?_
      refine xs_heap (hp_mo_si _ _ _ _) (fun K HC => xr_puti HC.1 23 44 5 12 rfl rfl wf_Rd_66 (by decide) fb_5_12 fn_5_12 fy_5_12) (fun h_4 => ?_)
      refine xs_step (fun K HC => xr_aload_n HC.1 24 45 (n := 0) (ix := 0) (j := 0) (c := 5) (x := v0) rfl rfl rfl rfl) ?_
      refine xs_step (fun K HC => xr_geti HC.1 25 48 5 12 rfl rfl wf_Rd_66 (by decide) fb_5_12 fc_5_12) ?_
      refine xs_step (fun K HC => xr_bipush HC.1 26 50 (n := (23)) (23 : Int32) rfl rfl rfl) ?_
      refine xs_ite (fun K HC a b => xr_icmp_ne HC.1 27 58 53 rfl (by decide) rfl b a) ?_ ?_
      · refine xs_step (fun K HC => xr_aload_n HC.1 28 54 (n := 0) (ix := 0) (j := 0) (c := 5) (x := v0) rfl rfl rfl rfl) ?_
        refine xs_step (fun K HC => xr_iconst HC.1 29 55 (n := (1)) (1 : Int32) rfl rfl rfl) ?_
        refine xs_callv (s_Rd_refuse v0 (1 : Int32) h_4) (fun K HC x9 hM hmo hb => xr_callV HC.1 30 58 (av := [av_I (1 : Int32)]) (st := []) (hM (kg K) (cx_l (kx K))) hmo hb rfl rfl wm_Rd_131 wi_Rd_refuse ws_Rd_refuse wc_Rd_refuse rfl wh_Rd_refuse (by decide) (by decide) (by decide) (Nat.le_of_ble_eq_true rfl) rfl) (fun x_5 => ?_)
        exact xs_ret 31 rfl rfl (fun K q => q)
      exact xs_ret 31 rfl rfl (fun K q => q)
    exact xs_ret 10 rfl rfl (fun K q => q)
  exact xs_ret 10 rfl rfl (fun K q => q)
theorem s_Rd_advance (v0 : Nat) (h : HP) : ∀ x, f_Rd_advance v0 h = some x → hp_mo h x ∧ ∀ g l, xx_M g l y_Rd_advance prog_7_method_30_code 1 none 2 [av_R 5 (some v0)] h none x :=
  xM_v (tb := tb_Rd_advance) (b := false) (by decide +kernel) dt_Rd_advance trivial (Nat.le_of_ble_eq_true rfl) (fun hb => by cases hb) (t_Rd_advance v0 h)
def tb_Rd_expect : TBL := [(0, .aload_n 0, 1), (1, .getfield 66, 3), (4, .iload_n 1, 1), (5, .if_icmp .ne 10, 3), (8, .aload_n 0, 1), (9, .invokevirtual 63, 3), (12, .goto 8, 3), (15, .aload_n 0, 1), (16, .iconst 2, 1), (17, .invokevirtual 131, 3), (20, .return_, 1)]
theorem dt_Rd_expect : ∀ q ∈ tb_Rd_expect, decode prog_7_method_29_code q.1 = .ok (q.2.1, q.2.2) := by decide +kernel
set_option maxHeartbeats 4000000 in
set_option maxRecDepth 100000 in
theorem t_Rd_expect (v0 : Nat) (v1 : Int32) (h : HP) : xx_S (xx_D "LampYard$Reader" tb_Rd_expect 2 3 none false) xz_v (fun K => xL_v K) 0 [(0, av_R 5 (some v0)), (1, av_I v1)] [] h (f_Rd_expect v0 v1 h) := by
  unfold f_Rd_expect
  refine xs_step (fun K HC => xr_aload_n HC.1 0 1 (n := 0) (ix := 0) (j := 0) (c := 5) (x := v0) rfl rfl rfl rfl) ?_
  refine xs_step (fun K HC => xr_geti HC.1 1 4 5 12 rfl rfl wf_Rd_66 (by decide) fb_5_12 fc_5_12) ?_
  refine xs_step (fun K HC => xr_iload_n HC.1 2 5 (n := 1) (ix := 1) (j := 1) (x := v1) rfl rfl rfl rfl) ?_
  refine xs_ite (fun K HC a b => xr_icmp_ne HC.1 3 15 8 rfl (by decide) rfl b a) ?_ ?_
  · refine xs_step (fun K HC => xr_aload_n HC.1 4 9 (n := 0) (ix := 0) (j := 0) (c := 5) (x := v0) rfl rfl rfl rfl) ?_
    refine xs_callv (s_Rd_advance v0 h) (fun K HC x9 hM hmo hb => xr_callV HC.1 5 12 (av := []) (st := []) (hM (kg K) (cx_l (kx K))) hmo hb rfl rfl wm_Rd_63 wi_Rd_advance ws_Rd_advance wc_Rd_advance rfl wh_Rd_advance (by decide) (by decide) (by decide) (Nat.le_of_ble_eq_true rfl) rfl) (fun x_1 => ?_)
    refine xs_step (fun K HC => xr_goto HC.1 6 20 rfl (by decide)) ?_
    exact xs_ret 10 rfl rfl (fun K q => q)
  refine xs_step (fun K HC => xr_aload_n HC.1 7 16 (n := 0) (ix := 0) (j := 0) (c := 5) (x := v0) rfl rfl rfl rfl) ?_
  refine xs_step (fun K HC => xr_iconst HC.1 8 17 (n := (2)) (2 : Int32) rfl rfl rfl) ?_
  refine xs_callv (s_Rd_refuse v0 (2 : Int32) h) (fun K HC x9 hM hmo hb => xr_callV HC.1 9 20 (av := [av_I (2 : Int32)]) (st := []) (hM (kg K) (cx_l (kx K))) hmo hb rfl rfl wm_Rd_131 wi_Rd_refuse ws_Rd_refuse wc_Rd_refuse rfl wh_Rd_refuse (by decide) (by decide) (by decide) (Nat.le_of_ble_eq_true rfl) rfl) (fun x_2 => ?_)
  exact xs_ret 10 rfl rfl (fun K q => q)
theorem s_Rd_expect (v0 : Nat) (v1 : Int32) (h : HP) : ∀ x, f_Rd_expect v0 v1 h = some x → hp_mo h x ∧ ∀ g l, xx_M g l y_Rd_expect prog_7_method_29_code 2 none 3 [av_R 5 (some v0), av_I v1] h none x :=
  xM_v (tb := tb_Rd_expect) (b := false) (by decide +kernel) dt_Rd_expect trivial (Nat.le_of_ble_eq_true rfl) (fun hb => by cases hb) (t_Rd_expect v0 v1 h)
def tb_Pl_addCode : TBL := [(0, .aload_n 0, 1), (1, .getfield 65, 3), (4, .sipush 540, 3), (7, .if_icmp .ge 23, 3), (10, .aload_n 0, 1), (11, .getfield 28, 3), (14, .aload_n 0, 1), (15, .getfield 65, 3), (18, .iload_n 1, 1), (19, .iastore, 1), (20, .aload_n 0, 1), (21, .dup, 1), (22, .getfield 65, 3), (25, .iconst 1, 1), (26, .iadd, 1), (27, .putfield 65, 3), (30, .return_, 1)]
theorem dt_Pl_addCode : ∀ q ∈ tb_Pl_addCode, decode prog_6_method_4_code q.1 = .ok (q.2.1, q.2.2) := by decide +kernel
set_option maxHeartbeats 4000000 in
set_option maxRecDepth 100000 in
theorem t_Pl_addCode (v0 : Nat) (v1 : Int32) (h : HP) : xx_S (xx_D "LampYard$Plan" tb_Pl_addCode 2 1 none false) xz_v (fun K => xL_v K) 0 [(0, av_R 4 (some v0)), (1, av_I v1)] [] h (f_Pl_addCode v0 v1 h) := by
  unfold f_Pl_addCode
  refine xs_step (fun K HC => xr_aload_n HC.1 0 1 (n := 0) (ix := 0) (j := 0) (c := 4) (x := v0) rfl rfl rfl rfl) ?_
  refine xs_step (fun K HC => xr_geti HC.1 1 4 4 14 rfl rfl wf_Pl_65 (by decide) fb_4_14 fc_4_14) ?_
  refine xs_step (fun K HC => xr_sipush HC.1 2 7 (n := (540)) (540 : Int32) rfl rfl rfl) ?_
  refine xs_ite (fun K HC => xr_icmp_ge HC.1 3 30 10 rfl (by decide) rfl) ?_ ?_
  · exact xs_ret 16 rfl rfl (fun K q => q)
  refine xs_step (fun K HC => xr_aload_n HC.1 4 11 (n := 0) (ix := 0) (j := 0) (c := 4) (x := v0) rfl rfl rfl rfl) ?_
  refine xs_bind (fun q_1 eq_1 => ?_)
  refine xs_step (fun K HC => xr_getr HC.1 5 14 4 13 13 eq_1 rfl rfl wf_Pl_28 (by decide) fb_4_13 fc_4_13 fd_4_13) ?_
  refine xs_step (fun K HC => xr_aload_n HC.1 6 15 (n := 0) (ix := 0) (j := 0) (c := 4) (x := v0) rfl rfl rfl rfl) ?_
  refine xs_step (fun K HC => xr_geti HC.1 7 18 4 14 rfl rfl wf_Pl_65 (by decide) fb_4_14 fc_4_14) ?_
  refine xs_step (fun K HC => xr_iload_n HC.1 8 19 (n := 1) (ix := 1) (j := 1) (x := v1) rfl rfl rfl rfl) ?_
  refine xs_chk (fun hb_2 => ?_)
  refine xs_heap (hp_mo_si _ _ _ _) (fun K HC => xr_iast HC.1 9 20 (hp_in_vp hb_2) rfl rfl) (fun h_3 => ?_)
  refine xs_step (fun K HC => xr_aload_n HC.1 10 21 (n := 0) (ix := 0) (j := 0) (c := 4) (x := v0) rfl rfl rfl rfl) ?_
  refine xs_step (fun K HC => xr_dup HC.1 11 22 rfl rfl rfl) ?_
  refine xs_step (fun K HC => xr_geti HC.1 12 25 4 14 rfl rfl wf_Pl_65 (by decide) fb_4_14 fc_4_14) ?_
  refine xs_step (fun K HC => xr_iconst HC.1 13 26 (n := (1)) (1 : Int32) rfl rfl rfl) ?_
  refine xs_step (fun K HC => xr_iadd HC.1 14 27 rfl rfl) ?_
  refine xs_heap (hp_mo_si _ _ _ _) (fun K HC => xr_puti HC.1 15 30 4 14 rfl rfl wf_Pl_65 (by decide) fb_4_14 fn_4_14 fy_4_14) (fun h_4 => ?_)
  exact xs_ret 16 rfl rfl (fun K q => q)
theorem s_Pl_addCode (v0 : Nat) (v1 : Int32) (h : HP) : ∀ x, f_Pl_addCode v0 v1 h = some x → hp_mo h x ∧ ∀ g l, xx_M g l y_Pl_addCode prog_6_method_4_code 2 none 1 [av_R 4 (some v0), av_I v1] h none x :=
  xM_v (tb := tb_Pl_addCode) (b := false) (by decide +kernel) dt_Pl_addCode trivial (Nat.le_of_ble_eq_true rfl) (fun hb => by cases hb) (t_Pl_addCode v0 v1 h)
def tb_Rd_new : TBL := [(0, .aload_n 0, 1), (1, .invokespecial 3, 3), (4, .aload_n 0, 1), (5, .iconst 4, 1), (6, .newarray .long, 2), (8, .putfield 11, 3), (11, .aload_n 0, 1), (12, .sipush 1401, 3), (15, .newarray .int, 2), (17, .putfield 17, 3), (20, .aload_n 0, 1), (21, .sipush 1401, 3), (24, .newarray .int, 2), (26, .putfield 21, 3), (29, .aload_n 0, 1), (30, .sipush 1401, 3), (33, .newarray .long, 2), (35, .putfield 24, 3), (38, .aload_n 0, 1), (39, .iconst (-1), 1), (40, .putfield 27, 3), (43, .return_, 1)]
theorem dt_Rd_new : ∀ q ∈ tb_Rd_new, decode prog_7_method_1_code q.1 = .ok (q.2.1, q.2.2) := by decide +kernel
set_option maxHeartbeats 4000000 in
set_option maxRecDepth 100000 in
theorem t_Rd_new (v0 : Nat) (h : HP) : xx_S (xx_D "LampYard$Reader" tb_Rd_new 1 1 none true) xz_v (fun K => xL_v K) 0 [(0, av_R 5 (some v0))] [] h (f_Rd_new v0 h) := by
  unfold f_Rd_new
  refine xs_step (fun K HC => xr_aload_n HC.1 0 1 (n := 0) (ix := 0) (j := 0) (c := 5) (x := v0) rfl rfl rfl rfl) ?_
  refine xs_step (fun K HC => xr_obj HC.1 1 4 rfl rfl wm_Rd_3 (by decide) (Nat.le_of_ble_eq_true rfl)) ?_
  refine xs_step (fun K HC => xr_aload_n HC.1 2 5 (n := 0) (ix := 0) (j := 0) (c := 5) (x := v0) rfl rfl rfl rfl) ?_
  refine xs_step (fun K HC => xr_iconst HC.1 3 6 (n := (4)) (4 : Int32) rfl rfl rfl) ?_
  refine xs_new (fun K HC hb => xr_newL HC.1 4 8 4 hb rfl rfl (by decide) rfl (Nat.le_of_ble_eq_true rfl)) (fun q_1 h_2 => ?_)
  refine xs_heap (hp_mo_sr _ _ _ _) (fun K HC => xr_putr HC.1 5 11 5 5 14 rfl rfl wf_Rd_11 (by decide) fb_5_5 (Or.inr ⟨fn_5_5, HC.2 rfl, rfl⟩) fc_5_5 fd_5_5 (by decide)) (fun h_3 => ?_)
  refine xs_step (fun K HC => xr_aload_n HC.1 6 12 (n := 0) (ix := 0) (j := 0) (c := 5) (x := v0) rfl rfl rfl rfl) ?_
  refine xs_step (fun K HC => xr_sipush HC.1 7 15 (n := (1401)) (1401 : Int32) rfl rfl rfl) ?_
  refine xs_new (fun K HC hb => xr_newI HC.1 8 17 1401 hb rfl rfl (by decide) rfl (Nat.le_of_ble_eq_true rfl)) (fun q_4 h_5 => ?_)
  refine xs_heap (hp_mo_sr _ _ _ _) (fun K HC => xr_putr HC.1 9 20 5 7 13 rfl rfl wf_Rd_17 (by decide) fb_5_7 (Or.inr ⟨fn_5_7, HC.2 rfl, rfl⟩) fc_5_7 fd_5_7 (by decide)) (fun h_6 => ?_)
  refine xs_step (fun K HC => xr_aload_n HC.1 10 21 (n := 0) (ix := 0) (j := 0) (c := 5) (x := v0) rfl rfl rfl rfl) ?_
  refine xs_step (fun K HC => xr_sipush HC.1 11 24 (n := (1401)) (1401 : Int32) rfl rfl rfl) ?_
  refine xs_new (fun K HC hb => xr_newI HC.1 12 26 1401 hb rfl rfl (by decide) rfl (Nat.le_of_ble_eq_true rfl)) (fun q_7 h_8 => ?_)
  refine xs_heap (hp_mo_sr _ _ _ _) (fun K HC => xr_putr HC.1 13 29 5 8 13 rfl rfl wf_Rd_21 (by decide) fb_5_8 (Or.inr ⟨fn_5_8, HC.2 rfl, rfl⟩) fc_5_8 fd_5_8 (by decide)) (fun h_9 => ?_)
  refine xs_step (fun K HC => xr_aload_n HC.1 14 30 (n := 0) (ix := 0) (j := 0) (c := 5) (x := v0) rfl rfl rfl rfl) ?_
  refine xs_step (fun K HC => xr_sipush HC.1 15 33 (n := (1401)) (1401 : Int32) rfl rfl rfl) ?_
  refine xs_new (fun K HC hb => xr_newL HC.1 16 35 1401 hb rfl rfl (by decide) rfl (Nat.le_of_ble_eq_true rfl)) (fun q_10 h_11 => ?_)
  refine xs_heap (hp_mo_sr _ _ _ _) (fun K HC => xr_putr HC.1 17 38 5 9 14 rfl rfl wf_Rd_24 (by decide) fb_5_9 (Or.inr ⟨fn_5_9, HC.2 rfl, rfl⟩) fc_5_9 fd_5_9 (by decide)) (fun h_12 => ?_)
  refine xs_step (fun K HC => xr_aload_n HC.1 18 39 (n := 0) (ix := 0) (j := 0) (c := 5) (x := v0) rfl rfl rfl rfl) ?_
  refine xs_step (fun K HC => xr_iconst HC.1 19 40 (n := (-1)) (-1 : Int32) rfl rfl rfl) ?_
  refine xs_heap (hp_mo_si _ _ _ _) (fun K HC => xr_puti HC.1 20 43 5 1 rfl rfl wf_Rd_27 (by decide) fb_5_1 fn_5_1 fy_5_1) (fun h_13 => ?_)
  exact xs_ret 21 rfl rfl (fun K q => q)
theorem s_Rd_new (v0 : Nat) (h : HP) : ∀ x, f_Rd_new v0 h = some x → hp_mo h x ∧ ∀ g l, xx_M g l y_Rd_new prog_7_method_1_code 1 none 1 [av_R 5 (some v0)] h none x :=
  xM_v (tb := tb_Rd_new) (b := true) (by decide +kernel) dt_Rd_new trivial (Nat.le_of_ble_eq_true rfl) (fun hb => rfl) (t_Rd_new v0 h)
def tb_Pl_empty : TBL := [(0, .aload_n 0, 1), (1, .iconst 1, 1), (2, .putfield 40, 3), (5, .aload_n 0, 1), (6, .iconst 1, 1), (7, .putfield 44, 3), (10, .aload_n 0, 1), (11, .iconst (-1), 1), (12, .putfield 47, 3), (15, .aload_n 0, 1), (16, .iconst 0, 1), (17, .putfield 50, 3), (20, .aload_n 0, 1), (21, .iconst 0, 1), (22, .putfield 53, 3), (25, .aload_n 0, 1), (26, .iconst 0, 1), (27, .putfield 56, 3), (30, .aload_n 0, 1), (31, .iconst 0, 1), (32, .putfield 59, 3), (35, .aload_n 0, 1), (36, .iconst 0, 1), (37, .putfield 62, 3), (40, .aload_n 0, 1), (41, .iconst 0, 1), (42, .putfield 65, 3), (45, .return_, 1)]
theorem dt_Pl_empty : ∀ q ∈ tb_Pl_empty, decode prog_6_method_2_code q.1 = .ok (q.2.1, q.2.2) := by decide +kernel
set_option maxHeartbeats 4000000 in
set_option maxRecDepth 100000 in
theorem t_Pl_empty (v0 : Nat) (h : HP) : xx_S (xx_D "LampYard$Plan" tb_Pl_empty 1 1 none false) xz_v (fun K => xL_v K) 0 [(0, av_R 4 (some v0))] [] h (f_Pl_empty v0 h) := by
  unfold f_Pl_empty
  refine xs_step (fun K HC => xr_aload_n HC.1 0 1 (n := 0) (ix := 0) (j := 0) (c := 4) (x := v0) rfl rfl rfl rfl) ?_
  refine xs_step (fun K HC => xr_iconst HC.1 1 2 (n := (1)) (1 : Int32) rfl rfl rfl) ?_
  refine xs_heap (hp_mo_si _ _ _ _) (fun K HC => xr_puti HC.1 2 5 4 0 rfl rfl wf_Pl_40 (by decide) fb_4_0 fn_4_0 fy_4_0) (fun h_1 => ?_)
  refine xs_step (fun K HC => xr_aload_n HC.1 3 6 (n := 0) (ix := 0) (j := 0) (c := 4) (x := v0) rfl rfl rfl rfl) ?_
  refine xs_step (fun K HC => xr_iconst HC.1 4 7 (n := (1)) (1 : Int32) rfl rfl rfl) ?_
  refine xs_heap (hp_mo_si _ _ _ _) (fun K HC => xr_puti HC.1 5 10 4 1 rfl rfl wf_Pl_44 (by decide) fb_4_1 fn_4_1 fy_4_1) (fun h_2 => ?_)
  refine xs_step (fun K HC => xr_aload_n HC.1 6 11 (n := 0) (ix := 0) (j := 0) (c := 4) (x := v0) rfl rfl rfl rfl) ?_
  refine xs_step (fun K HC => xr_iconst HC.1 7 12 (n := (-1)) (-1 : Int32) rfl rfl rfl) ?_
  refine xs_heap (hp_mo_si _ _ _ _) (fun K HC => xr_puti HC.1 8 15 4 2 rfl rfl wf_Pl_47 (by decide) fb_4_2 fn_4_2 fy_4_2) (fun h_3 => ?_)
  refine xs_step (fun K HC => xr_aload_n HC.1 9 16 (n := 0) (ix := 0) (j := 0) (c := 4) (x := v0) rfl rfl rfl rfl) ?_
  refine xs_step (fun K HC => xr_iconst HC.1 10 17 (n := (0)) (0 : Int32) rfl rfl rfl) ?_
  refine xs_heap (hp_mo_si _ _ _ _) (fun K HC => xr_puti HC.1 11 20 4 3 rfl rfl wf_Pl_50 (by decide) fb_4_3 fn_4_3 fy_4_3) (fun h_4 => ?_)
  refine xs_step (fun K HC => xr_aload_n HC.1 12 21 (n := 0) (ix := 0) (j := 0) (c := 4) (x := v0) rfl rfl rfl rfl) ?_
  refine xs_step (fun K HC => xr_iconst HC.1 13 22 (n := (0)) (0 : Int32) rfl rfl rfl) ?_
  refine xs_heap (hp_mo_si _ _ _ _) (fun K HC => xr_puti HC.1 14 25 4 4 rfl rfl wf_Pl_53 (by decide) fb_4_4 fn_4_4 fy_4_4) (fun h_5 => ?_)
  refine xs_step (fun K HC => xr_aload_n HC.1 15 26 (n := 0) (ix := 0) (j := 0) (c := 4) (x := v0) rfl rfl rfl rfl) ?_
  refine xs_step (fun K HC => xr_iconst HC.1 16 27 (n := (0)) (0 : Int32) rfl rfl rfl) ?_
  refine xs_heap (hp_mo_si _ _ _ _) (fun K HC => xr_puti HC.1 17 30 4 5 rfl rfl wf_Pl_56 (by decide) fb_4_5 fn_4_5 fy_4_5) (fun h_6 => ?_)
  refine xs_step (fun K HC => xr_aload_n HC.1 18 31 (n := 0) (ix := 0) (j := 0) (c := 4) (x := v0) rfl rfl rfl rfl) ?_
  refine xs_step (fun K HC => xr_iconst HC.1 19 32 (n := (0)) (0 : Int32) rfl rfl rfl) ?_
  refine xs_heap (hp_mo_si _ _ _ _) (fun K HC => xr_puti HC.1 20 35 4 6 rfl rfl wf_Pl_59 (by decide) fb_4_6 fn_4_6 fy_4_6) (fun h_7 => ?_)
  refine xs_step (fun K HC => xr_aload_n HC.1 21 36 (n := 0) (ix := 0) (j := 0) (c := 4) (x := v0) rfl rfl rfl rfl) ?_
  refine xs_step (fun K HC => xr_iconst HC.1 22 37 (n := (0)) (0 : Int32) rfl rfl rfl) ?_
  refine xs_heap (hp_mo_si _ _ _ _) (fun K HC => xr_puti HC.1 23 40 4 7 rfl rfl wf_Pl_62 (by decide) fb_4_7 fn_4_7 fy_4_7) (fun h_8 => ?_)
  refine xs_step (fun K HC => xr_aload_n HC.1 24 41 (n := 0) (ix := 0) (j := 0) (c := 4) (x := v0) rfl rfl rfl rfl) ?_
  refine xs_step (fun K HC => xr_iconst HC.1 25 42 (n := (0)) (0 : Int32) rfl rfl rfl) ?_
  refine xs_heap (hp_mo_si _ _ _ _) (fun K HC => xr_puti HC.1 26 45 4 14 rfl rfl wf_Pl_65 (by decide) fb_4_14 fn_4_14 fy_4_14) (fun h_9 => ?_)
  exact xs_ret 27 rfl rfl (fun K q => q)
theorem s_Pl_empty (v0 : Nat) (h : HP) : ∀ x, f_Pl_empty v0 h = some x → hp_mo h x ∧ ∀ g l, xx_M g l y_Pl_empty prog_6_method_2_code 1 none 1 [av_R 4 (some v0)] h none x :=
  xM_v (tb := tb_Pl_empty) (b := false) (by decide +kernel) dt_Pl_empty trivial (Nat.le_of_ble_eq_true rfl) (fun hb => by cases hb) (t_Pl_empty v0 h)
def tb_Pl_new : TBL := [(0, .aload_n 0, 1), (1, .invokespecial 3, 3), (4, .aload_n 0, 1), (5, .iconst 4, 1), (6, .newarray .int, 2), (8, .putfield 11, 3), (11, .aload_n 0, 1), (12, .bipush 6, 2), (14, .newarray .int, 2), (16, .putfield 15, 3), (19, .aload_n 0, 1), (20, .bipush 16, 2), (22, .newarray .int, 2), (24, .putfield 18, 3), (27, .aload_n 0, 1), (28, .bipush 16, 2), (30, .newarray .boolean, 2), (32, .putfield 21, 3), (35, .aload_n 0, 1), (36, .bipush 48, 2), (38, .newarray .int, 2), (40, .putfield 25, 3), (43, .aload_n 0, 1), (44, .sipush 540, 3), (47, .newarray .int, 2), (49, .putfield 28, 3), (52, .aload_n 0, 1), (53, .iconst 5, 1), (54, .newarray .int, 2), (56, .putfield 31, 3), (59, .aload_n 0, 1), (60, .bipush 60, 2), (62, .newarray .int, 2), (64, .putfield 34, 3), (67, .aload_n 0, 1), (68, .invokevirtual 37, 3), (71, .return_, 1)]
theorem dt_Pl_new : ∀ q ∈ tb_Pl_new, decode prog_6_method_1_code q.1 = .ok (q.2.1, q.2.2) := by decide +kernel
set_option maxHeartbeats 4000000 in
set_option maxRecDepth 100000 in
theorem t_Pl_new (v0 : Nat) (h : HP) : xx_S (xx_D "LampYard$Plan" tb_Pl_new 1 2 none true) xz_v (fun K => xL_v K) 0 [(0, av_R 4 (some v0))] [] h (f_Pl_new v0 h) := by
  unfold f_Pl_new
  refine xs_step (fun K HC => xr_aload_n HC.1 0 1 (n := 0) (ix := 0) (j := 0) (c := 4) (x := v0) rfl rfl rfl rfl) ?_
  refine xs_step (fun K HC => xr_obj HC.1 1 4 rfl rfl wm_Pl_3 (by decide) (Nat.le_of_ble_eq_true rfl)) ?_
  refine xs_step (fun K HC => xr_aload_n HC.1 2 5 (n := 0) (ix := 0) (j := 0) (c := 4) (x := v0) rfl rfl rfl rfl) ?_
  refine xs_step (fun K HC => xr_iconst HC.1 3 6 (n := (4)) (4 : Int32) rfl rfl rfl) ?_
  refine xs_new (fun K HC hb => xr_newI HC.1 4 8 4 hb rfl rfl (by decide) rfl (Nat.le_of_ble_eq_true rfl)) (fun q_1 h_2 => ?_)
  refine xs_heap (hp_mo_sr _ _ _ _) (fun K HC => xr_putr HC.1 5 11 4 8 13 rfl rfl wf_Pl_11 (by decide) fb_4_8 (Or.inr ⟨fn_4_8, HC.2 rfl, rfl⟩) fc_4_8 fd_4_8 (by decide)) (fun h_3 => ?_)
  refine xs_step (fun K HC => xr_aload_n HC.1 6 12 (n := 0) (ix := 0) (j := 0) (c := 4) (x := v0) rfl rfl rfl rfl) ?_
  refine xs_step (fun K HC => xr_bipush HC.1 7 14 (n := (6)) (6 : Int32) rfl rfl rfl) ?_
  refine xs_new (fun K HC hb => xr_newI HC.1 8 16 6 hb rfl rfl (by decide) rfl (Nat.le_of_ble_eq_true rfl)) (fun q_4 h_5 => ?_)
  refine xs_heap (hp_mo_sr _ _ _ _) (fun K HC => xr_putr HC.1 9 19 4 9 13 rfl rfl wf_Pl_15 (by decide) fb_4_9 (Or.inr ⟨fn_4_9, HC.2 rfl, rfl⟩) fc_4_9 fd_4_9 (by decide)) (fun h_6 => ?_)
  refine xs_step (fun K HC => xr_aload_n HC.1 10 20 (n := 0) (ix := 0) (j := 0) (c := 4) (x := v0) rfl rfl rfl rfl) ?_
  refine xs_step (fun K HC => xr_bipush HC.1 11 22 (n := (16)) (16 : Int32) rfl rfl rfl) ?_
  refine xs_new (fun K HC hb => xr_newI HC.1 12 24 16 hb rfl rfl (by decide) rfl (Nat.le_of_ble_eq_true rfl)) (fun q_7 h_8 => ?_)
  refine xs_heap (hp_mo_sr _ _ _ _) (fun K HC => xr_putr HC.1 13 27 4 10 13 rfl rfl wf_Pl_18 (by decide) fb_4_10 (Or.inr ⟨fn_4_10, HC.2 rfl, rfl⟩) fc_4_10 fd_4_10 (by decide)) (fun h_9 => ?_)
  refine xs_step (fun K HC => xr_aload_n HC.1 14 28 (n := 0) (ix := 0) (j := 0) (c := 4) (x := v0) rfl rfl rfl rfl) ?_
  refine xs_step (fun K HC => xr_bipush HC.1 15 30 (n := (16)) (16 : Int32) rfl rfl rfl) ?_
  refine xs_new (fun K HC hb => xr_newZ HC.1 16 32 16 hb rfl rfl (by decide) rfl (Nat.le_of_ble_eq_true rfl)) (fun q_10 h_11 => ?_)
  refine xs_heap (hp_mo_sr _ _ _ _) (fun K HC => xr_putr HC.1 17 35 4 11 15 rfl rfl wf_Pl_21 (by decide) fb_4_11 (Or.inr ⟨fn_4_11, HC.2 rfl, rfl⟩) fc_4_11 fd_4_11 (by decide)) (fun h_12 => ?_)
  refine xs_step (fun K HC => xr_aload_n HC.1 18 36 (n := 0) (ix := 0) (j := 0) (c := 4) (x := v0) rfl rfl rfl rfl) ?_
  refine xs_step (fun K HC => xr_bipush HC.1 19 38 (n := (48)) (48 : Int32) rfl rfl rfl) ?_
  refine xs_new (fun K HC hb => xr_newI HC.1 20 40 48 hb rfl rfl (by decide) rfl (Nat.le_of_ble_eq_true rfl)) (fun q_13 h_14 => ?_)
  refine xs_heap (hp_mo_sr _ _ _ _) (fun K HC => xr_putr HC.1 21 43 4 12 13 rfl rfl wf_Pl_25 (by decide) fb_4_12 (Or.inr ⟨fn_4_12, HC.2 rfl, rfl⟩) fc_4_12 fd_4_12 (by decide)) (fun h_15 => ?_)
  refine xs_step (fun K HC => xr_aload_n HC.1 22 44 (n := 0) (ix := 0) (j := 0) (c := 4) (x := v0) rfl rfl rfl rfl) ?_
  refine xs_step (fun K HC => xr_sipush HC.1 23 47 (n := (540)) (540 : Int32) rfl rfl rfl) ?_
  refine xs_new (fun K HC hb => xr_newI HC.1 24 49 540 hb rfl rfl (by decide) rfl (Nat.le_of_ble_eq_true rfl)) (fun q_16 h_17 => ?_)
  refine xs_heap (hp_mo_sr _ _ _ _) (fun K HC => xr_putr HC.1 25 52 4 13 13 rfl rfl wf_Pl_28 (by decide) fb_4_13 (Or.inr ⟨fn_4_13, HC.2 rfl, rfl⟩) fc_4_13 fd_4_13 (by decide)) (fun h_18 => ?_)
  refine xs_step (fun K HC => xr_aload_n HC.1 26 53 (n := 0) (ix := 0) (j := 0) (c := 4) (x := v0) rfl rfl rfl rfl) ?_
  refine xs_step (fun K HC => xr_iconst HC.1 27 54 (n := (5)) (5 : Int32) rfl rfl rfl) ?_
  refine xs_new (fun K HC hb => xr_newI HC.1 28 56 5 hb rfl rfl (by decide) rfl (Nat.le_of_ble_eq_true rfl)) (fun q_19 h_20 => ?_)
  refine xs_heap (hp_mo_sr _ _ _ _) (fun K HC => xr_putr HC.1 29 59 4 15 13 rfl rfl wf_Pl_31 (by decide) fb_4_15 (Or.inr ⟨fn_4_15, HC.2 rfl, rfl⟩) fc_4_15 fd_4_15 (by decide)) (fun h_21 => ?_)
  refine xs_step (fun K HC => xr_aload_n HC.1 30 60 (n := 0) (ix := 0) (j := 0) (c := 4) (x := v0) rfl rfl rfl rfl) ?_
  refine xs_step (fun K HC => xr_bipush HC.1 31 62 (n := (60)) (60 : Int32) rfl rfl rfl) ?_
  refine xs_new (fun K HC hb => xr_newI HC.1 32 64 60 hb rfl rfl (by decide) rfl (Nat.le_of_ble_eq_true rfl)) (fun q_22 h_23 => ?_)
  refine xs_heap (hp_mo_sr _ _ _ _) (fun K HC => xr_putr HC.1 33 67 4 16 13 rfl rfl wf_Pl_34 (by decide) fb_4_16 (Or.inr ⟨fn_4_16, HC.2 rfl, rfl⟩) fc_4_16 fd_4_16 (by decide)) (fun h_24 => ?_)
  refine xs_step (fun K HC => xr_aload_n HC.1 34 68 (n := 0) (ix := 0) (j := 0) (c := 4) (x := v0) rfl rfl rfl rfl) ?_
  refine xs_callv (s_Pl_empty v0 h_24) (fun K HC x9 hM hmo hb => xr_callV HC.1 35 71 (av := []) (st := []) (hM (kg K) (cx_l (kx K))) hmo hb rfl rfl wm_Pl_37 wi_Pl_empty ws_Pl_empty wc_Pl_empty rfl wh_Pl_empty (by decide) (by decide) (by decide) (Nat.le_of_ble_eq_true rfl) rfl) (fun x_25 => ?_)
  exact xs_ret 36 rfl rfl (fun K q => q)
theorem s_Pl_new (v0 : Nat) (h : HP) : ∀ x, f_Pl_new v0 h = some x → hp_mo h x ∧ ∀ g l, xx_M g l y_Pl_new prog_6_method_1_code 1 none 2 [av_R 4 (some v0)] h none x :=
  xM_v (tb := tb_Pl_new) (b := true) (by decide +kernel) dt_Pl_new trivial (Nat.le_of_ble_eq_true rfl) (fun hb => rfl) (t_Pl_new v0 h)
def tb_Co_new : TBL := [(0, .aload_n 0, 1), (1, .invokespecial 3, 3), (4, .aload_n 0, 1), (5, .bipush 6, 2), (7, .newarray .int, 2), (9, .putfield 9, 3), (12, .return_, 1)]
theorem dt_Co_new : ∀ q ∈ tb_Co_new, decode prog_3_method_1_code q.1 = .ok (q.2.1, q.2.2) := by decide +kernel
set_option maxHeartbeats 4000000 in
set_option maxRecDepth 100000 in
theorem t_Co_new (v0 : Nat) (h : HP) : xx_S (xx_D "LampYard$Course" tb_Co_new 1 1 none true) xz_v (fun K => xL_v K) 0 [(0, av_R 1 (some v0))] [] h (f_Co_new v0 h) := by
  unfold f_Co_new
  refine xs_step (fun K HC => xr_aload_n HC.1 0 1 (n := 0) (ix := 0) (j := 0) (c := 1) (x := v0) rfl rfl rfl rfl) ?_
  refine xs_step (fun K HC => xr_obj HC.1 1 4 rfl rfl wm_Co_3 (by decide) (Nat.le_of_ble_eq_true rfl)) ?_
  refine xs_step (fun K HC => xr_aload_n HC.1 2 5 (n := 0) (ix := 0) (j := 0) (c := 1) (x := v0) rfl rfl rfl rfl) ?_
  refine xs_step (fun K HC => xr_bipush HC.1 3 7 (n := (6)) (6 : Int32) rfl rfl rfl) ?_
  refine xs_new (fun K HC hb => xr_newI HC.1 4 9 6 hb rfl rfl (by decide) rfl (Nat.le_of_ble_eq_true rfl)) (fun q_1 h_2 => ?_)
  refine xs_heap (hp_mo_sr _ _ _ _) (fun K HC => xr_putr HC.1 5 12 1 4 13 rfl rfl wf_Co_9 (by decide) fb_1_4 (Or.inr ⟨fn_1_4, HC.2 rfl, rfl⟩) fc_1_4 fd_1_4 (by decide)) (fun h_3 => ?_)
  exact xs_ret 6 rfl rfl (fun K q => q)
theorem s_Co_new (v0 : Nat) (h : HP) : ∀ x, f_Co_new v0 h = some x → hp_mo h x ∧ ∀ g l, xx_M g l y_Co_new prog_3_method_1_code 1 none 1 [av_R 1 (some v0)] h none x :=
  xM_v (tb := tb_Co_new) (b := true) (by decide +kernel) dt_Co_new trivial (Nat.le_of_ble_eq_true rfl) (fun hb => rfl) (t_Co_new v0 h)
def tb_Lo_new : TBL := [(0, .aload_n 0, 1), (1, .invokespecial 3, 3), (4, .aload_n 0, 1), (5, .bipush 60, 2), (7, .newarray .int, 2), (9, .putfield 11, 3), (12, .aload_n 0, 1), (13, .bipush 60, 2), (15, .newarray .int, 2), (17, .putfield 15, 3), (20, .aload_n 0, 1), (21, .bipush 60, 2), (23, .newarray .int, 2), (25, .putfield 18, 3), (28, .aload_n 0, 1), (29, .bipush 60, 2), (31, .newarray .int, 2), (33, .putfield 21, 3), (36, .aload_n 0, 1), (37, .bipush 100, 2), (39, .newarray .int, 2), (41, .putfield 24, 3), (44, .aload_n 0, 1), (45, .bipush 100, 2), (47, .newarray .int, 2), (49, .putfield 27, 3), (52, .return_, 1)]
theorem dt_Lo_new : ∀ q ∈ tb_Lo_new, decode prog_5_method_1_code q.1 = .ok (q.2.1, q.2.2) := by decide +kernel
set_option maxHeartbeats 4000000 in
set_option maxRecDepth 100000 in
theorem t_Lo_new (v0 : Nat) (h : HP) : xx_S (xx_D "LampYard$Logs" tb_Lo_new 1 1 none true) xz_v (fun K => xL_v K) 0 [(0, av_R 3 (some v0))] [] h (f_Lo_new v0 h) := by
  unfold f_Lo_new
  refine xs_step (fun K HC => xr_aload_n HC.1 0 1 (n := 0) (ix := 0) (j := 0) (c := 3) (x := v0) rfl rfl rfl rfl) ?_
  refine xs_step (fun K HC => xr_obj HC.1 1 4 rfl rfl wm_Lo_3 (by decide) (Nat.le_of_ble_eq_true rfl)) ?_
  refine xs_step (fun K HC => xr_aload_n HC.1 2 5 (n := 0) (ix := 0) (j := 0) (c := 3) (x := v0) rfl rfl rfl rfl) ?_
  refine xs_step (fun K HC => xr_bipush HC.1 3 7 (n := (60)) (60 : Int32) rfl rfl rfl) ?_
  refine xs_new (fun K HC hb => xr_newI HC.1 4 9 60 hb rfl rfl (by decide) rfl (Nat.le_of_ble_eq_true rfl)) (fun q_1 h_2 => ?_)
  refine xs_heap (hp_mo_sr _ _ _ _) (fun K HC => xr_putr HC.1 5 12 3 2 13 rfl rfl wf_Lo_11 (by decide) fb_3_2 (Or.inr ⟨fn_3_2, HC.2 rfl, rfl⟩) fc_3_2 fd_3_2 (by decide)) (fun h_3 => ?_)
  refine xs_step (fun K HC => xr_aload_n HC.1 6 13 (n := 0) (ix := 0) (j := 0) (c := 3) (x := v0) rfl rfl rfl rfl) ?_
  refine xs_step (fun K HC => xr_bipush HC.1 7 15 (n := (60)) (60 : Int32) rfl rfl rfl) ?_
  refine xs_new (fun K HC hb => xr_newI HC.1 8 17 60 hb rfl rfl (by decide) rfl (Nat.le_of_ble_eq_true rfl)) (fun q_4 h_5 => ?_)
  refine xs_heap (hp_mo_sr _ _ _ _) (fun K HC => xr_putr HC.1 9 20 3 3 13 rfl rfl wf_Lo_15 (by decide) fb_3_3 (Or.inr ⟨fn_3_3, HC.2 rfl, rfl⟩) fc_3_3 fd_3_3 (by decide)) (fun h_6 => ?_)
  refine xs_step (fun K HC => xr_aload_n HC.1 10 21 (n := 0) (ix := 0) (j := 0) (c := 3) (x := v0) rfl rfl rfl rfl) ?_
  refine xs_step (fun K HC => xr_bipush HC.1 11 23 (n := (60)) (60 : Int32) rfl rfl rfl) ?_
  refine xs_new (fun K HC hb => xr_newI HC.1 12 25 60 hb rfl rfl (by decide) rfl (Nat.le_of_ble_eq_true rfl)) (fun q_7 h_8 => ?_)
  refine xs_heap (hp_mo_sr _ _ _ _) (fun K HC => xr_putr HC.1 13 28 3 4 13 rfl rfl wf_Lo_18 (by decide) fb_3_4 (Or.inr ⟨fn_3_4, HC.2 rfl, rfl⟩) fc_3_4 fd_3_4 (by decide)) (fun h_9 => ?_)
  refine xs_step (fun K HC => xr_aload_n HC.1 14 29 (n := 0) (ix := 0) (j := 0) (c := 3) (x := v0) rfl rfl rfl rfl) ?_
  refine xs_step (fun K HC => xr_bipush HC.1 15 31 (n := (60)) (60 : Int32) rfl rfl rfl) ?_
  refine xs_new (fun K HC hb => xr_newI HC.1 16 33 60 hb rfl rfl (by decide) rfl (Nat.le_of_ble_eq_true rfl)) (fun q_10 h_11 => ?_)
  refine xs_heap (hp_mo_sr _ _ _ _) (fun K HC => xr_putr HC.1 17 36 3 5 13 rfl rfl wf_Lo_21 (by decide) fb_3_5 (Or.inr ⟨fn_3_5, HC.2 rfl, rfl⟩) fc_3_5 fd_3_5 (by decide)) (fun h_12 => ?_)
  refine xs_step (fun K HC => xr_aload_n HC.1 18 37 (n := 0) (ix := 0) (j := 0) (c := 3) (x := v0) rfl rfl rfl rfl) ?_
  refine xs_step (fun K HC => xr_bipush HC.1 19 39 (n := (100)) (100 : Int32) rfl rfl rfl) ?_
  refine xs_new (fun K HC hb => xr_newI HC.1 20 41 100 hb rfl rfl (by decide) rfl (Nat.le_of_ble_eq_true rfl)) (fun q_13 h_14 => ?_)
  refine xs_heap (hp_mo_sr _ _ _ _) (fun K HC => xr_putr HC.1 21 44 3 6 13 rfl rfl wf_Lo_24 (by decide) fb_3_6 (Or.inr ⟨fn_3_6, HC.2 rfl, rfl⟩) fc_3_6 fd_3_6 (by decide)) (fun h_15 => ?_)
  refine xs_step (fun K HC => xr_aload_n HC.1 22 45 (n := 0) (ix := 0) (j := 0) (c := 3) (x := v0) rfl rfl rfl rfl) ?_
  refine xs_step (fun K HC => xr_bipush HC.1 23 47 (n := (100)) (100 : Int32) rfl rfl rfl) ?_
  refine xs_new (fun K HC hb => xr_newI HC.1 24 49 100 hb rfl rfl (by decide) rfl (Nat.le_of_ble_eq_true rfl)) (fun q_16 h_17 => ?_)
  refine xs_heap (hp_mo_sr _ _ _ _) (fun K HC => xr_putr HC.1 25 52 3 7 13 rfl rfl wf_Lo_27 (by decide) fb_3_7 (Or.inr ⟨fn_3_7, HC.2 rfl, rfl⟩) fc_3_7 fd_3_7 (by decide)) (fun h_18 => ?_)
  exact xs_ret 26 rfl rfl (fun K q => q)
theorem s_Lo_new (v0 : Nat) (h : HP) : ∀ x, f_Lo_new v0 h = some x → hp_mo h x ∧ ∀ g l, xx_M g l y_Lo_new prog_5_method_1_code 1 none 1 [av_R 3 (some v0)] h none x :=
  xM_v (tb := tb_Lo_new) (b := true) (by decide +kernel) dt_Lo_new trivial (Nat.le_of_ble_eq_true rfl) (fun hb => rfl) (t_Lo_new v0 h)
def tb_Ar_fillI : TBL := [(0, .iconst 0, 1), (1, .istore_n 2, 1), (2, .aload_n 0, 1), (3, .arraylength, 1), (4, .istore_n 3, 1), (5, .iload_n 2, 1), (6, .iload_n 3, 1), (7, .if_icmp .ge 13, 3), (10, .aload_n 0, 1), (11, .iload_n 2, 1), (12, .iload_n 1, 1), (13, .iastore, 1), (14, .iinc 2 1, 3), (17, .goto (-12), 3), (20, .return_, 1)]
theorem dt_Ar_fillI : ∀ q ∈ tb_Ar_fillI, decode prog_21_method_103_code q.1 = .ok (q.2.1, q.2.2) := by decide +kernel
set_option maxHeartbeats 4000000 in
set_option maxRecDepth 100000 in
theorem t_Ar_fillI_5b (v0 : Nat) (v1 : Int32) (v3 : Int32) (v2 : Int32) (h : HP) : xx_S (xx_D "java/util/Arrays" tb_Ar_fillI 4 1 none false) (xx_z2 (fun s : (Int32 × HP) => s.2) xz_v) (fun K => xx_L2 (fun s : (Int32 × HP) => xx_X K 5 [(0, av_R 13 (some v0)), (1, av_I v1), (2, av_I s.1), (3, av_I v3)] [] (s.2)) (xL_v K)) 5 [(0, av_R 13 (some v0)), (1, av_I v1), (2, av_I v2), (3, av_I v3)] [] h (f_Ar_fillI_5b v0 v1 v3 v2 h) := by
  unfold f_Ar_fillI_5b
  refine xs_step (fun K HC => xr_iload_n HC.1 5 6 (n := 2) (ix := 2) (j := 2) (x := v2) rfl rfl rfl rfl) ?_
  refine xs_step (fun K HC => xr_iload_n HC.1 6 7 (n := 3) (ix := 3) (j := 3) (x := v3) rfl rfl rfl rfl) ?_
  refine xs_ite (fun K HC => xr_icmp_ge HC.1 7 20 10 rfl (by decide) rfl) ?_ ?_
  · exact xs_ret 14 rfl rfl (fun K q => q)
  refine xs_step (fun K HC => xr_aload_n HC.1 8 11 (n := 0) (ix := 0) (j := 0) (c := 13) (x := v0) rfl rfl rfl rfl) ?_
  refine xs_step (fun K HC => xr_iload_n HC.1 9 12 (n := 2) (ix := 2) (j := 2) (x := v2) rfl rfl rfl rfl) ?_
  refine xs_step (fun K HC => xr_iload_n HC.1 10 13 (n := 1) (ix := 1) (j := 1) (x := v1) rfl rfl rfl rfl) ?_
  refine xs_chk (fun hb_2 => ?_)
  refine xs_heap (hp_mo_si _ _ _ _) (fun K HC => xr_iast HC.1 11 14 (hp_in_vp hb_2) rfl rfl) (fun h_3 => ?_)
  refine xs_gen (fun v2_4 ev2_4 => ?_)
  refine xs_step (fun K HC => xr_iinc HC.1 12 17 (ix := 2) (j := 2) (n := (1)) (x := v2) v2_4 (lv' := [(0, av_R 13 (some v0)), (1, av_I v1), (2, av_I v2_4), (3, av_I v3)]) rfl (by rw [ev2_4]; rfl) rfl rfl (by decide) rfl) ?_
  refine xs_step (fun K HC => xr_goto HC.1 13 5 rfl (by decide)) ?_
  exact xs_back rfl (fun K q => q)
theorem t_Ar_fillI_5 (v0 : Nat) (v1 : Int32) (v3 : Int32) (v2 : Int32) (h : HP) : xx_S (xx_D "java/util/Arrays" tb_Ar_fillI 4 1 none false) xz_v (fun K => xL_v K) 5 [(0, av_R 13 (some v0)), (1, av_I v1), (2, av_I v2), (3, av_I v3)] [] h (f_Ar_fillI_5 v0 v1 v3 v2 h) :=
  xs_loop (zf := xz_v) (L := (fun K => xL_v K)) (fun s : (Int32 × HP) => [(0, av_R 13 (some v0)), (1, av_I v1), (2, av_I s.1), (3, av_I v3)]) (fun s : (Int32 × HP) => s.2) (fun s => t_Ar_fillI_5b v0 v1 v3 s.1 s.2) (v2, h)
set_option maxHeartbeats 4000000 in
set_option maxRecDepth 100000 in
theorem t_Ar_fillI (v0 : Nat) (v1 : Int32) (h : HP) : xx_S (xx_D "java/util/Arrays" tb_Ar_fillI 4 1 none false) xz_v (fun K => xL_v K) 0 [(0, av_R 13 (some v0)), (1, av_I v1)] [] h (f_Ar_fillI v0 v1 h) := by
  unfold f_Ar_fillI
  refine xs_step (fun K HC => xr_iconst HC.1 0 1 (n := (0)) (0 : Int32) rfl rfl rfl) ?_
  refine xs_step (fun K HC => xr_istore_n HC.1 1 2 (n := 2) (ix := 2) (lv' := [(0, av_R 13 (some v0)), (1, av_I v1), (2, av_I (0 : Int32))]) rfl rfl rfl (by decide) rfl) ?_
  refine xs_step (fun K HC => xr_aload_n HC.1 2 3 (n := 0) (ix := 0) (j := 0) (c := 13) (x := v0) rfl rfl rfl rfl) ?_
  refine xs_step (fun K HC => xr_alen HC.1 3 4 (c := 13) (by decide) (by decide) rfl rfl) ?_
  refine xs_topi (fun v3_1 => ?_)
  refine xs_step (fun K HC => xr_istore_n HC.1 4 5 (n := 3) (ix := 3) (lv' := [(0, av_R 13 (some v0)), (1, av_I v1), (2, av_I (0 : Int32)), (3, av_I v3_1)]) rfl rfl rfl (by decide) rfl) ?_
  exact t_Ar_fillI_5 v0 v1 v3_1 (0 : Int32) h
theorem s_Ar_fillI (v0 : Nat) (v1 : Int32) (h : HP) : ∀ x, f_Ar_fillI v0 v1 h = some x → hp_mo h x ∧ ∀ g l, xx_M g l y_Ar_fillI prog_21_method_103_code 4 none 1 [av_R 13 (some v0), av_I v1] h none x :=
  xM_v (tb := tb_Ar_fillI) (b := false) (by decide +kernel) dt_Ar_fillI trivial (Nat.le_of_ble_eq_true rfl) (fun hb => by cases hb) (t_Ar_fillI v0 v1 h)
def tb_Fa_clear : TBL := [(0, .aload_n 0, 1), (1, .getfield 11, 3), (4, .bipush (-3), 2), (6, .invokestatic 25, 3), (9, .return_, 1)]
theorem dt_Fa_clear : ∀ q ∈ tb_Fa_clear, decode prog_4_method_2_code q.1 = .ok (q.2.1, q.2.2) := by decide +kernel
set_option maxHeartbeats 4000000 in
set_option maxRecDepth 100000 in
theorem t_Fa_clear (v0 : Nat) (h : HP) : xx_S (xx_D "LampYard$Faults" tb_Fa_clear 1 2 none false) xz_v (fun K => xL_v K) 0 [(0, av_R 2 (some v0))] [] h (f_Fa_clear v0 h) := by
  unfold f_Fa_clear
  refine xs_step (fun K HC => xr_aload_n HC.1 0 1 (n := 0) (ix := 0) (j := 0) (c := 2) (x := v0) rfl rfl rfl rfl) ?_
  refine xs_bind (fun q_1 eq_1 => ?_)
  refine xs_step (fun K HC => xr_getr HC.1 1 4 2 0 13 eq_1 rfl rfl wf_Fa_11 (by decide) fb_2_0 fc_2_0 fd_2_0) ?_
  refine xs_step (fun K HC => xr_bipush HC.1 2 6 (n := (-3)) (-3 : Int32) rfl rfl rfl) ?_
  refine xs_callv (s_Ar_fillI q_1 (-3 : Int32) h) (fun K HC x9 hM hmo hb => xr_callS HC.1 3 9 (av := [av_R 13 (some q_1), av_I (-3 : Int32)]) (st := []) (hM (kg K) (cx_l (kx K))) hmo hb rfl rfl wm_Fa_25 wt_Ar_fillI wn_Ar_fillI wc_Ar_fillI wh_Ar_fillI (by decide) (by decide) (Nat.le_of_ble_eq_true rfl) rfl) (fun x_2 => ?_)
  exact xs_ret 4 rfl rfl (fun K q => q)
theorem s_Fa_clear (v0 : Nat) (h : HP) : ∀ x, f_Fa_clear v0 h = some x → hp_mo h x ∧ ∀ g l, xx_M g l y_Fa_clear prog_4_method_2_code 1 none 2 [av_R 2 (some v0)] h none x :=
  xM_v (tb := tb_Fa_clear) (b := false) (by decide +kernel) dt_Fa_clear trivial (Nat.le_of_ble_eq_true rfl) (fun hb => by cases hb) (t_Fa_clear v0 h)
def tb_Ch_clear : TBL := [(0, .iconst 0, 1), (1, .istore_n 1, 1), (2, .iload_n 1, 1), (3, .iconst 4, 1), (4, .if_icmp .ge 16, 3), (7, .aload_n 0, 1), (8, .getfield 11, 3), (11, .iload_n 1, 1), (12, .iconst 0, 1), (13, .bastore, 1), (14, .iinc 1 1, 3), (17, .goto (-15), 3), (20, .return_, 1)]
theorem dt_Ch_clear : ∀ q ∈ tb_Ch_clear, decode prog_2_method_2_code q.1 = .ok (q.2.1, q.2.2) := by decide +kernel
set_option maxHeartbeats 4000000 in
set_option maxRecDepth 100000 in
theorem t_Ch_clear_2b (v0 : Nat) (v1 : Int32) (h : HP) : xx_S (xx_D "LampYard$Chance" tb_Ch_clear 2 1 none false) (xx_z2 (fun s : (Int32 × HP) => s.2) xz_v) (fun K => xx_L2 (fun s : (Int32 × HP) => xx_X K 2 [(0, av_R 0 (some v0)), (1, av_I s.1)] [] (s.2)) (xL_v K)) 2 [(0, av_R 0 (some v0)), (1, av_I v1)] [] h (f_Ch_clear_2b v0 v1 h) := by
  unfold f_Ch_clear_2b
  refine xs_step (fun K HC => xr_iload_n HC.1 2 3 (n := 1) (ix := 1) (j := 1) (x := v1) rfl rfl rfl rfl) ?_
  refine xs_step (fun K HC => xr_iconst HC.1 3 4 (n := (4)) (4 : Int32) rfl rfl rfl) ?_
  refine xs_ite (fun K HC => xr_icmp_ge HC.1 4 20 7 rfl (by decide) rfl) ?_ ?_
  · exact xs_ret 12 rfl rfl (fun K q => q)
  refine xs_step (fun K HC => xr_aload_n HC.1 5 8 (n := 0) (ix := 0) (j := 0) (c := 0) (x := v0) rfl rfl rfl rfl) ?_
  refine xs_bind (fun q_1 eq_1 => ?_)
  refine xs_step (fun K HC => xr_getr HC.1 6 11 0 0 15 eq_1 rfl rfl wf_Ch_11 (by decide) fb_0_0 fc_0_0 fd_0_0) ?_
  refine xs_step (fun K HC => xr_iload_n HC.1 7 12 (n := 1) (ix := 1) (j := 1) (x := v1) rfl rfl rfl rfl) ?_
  refine xs_step (fun K HC => xr_iconst HC.1 8 13 (n := (0)) (0 : Int32) rfl rfl rfl) ?_
  refine xs_chk (fun hb_2 => ?_)
  refine xs_heap (hp_mo_si _ _ _ _) (fun K HC => xr_zast HC.1 9 14 (hp_in_vp hb_2) rfl rfl) (fun h_3 => ?_)
  refine xs_gen (fun v1_4 ev1_4 => ?_)
  refine xs_step (fun K HC => xr_iinc HC.1 10 17 (ix := 1) (j := 1) (n := (1)) (x := v1) v1_4 (lv' := [(0, av_R 0 (some v0)), (1, av_I v1_4)]) rfl (by rw [ev1_4]; rfl) rfl rfl (by decide) rfl) ?_
  refine xs_step (fun K HC => xr_goto HC.1 11 2 rfl (by decide)) ?_
  exact xs_back rfl (fun K q => q)
theorem t_Ch_clear_2 (v0 : Nat) (v1 : Int32) (h : HP) : xx_S (xx_D "LampYard$Chance" tb_Ch_clear 2 1 none false) xz_v (fun K => xL_v K) 2 [(0, av_R 0 (some v0)), (1, av_I v1)] [] h (f_Ch_clear_2 v0 v1 h) :=
  xs_loop (zf := xz_v) (L := (fun K => xL_v K)) (fun s : (Int32 × HP) => [(0, av_R 0 (some v0)), (1, av_I s.1)]) (fun s : (Int32 × HP) => s.2) (fun s => t_Ch_clear_2b v0 s.1 s.2) (v1, h)
set_option maxHeartbeats 4000000 in
set_option maxRecDepth 100000 in
theorem t_Ch_clear (v0 : Nat) (h : HP) : xx_S (xx_D "LampYard$Chance" tb_Ch_clear 2 1 none false) xz_v (fun K => xL_v K) 0 [(0, av_R 0 (some v0))] [] h (f_Ch_clear v0 h) := by
  unfold f_Ch_clear
  refine xs_step (fun K HC => xr_iconst HC.1 0 1 (n := (0)) (0 : Int32) rfl rfl rfl) ?_
  refine xs_step (fun K HC => xr_istore_n HC.1 1 2 (n := 1) (ix := 1) (lv' := [(0, av_R 0 (some v0)), (1, av_I (0 : Int32))]) rfl rfl rfl (by decide) rfl) ?_
  exact t_Ch_clear_2 v0 (0 : Int32) h
theorem s_Ch_clear (v0 : Nat) (h : HP) : ∀ x, f_Ch_clear v0 h = some x → hp_mo h x ∧ ∀ g l, xx_M g l y_Ch_clear prog_2_method_2_code 2 none 1 [av_R 0 (some v0)] h none x :=
  xM_v (tb := tb_Ch_clear) (b := false) (by decide +kernel) dt_Ch_clear trivial (Nat.le_of_ble_eq_true rfl) (fun hb => by cases hb) (t_Ch_clear v0 h)
def tb_St_withLamps : TBL := [(0, .lload_n 0, 1), (1, .ldc2_w 11, 3), (4, .land, 1), (5, .iload_n 2, 1), (6, .iconst 3, 1), (7, .iand, 1), (8, .i2l, 1), (9, .lor, 1), (10, .lreturn, 1)]
theorem dt_St_withLamps : ∀ q ∈ tb_St_withLamps, decode prog_9_method_7_code q.1 = .ok (q.2.1, q.2.2) := by decide +kernel
set_option maxHeartbeats 4000000 in
set_option maxRecDepth 100000 in
theorem t_St_withLamps (v0 : Int64) (v2 : Int32) (h : HP) : xx_S (xx_D "LampYard$State" tb_St_withLamps 3 1 (some .long) false) xz_l (fun K => xL_l K) 0 [(0, av_L v0), (2, av_I v2)] [] h (f_St_withLamps v0 v2 h) := by
  unfold f_St_withLamps
  refine xs_step (fun K HC => xr_lload_n HC.1 0 1 (n := 0) (ix := 0) (j := 0) (x := v0) rfl rfl rfl rfl) ?_
  refine xs_step (fun K HC => xr_ldc2 HC.1 1 4 wk_St_11 rfl rfl) ?_
  refine xs_step (fun K HC => xr_land HC.1 2 5 rfl rfl) ?_
  refine xs_step (fun K HC => xr_iload_n HC.1 3 6 (n := 2) (ix := 2) (j := 1) (x := v2) rfl rfl rfl rfl) ?_
  refine xs_step (fun K HC => xr_iconst HC.1 4 7 (n := (3)) (3 : Int32) rfl rfl rfl) ?_
  refine xs_step (fun K HC => xr_iand HC.1 5 8 rfl rfl) ?_
  refine xs_step (fun K HC => xr_i2l HC.1 6 9 rfl rfl) ?_
  refine xs_step (fun K HC => xr_lor HC.1 7 10 rfl rfl) ?_
  exact xs_retl 8 rfl rfl (fun K q => q)
theorem s_St_withLamps (v0 : Int64) (v2 : Int32) (h : HP) : ∀ x, f_St_withLamps v0 v2 h = some x → hp_mo h x.2 ∧ ∀ g l, xx_M g l y_St_withLamps prog_9_method_7_code 3 (some .long) 1 [av_L v0, av_I v2] h (some (av_L x.1)) x.2 :=
  xM_l (tb := tb_St_withLamps) (b := false) (by decide +kernel) dt_St_withLamps (fun _ => trivial) (Nat.le_of_ble_eq_true rfl) (fun hb => by cases hb) (t_St_withLamps v0 v2 h)
def tb_Pl_roleOf : TBL := [(0, .iload_n 1, 1), (1, .ifCond .lt 18, 3), (4, .iload_n 1, 1), (5, .bipush 6, 2), (7, .if_icmp .ge 12, 3), (10, .aload_n 0, 1), (11, .getfield 15, 3), (14, .iload_n 1, 1), (15, .iaload, 1), (16, .goto 4, 3), (19, .iconst 0, 1), (20, .ireturn, 1)]
theorem dt_Pl_roleOf : ∀ q ∈ tb_Pl_roleOf, decode prog_6_method_8_code q.1 = .ok (q.2.1, q.2.2) := by decide +kernel
set_option maxHeartbeats 4000000 in
set_option maxRecDepth 100000 in
theorem t_Pl_roleOf (v0 : Nat) (v1 : Int32) (h : HP) : xx_S (xx_D "LampYard$Plan" tb_Pl_roleOf 2 1 (some .int) false) xz_i (fun K => xL_i K) 0 [(0, av_R 4 (some v0)), (1, av_I v1)] [] h (f_Pl_roleOf v0 v1 h) := by
  unfold f_Pl_roleOf
  refine xs_step (fun K HC => xr_iload_n HC.1 0 1 (n := 1) (ix := 1) (j := 1) (x := v1) rfl rfl rfl rfl) ?_
  refine xs_ite (fun K HC => xr_if_lt HC.1 1 19 4 rfl (by decide) rfl) ?_ ?_
  · refine xs_step (fun K HC => xr_iconst HC.1 10 20 (n := (0)) (0 : Int32) rfl rfl rfl) ?_
    exact xs_reti 11 rfl rfl (fun K q => q) (fun ty ht => by cases ht; rfl)
  refine xs_step (fun K HC => xr_iload_n HC.1 2 5 (n := 1) (ix := 1) (j := 1) (x := v1) rfl rfl rfl rfl) ?_
  refine xs_step (fun K HC => xr_bipush HC.1 3 7 (n := (6)) (6 : Int32) rfl rfl rfl) ?_
  refine xs_ite (fun K HC => xr_icmp_ge HC.1 4 19 10 rfl (by decide) rfl) ?_ ?_
  · refine xs_step (fun K HC => xr_iconst HC.1 10 20 (n := (0)) (0 : Int32) rfl rfl rfl) ?_
    exact xs_reti 11 rfl rfl (fun K q => q) (fun ty ht => by cases ht; rfl)
  refine xs_step (fun K HC => xr_aload_n HC.1 5 11 (n := 0) (ix := 0) (j := 0) (c := 4) (x := v0) rfl rfl rfl rfl) ?_
  refine xs_bind (fun q_1 eq_1 => ?_)
  refine xs_step (fun K HC => xr_getr HC.1 6 14 4 9 13 eq_1 rfl rfl wf_Pl_15 (by decide) fb_4_9 fc_4_9 fd_4_9) ?_
  refine xs_step (fun K HC => xr_iload_n HC.1 7 15 (n := 1) (ix := 1) (j := 1) (x := v1) rfl rfl rfl rfl) ?_
  refine xs_chk (fun hb_2 => ?_)
  refine xs_step (fun K HC => xr_iald HC.1 8 16 (hp_in_vp hb_2) rfl rfl) ?_
  refine xs_step (fun K HC => xr_goto HC.1 9 20 rfl (by decide)) ?_
  exact xs_reti 11 rfl rfl (fun K q => q) (fun ty ht => by cases ht; rfl)
theorem s_Pl_roleOf (v0 : Nat) (v1 : Int32) (h : HP) : ∀ x, f_Pl_roleOf v0 v1 h = some x → hp_mo h x.2 ∧ ∀ g l, xx_M g l y_Pl_roleOf prog_6_method_8_code 2 (some .int) 1 [av_R 4 (some v0), av_I v1] h (some (av_I x.1)) x.2 :=
  xM_i (tb := tb_Pl_roleOf) (b := false) (by decide +kernel) dt_Pl_roleOf (fun _ => trivial) (Nat.le_of_ble_eq_true rfl) (fun hb => by cases hb) (t_Pl_roleOf v0 v1 h)
def tb_St_withMind : TBL := [(0, .bipush 6, 2), (2, .bipush 8, 2), (4, .iload_n 2, 1), (5, .imul, 1), (6, .iadd, 1), (7, .istore 5, 2), (9, .iload 4, 2), (11, .iconst 3, 1), (12, .iand, 1), (13, .iconst 5, 1), (14, .ishl, 1), (15, .iload_n 3, 1), (16, .bipush 31, 2), (18, .iand, 1), (19, .ior, 1), (20, .i2l, 1), (21, .lstore 6, 2), (23, .lload_n 0, 1), (24, .ldc2_w 17, 3), (27, .iload 5, 2), (29, .lshl, 1), (30, .ldc2_w 19, 3), (33, .lxor, 1), (34, .land, 1), (35, .lload 6, 2), (37, .iload 5, 2), (39, .lshl, 1), (40, .lor, 1), (41, .lreturn, 1)]
theorem dt_St_withMind : ∀ q ∈ tb_St_withMind, decode prog_9_method_9_code q.1 = .ok (q.2.1, q.2.2) := by decide +kernel
set_option maxHeartbeats 4000000 in
set_option maxRecDepth 100000 in
theorem t_St_withMind (v0 : Int64) (v2 : Int32) (v3 : Int32) (v4 : Int32) (h : HP) : xx_S (xx_D "LampYard$State" tb_St_withMind 8 1 (some .long) false) xz_l (fun K => xL_l K) 0 [(0, av_L v0), (2, av_I v2), (3, av_I v3), (4, av_I v4)] [] h (f_St_withMind v0 v2 v3 v4 h) := by
  unfold f_St_withMind
  refine xs_step (fun K HC => xr_bipush HC.1 0 2 (n := (6)) (6 : Int32) rfl rfl rfl) ?_
  refine xs_step (fun K HC => xr_bipush HC.1 1 4 (n := (8)) (8 : Int32) rfl rfl rfl) ?_
  refine xs_step (fun K HC => xr_iload_n HC.1 2 5 (n := 2) (ix := 2) (j := 1) (x := v2) rfl rfl rfl rfl) ?_
  refine xs_step (fun K HC => xr_imul HC.1 3 6 rfl rfl) ?_
  refine xs_step (fun K HC => xr_iadd HC.1 4 7 rfl rfl) ?_
  refine xs_topi (fun v5_1 => ?_)
  refine xs_step (fun K HC => xr_istore HC.1 5 9 (ix := 5) (lv' := [(0, av_L v0), (2, av_I v2), (3, av_I v3), (4, av_I v4), (5, av_I v5_1)]) rfl rfl (by decide) rfl) ?_
  refine xs_step (fun K HC => xr_iload HC.1 6 11 (ix := 4) (j := 3) (x := v4) rfl rfl rfl) ?_
  refine xs_step (fun K HC => xr_iconst HC.1 7 12 (n := (3)) (3 : Int32) rfl rfl rfl) ?_
  refine xs_step (fun K HC => xr_iand HC.1 8 13 rfl rfl) ?_
  refine xs_step (fun K HC => xr_iconst HC.1 9 14 (n := (5)) (5 : Int32) rfl rfl rfl) ?_
  refine xs_step (fun K HC => xr_ishl HC.1 10 15 rfl rfl) ?_
  refine xs_step (fun K HC => xr_iload_n HC.1 11 16 (n := 3) (ix := 3) (j := 2) (x := v3) rfl rfl rfl rfl) ?_
  refine xs_step (fun K HC => xr_bipush HC.1 12 18 (n := (31)) (31 : Int32) rfl rfl rfl) ?_
  refine xs_step (fun K HC => xr_iand HC.1 13 19 rfl rfl) ?_
  refine xs_step (fun K HC => xr_ior HC.1 14 20 rfl rfl) ?_
  refine xs_step (fun K HC => xr_i2l HC.1 15 21 rfl rfl) ?_
  refine xs_topl (fun v6_2 => ?_)
  refine xs_step (fun K HC => xr_lstore HC.1 16 23 (ix := 6) (lv' := [(0, av_L v0), (2, av_I v2), (3, av_I v3), (4, av_I v4), (5, av_I v5_1), (6, av_L v6_2)]) rfl rfl (by decide) rfl) ?_
  refine xs_step (fun K HC => xr_lload_n HC.1 17 24 (n := 0) (ix := 0) (j := 0) (x := v0) rfl rfl rfl rfl) ?_
  refine xs_step (fun K HC => xr_ldc2 HC.1 18 27 wk_St_17 rfl rfl) ?_
  refine xs_step (fun K HC => xr_iload HC.1 19 29 (ix := 5) (j := 4) (x := v5_1) rfl rfl rfl) ?_
  refine xs_step (fun K HC => xr_lshl HC.1 20 30 rfl rfl) ?_
  refine xs_step (fun K HC => xr_ldc2 HC.1 21 33 wk_St_19 rfl rfl) ?_
  refine xs_step (fun K HC => xr_lxor HC.1 22 34 rfl rfl) ?_
  refine xs_step (fun K HC => xr_land HC.1 23 35 rfl rfl) ?_
  refine xs_step (fun K HC => xr_lload HC.1 24 37 (ix := 6) (j := 5) (x := v6_2) rfl rfl rfl) ?_
  refine xs_step (fun K HC => xr_iload HC.1 25 39 (ix := 5) (j := 4) (x := v5_1) rfl rfl rfl) ?_
  refine xs_step (fun K HC => xr_lshl HC.1 26 40 rfl rfl) ?_
  refine xs_step (fun K HC => xr_lor HC.1 27 41 rfl rfl) ?_
  exact xs_retl 28 rfl rfl (fun K q => q)
theorem s_St_withMind (v0 : Int64) (v2 : Int32) (v3 : Int32) (v4 : Int32) (h : HP) : ∀ x, f_St_withMind v0 v2 v3 v4 h = some x → hp_mo h x.2 ∧ ∀ g l, xx_M g l y_St_withMind prog_9_method_9_code 8 (some .long) 1 [av_L v0, av_I v2, av_I v3, av_I v4] h (some (av_L x.1)) x.2 :=
  xM_l (tb := tb_St_withMind) (b := false) (by decide +kernel) dt_St_withMind (fun _ => trivial) (Nat.le_of_ble_eq_true rfl) (fun hb => by cases hb) (t_St_withMind v0 v2 v3 v4 h)
def tb_Pl_forgotten : TBL := [(0, .lload_n 1, 1), (1, .iload_n 3, 1), (2, .aload_n 0, 1), (3, .getfield 11, 3), (6, .aload_n 0, 1), (7, .iload_n 3, 1), (8, .invokevirtual 85, 3), (11, .iaload, 1), (12, .iconst 0, 1), (13, .invokestatic 89, 3), (16, .lreturn, 1)]
theorem dt_Pl_forgotten : ∀ q ∈ tb_Pl_forgotten, decode prog_6_method_12_code q.1 = .ok (q.2.1, q.2.2) := by decide +kernel
set_option maxHeartbeats 4000000 in
set_option maxRecDepth 100000 in
theorem t_Pl_forgotten (v0 : Nat) (v1 : Int64) (v3 : Int32) (h : HP) : xx_S (xx_D "LampYard$Plan" tb_Pl_forgotten 4 2 (some .long) false) xz_l (fun K => xL_l K) 0 [(0, av_R 4 (some v0)), (1, av_L v1), (3, av_I v3)] [] h (f_Pl_forgotten v0 v1 v3 h) := by
  unfold f_Pl_forgotten
  refine xs_step (fun K HC => xr_lload_n HC.1 0 1 (n := 1) (ix := 1) (j := 1) (x := v1) rfl rfl rfl rfl) ?_
  refine xs_step (fun K HC => xr_iload_n HC.1 1 2 (n := 3) (ix := 3) (j := 2) (x := v3) rfl rfl rfl rfl) ?_
  refine xs_step (fun K HC => xr_aload_n HC.1 2 3 (n := 0) (ix := 0) (j := 0) (c := 4) (x := v0) rfl rfl rfl rfl) ?_
  refine xs_bind (fun q_1 eq_1 => ?_)
  refine xs_step (fun K HC => xr_getr HC.1 3 6 4 8 13 eq_1 rfl rfl wf_Pl_11 (by decide) fb_4_8 fc_4_8 fd_4_8) ?_
  refine xs_step (fun K HC => xr_aload_n HC.1 4 7 (n := 0) (ix := 0) (j := 0) (c := 4) (x := v0) rfl rfl rfl rfl) ?_
  refine xs_step (fun K HC => xr_iload_n HC.1 5 8 (n := 3) (ix := 3) (j := 2) (x := v3) rfl rfl rfl rfl) ?_
  refine xs_calli (s_Pl_roleOf v0 v3 h) (fun K HC x9 hM hmo hb => xr_callV HC.1 6 11 (av := [av_I v3]) (st := [av_R 13 (some q_1), av_I v3, av_L v1]) (hM (kg K) (cx_l (kx K))) hmo hb rfl rfl wm_Pl_85 wi_Pl_roleOf ws_Pl_roleOf wc_Pl_roleOf rfl wh_Pl_roleOf (by decide) (by decide) (by decide) (Nat.le_of_ble_eq_true rfl) rfl) (fun x_2 => ?_)
  refine xs_chk (fun hb_3 => ?_)
  refine xs_step (fun K HC => xr_iald HC.1 7 12 (hp_in_vp hb_3) rfl rfl) ?_
  refine xs_step (fun K HC => xr_iconst HC.1 8 13 (n := (0)) (0 : Int32) rfl rfl rfl) ?_
  refine xs_calll (s_St_withMind v1 v3 (hp_i x_2.2 q_1 (x_2.1).toNatClampNeg) (0 : Int32) x_2.2) (fun K HC x9 hM hmo hb => xr_callS HC.1 9 16 (av := [av_L v1, av_I v3, av_I (hp_i x_2.2 q_1 (x_2.1).toNatClampNeg), av_I (0 : Int32)]) (st := []) (hM (kg K) (cx_l (kx K))) hmo hb rfl rfl wm_Pl_89 wt_St_withMind wn_St_withMind wc_St_withMind wh_St_withMind (by decide) (by decide) (Nat.le_of_ble_eq_true rfl) rfl) (fun x_4 => ?_)
  exact xs_retl 10 rfl rfl (fun K q => q)
theorem s_Pl_forgotten (v0 : Nat) (v1 : Int64) (v3 : Int32) (h : HP) : ∀ x, f_Pl_forgotten v0 v1 v3 h = some x → hp_mo h x.2 ∧ ∀ g l, xx_M g l y_Pl_forgotten prog_6_method_12_code 4 (some .long) 2 [av_R 4 (some v0), av_L v1, av_I v3] h (some (av_L x.1)) x.2 :=
  xM_l (tb := tb_Pl_forgotten) (b := false) (by decide +kernel) dt_Pl_forgotten (fun _ => trivial) (Nat.le_of_ble_eq_true rfl) (fun hb => by cases hb) (t_Pl_forgotten v0 v1 v3 h)
def tb_Pl_firstState : TBL := [(0, .lconst 0, 1), (1, .iload_n 1, 1), (2, .invokestatic 76, 3), (5, .lstore_n 2, 1), (6, .iconst 0, 1), (7, .istore 4, 2), (9, .iload 4, 2), (11, .aload_n 0, 1), (12, .getfield 56, 3), (15, .if_icmp .ge 17, 3), (18, .aload_n 0, 1), (19, .lload_n 2, 1), (20, .iload 4, 2), (22, .invokevirtual 82, 3), (25, .lstore_n 2, 1), (26, .iinc 4 1, 3), (29, .goto (-20), 3), (32, .lload_n 2, 1), (33, .lreturn, 1)]
theorem dt_Pl_firstState : ∀ q ∈ tb_Pl_firstState, decode prog_6_method_11_code q.1 = .ok (q.2.1, q.2.2) := by decide +kernel
set_option maxHeartbeats 4000000 in
set_option maxRecDepth 100000 in
theorem t_Pl_firstState_9b (v0 : Nat) (v2 : Int64) (v4 : Int32) (h : HP) : xx_S (xx_D "LampYard$Plan" tb_Pl_firstState 5 3 (some .long) false) (xx_z2 (fun s : (Int64 × Int32 × HP) => s.2.2) xz_l) (fun K => xx_L2 (fun s : (Int64 × Int32 × HP) => xx_X K 9 [(0, av_R 4 (some v0)), (2, av_L s.1), (4, av_I s.2.1)] [] (s.2.2)) (xL_l K)) 9 [(0, av_R 4 (some v0)), (2, av_L v2), (4, av_I v4)] [] h (f_Pl_firstState_9b v0 v2 v4 h) := by
  unfold f_Pl_firstState_9b
  refine xs_step (fun K HC => xr_iload HC.1 6 11 (ix := 4) (j := 2) (x := v4) rfl rfl rfl) ?_
  refine xs_step (fun K HC => xr_aload_n HC.1 7 12 (n := 0) (ix := 0) (j := 0) (c := 4) (x := v0) rfl rfl rfl rfl) ?_
  refine xs_step (fun K HC => xr_geti HC.1 8 15 4 5 rfl rfl wf_Pl_56 (by decide) fb_4_5 fc_4_5) ?_
  refine xs_ite (fun K HC => xr_icmp_ge HC.1 9 32 18 rfl (by decide) rfl) ?_ ?_
  · refine xs_step (fun K HC => xr_lload_n HC.1 17 33 (n := 2) (ix := 2) (j := 1) (x := v2) rfl rfl rfl rfl) ?_
    exact xs_retl 18 rfl rfl (fun K q => q)
  refine xs_step (fun K HC => xr_aload_n HC.1 10 19 (n := 0) (ix := 0) (j := 0) (c := 4) (x := v0) rfl rfl rfl rfl) ?_
  refine xs_step (fun K HC => xr_lload_n HC.1 11 20 (n := 2) (ix := 2) (j := 1) (x := v2) rfl rfl rfl rfl) ?_
  refine xs_step (fun K HC => xr_iload HC.1 12 22 (ix := 4) (j := 2) (x := v4) rfl rfl rfl) ?_
  refine xs_calll (s_Pl_forgotten v0 v2 v4 h) (fun K HC x9 hM hmo hb => xr_callV HC.1 13 25 (av := [av_L v2, av_I v4]) (st := []) (hM (kg K) (cx_l (kx K))) hmo hb rfl rfl wm_Pl_82 wi_Pl_forgotten ws_Pl_forgotten wc_Pl_forgotten rfl wh_Pl_forgotten (by decide) (by decide) (by decide) (Nat.le_of_ble_eq_true rfl) rfl) (fun x_2 => ?_)
  refine xs_step (fun K HC => xr_lstore_n HC.1 14 26 (n := 2) (ix := 2) (lv' := [(0, av_R 4 (some v0)), (2, av_L x_2.1), (4, av_I v4)]) rfl rfl rfl (by decide) rfl) ?_
  refine xs_gen (fun v4_3 ev4_3 => ?_)
  refine xs_step (fun K HC => xr_iinc HC.1 15 29 (ix := 4) (j := 2) (n := (1)) (x := v4) v4_3 (lv' := [(0, av_R 4 (some v0)), (2, av_L x_2.1), (4, av_I v4_3)]) rfl (by rw [ev4_3]; rfl) rfl rfl (by decide) rfl) ?_
  refine xs_step (fun K HC => xr_goto HC.1 16 9 rfl (by decide)) ?_
  exact xs_back rfl (fun K q => q)
theorem t_Pl_firstState_9 (v0 : Nat) (v2 : Int64) (v4 : Int32) (h : HP) : xx_S (xx_D "LampYard$Plan" tb_Pl_firstState 5 3 (some .long) false) xz_l (fun K => xL_l K) 9 [(0, av_R 4 (some v0)), (2, av_L v2), (4, av_I v4)] [] h (f_Pl_firstState_9 v0 v2 v4 h) :=
  xs_loop (zf := xz_l) (L := (fun K => xL_l K)) (fun s : (Int64 × Int32 × HP) => [(0, av_R 4 (some v0)), (2, av_L s.1), (4, av_I s.2.1)]) (fun s : (Int64 × Int32 × HP) => s.2.2) (fun s => t_Pl_firstState_9b v0 s.1 s.2.1 s.2.2) (v2, v4, h)
set_option maxHeartbeats 4000000 in
set_option maxRecDepth 100000 in
theorem t_Pl_firstState (v0 : Nat) (v1 : Int32) (h : HP) : xx_S (xx_D "LampYard$Plan" tb_Pl_firstState 5 3 (some .long) false) xz_l (fun K => xL_l K) 0 [(0, av_R 4 (some v0)), (1, av_I v1)] [] h (f_Pl_firstState v0 v1 h) := by
  unfold f_Pl_firstState
  refine xs_step (fun K HC => xr_lconst HC.1 0 1 (n := 0) (0 : Int64) rfl rfl rfl) ?_
  refine xs_step (fun K HC => xr_iload_n HC.1 1 2 (n := 1) (ix := 1) (j := 1) (x := v1) rfl rfl rfl rfl) ?_
  refine xs_calll (s_St_withLamps (0 : Int64) v1 h) (fun K HC x9 hM hmo hb => xr_callS HC.1 2 5 (av := [av_L (0 : Int64), av_I v1]) (st := []) (hM (kg K) (cx_l (kx K))) hmo hb rfl rfl wm_Pl_76 wt_St_withLamps wn_St_withLamps wc_St_withLamps wh_St_withLamps (by decide) (by decide) (Nat.le_of_ble_eq_true rfl) rfl) (fun x_1 => ?_)
  refine xs_step (fun K HC => xr_lstore_n HC.1 3 6 (n := 2) (ix := 2) (lv' := [(0, av_R 4 (some v0)), (1, av_I v1), (2, av_L x_1.1)]) rfl rfl rfl (by decide) rfl) ?_
  refine xs_step (fun K HC => xr_iconst HC.1 4 7 (n := (0)) (0 : Int32) rfl rfl rfl) ?_
  refine xs_step (fun K HC => xr_istore HC.1 5 9 (ix := 4) (lv' := [(0, av_R 4 (some v0)), (1, av_I v1), (2, av_L x_1.1), (4, av_I (0 : Int32))]) rfl rfl (by decide) rfl) ?_
  refine xs_step (fun K HC => xr_sub (lv' := [(0, av_R 4 (some v0)), (2, av_L x_1.1), (4, av_I (0 : Int32))]) [0, 2, 3] rfl) ?_
  exact t_Pl_firstState_9 v0 x_1.1 (0 : Int32) x_1.2
theorem s_Pl_firstState (v0 : Nat) (v1 : Int32) (h : HP) : ∀ x, f_Pl_firstState v0 v1 h = some x → hp_mo h x.2 ∧ ∀ g l, xx_M g l y_Pl_firstState prog_6_method_11_code 5 (some .long) 3 [av_R 4 (some v0), av_I v1] h (some (av_L x.1)) x.2 :=
  xM_l (tb := tb_Pl_firstState) (b := false) (by decide +kernel) dt_Pl_firstState (fun _ => trivial) (Nat.le_of_ble_eq_true rfl) (fun hb => by cases hb) (t_Pl_firstState v0 v1 h)
def tb_Co_startWith : TBL := [(0, .aload_n 0, 1), (1, .aload_n 1, 1), (2, .iload_n 2, 1), (3, .invokevirtual 15, 3), (6, .putfield 21, 3), (9, .aload_n 0, 1), (10, .iconst 0, 1), (11, .putfield 25, 3), (14, .aload_n 0, 1), (15, .iconst 0, 1), (16, .putfield 29, 3), (19, .aload_n 0, 1), (20, .getfield 9, 3), (23, .iconst 0, 1), (24, .invokestatic 33, 3), (27, .return_, 1)]
theorem dt_Co_startWith : ∀ q ∈ tb_Co_startWith, decode prog_3_method_2_code q.1 = .ok (q.2.1, q.2.2) := by decide +kernel
set_option maxHeartbeats 4000000 in
set_option maxRecDepth 100000 in
theorem t_Co_startWith (v0 : Nat) (v1 : Nat) (v2 : Int32) (h : HP) : xx_S (xx_D "LampYard$Course" tb_Co_startWith 3 4 none false) xz_v (fun K => xL_v K) 0 [(0, av_R 1 (some v0)), (1, av_R 4 (some v1)), (2, av_I v2)] [] h (f_Co_startWith v0 v1 v2 h) := by
  unfold f_Co_startWith
  refine xs_step (fun K HC => xr_aload_n HC.1 0 1 (n := 0) (ix := 0) (j := 0) (c := 1) (x := v0) rfl rfl rfl rfl) ?_
  refine xs_step (fun K HC => xr_aload_n HC.1 1 2 (n := 1) (ix := 1) (j := 1) (c := 4) (x := v1) rfl rfl rfl rfl) ?_
  refine xs_step (fun K HC => xr_iload_n HC.1 2 3 (n := 2) (ix := 2) (j := 2) (x := v2) rfl rfl rfl rfl) ?_
  refine xs_calll (s_Pl_firstState v1 v2 h) (fun K HC x9 hM hmo hb => xr_callV HC.1 3 6 (av := [av_I v2]) (st := [av_R 1 (some v0)]) (hM (kg K) (cx_l (kx K))) hmo hb rfl rfl wm_Co_15 wi_Pl_firstState ws_Pl_firstState wc_Pl_firstState rfl wh_Pl_firstState (by decide) (by decide) (by decide) (Nat.le_of_ble_eq_true rfl) rfl) (fun x_1 => ?_)
  refine xs_heap (hp_mo_sl _ _ _ _) (fun K HC => xr_putl HC.1 4 9 1 0 rfl rfl wf_Co_21 (by decide) fb_1_0 fn_1_0 fy_1_0) (fun h_2 => ?_)
  refine xs_step (fun K HC => xr_aload_n HC.1 5 10 (n := 0) (ix := 0) (j := 0) (c := 1) (x := v0) rfl rfl rfl rfl) ?_
  refine xs_step (fun K HC => xr_iconst HC.1 6 11 (n := (0)) (0 : Int32) rfl rfl rfl) ?_
  refine xs_heap (hp_mo_si _ _ _ _) (fun K HC => xr_puti HC.1 7 14 1 1 rfl rfl wf_Co_25 (by decide) fb_1_1 fn_1_1 fy_1_1) (fun h_3 => ?_)
  refine xs_step (fun K HC => xr_aload_n HC.1 8 15 (n := 0) (ix := 0) (j := 0) (c := 1) (x := v0) rfl rfl rfl rfl) ?_
  refine xs_step (fun K HC => xr_iconst HC.1 9 16 (n := (0)) (0 : Int32) rfl rfl rfl) ?_
  refine xs_heap (hp_mo_si _ _ _ _) (fun K HC => xr_putz HC.1 10 19 1 2 (Or.inl rfl) rfl rfl wf_Co_29 (by decide) fb_1_2 fn_1_2 fy_1_2) (fun h_4 => ?_)
  refine xs_step (fun K HC => xr_aload_n HC.1 11 20 (n := 0) (ix := 0) (j := 0) (c := 1) (x := v0) rfl rfl rfl rfl) ?_
  refine xs_bind (fun q_5 eq_5 => ?_)
  refine xs_step (fun K HC => xr_getr HC.1 12 23 1 4 13 eq_5 rfl rfl wf_Co_9 (by decide) fb_1_4 fc_1_4 fd_1_4) ?_
  refine xs_step (fun K HC => xr_iconst HC.1 13 24 (n := (0)) (0 : Int32) rfl rfl rfl) ?_
  refine xs_callv (s_Ar_fillI q_5 (0 : Int32) h_4) (fun K HC x9 hM hmo hb => xr_callS HC.1 14 27 (av := [av_R 13 (some q_5), av_I (0 : Int32)]) (st := []) (hM (kg K) (cx_l (kx K))) hmo hb rfl rfl wm_Co_33 wt_Ar_fillI wn_Ar_fillI wc_Ar_fillI wh_Ar_fillI (by decide) (by decide) (Nat.le_of_ble_eq_true rfl) rfl) (fun x_6 => ?_)
  exact xs_ret 15 rfl rfl (fun K q => q)
theorem s_Co_startWith (v0 : Nat) (v1 : Nat) (v2 : Int32) (h : HP) : ∀ x, f_Co_startWith v0 v1 v2 h = some x → hp_mo h x ∧ ∀ g l, xx_M g l y_Co_startWith prog_3_method_2_code 3 none 4 [av_R 1 (some v0), av_R 4 (some v1), av_I v2] h none x :=
  xM_v (tb := tb_Co_startWith) (b := false) (by decide +kernel) dt_Co_startWith trivial (Nat.le_of_ble_eq_true rfl) (fun hb => by cases hb) (t_Co_startWith v0 v1 v2 h)
def tb_X_startAnew : TBL := [(0, .aload_n 0, 1), (1, .getfield 44, 3), (4, .iconst 0, 1), (5, .putfield 264, 3), (8, .iconst 0, 1), (9, .istore_n 1, 1), (10, .iload_n 1, 1), (11, .iconst 3, 1), (12, .if_icmp .ge 19, 3), (15, .aload_n 0, 1), (16, .getfield 37, 3), (19, .iload_n 1, 1), (20, .aaload, 1), (21, .iconst 0, 1), (22, .putfield 255, 3), (25, .iinc 1 1, 3), (28, .goto (-18), 3), (31, .aload_n 0, 1), (32, .iconst 0, 1), (33, .putfield 273, 3), (36, .aload_n 0, 1), (37, .getfield 178, 3), (40, .ifnull 10, 3), (43, .aload_n 0, 1), (44, .getfield 178, 3), (47, .invokevirtual 276, 3), (50, .aload_n 0, 1), (51, .getfield 196, 3), (54, .ifnull 10, 3), (57, .aload_n 0, 1), (58, .getfield 196, 3), (61, .invokevirtual 279, 3), (64, .aload_n 0, 1), (65, .getfield 33, 3), (68, .aload_n 0, 1), (69, .getfield 23, 3), (72, .iconst 0, 1), (73, .invokevirtual 76, 3), (76, .return_, 1)]
theorem dt_X_startAnew : ∀ q ∈ tb_X_startAnew, decode prog_1_method_37_code q.1 = .ok (q.2.1, q.2.2) := by decide +kernel
set_option maxHeartbeats 4000000 in
set_option maxRecDepth 100000 in
theorem t_X_startAnew_64 (v0 : Nat) (h : HP) : xx_S (xx_D "LampYard" tb_X_startAnew 2 5 none false) xz_v (fun K => xL_v K) 64 [(0, av_R 10 (some v0))] [] h (f_X_startAnew_64 v0 h) := by
  unfold f_X_startAnew_64
  refine xs_step (fun K HC => xr_aload_n HC.1 32 65 (n := 0) (ix := 0) (j := 0) (c := 10) (x := v0) rfl rfl rfl rfl) ?_
  refine xs_bind (fun q_4 eq_4 => ?_)
  refine xs_step (fun K HC => xr_getr HC.1 33 68 10 5 1 eq_4 rfl rfl wf_X_33 (by decide) fb_10_5 fc_10_5 fd_10_5) ?_
  refine xs_step (fun K HC => xr_aload_n HC.1 34 69 (n := 0) (ix := 0) (j := 0) (c := 10) (x := v0) rfl rfl rfl rfl) ?_
  refine xs_bind (fun q_5 eq_5 => ?_)
  refine xs_step (fun K HC => xr_getr HC.1 35 72 10 3 4 eq_5 rfl rfl wf_X_23 (by decide) fb_10_3 fc_10_3 fd_10_3) ?_
  refine xs_step (fun K HC => xr_iconst HC.1 36 73 (n := (0)) (0 : Int32) rfl rfl rfl) ?_
  refine xs_callv (s_Co_startWith q_4 q_5 (0 : Int32) h) (fun K HC x9 hM hmo hb => xr_callV HC.1 37 76 (av := [av_R 4 (some q_5), av_I (0 : Int32)]) (st := []) (hM (kg K) (cx_l (kx K))) hmo hb rfl rfl wm_X_76 wi_Co_startWith ws_Co_startWith wc_Co_startWith rfl wh_Co_startWith (by decide) (by decide) (by decide) (Nat.le_of_ble_eq_true rfl) rfl) (fun x_6 => ?_)
  exact xs_ret 38 rfl rfl (fun K q => q)
set_option maxHeartbeats 4000000 in
set_option maxRecDepth 100000 in
theorem t_X_startAnew_50 (v0 : Nat) (h : HP) : xx_S (xx_D "LampYard" tb_X_startAnew 2 5 none false) xz_v (fun K => xL_v K) 50 [(0, av_R 10 (some v0))] [] h (f_X_startAnew_50 v0 h) := by
  unfold f_X_startAnew_50
  refine xs_step (fun K HC => xr_aload_n HC.1 26 51 (n := 0) (ix := 0) (j := 0) (c := 10) (x := v0) rfl rfl rfl rfl) ?_
  refine xs_step (fun K HC => xr_getq HC.1 27 54 10 10 0 rfl rfl wf_X_196 (by decide) fb_10_10 fc_10_10 fd_10_10) ?_
  refine xs_ite (fun K HC => xr_ifnull HC.1 28 64 57 rfl (by decide) rfl) ?_ ?_
  · exact t_X_startAnew_64 v0 h
  refine xs_step (fun K HC => xr_aload_n HC.1 29 58 (n := 0) (ix := 0) (j := 0) (c := 10) (x := v0) rfl rfl rfl rfl) ?_
  refine xs_bind (fun q_7 eq_7 => ?_)
  refine xs_step (fun K HC => xr_getr HC.1 30 61 10 10 0 eq_7 rfl rfl wf_X_196 (by decide) fb_10_10 fc_10_10 fd_10_10) ?_
  refine xs_callv (s_Ch_clear q_7 h) (fun K HC x9 hM hmo hb => xr_callV HC.1 31 64 (av := []) (st := []) (hM (kg K) (cx_l (kx K))) hmo hb rfl rfl wm_X_279 wi_Ch_clear ws_Ch_clear wc_Ch_clear rfl wh_Ch_clear (by decide) (by decide) (by decide) (Nat.le_of_ble_eq_true rfl) rfl) (fun x_8 => ?_)
  exact t_X_startAnew_64 v0 x_8
set_option maxHeartbeats 4000000 in
set_option maxRecDepth 100000 in
theorem t_X_startAnew_31 (v0 : Nat) (h : HP) : xx_S (xx_D "LampYard" tb_X_startAnew 2 5 none false) xz_v (fun K => xL_v K) 31 [(0, av_R 10 (some v0))] [] h (f_X_startAnew_31 v0 h) := by
  unfold f_X_startAnew_31
  refine xs_step (fun K HC => xr_aload_n HC.1 17 32 (n := 0) (ix := 0) (j := 0) (c := 10) (x := v0) rfl rfl rfl rfl) ?_
  refine xs_step (fun K HC => xr_iconst HC.1 18 33 (n := (0)) (0 : Int32) rfl rfl rfl) ?_
  refine xs_heap (hp_mo_si _ _ _ _) (fun K HC => xr_putz HC.1 19 36 10 11 (Or.inl rfl) rfl rfl wf_X_273 (by decide) fb_10_11 fn_10_11 fy_10_11) (fun h_3 => ?_)
  refine xs_step (fun K HC => xr_aload_n HC.1 20 37 (n := 0) (ix := 0) (j := 0) (c := 10) (x := v0) rfl rfl rfl rfl) ?_
  refine xs_step (fun K HC => xr_getq HC.1 21 40 10 9 2 rfl rfl wf_X_178 (by decide) fb_10_9 fc_10_9 fd_10_9) ?_
  refine xs_ite (fun K HC => xr_ifnull HC.1 22 50 43 rfl (by decide) rfl) ?_ ?_
  · exact t_X_startAnew_50 v0 h_3
  refine xs_step (fun K HC => xr_aload_n HC.1 23 44 (n := 0) (ix := 0) (j := 0) (c := 10) (x := v0) rfl rfl rfl rfl) ?_
  refine xs_bind (fun q_9 eq_9 => ?_)
  refine xs_step (fun K HC => xr_getr HC.1 24 47 10 9 2 eq_9 rfl rfl wf_X_178 (by decide) fb_10_9 fc_10_9 fd_10_9) ?_
  refine xs_callv (s_Fa_clear q_9 h_3) (fun K HC x9 hM hmo hb => xr_callV HC.1 25 50 (av := []) (st := []) (hM (kg K) (cx_l (kx K))) hmo hb rfl rfl wm_X_276 wi_Fa_clear ws_Fa_clear wc_Fa_clear rfl wh_Fa_clear (by decide) (by decide) (by decide) (Nat.le_of_ble_eq_true rfl) rfl) (fun x_10 => ?_)
  exact t_X_startAnew_50 v0 x_10
set_option maxHeartbeats 4000000 in
set_option maxRecDepth 100000 in
theorem t_X_startAnew_10b (v0 : Nat) (v1 : Int32) (h : HP) : xx_S (xx_D "LampYard" tb_X_startAnew 2 5 none false) (xx_z2 (fun s : (Int32 × HP) => s.2) xz_v) (fun K => xx_L2 (fun s : (Int32 × HP) => xx_X K 10 [(0, av_R 10 (some v0)), (1, av_I s.1)] [] (s.2)) (xL_v K)) 10 [(0, av_R 10 (some v0)), (1, av_I v1)] [] h (f_X_startAnew_10b v0 v1 h) := by
  unfold f_X_startAnew_10b
  refine xs_step (fun K HC => xr_iload_n HC.1 6 11 (n := 1) (ix := 1) (j := 1) (x := v1) rfl rfl rfl rfl) ?_
  refine xs_step (fun K HC => xr_iconst HC.1 7 12 (n := (3)) (3 : Int32) rfl rfl rfl) ?_
  refine xs_ite (fun K HC => xr_icmp_ge HC.1 8 31 15 rfl (by decide) rfl) ?_ ?_
  · refine xs_step (fun K HC => xr_sub (lv' := [(0, av_R 10 (some v0))]) [0] rfl) ?_
    exact xs_map (fun _ => rfl) (fun _ _ q => q) (t_X_startAnew_31 v0 h)
  refine xs_step (fun K HC => xr_aload_n HC.1 9 16 (n := 0) (ix := 0) (j := 0) (c := 10) (x := v0) rfl rfl rfl rfl) ?_
  refine xs_bind (fun q_11 eq_11 => ?_)
  refine xs_step (fun K HC => xr_getr HC.1 10 19 10 6 16 eq_11 rfl rfl wf_X_37 (by decide) fb_10_6 fc_10_6 fd_10_6) ?_
  refine xs_step (fun K HC => xr_iload_n HC.1 11 20 (n := 1) (ix := 1) (j := 1) (x := v1) rfl rfl rfl rfl) ?_
  refine xs_chk (fun hb_12 => ?_)
  refine xs_bind (fun q_13 eq_13 => ?_)
  refine xs_step (fun K HC => xr_aald HC.1 12 21 eq_13 (hp_in_vp hb_12) rfl rfl) ?_
  refine xs_step (fun K HC => xr_iconst HC.1 13 22 (n := (0)) (0 : Int32) rfl rfl rfl) ?_
  refine xs_heap (hp_mo_si _ _ _ _) (fun K HC => xr_putz HC.1 14 25 1 3 (Or.inl rfl) rfl rfl wf_X_255 (by decide) fb_1_3 fn_1_3 fy_1_3) (fun h_14 => ?_)
  refine xs_gen (fun v1_15 ev1_15 => ?_)
  refine xs_step (fun K HC => xr_iinc HC.1 15 28 (ix := 1) (j := 1) (n := (1)) (x := v1) v1_15 (lv' := [(0, av_R 10 (some v0)), (1, av_I v1_15)]) rfl (by rw [ev1_15]; rfl) rfl rfl (by decide) rfl) ?_
  refine xs_step (fun K HC => xr_goto HC.1 16 10 rfl (by decide)) ?_
  exact xs_back rfl (fun K q => q)
theorem t_X_startAnew_10 (v0 : Nat) (v1 : Int32) (h : HP) : xx_S (xx_D "LampYard" tb_X_startAnew 2 5 none false) xz_v (fun K => xL_v K) 10 [(0, av_R 10 (some v0)), (1, av_I v1)] [] h (f_X_startAnew_10 v0 v1 h) :=
  xs_loop (zf := xz_v) (L := (fun K => xL_v K)) (fun s : (Int32 × HP) => [(0, av_R 10 (some v0)), (1, av_I s.1)]) (fun s : (Int32 × HP) => s.2) (fun s => t_X_startAnew_10b v0 s.1 s.2) (v1, h)
set_option maxHeartbeats 4000000 in
set_option maxRecDepth 100000 in
theorem t_X_startAnew (v0 : Nat) (h : HP) : xx_S (xx_D "LampYard" tb_X_startAnew 2 5 none false) xz_v (fun K => xL_v K) 0 [(0, av_R 10 (some v0))] [] h (f_X_startAnew v0 h) := by
  unfold f_X_startAnew
  refine xs_step (fun K HC => xr_aload_n HC.1 0 1 (n := 0) (ix := 0) (j := 0) (c := 10) (x := v0) rfl rfl rfl rfl) ?_
  refine xs_bind (fun q_1 eq_1 => ?_)
  refine xs_step (fun K HC => xr_getr HC.1 1 4 10 7 3 eq_1 rfl rfl wf_X_44 (by decide) fb_10_7 fc_10_7 fd_10_7) ?_
  refine xs_step (fun K HC => xr_iconst HC.1 2 5 (n := (0)) (0 : Int32) rfl rfl rfl) ?_
  refine xs_heap (hp_mo_si _ _ _ _) (fun K HC => xr_puti HC.1 3 8 3 0 rfl rfl wf_X_264 (by decide) fb_3_0 fn_3_0 fy_3_0) (fun h_2 => ?_)
  refine xs_step (fun K HC => xr_iconst HC.1 4 9 (n := (0)) (0 : Int32) rfl rfl rfl) ?_
  refine xs_step (fun K HC => xr_istore_n HC.1 5 10 (n := 1) (ix := 1) (lv' := [(0, av_R 10 (some v0)), (1, av_I (0 : Int32))]) rfl rfl rfl (by decide) rfl) ?_
  exact t_X_startAnew_10 v0 (0 : Int32) h_2
theorem s_X_startAnew (v0 : Nat) (h : HP) : ∀ x, f_X_startAnew v0 h = some x → hp_mo h x ∧ ∀ g l, xx_M g l y_X_startAnew prog_1_method_37_code 2 none 5 [av_R 10 (some v0)] h none x :=
  xM_v (tb := tb_X_startAnew) (b := false) (by decide +kernel) dt_X_startAnew trivial (Nat.le_of_ble_eq_true rfl) (fun hb => by cases hb) (t_X_startAnew v0 h)
def tb_X_new : TBL := [(0, .aload_n 0, 1), (1, .invokespecial 1, 3), (4, .aload_n 0, 1), (5, .sipush 1400, 3), (8, .newarray .byte, 2), (10, .putfield 9, 3), (13, .aload_n 0, 1), (14, .new 13, 3), (17, .dup, 1), (18, .invokespecial 15, 3), (21, .putfield 16, 3), (24, .aload_n 0, 1), (25, .new 20, 3), (28, .dup, 1), (29, .invokespecial 22, 3), (32, .putfield 23, 3), (35, .aload_n 0, 1), (36, .new 20, 3), (39, .dup, 1), (40, .invokespecial 22, 3), (43, .putfield 27, 3), (46, .aload_n 0, 1), (47, .new 30, 3), (50, .dup, 1), (51, .invokespecial 32, 3), (54, .putfield 33, 3), (57, .aload_n 0, 1), (58, .iconst 3, 1), (59, .anewarray 30, 3), (62, .putfield 37, 3), (65, .iconst 0, 1), (66, .istore_n 1, 1), (67, .iload_n 1, 1), (68, .iconst 3, 1), (69, .if_icmp .ge 22, 3), (72, .aload_n 0, 1), (73, .getfield 37, 3), (76, .iload_n 1, 1), (77, .new 30, 3), (80, .dup, 1), (81, .invokespecial 32, 3), (84, .aastore, 1), (85, .iinc 1 1, 3), (88, .goto (-21), 3), (91, .aload_n 0, 1), (92, .new 41, 3), (95, .dup, 1), (96, .invokespecial 43, 3), (99, .putfield 44, 3), (102, .aload_n 0, 1), (103, .invokevirtual 48, 3), (106, .return_, 1)]
theorem dt_X_new : ∀ q ∈ tb_X_new, decode prog_1_method_1_code q.1 = .ok (q.2.1, q.2.2) := by decide +kernel
set_option maxHeartbeats 4000000 in
set_option maxRecDepth 100000 in
theorem t_X_new_91 (v0 : Nat) (h : HP) : xx_S (xx_D "LampYard" tb_X_new 2 6 none true) xz_v (fun K => xL_v K) 91 [(0, av_R 10 (some v0))] [] h (f_X_new_91 v0 h) := by
  unfold f_X_new_91
  refine xs_step (fun K HC => xr_aload_n HC.1 44 92 (n := 0) (ix := 0) (j := 0) (c := 10) (x := v0) rfl rfl rfl rfl) ?_
  refine xs_new (fun K HC hb => xr_new HC.1 45 95 3 hb rfl rfl wc_X_41 (by decide)) (fun q_23 h_24 => ?_)
  refine xs_step (fun K HC => xr_dup HC.1 46 96 rfl rfl rfl) ?_
  refine xs_callv (s_Lo_new q_23 h_24) (fun K HC x9 hM hmo hb => xr_callI HC.1 47 99 (av := []) (st := [av_R 3 (some q_23), av_R 10 (some v0)]) (hM (kg K) (cx_l (kx K))) hmo hb rfl rfl wm_X_43 wi_Lo_new wn_Lo_new wc_Lo_new rfl wh_Lo_new (by decide) (by decide) (Nat.le_of_ble_eq_true rfl) rfl) (fun x_25 => ?_)
  refine xs_heap (hp_mo_sr _ _ _ _) (fun K HC => xr_putr HC.1 48 102 10 7 3 rfl rfl wf_X_44 (by decide) fb_10_7 (Or.inr ⟨fn_10_7, HC.2 rfl, rfl⟩) fc_10_7 fd_10_7 (by decide)) (fun h_26 => ?_)
  refine xs_step (fun K HC => xr_aload_n HC.1 49 103 (n := 0) (ix := 0) (j := 0) (c := 10) (x := v0) rfl rfl rfl rfl) ?_
  refine xs_callv (s_X_startAnew v0 h_26) (fun K HC x9 hM hmo hb => xr_callV HC.1 50 106 (av := []) (st := []) (hM (kg K) (cx_l (kx K))) hmo hb rfl rfl wm_X_48 wi_X_startAnew ws_X_startAnew wc_X_startAnew rfl wh_X_startAnew (by decide) (by decide) (by decide) (Nat.le_of_ble_eq_true rfl) rfl) (fun x_27 => ?_)
  exact xs_ret 51 rfl rfl (fun K q => q)
set_option maxHeartbeats 4000000 in
set_option maxRecDepth 100000 in
theorem t_X_new_67b (v0 : Nat) (v1 : Int32) (h : HP) : xx_S (xx_D "LampYard" tb_X_new 2 6 none true) (xx_z2 (fun s : (Int32 × HP) => s.2) xz_v) (fun K => xx_L2 (fun s : (Int32 × HP) => xx_X K 67 [(0, av_R 10 (some v0)), (1, av_I s.1)] [] (s.2)) (xL_v K)) 67 [(0, av_R 10 (some v0)), (1, av_I v1)] [] h (f_X_new_67b v0 v1 h) := by
  unfold f_X_new_67b
  refine xs_step (fun K HC => xr_iload_n HC.1 32 68 (n := 1) (ix := 1) (j := 1) (x := v1) rfl rfl rfl rfl) ?_
  refine xs_step (fun K HC => xr_iconst HC.1 33 69 (n := (3)) (3 : Int32) rfl rfl rfl) ?_
  refine xs_ite (fun K HC => xr_icmp_ge HC.1 34 91 72 rfl (by decide) rfl) ?_ ?_
  · refine xs_step (fun K HC => xr_sub (lv' := [(0, av_R 10 (some v0))]) [0] rfl) ?_
    exact xs_map (fun _ => rfl) (fun _ _ q => q) (t_X_new_91 v0 h)
  refine xs_step (fun K HC => xr_aload_n HC.1 35 73 (n := 0) (ix := 0) (j := 0) (c := 10) (x := v0) rfl rfl rfl rfl) ?_
  refine xs_bind (fun q_28 eq_28 => ?_)
  refine xs_step (fun K HC => xr_getr HC.1 36 76 10 6 16 eq_28 rfl rfl wf_X_37 (by decide) fb_10_6 fc_10_6 fd_10_6) ?_
  refine xs_step (fun K HC => xr_iload_n HC.1 37 77 (n := 1) (ix := 1) (j := 1) (x := v1) rfl rfl rfl rfl) ?_
  refine xs_new (fun K HC hb => xr_new HC.1 38 80 1 hb rfl rfl wc_X_30 (by decide)) (fun q_29 h_30 => ?_)
  refine xs_step (fun K HC => xr_dup HC.1 39 81 rfl rfl rfl) ?_
  refine xs_callv (s_Co_new q_29 h_30) (fun K HC x9 hM hmo hb => xr_callI HC.1 40 84 (av := []) (st := [av_R 1 (some q_29), av_I v1, av_R 16 (some q_28)]) (hM (kg K) (cx_l (kx K))) hmo hb rfl rfl wm_X_32 wi_Co_new wn_Co_new wc_Co_new rfl wh_Co_new (by decide) (by decide) (Nat.le_of_ble_eq_true rfl) rfl) (fun x_31 => ?_)
  refine xs_chk (fun hb_32 => ?_)
  refine xs_heap (hp_mo_sr _ _ _ _) (fun K HC => xr_aast HC.1 41 85 (hp_in_vp hb_32) rfl rfl) (fun h_33 => ?_)
  refine xs_gen (fun v1_34 ev1_34 => ?_)
  refine xs_step (fun K HC => xr_iinc HC.1 42 88 (ix := 1) (j := 1) (n := (1)) (x := v1) v1_34 (lv' := [(0, av_R 10 (some v0)), (1, av_I v1_34)]) rfl (by rw [ev1_34]; rfl) rfl rfl (by decide) rfl) ?_
  refine xs_step (fun K HC => xr_goto HC.1 43 67 rfl (by decide)) ?_
  exact xs_back rfl (fun K q => q)
theorem t_X_new_67 (v0 : Nat) (v1 : Int32) (h : HP) : xx_S (xx_D "LampYard" tb_X_new 2 6 none true) xz_v (fun K => xL_v K) 67 [(0, av_R 10 (some v0)), (1, av_I v1)] [] h (f_X_new_67 v0 v1 h) :=
  xs_loop (zf := xz_v) (L := (fun K => xL_v K)) (fun s : (Int32 × HP) => [(0, av_R 10 (some v0)), (1, av_I s.1)]) (fun s : (Int32 × HP) => s.2) (fun s => t_X_new_67b v0 s.1 s.2) (v1, h)
set_option maxHeartbeats 4000000 in
set_option maxRecDepth 100000 in
theorem t_X_new (v0 : Nat) (h : HP) : xx_S (xx_D "LampYard" tb_X_new 2 6 none true) xz_v (fun K => xL_v K) 0 [(0, av_R 10 (some v0))] [] h (f_X_new v0 h) := by
  unfold f_X_new
  refine xs_step (fun K HC => xr_aload_n HC.1 0 1 (n := 0) (ix := 0) (j := 0) (c := 10) (x := v0) rfl rfl rfl rfl) ?_
  refine xs_step (fun K HC => xr_obj HC.1 1 4 rfl rfl wm_X_1 (by decide) (Nat.le_of_ble_eq_true rfl)) ?_
  refine xs_step (fun K HC => xr_aload_n HC.1 2 5 (n := 0) (ix := 0) (j := 0) (c := 10) (x := v0) rfl rfl rfl rfl) ?_
  refine xs_step (fun K HC => xr_sipush HC.1 3 8 (n := (1400)) (1400 : Int32) rfl rfl rfl) ?_
  refine xs_new (fun K HC hb => xr_newB HC.1 4 10 1400 hb rfl rfl (by decide) rfl (Nat.le_of_ble_eq_true rfl)) (fun q_1 h_2 => ?_)
  refine xs_heap (hp_mo_sr _ _ _ _) (fun K HC => xr_putr HC.1 5 13 10 0 12 rfl rfl wf_X_9 (by decide) fb_10_0 (Or.inr ⟨fn_10_0, HC.2 rfl, rfl⟩) fc_10_0 fd_10_0 (by decide)) (fun h_3 => ?_)
  refine xs_step (fun K HC => xr_aload_n HC.1 6 14 (n := 0) (ix := 0) (j := 0) (c := 10) (x := v0) rfl rfl rfl rfl) ?_
  refine xs_new (fun K HC hb => xr_new HC.1 7 17 5 hb rfl rfl wc_X_13 (by decide)) (fun q_4 h_5 => ?_)
  refine xs_step (fun K HC => xr_dup HC.1 8 18 rfl rfl rfl) ?_
  refine xs_callv (s_Rd_new q_4 h_5) (fun K HC x9 hM hmo hb => xr_callI HC.1 9 21 (av := []) (st := [av_R 5 (some q_4), av_R 10 (some v0)]) (hM (kg K) (cx_l (kx K))) hmo hb rfl rfl wm_X_15 wi_Rd_new wn_Rd_new wc_Rd_new rfl wh_Rd_new (by decide) (by decide) (Nat.le_of_ble_eq_true rfl) rfl) (fun x_6 => ?_)
  refine xs_heap (hp_mo_sr _ _ _ _) (fun K HC => xr_putr HC.1 10 24 10 2 5 rfl rfl wf_X_16 (by decide) fb_10_2 (Or.inr ⟨fn_10_2, HC.2 rfl, rfl⟩) fc_10_2 fd_10_2 (by decide)) (fun h_7 => ?_)
  refine xs_step (fun K HC => xr_aload_n HC.1 11 25 (n := 0) (ix := 0) (j := 0) (c := 10) (x := v0) rfl rfl rfl rfl) ?_
  refine xs_new (fun K HC hb => xr_new HC.1 12 28 4 hb rfl rfl wc_X_20 (by decide)) (fun q_8 h_9 => ?_)
  refine xs_step (fun K HC => xr_dup HC.1 13 29 rfl rfl rfl) ?_
  refine xs_callv (s_Pl_new q_8 h_9) (fun K HC x9 hM hmo hb => xr_callI HC.1 14 32 (av := []) (st := [av_R 4 (some q_8), av_R 10 (some v0)]) (hM (kg K) (cx_l (kx K))) hmo hb rfl rfl wm_X_22 wi_Pl_new wn_Pl_new wc_Pl_new rfl wh_Pl_new (by decide) (by decide) (Nat.le_of_ble_eq_true rfl) rfl) (fun x_10 => ?_)
  refine xs_heap (hp_mo_sr _ _ _ _) (fun K HC => xr_putr HC.1 15 35 10 3 4 rfl rfl wf_X_23 (by decide) fb_10_3 (Or.inl fn_10_3) fc_10_3 fd_10_3 (by decide)) (fun h_11 => ?_)
  refine xs_step (fun K HC => xr_aload_n HC.1 16 36 (n := 0) (ix := 0) (j := 0) (c := 10) (x := v0) rfl rfl rfl rfl) ?_
  refine xs_new (fun K HC hb => xr_new HC.1 17 39 4 hb rfl rfl wc_X_20 (by decide)) (fun q_12 h_13 => ?_)
  refine xs_step (fun K HC => xr_dup HC.1 18 40 rfl rfl rfl) ?_
  refine xs_callv (s_Pl_new q_12 h_13) (fun K HC x9 hM hmo hb => xr_callI HC.1 19 43 (av := []) (st := [av_R 4 (some q_12), av_R 10 (some v0)]) (hM (kg K) (cx_l (kx K))) hmo hb rfl rfl wm_X_22 wi_Pl_new wn_Pl_new wc_Pl_new rfl wh_Pl_new (by decide) (by decide) (Nat.le_of_ble_eq_true rfl) rfl) (fun x_14 => ?_)
  refine xs_heap (hp_mo_sr _ _ _ _) (fun K HC => xr_putr HC.1 20 46 10 4 4 rfl rfl wf_X_27 (by decide) fb_10_4 (Or.inl fn_10_4) fc_10_4 fd_10_4 (by decide)) (fun h_15 => ?_)
  refine xs_step (fun K HC => xr_aload_n HC.1 21 47 (n := 0) (ix := 0) (j := 0) (c := 10) (x := v0) rfl rfl rfl rfl) ?_
  refine xs_new (fun K HC hb => xr_new HC.1 22 50 1 hb rfl rfl wc_X_30 (by decide)) (fun q_16 h_17 => ?_)
  refine xs_step (fun K HC => xr_dup HC.1 23 51 rfl rfl rfl) ?_
  refine xs_callv (s_Co_new q_16 h_17) (fun K HC x9 hM hmo hb => xr_callI HC.1 24 54 (av := []) (st := [av_R 1 (some q_16), av_R 10 (some v0)]) (hM (kg K) (cx_l (kx K))) hmo hb rfl rfl wm_X_32 wi_Co_new wn_Co_new wc_Co_new rfl wh_Co_new (by decide) (by decide) (Nat.le_of_ble_eq_true rfl) rfl) (fun x_18 => ?_)
  refine xs_heap (hp_mo_sr _ _ _ _) (fun K HC => xr_putr HC.1 25 57 10 5 1 rfl rfl wf_X_33 (by decide) fb_10_5 (Or.inr ⟨fn_10_5, HC.2 rfl, rfl⟩) fc_10_5 fd_10_5 (by decide)) (fun h_19 => ?_)
  refine xs_step (fun K HC => xr_aload_n HC.1 26 58 (n := 0) (ix := 0) (j := 0) (c := 10) (x := v0) rfl rfl rfl rfl) ?_
  refine xs_step (fun K HC => xr_iconst HC.1 27 59 (n := (3)) (3 : Int32) rfl rfl rfl) ?_
  refine xs_new (fun K HC hb => xr_newQ HC.1 28 62 3 hb rfl rfl wc_X_30 (by decide) rfl (Nat.le_of_ble_eq_true rfl)) (fun q_20 h_21 => ?_)
  refine xs_heap (hp_mo_sr _ _ _ _) (fun K HC => xr_putr HC.1 29 65 10 6 16 rfl rfl wf_X_37 (by decide) fb_10_6 (Or.inr ⟨fn_10_6, HC.2 rfl, rfl⟩) fc_10_6 fd_10_6 (by decide)) (fun h_22 => ?_)
  refine xs_step (fun K HC => xr_iconst HC.1 30 66 (n := (0)) (0 : Int32) rfl rfl rfl) ?_
  refine xs_step (fun K HC => xr_istore_n HC.1 31 67 (n := 1) (ix := 1) (lv' := [(0, av_R 10 (some v0)), (1, av_I (0 : Int32))]) rfl rfl rfl (by decide) rfl) ?_
  exact t_X_new_67 v0 (0 : Int32) h_22
theorem s_X_new (v0 : Nat) (h : HP) : ∀ x, f_X_new v0 h = some x → hp_mo h x ∧ ∀ g l, xx_M g l y_X_new prog_1_method_1_code 2 none 6 [av_R 10 (some v0)] h none x :=
  xM_v (tb := tb_X_new) (b := true) (by decide +kernel) dt_X_new trivial (Nat.le_of_ble_eq_true rfl) (fun hb => rfl) (t_X_new v0 h)
