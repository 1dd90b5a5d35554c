def tb_Rd_readOne : TBL := [(0, .aload_n 0, 1), (1, .getfield 66, 3), (4, .bipush 17, 2), (6, .if_icmp .ne 36, 3), (9, .iload_n 1, 1), (10, .bipush 6, 2), (12, .if_icmp .le 9, 3), (15, .aload_n 0, 1), (16, .iconst 2, 1), (17, .invokevirtual 131, 3), (20, .return_, 1), (21, .aload_n 0, 1), (22, .invokevirtual 63, 3), (25, .aload_n 0, 1), (26, .iload_n 1, 1), (27, .iconst 1, 1), (28, .iadd, 1), (29, .invokevirtual 189, 3), (32, .aload_n 0, 1), (33, .getfield 44, 3), (36, .bipush (-8), 2), (38, .invokevirtual 186, 3), (41, .return_, 1), (42, .aload_n 0, 1), (43, .iload_n 1, 1), (44, .invokevirtual 192, 3), (47, .aload_n 0, 1), (48, .getfield 66, 3), (51, .bipush 60, 2), (53, .if_icmp .eq 21, 3), (56, .aload_n 0, 1), (57, .getfield 66, 3), (60, .bipush 62, 2), (62, .if_icmp .eq 12, 3), (65, .aload_n 0, 1), (66, .getfield 66, 3), (69, .bipush 61, 2), (71, .if_icmp .ne 51, 3), (74, .aload_n 0, 1), (75, .getfield 66, 3), (78, .bipush 60, 2), (80, .if_icmp .ne 8, 3), (83, .bipush (-9), 2), (85, .goto 19, 3), (88, .aload_n 0, 1), (89, .getfield 66, 3), (92, .bipush 62, 2), (94, .if_icmp .ne 8, 3), (97, .bipush (-10), 2), (99, .goto 5, 3), (102, .bipush (-11), 2), (104, .istore_n 2, 1), (105, .aload_n 0, 1), (106, .invokevirtual 63, 3), (109, .aload_n 0, 1), (110, .iload_n 1, 1), (111, .invokevirtual 192, 3), (114, .aload_n 0, 1), (115, .getfield 44, 3), (118, .iload_n 2, 1), (119, .invokevirtual 186, 3), (122, .return_, 1)]
theorem dt_Rd_readOne : ∀ q ∈ tb_Rd_readOne, decode prog_7_method_22_code q.1 = .ok (q.2.1, q.2.2) := by decide +kernel
set_option maxHeartbeats 4000000 in
set_option maxRecDepth 100000 in
theorem t_Rd_readOne_104 (e9 : Nat) (fA : Nat → Int32 → HP → Option HP) (HA : ∀ (v0 : Nat) (v1 : Int32) (h : HP) (x : HP), fA v0 v1 h = some x → hp_mo h x ∧ ∀ g l, xx_M g l y_Rd_readAny prog_7_method_20_code 3 none (e9 + 12) [av_R 5 (some v0), av_I v1] h none x) (fO : Nat → Int32 → HP → Option HP) (HO : ∀ (v0 : Nat) (v1 : Int32) (h : HP) (x : HP), fO v0 v1 h = some x → hp_mo h x ∧ ∀ g l, xx_M g l y_Rd_readOne prog_7_method_22_code 3 none (e9 + 10) [av_R 5 (some v0), av_I v1] h none x) (v0 : Nat) (v1 : Int32) (s0 : Int32) (h : HP) : xx_S (xx_D "LampYard$Reader" tb_Rd_readOne 3 (e9 + 16) none false) xz_v (fun K => xL_v K) 104 [(0, av_R 5 (some v0)), (1, av_I v1)] [av_I s0] h (f_Rd_readOne_104 fA fO v0 v1 s0 h) := by
  unfold f_Rd_readOne_104
  refine xs_step (fun K HC => xr_istore_n HC.1 51 105 (n := 2) (ix := 2) (lv' := [(0, av_R 5 (some v0)), (1, av_I v1), (2, av_I s0)]) rfl rfl rfl (by decide) rfl) ?_
  refine xs_step (fun K HC => xr_aload_n HC.1 52 106 (n := 0) (ix := 0) (j := 0) (c := 5) (x := v0) rfl rfl rfl rfl) ?_
  refine xs_callv (s_Rd_advance v0 h) (fun K HC x9 hM hmo hb => xr_callV HC.1 53 109 (av := []) (st := []) (hM (kg K) (cx_l (kx K))) hmo hb rfl rfl wm_Rd_63 wi_Rd_advance ws_Rd_advance wc_Rd_advance rfl wh_Rd_advance (by decide) (by omega) (by decide) (Nat.le_of_ble_eq_true rfl) rfl) (fun x_7 => ?_)
  refine xs_step (fun K HC => xr_aload_n HC.1 54 110 (n := 0) (ix := 0) (j := 0) (c := 5) (x := v0) rfl rfl rfl rfl) ?_
  refine xs_step (fun K HC => xr_iload_n HC.1 55 111 (n := 1) (ix := 1) (j := 1) (x := v1) rfl rfl rfl rfl) ?_
  refine xs_callv (s_Rd_readSum e9 fA HA v0 v1 x_7) (fun K HC x9 hM hmo hb => xr_callV HC.1 56 114 (av := [av_I v1]) (st := []) (hM (kg K) (cx_l (kx K))) hmo hb rfl rfl wm_Rd_192 wi_Rd_readSum ws_Rd_readSum wc_Rd_readSum rfl wh_Rd_readSum (by decide) (by omega) (by decide) (Nat.le_of_ble_eq_true rfl) rfl) (fun x_8 => ?_)
  refine xs_step (fun K HC => xr_aload_n HC.1 57 115 (n := 0) (ix := 0) (j := 0) (c := 5) (x := v0) rfl rfl rfl rfl) ?_
  refine xs_bind (fun q_9 eq_9 => ?_)
  refine xs_step (fun K HC => xr_getr HC.1 58 118 5 4 4 eq_9 rfl rfl wf_Rd_44 (by decide) fb_5_4 fc_5_4 fd_5_4) ?_
  refine xs_step (fun K HC => xr_iload_n HC.1 59 119 (n := 2) (ix := 2) (j := 2) (x := s0) rfl rfl rfl rfl) ?_
  refine xs_callv (s_Pl_addCode q_9 s0 x_8) (fun K HC x9 hM hmo hb => xr_callV HC.1 60 122 (av := [av_I s0]) (st := []) (hM (kg K) (cx_l (kx K))) hmo hb rfl rfl wm_Rd_186 wi_Pl_addCode ws_Pl_addCode wc_Pl_addCode rfl wh_Pl_addCode (by decide) (by omega) (by decide) (Nat.le_of_ble_eq_true rfl) rfl) (fun x_10 => ?_)
  exact xs_ret 61 rfl rfl (fun K q => q)
set_option maxHeartbeats 4000000 in
set_option maxRecDepth 100000 in
theorem t_Rd_readOne_74 (e9 : Nat) (fA : Nat → Int32 → HP → Option HP) (HA : ∀ (v0 : Nat) (v1 : Int32) (h : HP) (x : HP), fA v0 v1 h = some x → hp_mo h x ∧ ∀ g l, xx_M g l y_Rd_readAny prog_7_method_20_code 3 none (e9 + 12) [av_R 5 (some v0), av_I v1] h none x) (fO : Nat → Int32 → HP → Option HP) (HO : ∀ (v0 : Nat) (v1 : Int32) (h : HP) (x : HP), fO v0 v1 h = some x → hp_mo h x ∧ ∀ g l, xx_M g l y_Rd_readOne prog_7_method_22_code 3 none (e9 + 10) [av_R 5 (some v0), av_I v1] h none x) (v0 : Nat) (v1 : Int32) (h : HP) : xx_S (xx_D "LampYard$Reader" tb_Rd_readOne 3 (e9 + 16) none false) xz_v (fun K => xL_v K) 74 [(0, av_R 5 (some v0)), (1, av_I v1)] [] h (f_Rd_readOne_74 fA fO v0 v1 h) := by
  unfold f_Rd_readOne_74
  refine xs_step (fun K HC => xr_aload_n HC.1 38 75 (n := 0) (ix := 0) (j := 0) (c := 5) (x := v0) rfl rfl rfl rfl) ?_
  refine xs_step (fun K HC => xr_geti HC.1 39 78 5 12 rfl rfl wf_Rd_66 (by decide) fb_5_12 fc_5_12) ?_
  refine xs_step (fun K HC => xr_bipush HC.1 40 80 (n := (60)) (60 : Int32) rfl rfl rfl) ?_
  refine xs_ite (fun K HC a b => xr_icmp_ne HC.1 41 88 83 rfl (by decide) rfl b a) ?_ ?_
  · refine xs_step (fun K HC => xr_bipush HC.1 42 85 (n := (-9)) (-9 : Int32) rfl rfl rfl) ?_
    refine xs_step (fun K HC => xr_goto HC.1 43 104 rfl (by decide)) ?_
    exact t_Rd_readOne_104 e9 fA HA fO HO v0 v1 (-9 : Int32) h
  refine xs_step (fun K HC => xr_aload_n HC.1 44 89 (n := 0) (ix := 0) (j := 0) (c := 5) (x := v0) rfl rfl rfl rfl) ?_
  refine xs_step (fun K HC => xr_geti HC.1 45 92 5 12 rfl rfl wf_Rd_66 (by decide) fb_5_12 fc_5_12) ?_
  refine xs_step (fun K HC => xr_bipush HC.1 46 94 (n := (62)) (62 : Int32) rfl rfl rfl) ?_
  refine xs_ite (fun K HC a b => xr_icmp_ne HC.1 47 102 97 rfl (by decide) rfl b a) ?_ ?_
  · refine xs_step (fun K HC => xr_bipush HC.1 48 99 (n := (-10)) (-10 : Int32) rfl rfl rfl) ?_
    refine xs_step (fun K HC => xr_goto HC.1 49 104 rfl (by decide)) ?_
    exact t_Rd_readOne_104 e9 fA HA fO HO v0 v1 (-10 : Int32) h
  refine xs_step (fun K HC => xr_bipush HC.1 50 104 (n := (-11)) (-11 : Int32) rfl rfl rfl) ?_
  exact t_Rd_readOne_104 e9 fA HA fO HO v0 v1 (-11 : Int32) h
set_option maxHeartbeats 4000000 in
set_option maxRecDepth 100000 in
theorem t_Rd_readOne (e9 : Nat) (fA : Nat → Int32 → HP → Option HP) (HA : ∀ (v0 : Nat) (v1 : Int32) (h : HP) (x : HP), fA v0 v1 h = some x → hp_mo h x ∧ ∀ g l, xx_M g l y_Rd_readAny prog_7_method_20_code 3 none (e9 + 12) [av_R 5 (some v0), av_I v1] h none x) (fO : Nat → Int32 → HP → Option HP) (HO : ∀ (v0 : Nat) (v1 : Int32) (h : HP) (x : HP), fO v0 v1 h = some x → hp_mo h x ∧ ∀ g l, xx_M g l y_Rd_readOne prog_7_method_22_code 3 none (e9 + 10) [av_R 5 (some v0), av_I v1] h none x) (v0 : Nat) (v1 : Int32) (h : HP) : xx_S (xx_D "LampYard$Reader" tb_Rd_readOne 3 (e9 + 16) none false) xz_v (fun K => xL_v K) 0 [(0, av_R 5 (some v0)), (1, av_I v1)] [] h (f_Rd_readOne fA fO v0 v1 h) := by
  unfold f_Rd_readOne
  refine xs_step (fun K HC => xr_aload_n HC.1 0 1 (n := 0) (ix := 0) (j := 0) (c := 5) (x := v0) rfl rfl rfl rfl) ?_
  refine xs_step (fun K HC => xr_geti HC.1 1 4 5 12 rfl rfl wf_Rd_66 (by decide) fb_5_12 fc_5_12) ?_
  refine xs_step (fun K HC => xr_bipush HC.1 2 6 (n := (17)) (17 : Int32) rfl rfl rfl) ?_
  refine xs_ite (fun K HC a b => xr_icmp_ne HC.1 3 42 9 rfl (by decide) rfl b a) ?_ ?_
  · refine xs_step (fun K HC => xr_iload_n HC.1 4 10 (n := 1) (ix := 1) (j := 1) (x := v1) rfl rfl rfl rfl) ?_
    refine xs_step (fun K HC => xr_bipush HC.1 5 12 (n := (6)) (6 : Int32) rfl rfl rfl) ?_
    refine xs_ite (fun K HC => xr_icmp_le HC.1 6 21 15 rfl (by decide) rfl) ?_ ?_
    · refine xs_step (fun K HC => xr_aload_n HC.1 11 22 (n := 0) (ix := 0) (j := 0) (c := 5) (x := v0) rfl rfl rfl rfl) ?_
      refine xs_callv (s_Rd_advance v0 h) (fun K HC x9 hM hmo hb => xr_callV HC.1 12 25 (av := []) (st := []) (hM (kg K) (cx_l (kx K))) hmo hb rfl rfl wm_Rd_63 wi_Rd_advance ws_Rd_advance wc_Rd_advance rfl wh_Rd_advance (by decide) (by omega) (by decide) (Nat.le_of_ble_eq_true rfl) rfl) (fun x_1 => ?_)
      refine xs_step (fun K HC => xr_aload_n HC.1 13 26 (n := 0) (ix := 0) (j := 0) (c := 5) (x := v0) rfl rfl rfl rfl) ?_
      refine xs_step (fun K HC => xr_iload_n HC.1 14 27 (n := 1) (ix := 1) (j := 1) (x := v1) rfl rfl rfl rfl) ?_
      refine xs_step (fun K HC => xr_iconst HC.1 15 28 (n := (1)) (1 : Int32) rfl rfl rfl) ?_
      refine xs_step (fun K HC => xr_iadd HC.1 16 29 rfl rfl) ?_
      refine xs_callv (HO v0 (v1 + (1 : Int32)) x_1) (fun K HC x9 hM hmo hb => xr_callV HC.1 17 32 (av := [av_I (v1 + (1 : Int32))]) (st := []) (hM (kg K) (cx_l (kx K))) hmo hb rfl rfl wm_Rd_189 wi_Rd_readOne ws_Rd_readOne wc_Rd_readOne rfl wh_Rd_readOne (by decide) (by omega) (by decide) (Nat.le_of_ble_eq_true rfl) rfl) (fun x_2 => ?_)
      refine xs_step (fun K HC => xr_aload_n HC.1 18 33 (n := 0) (ix := 0) (j := 0) (c := 5) (x := v0) rfl rfl rfl rfl) ?_
      refine xs_bind (fun q_3 eq_3 => ?_)
      refine xs_step (fun K HC => xr_getr HC.1 19 36 5 4 4 eq_3 rfl rfl wf_Rd_44 (by decide) fb_5_4 fc_5_4 fd_5_4) ?_
      refine xs_step (fun K HC => xr_bipush HC.1 20 38 (n := (-8)) (-8 : Int32) rfl rfl rfl) ?_
      refine xs_callv (s_Pl_addCode q_3 (-8 : Int32) x_2) (fun K HC x9 hM hmo hb => xr_callV HC.1 21 41 (av := [av_I (-8 : Int32)]) (st := []) (hM (kg K) (cx_l (kx K))) hmo hb rfl rfl wm_Rd_186 wi_Pl_addCode ws_Pl_addCode wc_Pl_addCode rfl wh_Pl_addCode (by decide) (by omega) (by decide) (Nat.le_of_ble_eq_true rfl) rfl) (fun x_4 => ?_)
      exact xs_ret 22 rfl rfl (fun K q => q)
    refine xs_step (fun K HC => xr_aload_n HC.1 7 16 (n := 0) (ix := 0) (j := 0) (c := 5) (x := v0) rfl rfl rfl rfl) ?_
    refine xs_step (fun K HC => xr_iconst HC.1 8 17 (n := (2)) (2 : Int32) rfl rfl rfl) ?_
    refine xs_callv (s_Rd_refuse v0 (2 : Int32) h) (fun K HC x9 hM hmo hb => xr_callV HC.1 9 20 (av := [av_I (2 : Int32)]) (st := []) (hM (kg K) (cx_l (kx K))) hmo hb rfl rfl wm_Rd_131 wi_Rd_refuse ws_Rd_refuse wc_Rd_refuse rfl wh_Rd_refuse (by decide) (by omega) (by decide) (Nat.le_of_ble_eq_true rfl) rfl) (fun x_5 => ?_)
    exact xs_ret 10 rfl rfl (fun K q => q)
  refine xs_step (fun K HC => xr_aload_n HC.1 23 43 (n := 0) (ix := 0) (j := 0) (c := 5) (x := v0) rfl rfl rfl rfl) ?_
  refine xs_step (fun K HC => xr_iload_n HC.1 24 44 (n := 1) (ix := 1) (j := 1) (x := v1) rfl rfl rfl rfl) ?_
  refine xs_callv (s_Rd_readSum e9 fA HA v0 v1 h) (fun K HC x9 hM hmo hb => xr_callV HC.1 25 47 (av := [av_I v1]) (st := []) (hM (kg K) (cx_l (kx K))) hmo hb rfl rfl wm_Rd_192 wi_Rd_readSum ws_Rd_readSum wc_Rd_readSum rfl wh_Rd_readSum (by decide) (by omega) (by decide) (Nat.le_of_ble_eq_true rfl) rfl) (fun x_6 => ?_)
  refine xs_step (fun K HC => xr_aload_n HC.1 26 48 (n := 0) (ix := 0) (j := 0) (c := 5) (x := v0) rfl rfl rfl rfl) ?_
  refine xs_step (fun K HC => xr_geti HC.1 27 51 5 12 rfl rfl wf_Rd_66 (by decide) fb_5_12 fc_5_12) ?_
  refine xs_step (fun K HC => xr_bipush HC.1 28 53 (n := (60)) (60 : Int32) rfl rfl rfl) ?_
  refine xs_ite (fun K HC => xr_icmp_eq HC.1 29 74 56 rfl (by decide) rfl) ?_ ?_
  · exact t_Rd_readOne_74 e9 fA HA fO HO v0 v1 x_6
  refine xs_step (fun K HC => xr_aload_n HC.1 30 57 (n := 0) (ix := 0) (j := 0) (c := 5) (x := v0) rfl rfl rfl rfl) ?_
  refine xs_step (fun K HC => xr_geti HC.1 31 60 5 12 rfl rfl wf_Rd_66 (by decide) fb_5_12 fc_5_12) ?_
  refine xs_step (fun K HC => xr_bipush HC.1 32 62 (n := (62)) (62 : Int32) rfl rfl rfl) ?_
  refine xs_ite (fun K HC => xr_icmp_eq HC.1 33 74 65 rfl (by decide) rfl) ?_ ?_
  · exact t_Rd_readOne_74 e9 fA HA fO HO v0 v1 x_6
  refine xs_step (fun K HC => xr_aload_n HC.1 34 66 (n := 0) (ix := 0) (j := 0) (c := 5) (x := v0) rfl rfl rfl rfl) ?_
  refine xs_step (fun K HC => xr_geti HC.1 35 69 5 12 rfl rfl wf_Rd_66 (by decide) fb_5_12 fc_5_12) ?_
  refine xs_step (fun K HC => xr_bipush HC.1 36 71 (n := (61)) (61 : Int32) rfl rfl rfl) ?_
  refine xs_ite (fun K HC a b => xr_icmp_ne HC.1 37 122 74 rfl (by decide) rfl b a) ?_ ?_
  · exact t_Rd_readOne_74 e9 fA HA fO HO v0 v1 x_6
  exact xs_ret 61 rfl rfl (fun K q => q)
theorem s_Rd_readOne (e9 : Nat) (fA : Nat → Int32 → HP → Option HP) (HA : ∀ (v0 : Nat) (v1 : Int32) (h : HP) (x : HP), fA v0 v1 h = some x → hp_mo h x ∧ ∀ g l, xx_M g l y_Rd_readAny prog_7_method_20_code 3 none (e9 + 12) [av_R 5 (some v0), av_I v1] h none x) (fO : Nat → Int32 → HP → Option HP) (HO : ∀ (v0 : Nat) (v1 : Int32) (h : HP) (x : HP), fO v0 v1 h = some x → hp_mo h x ∧ ∀ g l, xx_M g l y_Rd_readOne prog_7_method_22_code 3 none (e9 + 10) [av_R 5 (some v0), av_I v1] h none x) (v0 : Nat) (v1 : Int32) (h : HP) : ∀ x, f_Rd_readOne fA fO v0 v1 h = some x → hp_mo h x ∧ ∀ g l, xx_M g l y_Rd_readOne prog_7_method_22_code 3 none (e9 + 16) [av_R 5 (some v0), av_I v1] h none x :=
  xM_v (tb := tb_Rd_readOne) (b := false) (by decide +kernel) dt_Rd_readOne trivial (Nat.le_of_ble_eq_true rfl) (fun hb => by cases hb) (t_Rd_readOne e9 fA HA fO HO v0 v1 h)
def tb_Rd_readBoth : TBL := [(0, .aload_n 0, 1), (1, .iload_n 1, 1), (2, .invokevirtual 189, 3), (5, .iconst 0, 1), (6, .istore_n 2, 1), (7, .iload_n 2, 1), (8, .sipush 1400, 3), (11, .if_icmp .ge 36, 3), (14, .aload_n 0, 1), (15, .getfield 66, 3), (18, .bipush 16, 2), (20, .if_icmp .ne 27, 3), (23, .aload_n 0, 1), (24, .invokevirtual 63, 3), (27, .aload_n 0, 1), (28, .iload_n 1, 1), (29, .invokevirtual 189, 3), (32, .aload_n 0, 1), (33, .getfield 44, 3), (36, .bipush (-7), 2), (38, .invokevirtual 186, 3), (41, .iinc 2 1, 3), (44, .goto (-37), 3), (47, .return_, 1)]
theorem dt_Rd_readBoth : ∀ q ∈ tb_Rd_readBoth, decode prog_7_method_21_code q.1 = .ok (q.2.1, q.2.2) := by decide +kernel
set_option maxHeartbeats 4000000 in
set_option maxRecDepth 100000 in
theorem t_Rd_readBoth_7b (e9 : Nat) (fA : Nat → Int32 → HP → Option HP) (HA : ∀ (v0 : Nat) (v1 : Int32) (h : HP) (x : HP), fA v0 v1 h = some x → hp_mo h x ∧ ∀ g l, xx_M g l y_Rd_readAny prog_7_method_20_code 3 none (e9 + 12) [av_R 5 (some v0), av_I v1] h none x) (fO : Nat → Int32 → HP → Option HP) (HO : ∀ (v0 : Nat) (v1 : Int32) (h : HP) (x : HP), fO v0 v1 h = some x → hp_mo h x ∧ ∀ g l, xx_M g l y_Rd_readOne prog_7_method_22_code 3 none (e9 + 10) [av_R 5 (some v0), av_I v1] h none x) (v0 : Nat) (v1 : Int32) (v2 : Int32) (h : HP) : xx_S (xx_D "LampYard$Reader" tb_Rd_readBoth 3 (e9 + 17) none false) (xx_z2 (fun s : (Int32 × HP) => s.2) xz_v) (fun K => xx_L2 (fun s : (Int32 × HP) => xx_X K 7 [(0, av_R 5 (some v0)), (1, av_I v1), (2, av_I s.1)] [] (s.2)) (xL_v K)) 7 [(0, av_R 5 (some v0)), (1, av_I v1), (2, av_I v2)] [] h (f_Rd_readBoth_7b fA fO v0 v1 v2 h) := by
  unfold f_Rd_readBoth_7b
  refine xs_step (fun K HC => xr_iload_n HC.1 5 8 (n := 2) (ix := 2) (j := 2) (x := v2) rfl rfl rfl rfl) ?_
  refine xs_step (fun K HC => xr_sipush HC.1 6 11 (n := (1400)) (1400 : Int32) rfl rfl rfl) ?_
  refine xs_ite (fun K HC => xr_icmp_ge HC.1 7 47 14 rfl (by decide) rfl) ?_ ?_
  · exact xs_ret 23 rfl rfl (fun K q => q)
  refine xs_step (fun K HC => xr_aload_n HC.1 8 15 (n := 0) (ix := 0) (j := 0) (c := 5) (x := v0) rfl rfl rfl rfl) ?_
  refine xs_step (fun K HC => xr_geti HC.1 9 18 5 12 rfl rfl wf_Rd_66 (by decide) fb_5_12 fc_5_12) ?_
  refine xs_step (fun K HC => xr_bipush HC.1 10 20 (n := (16)) (16 : Int32) rfl rfl rfl) ?_
  refine xs_ite (fun K HC a b => xr_icmp_ne HC.1 11 47 23 rfl (by decide) rfl b a) ?_ ?_
  · refine xs_step (fun K HC => xr_aload_n HC.1 12 24 (n := 0) (ix := 0) (j := 0) (c := 5) (x := v0) rfl rfl rfl rfl) ?_
    refine xs_callv (s_Rd_advance v0 h) (fun K HC x9 hM hmo hb => xr_callV HC.1 13 27 (av := []) (st := []) (hM (kg K) (cx_l (kx K))) hmo hb rfl rfl wm_Rd_63 wi_Rd_advance ws_Rd_advance wc_Rd_advance rfl wh_Rd_advance (by decide) (by omega) (by decide) (Nat.le_of_ble_eq_true rfl) rfl) (fun x_2 => ?_)
    refine xs_step (fun K HC => xr_aload_n HC.1 14 28 (n := 0) (ix := 0) (j := 0) (c := 5) (x := v0) rfl rfl rfl rfl) ?_
    refine xs_step (fun K HC => xr_iload_n HC.1 15 29 (n := 1) (ix := 1) (j := 1) (x := v1) rfl rfl rfl rfl) ?_
    refine xs_callv (s_Rd_readOne e9 fA HA fO HO v0 v1 x_2) (fun K HC x9 hM hmo hb => xr_callV HC.1 16 32 (av := [av_I v1]) (st := []) (hM (kg K) (cx_l (kx K))) hmo hb rfl rfl wm_Rd_189 wi_Rd_readOne ws_Rd_readOne wc_Rd_readOne rfl wh_Rd_readOne (by decide) (by omega) (by decide) (Nat.le_of_ble_eq_true rfl) rfl) (fun x_3 => ?_)
    refine xs_step (fun K HC => xr_aload_n HC.1 17 33 (n := 0) (ix := 0) (j := 0) (c := 5) (x := v0) rfl rfl rfl rfl) ?_
    refine xs_bind (fun q_4 eq_4 => ?_)
    refine xs_step (fun K HC => xr_getr HC.1 18 36 5 4 4 eq_4 rfl rfl wf_Rd_44 (by decide) fb_5_4 fc_5_4 fd_5_4) ?_
    refine xs_step (fun K HC => xr_bipush HC.1 19 38 (n := (-7)) (-7 : Int32) rfl rfl rfl) ?_
    refine xs_callv (s_Pl_addCode q_4 (-7 : Int32) x_3) (fun K HC x9 hM hmo hb => xr_callV HC.1 20 41 (av := [av_I (-7 : Int32)]) (st := []) (hM (kg K) (cx_l (kx K))) hmo hb rfl rfl wm_Rd_186 wi_Pl_addCode ws_Pl_addCode wc_Pl_addCode rfl wh_Pl_addCode (by decide) (by omega) (by decide) (Nat.le_of_ble_eq_true rfl) rfl) (fun x_5 => ?_)
    refine xs_gen (fun v2_6 ev2_6 => ?_)
    refine xs_step (fun K HC => xr_iinc HC.1 21 44 (ix := 2) (j := 2) (n := (1)) (x := v2) v2_6 (lv' := [(0, av_R 5 (some v0)), (1, av_I v1), (2, av_I v2_6)]) rfl (by rw [ev2_6]; rfl) rfl rfl (by decide) rfl) ?_
    refine xs_step (fun K HC => xr_goto HC.1 22 7 rfl (by decide)) ?_
    exact xs_back rfl (fun K q => q)
  exact xs_ret 23 rfl rfl (fun K q => q)
theorem t_Rd_readBoth_7 (e9 : Nat) (fA : Nat → Int32 → HP → Option HP) (HA : ∀ (v0 : Nat) (v1 : Int32) (h : HP) (x : HP), fA v0 v1 h = some x → hp_mo h x ∧ ∀ g l, xx_M g l y_Rd_readAny prog_7_method_20_code 3 none (e9 + 12) [av_R 5 (some v0), av_I v1] h none x) (fO : Nat → Int32 → HP → Option HP) (HO : ∀ (v0 : Nat) (v1 : Int32) (h : HP) (x : HP), fO v0 v1 h = some x → hp_mo h x ∧ ∀ g l, xx_M g l y_Rd_readOne prog_7_method_22_code 3 none (e9 + 10) [av_R 5 (some v0), av_I v1] h none x) (v0 : Nat) (v1 : Int32) (v2 : Int32) (h : HP) : xx_S (xx_D "LampYard$Reader" tb_Rd_readBoth 3 (e9 + 17) none false) xz_v (fun K => xL_v K) 7 [(0, av_R 5 (some v0)), (1, av_I v1), (2, av_I v2)] [] h (f_Rd_readBoth_7 fA fO v0 v1 v2 h) :=
  xs_loop (zf := xz_v) (L := (fun K => xL_v K)) (fun s : (Int32 × HP) => [(0, av_R 5 (some v0)), (1, av_I v1), (2, av_I s.1)]) (fun s : (Int32 × HP) => s.2) (fun s => t_Rd_readBoth_7b e9 fA HA fO HO v0 v1 s.1 s.2) (v2, h)
set_option maxHeartbeats 4000000 in
set_option maxRecDepth 100000 in
theorem t_Rd_readBoth (e9 : Nat) (fA : Nat → Int32 → HP → Option HP) (HA : ∀ (v0 : Nat) (v1 : Int32) (h : HP) (x : HP), fA v0 v1 h = some x → hp_mo h x ∧ ∀ g l, xx_M g l y_Rd_readAny prog_7_method_20_code 3 none (e9 + 12) [av_R 5 (some v0), av_I v1] h none x) (fO : Nat → Int32 → HP → Option HP) (HO : ∀ (v0 : Nat) (v1 : Int32) (h : HP) (x : HP), fO v0 v1 h = some x → hp_mo h x ∧ ∀ g l, xx_M g l y_Rd_readOne prog_7_method_22_code 3 none (e9 + 10) [av_R 5 (some v0), av_I v1] h none x) (v0 : Nat) (v1 : Int32) (h : HP) : xx_S (xx_D "LampYard$Reader" tb_Rd_readBoth 3 (e9 + 17) none false) xz_v (fun K => xL_v K) 0 [(0, av_R 5 (some v0)), (1, av_I v1)] [] h (f_Rd_readBoth fA fO v0 v1 h) := by
  unfold f_Rd_readBoth
  refine xs_step (fun K HC => xr_aload_n HC.1 0 1 (n := 0) (ix := 0) (j := 0) (c := 5) (x := v0) rfl rfl rfl rfl) ?_
  refine xs_step (fun K HC => xr_iload_n HC.1 1 2 (n := 1) (ix := 1) (j := 1) (x := v1) rfl rfl rfl rfl) ?_
  refine xs_callv (s_Rd_readOne e9 fA HA fO HO v0 v1 h) (fun K HC x9 hM hmo hb => xr_callV HC.1 2 5 (av := [av_I v1]) (st := []) (hM (kg K) (cx_l (kx K))) hmo hb rfl rfl wm_Rd_189 wi_Rd_readOne ws_Rd_readOne wc_Rd_readOne rfl wh_Rd_readOne (by decide) (by omega) (by decide) (Nat.le_of_ble_eq_true rfl) rfl) (fun x_1 => ?_)
  refine xs_step (fun K HC => xr_iconst HC.1 3 6 (n := (0)) (0 : Int32) rfl rfl rfl) ?_
  refine xs_step (fun K HC => xr_istore_n HC.1 4 7 (n := 2) (ix := 2) (lv' := [(0, av_R 5 (some v0)), (1, av_I v1), (2, av_I (0 : Int32))]) rfl rfl rfl (by decide) rfl) ?_
  exact t_Rd_readBoth_7 e9 fA HA fO HO v0 v1 (0 : Int32) x_1
theorem s_Rd_readBoth (e9 : Nat) (fA : Nat → Int32 → HP → Option HP) (HA : ∀ (v0 : Nat) (v1 : Int32) (h : HP) (x : HP), fA v0 v1 h = some x → hp_mo h x ∧ ∀ g l, xx_M g l y_Rd_readAny prog_7_method_20_code 3 none (e9 + 12) [av_R 5 (some v0), av_I v1] h none x) (fO : Nat → Int32 → HP → Option HP) (HO : ∀ (v0 : Nat) (v1 : Int32) (h : HP) (x : HP), fO v0 v1 h = some x → hp_mo h x ∧ ∀ g l, xx_M g l y_Rd_readOne prog_7_method_22_code 3 none (e9 + 10) [av_R 5 (some v0), av_I v1] h none x) (v0 : Nat) (v1 : Int32) (h : HP) : ∀ x, f_Rd_readBoth fA fO v0 v1 h = some x → hp_mo h x ∧ ∀ g l, xx_M g l y_Rd_readBoth prog_7_method_21_code 3 none (e9 + 17) [av_R 5 (some v0), av_I v1] h none x :=
  xM_v (tb := tb_Rd_readBoth) (b := false) (by decide +kernel) dt_Rd_readBoth trivial (Nat.le_of_ble_eq_true rfl) (fun hb => by cases hb) (t_Rd_readBoth e9 fA HA fO HO v0 v1 h)
def tb_Rd_readAny : TBL := [(0, .aload_n 0, 1), (1, .iload_n 1, 1), (2, .invokevirtual 183, 3), (5, .iconst 0, 1), (6, .istore_n 2, 1), (7, .iload_n 2, 1), (8, .sipush 1400, 3), (11, .if_icmp .ge 36, 3), (14, .aload_n 0, 1), (15, .getfield 66, 3), (18, .bipush 15, 2), (20, .if_icmp .ne 27, 3), (23, .aload_n 0, 1), (24, .invokevirtual 63, 3), (27, .aload_n 0, 1), (28, .iload_n 1, 1), (29, .invokevirtual 183, 3), (32, .aload_n 0, 1), (33, .getfield 44, 3), (36, .bipush (-6), 2), (38, .invokevirtual 186, 3), (41, .iinc 2 1, 3), (44, .goto (-37), 3), (47, .return_, 1)]
theorem dt_Rd_readAny : ∀ q ∈ tb_Rd_readAny, decode prog_7_method_20_code q.1 = .ok (q.2.1, q.2.2) := by decide +kernel
set_option maxHeartbeats 4000000 in
set_option maxRecDepth 100000 in
theorem t_Rd_readAny_7b (e9 : Nat) (fA : Nat → Int32 → HP → Option HP) (HA : ∀ (v0 : Nat) (v1 : Int32) (h : HP) (x : HP), fA v0 v1 h = some x → hp_mo h x ∧ ∀ g l, xx_M g l y_Rd_readAny prog_7_method_20_code 3 none (e9 + 12) [av_R 5 (some v0), av_I v1] h none x) (fO : Nat → Int32 → HP → Option HP) (HO : ∀ (v0 : Nat) (v1 : Int32) (h : HP) (x : HP), fO v0 v1 h = some x → hp_mo h x ∧ ∀ g l, xx_M g l y_Rd_readOne prog_7_method_22_code 3 none (e9 + 10) [av_R 5 (some v0), av_I v1] h none x) (v0 : Nat) (v1 : Int32) (v2 : Int32) (h : HP) : xx_S (xx_D "LampYard$Reader" tb_Rd_readAny 3 (e9 + 18) none false) (xx_z2 (fun s : (Int32 × HP) => s.2) xz_v) (fun K => xx_L2 (fun s : (Int32 × HP) => xx_X K 7 [(0, av_R 5 (some v0)), (1, av_I v1), (2, av_I s.1)] [] (s.2)) (xL_v K)) 7 [(0, av_R 5 (some v0)), (1, av_I v1), (2, av_I v2)] [] h (f_Rd_readAny_7b fA fO v0 v1 v2 h) := by
  unfold f_Rd_readAny_7b
  refine xs_step (fun K HC => xr_iload_n HC.1 5 8 (n := 2) (ix := 2) (j := 2) (x := v2) rfl rfl rfl rfl) ?_
  refine xs_step (fun K HC => xr_sipush HC.1 6 11 (n := (1400)) (1400 : Int32) rfl rfl rfl) ?_
  refine xs_ite (fun K HC => xr_icmp_ge HC.1 7 47 14 rfl (by decide) rfl) ?_ ?_
  · exact xs_ret 23 rfl rfl (fun K q => q)
  refine xs_step (fun K HC => xr_aload_n HC.1 8 15 (n := 0) (ix := 0) (j := 0) (c := 5) (x := v0) rfl rfl rfl rfl) ?_
  refine xs_step (fun K HC => xr_geti HC.1 9 18 5 12 rfl rfl wf_Rd_66 (by decide) fb_5_12 fc_5_12) ?_
  refine xs_step (fun K HC => xr_bipush HC.1 10 20 (n := (15)) (15 : Int32) rfl rfl rfl) ?_
  refine xs_ite (fun K HC a b => xr_icmp_ne HC.1 11 47 23 rfl (by decide) rfl b a) ?_ ?_
  · refine xs_step (fun K HC => xr_aload_n HC.1 12 24 (n := 0) (ix := 0) (j := 0) (c := 5) (x := v0) rfl rfl rfl rfl) ?_
    refine xs_callv (s_Rd_advance v0 h) (fun K HC x9 hM hmo hb => xr_callV HC.1 13 27 (av := []) (st := []) (hM (kg K) (cx_l (kx K))) hmo hb rfl rfl wm_Rd_63 wi_Rd_advance ws_Rd_advance wc_Rd_advance rfl wh_Rd_advance (by decide) (by omega) (by decide) (Nat.le_of_ble_eq_true rfl) rfl) (fun x_2 => ?_)
    refine xs_step (fun K HC => xr_aload_n HC.1 14 28 (n := 0) (ix := 0) (j := 0) (c := 5) (x := v0) rfl rfl rfl rfl) ?_
    refine xs_step (fun K HC => xr_iload_n HC.1 15 29 (n := 1) (ix := 1) (j := 1) (x := v1) rfl rfl rfl rfl) ?_
    refine xs_callv (s_Rd_readBoth e9 fA HA fO HO v0 v1 x_2) (fun K HC x9 hM hmo hb => xr_callV HC.1 16 32 (av := [av_I v1]) (st := []) (hM (kg K) (cx_l (kx K))) hmo hb rfl rfl wm_Rd_183 wi_Rd_readBoth ws_Rd_readBoth wc_Rd_readBoth rfl wh_Rd_readBoth (by decide) (by omega) (by decide) (Nat.le_of_ble_eq_true rfl) rfl) (fun x_3 => ?_)
    refine xs_step (fun K HC => xr_aload_n HC.1 17 33 (n := 0) (ix := 0) (j := 0) (c := 5) (x := v0) rfl rfl rfl rfl) ?_
    refine xs_bind (fun q_4 eq_4 => ?_)
    refine xs_step (fun K HC => xr_getr HC.1 18 36 5 4 4 eq_4 rfl rfl wf_Rd_44 (by decide) fb_5_4 fc_5_4 fd_5_4) ?_
    refine xs_step (fun K HC => xr_bipush HC.1 19 38 (n := (-6)) (-6 : Int32) rfl rfl rfl) ?_
    refine xs_callv (s_Pl_addCode q_4 (-6 : Int32) x_3) (fun K HC x9 hM hmo hb => xr_callV HC.1 20 41 (av := [av_I (-6 : Int32)]) (st := []) (hM (kg K) (cx_l (kx K))) hmo hb rfl rfl wm_Rd_186 wi_Pl_addCode ws_Pl_addCode wc_Pl_addCode rfl wh_Pl_addCode (by decide) (by omega) (by decide) (Nat.le_of_ble_eq_true rfl) rfl) (fun x_5 => ?_)
    refine xs_gen (fun v2_6 ev2_6 => ?_)
    refine xs_step (fun K HC => xr_iinc HC.1 21 44 (ix := 2) (j := 2) (n := (1)) (x := v2) v2_6 (lv' := [(0, av_R 5 (some v0)), (1, av_I v1), (2, av_I v2_6)]) rfl (by rw [ev2_6]; rfl) rfl rfl (by decide) rfl) ?_
    refine xs_step (fun K HC => xr_goto HC.1 22 7 rfl (by decide)) ?_
    exact xs_back rfl (fun K q => q)
  exact xs_ret 23 rfl rfl (fun K q => q)
theorem t_Rd_readAny_7 (e9 : Nat) (fA : Nat → Int32 → HP → Option HP) (HA : ∀ (v0 : Nat) (v1 : Int32) (h : HP) (x : HP), fA v0 v1 h = some x → hp_mo h x ∧ ∀ g l, xx_M g l y_Rd_readAny prog_7_method_20_code 3 none (e9 + 12) [av_R 5 (some v0), av_I v1] h none x) (fO : Nat → Int32 → HP → Option HP) (HO : ∀ (v0 : Nat) (v1 : Int32) (h : HP) (x : HP), fO v0 v1 h = some x → hp_mo h x ∧ ∀ g l, xx_M g l y_Rd_readOne prog_7_method_22_code 3 none (e9 + 10) [av_R 5 (some v0), av_I v1] h none x) (v0 : Nat) (v1 : Int32) (v2 : Int32) (h : HP) : xx_S (xx_D "LampYard$Reader" tb_Rd_readAny 3 (e9 + 18) none false) xz_v (fun K => xL_v K) 7 [(0, av_R 5 (some v0)), (1, av_I v1), (2, av_I v2)] [] h (f_Rd_readAny_7 fA fO v0 v1 v2 h) :=
  xs_loop (zf := xz_v) (L := (fun K => xL_v K)) (fun s : (Int32 × HP) => [(0, av_R 5 (some v0)), (1, av_I v1), (2, av_I s.1)]) (fun s : (Int32 × HP) => s.2) (fun s => t_Rd_readAny_7b e9 fA HA fO HO v0 v1 s.1 s.2) (v2, h)
set_option maxHeartbeats 4000000 in
set_option maxRecDepth 100000 in
theorem t_Rd_readAny (e9 : Nat) (fA : Nat → Int32 → HP → Option HP) (HA : ∀ (v0 : Nat) (v1 : Int32) (h : HP) (x : HP), fA v0 v1 h = some x → hp_mo h x ∧ ∀ g l, xx_M g l y_Rd_readAny prog_7_method_20_code 3 none (e9 + 12) [av_R 5 (some v0), av_I v1] h none x) (fO : Nat → Int32 → HP → Option HP) (HO : ∀ (v0 : Nat) (v1 : Int32) (h : HP) (x : HP), fO v0 v1 h = some x → hp_mo h x ∧ ∀ g l, xx_M g l y_Rd_readOne prog_7_method_22_code 3 none (e9 + 10) [av_R 5 (some v0), av_I v1] h none x) (v0 : Nat) (v1 : Int32) (h : HP) : xx_S (xx_D "LampYard$Reader" tb_Rd_readAny 3 (e9 + 18) none false) xz_v (fun K => xL_v K) 0 [(0, av_R 5 (some v0)), (1, av_I v1)] [] h (f_Rd_readAny fA fO v0 v1 h) := by
  unfold f_Rd_readAny
  refine xs_step (fun K HC => xr_aload_n HC.1 0 1 (n := 0) (ix := 0) (j := 0) (c := 5) (x := v0) rfl rfl rfl rfl) ?_
  refine xs_step (fun K HC => xr_iload_n HC.1 1 2 (n := 1) (ix := 1) (j := 1) (x := v1) rfl rfl rfl rfl) ?_
  refine xs_callv (s_Rd_readBoth e9 fA HA fO HO v0 v1 h) (fun K HC x9 hM hmo hb => xr_callV HC.1 2 5 (av := [av_I v1]) (st := []) (hM (kg K) (cx_l (kx K))) hmo hb rfl rfl wm_Rd_183 wi_Rd_readBoth ws_Rd_readBoth wc_Rd_readBoth rfl wh_Rd_readBoth (by decide) (by omega) (by decide) (Nat.le_of_ble_eq_true rfl) rfl) (fun x_1 => ?_)
  refine xs_step (fun K HC => xr_iconst HC.1 3 6 (n := (0)) (0 : Int32) rfl rfl rfl) ?_
  refine xs_step (fun K HC => xr_istore_n HC.1 4 7 (n := 2) (ix := 2) (lv' := [(0, av_R 5 (some v0)), (1, av_I v1), (2, av_I (0 : Int32))]) rfl rfl rfl (by decide) rfl) ?_
  exact t_Rd_readAny_7 e9 fA HA fO HO v0 v1 (0 : Int32) x_1
theorem s_Rd_readAny (e9 : Nat) (fA : Nat → Int32 → HP → Option HP) (HA : ∀ (v0 : Nat) (v1 : Int32) (h : HP) (x : HP), fA v0 v1 h = some x → hp_mo h x ∧ ∀ g l, xx_M g l y_Rd_readAny prog_7_method_20_code 3 none (e9 + 12) [av_R 5 (some v0), av_I v1] h none x) (fO : Nat → Int32 → HP → Option HP) (HO : ∀ (v0 : Nat) (v1 : Int32) (h : HP) (x : HP), fO v0 v1 h = some x → hp_mo h x ∧ ∀ g l, xx_M g l y_Rd_readOne prog_7_method_22_code 3 none (e9 + 10) [av_R 5 (some v0), av_I v1] h none x) (v0 : Nat) (v1 : Int32) (h : HP) : ∀ x, f_Rd_readAny fA fO v0 v1 h = some x → hp_mo h x ∧ ∀ g l, xx_M g l y_Rd_readAny prog_7_method_20_code 3 none (e9 + 18) [av_R 5 (some v0), av_I v1] h none x :=
  xM_v (tb := tb_Rd_readAny) (b := false) (by decide +kernel) dt_Rd_readAny trivial (Nat.le_of_ble_eq_true rfl) (fun hb => by cases hb) (t_Rd_readAny e9 fA HA fO HO v0 v1 h)
theorem s_Rd_rec : ∀ (n : Nat), (∀ (v0 : Nat) (v1 : Int32) (h : HP) (x : HP), (f_Rd_rec n).1 v0 v1 h = some x → hp_mo h x ∧ ∀ g l, xx_M g l y_Rd_readAny prog_7_method_20_code 3 none (6 * n + 12) [av_R 5 (some v0), av_I v1] h none x) ∧ (∀ (v0 : Nat) (v1 : Int32) (h : HP) (x : HP), (f_Rd_rec n).2 v0 v1 h = some x → hp_mo h x ∧ ∀ g l, xx_M g l y_Rd_readOne prog_7_method_22_code 3 none (6 * n + 10) [av_R 5 (some v0), av_I v1] h none x)
  | 0 => ⟨fun _ _ _ _ h => (by cases h), fun _ _ _ _ h => (by cases h)⟩
  | n + 1 => by
    obtain ⟨hA, hO⟩ := s_Rd_rec n
    rw [show 6 * (n + 1) + 12 = 6 * n + 18 by omega, show 6 * (n + 1) + 10 = 6 * n + 16 by omega]
    exact ⟨s_Rd_readAny (6 * n) _ hA _ hO, s_Rd_readOne (6 * n) _ hA _ hO⟩
theorem s_Rd_any (v0 : Nat) (v1 : Int32) (h : HP) : ∀ x, f_Rd_any v0 v1 h = some x → hp_mo h x ∧ ∀ g l, xx_M g l y_Rd_readAny prog_7_method_20_code 3 none 72 [av_R 5 (some v0), av_I v1] h none x := (s_Rd_rec 10).1 v0 v1 h
def tb_Rd_readRule : TBL := [(0, .aload_n 0, 1), (1, .getfield 44, 3), (4, .getfield 170, 3), (7, .bipush 16, 2), (9, .if_icmp .lt 9, 3), (12, .aload_n 0, 1), (13, .iconst 2, 1), (14, .invokevirtual 131, 3), (17, .return_, 1), (18, .aload_n 0, 1), (19, .invokevirtual 63, 3), (22, .aload_n 0, 1), (23, .getfield 66, 3), (26, .bipush 20, 2), (28, .if_icmp .eq 9, 3), (31, .aload_n 0, 1), (32, .iconst 2, 1), (33, .invokevirtual 131, 3), (36, .return_, 1), (37, .aload_n 0, 1), (38, .aload_n 0, 1), (39, .getfield 24, 3), (42, .aload_n 0, 1), (43, .getfield 60, 3), (46, .laload, 1), (47, .invokevirtual 159, 3), (50, .istore_n 1, 1), (51, .iload_n 1, 1), (52, .iconst (-1), 1), (53, .if_icmp .ne 9, 3), (56, .aload_n 0, 1), (57, .iconst 5, 1), (58, .invokevirtual 131, 3), (61, .return_, 1), (62, .aload_n 0, 1), (63, .invokevirtual 63, 3), (66, .iconst 0, 1), (67, .istore_n 2, 1), (68, .iload_n 2, 1), (69, .iconst 3, 1), (70, .if_icmp .ge 47, 3), (73, .aload_n 0, 1), (74, .iload_n 2, 1), (75, .ifCond .ne 8, 3), (78, .bipush 11, 2), (80, .goto 15, 3), (83, .iload_n 2, 1), (84, .iconst 1, 1), (85, .if_icmp .ne 8, 3), (88, .bipush 12, 2), (90, .goto 5, 3), (93, .bipush 13, 2), (95, .invokevirtual 135, 3), (98, .aload_n 0, 1), (99, .iconst 0, 1), (100, .invokevirtual 173, 3), (103, .aload_n 0, 1), (104, .getfield 44, 3), (107, .iload_n 2, 1), (108, .invokevirtual 176, 3), (111, .iinc 2 1, 3), (114, .goto (-46), 3), (117, .aload_n 0, 1), (118, .getfield 66, 3), (121, .bipush 14, 2), (123, .if_icmp .ne 7, 3), (126, .iconst 1, 1), (127, .goto 4, 3), (130, .iconst 0, 1), (131, .istore_n 2, 1), (132, .iload_n 2, 1), (133, .ifCond .eq 7, 3), (136, .aload_n 0, 1), (137, .invokevirtual 63, 3), (140, .aload_n 0, 1), (141, .getfield 44, 3), (144, .iload_n 1, 1), (145, .iload_n 2, 1), (146, .invokevirtual 179, 3), (149, .return_, 1)]
theorem dt_Rd_readRule : ∀ q ∈ tb_Rd_readRule, decode prog_7_method_19_code q.1 = .ok (q.2.1, q.2.2) := by decide +kernel
set_option maxHeartbeats 4000000 in
set_option maxRecDepth 100000 in
theorem t_Rd_readRule_140 (v0 : Nat) (v1 : Int32) (v2 : Int32) (h : HP) : xx_S (xx_D "LampYard$Reader" tb_Rd_readRule 3 80 none false) xz_v (fun K => xL_v K) 140 [(0, av_R 5 (some v0)), (1, av_I v1), (2, av_I v2)] [] h (f_Rd_readRule_140 v0 v1 v2 h) := by
  unfold f_Rd_readRule_140
  refine xs_step (fun K HC => xr_aload_n HC.1 74 141 (n := 0) (ix := 0) (j := 0) (c := 5) (x := v0) rfl rfl rfl rfl) ?_
  refine xs_bind (fun q_8 eq_8 => ?_)
  refine xs_step (fun K HC => xr_getr HC.1 75 144 5 4 4 eq_8 rfl rfl wf_Rd_44 (by decide) fb_5_4 fc_5_4 fd_5_4) ?_
  refine xs_step (fun K HC => xr_iload_n HC.1 76 145 (n := 1) (ix := 1) (j := 1) (x := v1) rfl rfl rfl rfl) ?_
  refine xs_step (fun K HC => xr_iload_n HC.1 77 146 (n := 2) (ix := 2) (j := 2) (x := v2) rfl rfl rfl rfl) ?_
  refine xs_callv (s_Pl_addRule q_8 v1 v2 h) (fun K HC x9 hM hmo hb => xr_callV HC.1 78 149 (av := [av_I v1, av_I v2]) (st := []) (hM (kg K) (cx_l (kx K))) hmo hb rfl rfl wm_Rd_179 wi_Pl_addRule ws_Pl_addRule wc_Pl_addRule rfl wh_Pl_addRule (by decide) (by decide) (by decide) (Nat.le_of_ble_eq_true rfl) rfl) (fun x_9 => ?_)
  exact xs_ret 79 rfl rfl (fun K q => q)
set_option maxHeartbeats 4000000 in
set_option maxRecDepth 100000 in
theorem t_Rd_readRule_131 (v0 : Nat) (v1 : Int32) (s0 : Int32) (h : HP) : xx_S (xx_D "LampYard$Reader" tb_Rd_readRule 3 80 none false) xz_v (fun K => xL_v K) 131 [(0, av_R 5 (some v0)), (1, av_I v1)] [av_I s0] h (f_Rd_readRule_131 v0 v1 s0 h) := by
  unfold f_Rd_readRule_131
  refine xs_step (fun K HC => xr_istore_n HC.1 69 132 (n := 2) (ix := 2) (lv' := [(0, av_R 5 (some v0)), (1, av_I v1), (2, av_I s0)]) rfl rfl rfl (by decide) rfl) ?_
  refine xs_step (fun K HC => xr_iload_n HC.1 70 133 (n := 2) (ix := 2) (j := 2) (x := s0) rfl rfl rfl rfl) ?_
  refine xs_ite (fun K HC => xr_if_eq HC.1 71 140 136 rfl (by decide) rfl) ?_ ?_
  · exact t_Rd_readRule_140 v0 v1 s0 h
  refine xs_step (fun K HC => xr_aload_n HC.1 72 137 (n := 0) (ix := 0) (j := 0) (c := 5) (x := v0) rfl rfl rfl rfl) ?_
  refine xs_callv (s_Rd_advance v0 h) (fun K HC x9 hM hmo hb => xr_callV HC.1 73 140 (av := []) (st := []) (hM (kg K) (cx_l (kx K))) hmo hb rfl rfl wm_Rd_63 wi_Rd_advance ws_Rd_advance wc_Rd_advance rfl wh_Rd_advance (by decide) (by decide) (by decide) (Nat.le_of_ble_eq_true rfl) rfl) (fun x_10 => ?_)
  exact t_Rd_readRule_140 v0 v1 s0 x_10
set_option maxHeartbeats 4000000 in
set_option maxRecDepth 100000 in
theorem t_Rd_readRule_117 (v0 : Nat) (v1 : Int32) (h : HP) : xx_S (xx_D "LampYard$Reader" tb_Rd_readRule 3 80 none false) xz_v (fun K => xL_v K) 117 [(0, av_R 5 (some v0)), (1, av_I v1)] [] h (f_Rd_readRule_117 v0 v1 h) := by
  unfold f_Rd_readRule_117
  refine xs_step (fun K HC => xr_aload_n HC.1 62 118 (n := 0) (ix := 0) (j := 0) (c := 5) (x := v0) rfl rfl rfl rfl) ?_
  refine xs_step (fun K HC => xr_geti HC.1 63 121 5 12 rfl rfl wf_Rd_66 (by decide) fb_5_12 fc_5_12) ?_
  refine xs_step (fun K HC => xr_bipush HC.1 64 123 (n := (14)) (14 : Int32) rfl rfl rfl) ?_
  refine xs_ite (fun K HC a b => xr_icmp_ne HC.1 65 130 126 rfl (by decide) rfl b a) ?_ ?_
  · refine xs_step (fun K HC => xr_iconst HC.1 66 127 (n := (1)) (1 : Int32) rfl rfl rfl) ?_
    refine xs_step (fun K HC => xr_goto HC.1 67 131 rfl (by decide)) ?_
    exact t_Rd_readRule_131 v0 v1 (1 : Int32) h
  refine xs_step (fun K HC => xr_iconst HC.1 68 131 (n := (0)) (0 : Int32) rfl rfl rfl) ?_
  exact t_Rd_readRule_131 v0 v1 (0 : Int32) h
set_option maxHeartbeats 4000000 in
set_option maxRecDepth 100000 in
theorem t_Rd_readRule_95 (v0 : Nat) (v1 : Int32) (v2 : Int32) (s0 : Int32) (s1 : Nat) (h : HP) : xx_S (xx_D "LampYard$Reader" tb_Rd_readRule 3 80 none false) (xx_z2 (fun s : (Int32 × HP) => s.2) xz_v) (fun K => xx_L2 (fun s : (Int32 × HP) => xx_X K 68 [(0, av_R 5 (some v0)), (1, av_I v1), (2, av_I s.1)] [] (s.2)) (xL_v K)) 95 [(0, av_R 5 (some v0)), (1, av_I v1), (2, av_I v2)] [av_I s0, av_R 5 (some s1)] h (f_Rd_readRule_95 v0 v1 v2 s0 s1 h) := by
  unfold f_Rd_readRule_95
  refine xs_callv (s_Rd_expect s1 s0 h) (fun K HC x9 hM hmo hb => xr_callV HC.1 52 98 (av := [av_I s0]) (st := []) (hM (kg K) (cx_l (kx K))) hmo hb rfl rfl wm_Rd_135 wi_Rd_expect ws_Rd_expect wc_Rd_expect rfl wh_Rd_expect (by decide) (by decide) (by decide) (Nat.le_of_ble_eq_true rfl) rfl) (fun x_11 => ?_)
  refine xs_step (fun K HC => xr_aload_n HC.1 53 99 (n := 0) (ix := 0) (j := 0) (c := 5) (x := v0) rfl rfl rfl rfl) ?_
  refine xs_step (fun K HC => xr_iconst HC.1 54 100 (n := (0)) (0 : Int32) rfl rfl rfl) ?_
  refine xs_callv (s_Rd_any v0 (0 : Int32) x_11) (fun K HC x9 hM hmo hb => xr_callV HC.1 55 103 (av := [av_I (0 : Int32)]) (st := []) (hM (kg K) (cx_l (kx K))) hmo hb rfl rfl wm_Rd_173 wi_Rd_readAny ws_Rd_readAny wc_Rd_readAny rfl wh_Rd_readAny (by decide) (by decide) (by decide) (Nat.le_of_ble_eq_true rfl) rfl) (fun x_12 => ?_)
  refine xs_step (fun K HC => xr_aload_n HC.1 56 104 (n := 0) (ix := 0) (j := 0) (c := 5) (x := v0) rfl rfl rfl rfl) ?_
  refine xs_bind (fun q_13 eq_13 => ?_)
  refine xs_step (fun K HC => xr_getr HC.1 57 107 5 4 4 eq_13 rfl rfl wf_Rd_44 (by decide) fb_5_4 fc_5_4 fd_5_4) ?_
  refine xs_step (fun K HC => xr_iload_n HC.1 58 108 (n := 2) (ix := 2) (j := 2) (x := v2) rfl rfl rfl rfl) ?_
  refine xs_callv (s_Pl_endPart q_13 v2 x_12) (fun K HC x9 hM hmo hb => xr_callV HC.1 59 111 (av := [av_I v2]) (st := []) (hM (kg K) (cx_l (kx K))) hmo hb rfl rfl wm_Rd_176 wi_Pl_endPart ws_Pl_endPart wc_Pl_endPart rfl wh_Pl_endPart (by decide) (by decide) (by decide) (Nat.le_of_ble_eq_true rfl) rfl) (fun x_14 => ?_)
  refine xs_gen (fun v2_15 ev2_15 => ?_)
  refine xs_step (fun K HC => xr_iinc HC.1 60 114 (ix := 2) (j := 2) (n := (1)) (x := v2) v2_15 (lv' := [(0, av_R 5 (some v0)), (1, av_I v1), (2, av_I v2_15)]) rfl (by rw [ev2_15]; rfl) rfl rfl (by decide) rfl) ?_
  refine xs_step (fun K HC => xr_goto HC.1 61 68 rfl (by decide)) ?_
  exact xs_back rfl (fun K q => q)
set_option maxHeartbeats 4000000 in
set_option maxRecDepth 100000 in
theorem t_Rd_readRule_68b (v0 : Nat) (v1 : Int32) (v2 : Int32) (h : HP) : xx_S (xx_D "LampYard$Reader" tb_Rd_readRule 3 80 none false) (xx_z2 (fun s : (Int32 × HP) => s.2) xz_v) (fun K => xx_L2 (fun s : (Int32 × HP) => xx_X K 68 [(0, av_R 5 (some v0)), (1, av_I v1), (2, av_I s.1)] [] (s.2)) (xL_v K)) 68 [(0, av_R 5 (some v0)), (1, av_I v1), (2, av_I v2)] [] h (f_Rd_readRule_68b v0 v1 v2 h) := by
  unfold f_Rd_readRule_68b
  refine xs_step (fun K HC => xr_iload_n HC.1 38 69 (n := 2) (ix := 2) (j := 2) (x := v2) rfl rfl rfl rfl) ?_
  refine xs_step (fun K HC => xr_iconst HC.1 39 70 (n := (3)) (3 : Int32) rfl rfl rfl) ?_
  refine xs_ite (fun K HC => xr_icmp_ge HC.1 40 117 73 rfl (by decide) rfl) ?_ ?_
  · refine xs_step (fun K HC => xr_sub (lv' := [(0, av_R 5 (some v0)), (1, av_I v1)]) [0, 1] rfl) ?_
    exact xs_map (fun _ => rfl) (fun _ _ q => q) (t_Rd_readRule_117 v0 v1 h)
  refine xs_step (fun K HC => xr_aload_n HC.1 41 74 (n := 0) (ix := 0) (j := 0) (c := 5) (x := v0) rfl rfl rfl rfl) ?_
  refine xs_step (fun K HC => xr_iload_n HC.1 42 75 (n := 2) (ix := 2) (j := 2) (x := v2) rfl rfl rfl rfl) ?_
  refine xs_ite (fun K HC a b => xr_if_ne HC.1 43 83 78 rfl (by decide) rfl b a) ?_ ?_
  · refine xs_step (fun K HC => xr_bipush HC.1 44 80 (n := (11)) (11 : Int32) rfl rfl rfl) ?_
    refine xs_step (fun K HC => xr_goto HC.1 45 95 rfl (by decide)) ?_
    exact t_Rd_readRule_95 v0 v1 v2 (11 : Int32) v0 h
  refine xs_step (fun K HC => xr_iload_n HC.1 46 84 (n := 2) (ix := 2) (j := 2) (x := v2) rfl rfl rfl rfl) ?_
  refine xs_step (fun K HC => xr_iconst HC.1 47 85 (n := (1)) (1 : Int32) rfl rfl rfl) ?_
  refine xs_ite (fun K HC a b => xr_icmp_ne HC.1 48 93 88 rfl (by decide) rfl b a) ?_ ?_
  · refine xs_step (fun K HC => xr_bipush HC.1 49 90 (n := (12)) (12 : Int32) rfl rfl rfl) ?_
    refine xs_step (fun K HC => xr_goto HC.1 50 95 rfl (by decide)) ?_
    exact t_Rd_readRule_95 v0 v1 v2 (12 : Int32) v0 h
  refine xs_step (fun K HC => xr_bipush HC.1 51 95 (n := (13)) (13 : Int32) rfl rfl rfl) ?_
  exact t_Rd_readRule_95 v0 v1 v2 (13 : Int32) v0 h
theorem t_Rd_readRule_68 (v0 : Nat) (v1 : Int32) (v2 : Int32) (h : HP) : xx_S (xx_D "LampYard$Reader" tb_Rd_readRule 3 80 none false) xz_v (fun K => xL_v K) 68 [(0, av_R 5 (some v0)), (1, av_I v1), (2, av_I v2)] [] h (f_Rd_readRule_68 v0 v1 v2 h) :=
  xs_loop (zf := xz_v) (L := (fun K => xL_v K)) (fun s : (Int32 × HP) => [(0, av_R 5 (some v0)), (1, av_I v1), (2, av_I s.1)]) (fun s : (Int32 × HP) => s.2) (fun s => t_Rd_readRule_68b v0 v1 s.1 s.2) (v2, h)
set_option maxHeartbeats 4000000 in
set_option maxRecDepth 100000 in
theorem t_Rd_readRule (v0 : Nat) (h : HP) : xx_S (xx_D "LampYard$Reader" tb_Rd_readRule 3 80 none false) xz_v (fun K => xL_v K) 0 [(0, av_R 5 (some v0))] [] h (f_Rd_readRule v0 h) := by
  unfold f_Rd_readRule
  refine xs_step (fun K HC => xr_aload_n HC.1 0 1 (n := 0) (ix := 0) (j := 0) (c := 5) (x := v0) rfl rfl rfl rfl) ?_
  refine xs_bind (fun q_1 eq_1 => ?_)
  refine xs_step (fun K HC => xr_getr HC.1 1 4 5 4 4 eq_1 rfl rfl wf_Rd_44 (by decide) fb_5_4 fc_5_4 fd_5_4) ?_
  refine xs_step (fun K HC => xr_geti HC.1 2 7 4 6 rfl rfl wf_Rd_170 (by decide) fb_4_6 fc_4_6) ?_
  refine xs_step (fun K HC => xr_bipush HC.1 3 9 (n := (16)) (16 : Int32) rfl rfl rfl) ?_
  refine xs_ite (fun K HC => xr_icmp_lt HC.1 4 18 12 rfl (by decide) rfl) ?_ ?_
  · refine xs_step (fun K HC => xr_aload_n HC.1 9 19 (n := 0) (ix := 0) (j := 0) (c := 5) (x := v0) rfl rfl rfl rfl) ?_
    refine xs_callv (s_Rd_advance v0 h) (fun K HC x9 hM hmo hb => xr_callV HC.1 10 22 (av := []) (st := []) (hM (kg K) (cx_l (kx K))) hmo hb rfl rfl wm_Rd_63 wi_Rd_advance ws_Rd_advance wc_Rd_advance rfl wh_Rd_advance (by decide) (by decide) (by decide) (Nat.le_of_ble_eq_true rfl) rfl) (fun x_2 => ?_)
    refine xs_step (fun K HC => xr_aload_n HC.1 11 23 (n := 0) (ix := 0) (j := 0) (c := 5) (x := v0) rfl rfl rfl rfl) ?_
    refine xs_step (fun K HC => xr_geti HC.1 12 26 5 12 rfl rfl wf_Rd_66 (by decide) fb_5_12 fc_5_12) ?_
    refine xs_step (fun K HC => xr_bipush HC.1 13 28 (n := (20)) (20 : Int32) rfl rfl rfl) ?_
    refine xs_ite (fun K HC => xr_icmp_eq HC.1 14 37 31 rfl (by decide) rfl) ?_ ?_
    · refine xs_step (fun K HC => xr_aload_n HC.1 19 38 (n := 0) (ix := 0) (j := 0) (c := 5) (x := v0) rfl rfl rfl rfl) ?_
      refine xs_step (fun K HC => xr_aload_n HC.1 20 39 (n := 0) (ix := 0) (j := 0) (c := 5) (x := v0) rfl rfl rfl rfl) ?_
      refine xs_bind (fun q_3 eq_3 => ?_)
      refine xs_step (fun K HC => xr_getr HC.1 21 42 5 9 14 eq_3 rfl rfl wf_Rd_24 (by decide) fb_5_9 fc_5_9 fd_5_9) ?_
      refine xs_step (fun K HC => xr_aload_n HC.1 22 43 (n := 0) (ix := 0) (j := 0) (c := 5) (x := v0) rfl rfl rfl rfl) ?_
      refine xs_step (fun K HC => xr_geti HC.1 23 46 5 11 rfl rfl wf_Rd_60 (by decide) fb_5_11 fc_5_11) ?_
      refine xs_chk (fun hb_4 => ?_)
      refine xs_step (fun K HC => xr_lald HC.1 24 47 (hp_in_vp hb_4) rfl rfl) ?_
      refine xs_calli (s_Rd_roleNamed v0 (hp_l x_2 q_3 ((hp_i x_2 v0 11)).toNatClampNeg) x_2) (fun K HC x9 hM hmo hb => xr_callV HC.1 25 50 (av := [av_L (hp_l x_2 q_3 ((hp_i x_2 v0 11)).toNatClampNeg)]) (st := []) (hM (kg K) (cx_l (kx K))) hmo hb rfl rfl wm_Rd_159 wi_Rd_roleNamed ws_Rd_roleNamed wc_Rd_roleNamed rfl wh_Rd_roleNamed (by decide) (by decide) (by decide) (Nat.le_of_ble_eq_true rfl) rfl) (fun x_5 => ?_)
      refine xs_step (fun K HC => xr_istore_n HC.1 26 51 (n := 1) (ix := 1) (lv' := [(0, av_R 5 (some v0)), (1, av_I x_5.1)]) rfl rfl rfl (by decide) rfl) ?_
      refine xs_step (fun K HC => xr_iload_n HC.1 27 52 (n := 1) (ix := 1) (j := 1) (x := x_5.1) rfl rfl rfl rfl) ?_
      refine xs_step (fun K HC => xr_iconst HC.1 28 53 (n := (-1)) (-1 : Int32) rfl rfl rfl) ?_
      refine xs_ite (fun K HC a b => xr_icmp_ne HC.1 29 62 56 rfl (by decide) rfl b a) ?_ ?_
      · refine xs_step (fun K HC => xr_aload_n HC.1 30 57 (n := 0) (ix := 0) (j := 0) (c := 5) (x := v0) rfl rfl rfl rfl) ?_
        refine xs_step (fun K HC => xr_iconst HC.1 31 58 (n := (5)) (5 : Int32) rfl rfl rfl) ?_
        refine xs_callv (s_Rd_refuse v0 (5 : Int32) x_5.2) (fun K HC x9 hM hmo hb => xr_callV HC.1 32 61 (av := [av_I (5 : Int32)]) (st := []) (hM (kg K) (cx_l (kx K))) hmo hb rfl rfl wm_Rd_131 wi_Rd_refuse ws_Rd_refuse wc_Rd_refuse rfl wh_Rd_refuse (by decide) (by decide) (by decide) (Nat.le_of_ble_eq_true rfl) rfl) (fun x_6 => ?_)
        exact xs_ret 33 rfl rfl (fun K q => q)
      refine xs_step (fun K HC => xr_aload_n HC.1 34 63 (n := 0) (ix := 0) (j := 0) (c := 5) (x := v0) rfl rfl rfl rfl) ?_
      refine xs_callv (s_Rd_advance v0 x_5.2) (fun K HC x9 hM hmo hb => xr_callV HC.1 35 66 (av := []) (st := []) (hM (kg K) (cx_l (kx K))) hmo hb rfl rfl wm_Rd_63 wi_Rd_advance ws_Rd_advance wc_Rd_advance rfl wh_Rd_advance (by decide) (by decide) (by decide) (Nat.le_of_ble_eq_true rfl) rfl) (fun x_7 => ?_)
      refine xs_step (fun K HC => xr_iconst HC.1 36 67 (n := (0)) (0 : Int32) rfl rfl rfl) ?_
      refine xs_step (fun K HC => xr_istore_n HC.1 37 68 (n := 2) (ix := 2) (lv' := [(0, av_R 5 (some v0)), (1, av_I x_5.1), (2, av_I (0 : Int32))]) rfl rfl rfl (by decide) rfl) ?_
      exact t_Rd_readRule_68 v0 x_5.1 (0 : Int32) x_7
    refine xs_step (fun K HC => xr_aload_n HC.1 15 32 (n := 0) (ix := 0) (j := 0) (c := 5) (x := v0) rfl rfl rfl rfl) ?_
    refine xs_step (fun K HC => xr_iconst HC.1 16 33 (n := (2)) (2 : Int32) rfl rfl rfl) ?_
    refine xs_callv (s_Rd_refuse v0 (2 : Int32) x_2) (fun K HC x9 hM hmo hb => xr_callV HC.1 17 36 (av := [av_I (2 : Int32)]) (st := []) (hM (kg K) (cx_l (kx K))) hmo hb rfl rfl wm_Rd_131 wi_Rd_refuse ws_Rd_refuse wc_Rd_refuse rfl wh_Rd_refuse (by decide) (by decide) (by decide) (Nat.le_of_ble_eq_true rfl) rfl) (fun x_16 => ?_)
    exact xs_ret 18 rfl rfl (fun K q => q)
  refine xs_step (fun K HC => xr_aload_n HC.1 5 13 (n := 0) (ix := 0) (j := 0) (c := 5) (x := v0) rfl rfl rfl rfl) ?_
  refine xs_step (fun K HC => xr_iconst HC.1 6 14 (n := (2)) (2 : Int32) rfl rfl rfl) ?_
  refine xs_callv (s_Rd_refuse v0 (2 : Int32) h) (fun K HC x9 hM hmo hb => xr_callV HC.1 7 17 (av := [av_I (2 : Int32)]) (st := []) (hM (kg K) (cx_l (kx K))) hmo hb rfl rfl wm_Rd_131 wi_Rd_refuse ws_Rd_refuse wc_Rd_refuse rfl wh_Rd_refuse (by decide) (by decide) (by decide) (Nat.le_of_ble_eq_true rfl) rfl) (fun x_17 => ?_)
  exact xs_ret 8 rfl rfl (fun K q => q)
theorem s_Rd_readRule (v0 : Nat) (h : HP) : ∀ x, f_Rd_readRule v0 h = some x → hp_mo h x ∧ ∀ g l, xx_M g l y_Rd_readRule prog_7_method_19_code 3 none 80 [av_R 5 (some v0)] h none x :=
  xM_v (tb := tb_Rd_readRule) (b := false) (by decide +kernel) dt_Rd_readRule trivial (Nat.le_of_ble_eq_true rfl) (fun hb => by cases hb) (t_Rd_readRule v0 h)
def tb_Rd_readLine : TBL := [(0, .aload_n 0, 1), (1, .getfield 66, 3), (4, .tableswitch 81 0 10 #[60, 60, 60, 60, 81, 81, 81, 67, 81, 81, 74], 60), (64, .aload_n 0, 1), (65, .invokevirtual 122, 3), (68, .goto 22, 3), (71, .aload_n 0, 1), (72, .invokevirtual 125, 3), (75, .goto 15, 3), (78, .aload_n 0, 1), (79, .invokevirtual 128, 3), (82, .goto 8, 3), (85, .aload_n 0, 1), (86, .iconst 2, 1), (87, .invokevirtual 131, 3), (90, .aload_n 0, 1), (91, .bipush 59, 2), (93, .invokevirtual 135, 3), (96, .return_, 1)]
theorem dt_Rd_readLine : ∀ q ∈ tb_Rd_readLine, decode prog_7_method_15_code q.1 = .ok (q.2.1, q.2.2) := by decide +kernel
set_option maxHeartbeats 4000000 in
set_option maxRecDepth 100000 in
theorem t_Rd_readLine_90 (v0 : Nat) (h : HP) : xx_S (xx_D "LampYard$Reader" tb_Rd_readLine 1 81 none false) xz_v (fun K => xL_v K) 90 [(0, av_R 5 (some v0))] [] h (f_Rd_readLine_90 v0 h) := by
  unfold f_Rd_readLine_90
  refine xs_step (fun K HC => xr_aload_n HC.1 15 91 (n := 0) (ix := 0) (j := 0) (c := 5) (x := v0) rfl rfl rfl rfl) ?_
  refine xs_step (fun K HC => xr_bipush HC.1 16 93 (n := (59)) (59 : Int32) rfl rfl rfl) ?_
  refine xs_callv (s_Rd_expect v0 (59 : Int32) h) (fun K HC x9 hM hmo hb => xr_callV HC.1 17 96 (av := [av_I (59 : Int32)]) (st := []) (hM (kg K) (cx_l (kx K))) hmo hb rfl rfl wm_Rd_135 wi_Rd_expect ws_Rd_expect wc_Rd_expect rfl wh_Rd_expect (by decide) (by decide) (by decide) (Nat.le_of_ble_eq_true rfl) rfl) (fun x_3 => ?_)
  exact xs_ret 18 rfl rfl (fun K q => q)
set_option maxHeartbeats 4000000 in
set_option maxRecDepth 100000 in
theorem t_Rd_readLine (v0 : Nat) (h : HP) : xx_S (xx_D "LampYard$Reader" tb_Rd_readLine 1 81 none false) xz_v (fun K => xL_v K) 0 [(0, av_R 5 (some v0))] [] h (f_Rd_readLine v0 h) := by
  unfold f_Rd_readLine
  refine xs_step (fun K HC => xr_aload_n HC.1 0 1 (n := 0) (ix := 0) (j := 0) (c := 5) (x := v0) rfl rfl rfl rfl) ?_
  refine xs_step (fun K HC => xr_geti HC.1 1 4 5 12 rfl rfl wf_Rd_66 (by decide) fb_5_12 fc_5_12) ?_
  refine xs_topi (fun w_1 => ?_)
  refine xs_if (fun hc_4 => ?_) (fun hc_4 => ?_)
  · refine xs_step (fun K HC => xr_tabI HC.1 2 64 (0 : Int32) rfl hc_4 (by decide) (by decide) rfl (by decide)) ?_
    refine xs_step (fun K HC => xr_aload_n HC.1 3 65 (n := 0) (ix := 0) (j := 0) (c := 5) (x := v0) rfl rfl rfl rfl) ?_
    refine xs_callv (s_Rd_readSetting v0 h) (fun K HC x9 hM hmo hb => xr_callV HC.1 4 68 (av := []) (st := []) (hM (kg K) (cx_l (kx K))) hmo hb rfl rfl wm_Rd_122 wi_Rd_readSetting ws_Rd_readSetting wc_Rd_readSetting rfl wh_Rd_readSetting (by decide) (by decide) (by decide) (Nat.le_of_ble_eq_true rfl) rfl) (fun x_2 => ?_)
    refine xs_step (fun K HC => xr_goto HC.1 5 90 rfl (by decide)) ?_
    exact t_Rd_readLine_90 v0 x_2
  refine xs_if (fun hc_6 => ?_) (fun hc_6 => ?_)
  · refine xs_step (fun K HC => xr_tabI HC.1 2 64 (1 : Int32) rfl hc_6 (by decide) (by decide) rfl (by decide)) ?_
    refine xs_step (fun K HC => xr_aload_n HC.1 3 65 (n := 0) (ix := 0) (j := 0) (c := 5) (x := v0) rfl rfl rfl rfl) ?_
    refine xs_callv (s_Rd_readSetting v0 h) (fun K HC x9 hM hmo hb => xr_callV HC.1 4 68 (av := []) (st := []) (hM (kg K) (cx_l (kx K))) hmo hb rfl rfl wm_Rd_122 wi_Rd_readSetting ws_Rd_readSetting wc_Rd_readSetting rfl wh_Rd_readSetting (by decide) (by decide) (by decide) (Nat.le_of_ble_eq_true rfl) rfl) (fun x_5 => ?_)
    refine xs_step (fun K HC => xr_goto HC.1 5 90 rfl (by decide)) ?_
    exact t_Rd_readLine_90 v0 x_5
  refine xs_if (fun hc_8 => ?_) (fun hc_8 => ?_)
  · refine xs_step (fun K HC => xr_tabI HC.1 2 64 (2 : Int32) rfl hc_8 (by decide) (by decide) rfl (by decide)) ?_
    refine xs_step (fun K HC => xr_aload_n HC.1 3 65 (n := 0) (ix := 0) (j := 0) (c := 5) (x := v0) rfl rfl rfl rfl) ?_
    refine xs_callv (s_Rd_readSetting v0 h) (fun K HC x9 hM hmo hb => xr_callV HC.1 4 68 (av := []) (st := []) (hM (kg K) (cx_l (kx K))) hmo hb rfl rfl wm_Rd_122 wi_Rd_readSetting ws_Rd_readSetting wc_Rd_readSetting rfl wh_Rd_readSetting (by decide) (by decide) (by decide) (Nat.le_of_ble_eq_true rfl) rfl) (fun x_7 => ?_)
    refine xs_step (fun K HC => xr_goto HC.1 5 90 rfl (by decide)) ?_
    exact t_Rd_readLine_90 v0 x_7
  refine xs_if (fun hc_10 => ?_) (fun hc_10 => ?_)
  · refine xs_step (fun K HC => xr_tabI HC.1 2 64 (3 : Int32) rfl hc_10 (by decide) (by decide) rfl (by decide)) ?_
    refine xs_step (fun K HC => xr_aload_n HC.1 3 65 (n := 0) (ix := 0) (j := 0) (c := 5) (x := v0) rfl rfl rfl rfl) ?_
    refine xs_callv (s_Rd_readSetting v0 h) (fun K HC x9 hM hmo hb => xr_callV HC.1 4 68 (av := []) (st := []) (hM (kg K) (cx_l (kx K))) hmo hb rfl rfl wm_Rd_122 wi_Rd_readSetting ws_Rd_readSetting wc_Rd_readSetting rfl wh_Rd_readSetting (by decide) (by decide) (by decide) (Nat.le_of_ble_eq_true rfl) rfl) (fun x_9 => ?_)
    refine xs_step (fun K HC => xr_goto HC.1 5 90 rfl (by decide)) ?_
    exact t_Rd_readLine_90 v0 x_9
  refine xs_if (fun hc_12 => ?_) (fun hc_12 => ?_)
  · refine xs_step (fun K HC => xr_tabI HC.1 2 85 (4 : Int32) rfl hc_12 (by decide) (by decide) rfl (by decide)) ?_
    refine xs_step (fun K HC => xr_aload_n HC.1 12 86 (n := 0) (ix := 0) (j := 0) (c := 5) (x := v0) rfl rfl rfl rfl) ?_
    refine xs_step (fun K HC => xr_iconst HC.1 13 87 (n := (2)) (2 : Int32) rfl rfl rfl) ?_
    refine xs_callv (s_Rd_refuse v0 (2 : Int32) h) (fun K HC x9 hM hmo hb => xr_callV HC.1 14 90 (av := [av_I (2 : Int32)]) (st := []) (hM (kg K) (cx_l (kx K))) hmo hb rfl rfl wm_Rd_131 wi_Rd_refuse ws_Rd_refuse wc_Rd_refuse rfl wh_Rd_refuse (by decide) (by decide) (by decide) (Nat.le_of_ble_eq_true rfl) rfl) (fun x_11 => ?_)
    exact t_Rd_readLine_90 v0 x_11
  refine xs_if (fun hc_14 => ?_) (fun hc_14 => ?_)
  · refine xs_step (fun K HC => xr_tabI HC.1 2 85 (5 : Int32) rfl hc_14 (by decide) (by decide) rfl (by decide)) ?_
    refine xs_step (fun K HC => xr_aload_n HC.1 12 86 (n := 0) (ix := 0) (j := 0) (c := 5) (x := v0) rfl rfl rfl rfl) ?_
    refine xs_step (fun K HC => xr_iconst HC.1 13 87 (n := (2)) (2 : Int32) rfl rfl rfl) ?_
    refine xs_callv (s_Rd_refuse v0 (2 : Int32) h) (fun K HC x9 hM hmo hb => xr_callV HC.1 14 90 (av := [av_I (2 : Int32)]) (st := []) (hM (kg K) (cx_l (kx K))) hmo hb rfl rfl wm_Rd_131 wi_Rd_refuse ws_Rd_refuse wc_Rd_refuse rfl wh_Rd_refuse (by decide) (by decide) (by decide) (Nat.le_of_ble_eq_true rfl) rfl) (fun x_13 => ?_)
    exact t_Rd_readLine_90 v0 x_13
  refine xs_if (fun hc_16 => ?_) (fun hc_16 => ?_)
  · refine xs_step (fun K HC => xr_tabI HC.1 2 85 (6 : Int32) rfl hc_16 (by decide) (by decide) rfl (by decide)) ?_
    refine xs_step (fun K HC => xr_aload_n HC.1 12 86 (n := 0) (ix := 0) (j := 0) (c := 5) (x := v0) rfl rfl rfl rfl) ?_
    refine xs_step (fun K HC => xr_iconst HC.1 13 87 (n := (2)) (2 : Int32) rfl rfl rfl) ?_
    refine xs_callv (s_Rd_refuse v0 (2 : Int32) h) (fun K HC x9 hM hmo hb => xr_callV HC.1 14 90 (av := [av_I (2 : Int32)]) (st := []) (hM (kg K) (cx_l (kx K))) hmo hb rfl rfl wm_Rd_131 wi_Rd_refuse ws_Rd_refuse wc_Rd_refuse rfl wh_Rd_refuse (by decide) (by decide) (by decide) (Nat.le_of_ble_eq_true rfl) rfl) (fun x_15 => ?_)
    exact t_Rd_readLine_90 v0 x_15
  refine xs_if (fun hc_18 => ?_) (fun hc_18 => ?_)
  · refine xs_step (fun K HC => xr_tabI HC.1 2 71 (7 : Int32) rfl hc_18 (by decide) (by decide) rfl (by decide)) ?_
    refine xs_step (fun K HC => xr_aload_n HC.1 6 72 (n := 0) (ix := 0) (j := 0) (c := 5) (x := v0) rfl rfl rfl rfl) ?_
    refine xs_callv (s_Rd_readRole v0 h) (fun K HC x9 hM hmo hb => xr_callV HC.1 7 75 (av := []) (st := []) (hM (kg K) (cx_l (kx K))) hmo hb rfl rfl wm_Rd_125 wi_Rd_readRole ws_Rd_readRole wc_Rd_readRole rfl wh_Rd_readRole (by decide) (by decide) (by decide) (Nat.le_of_ble_eq_true rfl) rfl) (fun x_17 => ?_)
    refine xs_step (fun K HC => xr_goto HC.1 8 90 rfl (by decide)) ?_
    exact t_Rd_readLine_90 v0 x_17
  refine xs_if (fun hc_20 => ?_) (fun hc_20 => ?_)
  · refine xs_step (fun K HC => xr_tabI HC.1 2 85 (8 : Int32) rfl hc_20 (by decide) (by decide) rfl (by decide)) ?_
    refine xs_step (fun K HC => xr_aload_n HC.1 12 86 (n := 0) (ix := 0) (j := 0) (c := 5) (x := v0) rfl rfl rfl rfl) ?_
    refine xs_step (fun K HC => xr_iconst HC.1 13 87 (n := (2)) (2 : Int32) rfl rfl rfl) ?_
    refine xs_callv (s_Rd_refuse v0 (2 : Int32) h) (fun K HC x9 hM hmo hb => xr_callV HC.1 14 90 (av := [av_I (2 : Int32)]) (st := []) (hM (kg K) (cx_l (kx K))) hmo hb rfl rfl wm_Rd_131 wi_Rd_refuse ws_Rd_refuse wc_Rd_refuse rfl wh_Rd_refuse (by decide) (by decide) (by decide) (Nat.le_of_ble_eq_true rfl) rfl) (fun x_19 => ?_)
    exact t_Rd_readLine_90 v0 x_19
  refine xs_if (fun hc_22 => ?_) (fun hc_22 => ?_)
  · refine xs_step (fun K HC => xr_tabI HC.1 2 85 (9 : Int32) rfl hc_22 (by decide) (by decide) rfl (by decide)) ?_
    refine xs_step (fun K HC => xr_aload_n HC.1 12 86 (n := 0) (ix := 0) (j := 0) (c := 5) (x := v0) rfl rfl rfl rfl) ?_
    refine xs_step (fun K HC => xr_iconst HC.1 13 87 (n := (2)) (2 : Int32) rfl rfl rfl) ?_
    refine xs_callv (s_Rd_refuse v0 (2 : Int32) h) (fun K HC x9 hM hmo hb => xr_callV HC.1 14 90 (av := [av_I (2 : Int32)]) (st := []) (hM (kg K) (cx_l (kx K))) hmo hb rfl rfl wm_Rd_131 wi_Rd_refuse ws_Rd_refuse wc_Rd_refuse rfl wh_Rd_refuse (by decide) (by decide) (by decide) (Nat.le_of_ble_eq_true rfl) rfl) (fun x_21 => ?_)
    exact t_Rd_readLine_90 v0 x_21
  refine xs_if (fun hc_24 => ?_) (fun hc_24 => ?_)
  · refine xs_step (fun K HC => xr_tabI HC.1 2 78 (10 : Int32) rfl hc_24 (by decide) (by decide) rfl (by decide)) ?_
    refine xs_step (fun K HC => xr_aload_n HC.1 9 79 (n := 0) (ix := 0) (j := 0) (c := 5) (x := v0) rfl rfl rfl rfl) ?_
    refine xs_callv (s_Rd_readRule v0 h) (fun K HC x9 hM hmo hb => xr_callV HC.1 10 82 (av := []) (st := []) (hM (kg K) (cx_l (kx K))) hmo hb rfl rfl wm_Rd_128 wi_Rd_readRule ws_Rd_readRule wc_Rd_readRule rfl wh_Rd_readRule (by decide) (by decide) (by decide) (Nat.le_of_ble_eq_true rfl) rfl) (fun x_23 => ?_)
    refine xs_step (fun K HC => xr_goto HC.1 11 90 rfl (by decide)) ?_
    exact t_Rd_readLine_90 v0 x_23
  refine xs_step (fun K HC => xr_tabO HC.1 2 85 [(0 : Int32), (1 : Int32), (2 : Int32), (3 : Int32), (4 : Int32), (5 : Int32), (6 : Int32), (7 : Int32), (8 : Int32), (9 : Int32), (10 : Int32)] rfl (by decide) (by simp only [List.forall_mem_cons]; exact ⟨hc_4, hc_6, hc_8, hc_10, hc_12, hc_14, hc_16, hc_18, hc_20, hc_22, hc_24, fun _ h9 => absurd h9 List.not_mem_nil⟩) (by decide)) ?_
  refine xs_step (fun K HC => xr_aload_n HC.1 12 86 (n := 0) (ix := 0) (j := 0) (c := 5) (x := v0) rfl rfl rfl rfl) ?_
  refine xs_step (fun K HC => xr_iconst HC.1 13 87 (n := (2)) (2 : Int32) rfl rfl rfl) ?_
  refine xs_callv (s_Rd_refuse v0 (2 : Int32) h) (fun K HC x9 hM hmo hb => xr_callV HC.1 14 90 (av := [av_I (2 : Int32)]) (st := []) (hM (kg K) (cx_l (kx K))) hmo hb rfl rfl wm_Rd_131 wi_Rd_refuse ws_Rd_refuse wc_Rd_refuse rfl wh_Rd_refuse (by decide) (by decide) (by decide) (Nat.le_of_ble_eq_true rfl) rfl) (fun x_25 => ?_)
  exact t_Rd_readLine_90 v0 x_25
theorem s_Rd_readLine (v0 : Nat) (h : HP) : ∀ x, f_Rd_readLine v0 h = some x → hp_mo h x ∧ ∀ g l, xx_M g l y_Rd_readLine prog_7_method_15_code 1 none 81 [av_R 5 (some v0)] h none x :=
  xM_v (tb := tb_Rd_readLine) (b := false) (by decide +kernel) dt_Rd_readLine trivial (Nat.le_of_ble_eq_true rfl) (fun hb => by cases hb) (t_Rd_readLine v0 h)
def tb_Rd_reads : TBL := [(0, .aload_n 0, 1), (1, .aload_n 1, 1), (2, .putfield 31, 3), (5, .aload_n 0, 1), (6, .iload_n 2, 1), (7, .sipush 1400, 3), (10, .invokestatic 35, 3), (13, .putfield 41, 3), (16, .aload_n 0, 1), (17, .aload_n 3, 1), (18, .putfield 44, 3), (21, .aload_n 0, 1), (22, .getfield 44, 3), (25, .invokevirtual 48, 3), (28, .aload_n 0, 1), (29, .iconst 0, 1), (30, .putfield 51, 3), (33, .aload_n 0, 1), (34, .iconst (-1), 1), (35, .putfield 27, 3), (38, .aload_n 0, 1), (39, .iconst 0, 1), (40, .putfield 54, 3), (43, .aload_n 0, 1), (44, .invokevirtual 57, 3), (47, .aload_n 0, 1), (48, .iconst (-1), 1), (49, .putfield 60, 3), (52, .aload_n 0, 1), (53, .invokevirtual 63, 3), (56, .iconst 0, 1), (57, .istore 4, 2), (59, .iload 4, 2), (61, .sipush 1400, 3), (64, .if_icmp .ge 29, 3), (67, .aload_n 0, 1), (68, .getfield 51, 3), (71, .ifCond .ne 22, 3), (74, .aload_n 0, 1), (75, .getfield 66, 3), (78, .bipush 22, 2), (80, .if_icmp .eq 13, 3), (83, .aload_n 0, 1), (84, .invokevirtual 69, 3), (87, .iinc 4 1, 3), (90, .goto (-31), 3), (93, .aload_n 0, 1), (94, .getfield 51, 3), (97, .ifCond .ne 7, 3), (100, .iconst 1, 1), (101, .goto 4, 3), (104, .iconst 0, 1), (105, .ireturn, 1)]
theorem dt_Rd_reads : ∀ q ∈ tb_Rd_reads, decode prog_7_method_2_code q.1 = .ok (q.2.1, q.2.2) := by decide +kernel
set_option maxHeartbeats 4000000 in
set_option maxRecDepth 100000 in
theorem t_Rd_reads_93 (v0 : Nat) (h : HP) : xx_S (xx_D "LampYard$Reader" tb_Rd_reads 5 82 (some .boolean) false) xz_i (fun K => xL_i K) 93 [(0, av_R 5 (some v0))] [] h (f_Rd_reads_93 v0 h) := by
  unfold f_Rd_reads_93
  refine xs_step (fun K HC => xr_aload_n HC.1 46 94 (n := 0) (ix := 0) (j := 0) (c := 5) (x := v0) rfl rfl rfl rfl) ?_
  refine xs_step (fun K HC => xr_geti HC.1 47 97 5 0 rfl rfl wf_Rd_51 (by decide) fb_5_0 fc_5_0) ?_
  refine xs_ite (fun K HC a b => xr_if_ne HC.1 48 104 100 rfl (by decide) rfl b a) ?_ ?_
  · refine xs_step (fun K HC => xr_iconst HC.1 49 101 (n := (1)) (1 : Int32) rfl rfl rfl) ?_
    refine xs_step (fun K HC => xr_goto HC.1 50 105 rfl (by decide)) ?_
    exact xs_reti 52 rfl rfl (fun K q => q) (fun ty ht => by cases ht; rfl)
  refine xs_step (fun K HC => xr_iconst HC.1 51 105 (n := (0)) (0 : Int32) rfl rfl rfl) ?_
  exact xs_reti 52 rfl rfl (fun K q => q) (fun ty ht => by cases ht; rfl)
set_option maxHeartbeats 4000000 in
set_option maxRecDepth 100000 in
theorem t_Rd_reads_59b (v0 : Nat) (v4 : Int32) (h : HP) : xx_S (xx_D "LampYard$Reader" tb_Rd_reads 5 82 (some .boolean) false) (xx_z2 (fun s : (Int32 × HP) => s.2) xz_i) (fun K => xx_L2 (fun s : (Int32 × HP) => xx_X K 59 [(0, av_R 5 (some v0)), (4, av_I s.1)] [] (s.2)) (xL_i K)) 59 [(0, av_R 5 (some v0)), (4, av_I v4)] [] h (f_Rd_reads_59b v0 v4 h) := by
  unfold f_Rd_reads_59b
  refine xs_step (fun K HC => xr_iload HC.1 32 61 (ix := 4) (j := 1) (x := v4) rfl rfl rfl) ?_
  refine xs_step (fun K HC => xr_sipush HC.1 33 64 (n := (1400)) (1400 : Int32) rfl rfl rfl) ?_
  refine xs_ite (fun K HC => xr_icmp_ge HC.1 34 93 67 rfl (by decide) rfl) ?_ ?_
  · refine xs_step (fun K HC => xr_sub (lv' := [(0, av_R 5 (some v0))]) [0] rfl) ?_
    exact xs_map (fun _ => rfl) (fun _ _ q => q) (t_Rd_reads_93 v0 h)
  refine xs_step (fun K HC => xr_aload_n HC.1 35 68 (n := 0) (ix := 0) (j := 0) (c := 5) (x := v0) rfl rfl rfl rfl) ?_
  refine xs_step (fun K HC => xr_geti HC.1 36 71 5 0 rfl rfl wf_Rd_51 (by decide) fb_5_0 fc_5_0) ?_
  refine xs_ite (fun K HC a b => xr_if_ne HC.1 37 93 74 rfl (by decide) rfl b a) ?_ ?_
  · refine xs_step (fun K HC => xr_aload_n HC.1 38 75 (n := 0) (ix := 0) (j := 0) (c := 5) (x := v0) rfl rfl rfl rfl) ?_
    refine xs_step (fun K HC => xr_geti HC.1 39 78 5 12 rfl rfl wf_Rd_66 (by decide) fb_5_12 fc_5_12) ?_
    refine xs_step (fun K HC => xr_bipush HC.1 40 80 (n := (22)) (22 : Int32) rfl rfl rfl) ?_
    refine xs_ite (fun K HC => xr_icmp_eq HC.1 41 93 83 rfl (by decide) rfl) ?_ ?_
    · refine xs_step (fun K HC => xr_sub (lv' := [(0, av_R 5 (some v0))]) [0] rfl) ?_
      exact xs_map (fun _ => rfl) (fun _ _ q => q) (t_Rd_reads_93 v0 h)
    refine xs_step (fun K HC => xr_aload_n HC.1 42 84 (n := 0) (ix := 0) (j := 0) (c := 5) (x := v0) rfl rfl rfl rfl) ?_
    refine xs_callv (s_Rd_readLine v0 h) (fun K HC x9 hM hmo hb => xr_callV HC.1 43 87 (av := []) (st := []) (hM (kg K) (cx_l (kx K))) hmo hb rfl rfl wm_Rd_69 wi_Rd_readLine ws_Rd_readLine wc_Rd_readLine rfl wh_Rd_readLine (by decide) (by decide) (by decide) (Nat.le_of_ble_eq_true rfl) rfl) (fun x_12 => ?_)
    refine xs_gen (fun v4_13 ev4_13 => ?_)
    refine xs_step (fun K HC => xr_iinc HC.1 44 90 (ix := 4) (j := 1) (n := (1)) (x := v4) v4_13 (lv' := [(0, av_R 5 (some v0)), (4, av_I v4_13)]) rfl (by rw [ev4_13]; rfl) rfl rfl (by decide) rfl) ?_
    refine xs_step (fun K HC => xr_goto HC.1 45 59 rfl (by decide)) ?_
    exact xs_back rfl (fun K q => q)
  refine xs_step (fun K HC => xr_sub (lv' := [(0, av_R 5 (some v0))]) [0] rfl) ?_
  exact xs_map (fun _ => rfl) (fun _ _ q => q) (t_Rd_reads_93 v0 h)
theorem t_Rd_reads_59 (v0 : Nat) (v4 : Int32) (h : HP) : xx_S (xx_D "LampYard$Reader" tb_Rd_reads 5 82 (some .boolean) false) xz_i (fun K => xL_i K) 59 [(0, av_R 5 (some v0)), (4, av_I v4)] [] h (f_Rd_reads_59 v0 v4 h) :=
  xs_loop (zf := xz_i) (L := (fun K => xL_i K)) (fun s : (Int32 × HP) => [(0, av_R 5 (some v0)), (4, av_I s.1)]) (fun s : (Int32 × HP) => s.2) (fun s => t_Rd_reads_59b v0 s.1 s.2) (v4, h)
set_option maxHeartbeats 4000000 in
set_option maxRecDepth 100000 in
theorem t_Rd_reads (v0 : Nat) (v1 : Nat) (v2 : Int32) (v3 : Nat) (h : HP) : xx_S (xx_D "LampYard$Reader" tb_Rd_reads 5 82 (some .boolean) false) xz_i (fun K => xL_i K) 0 [(0, av_R 5 (some v0)), (1, av_R 12 (some v1)), (2, av_I v2), (3, av_R 4 (some v3))] [] h (f_Rd_reads v0 v1 v2 v3 h) := by
  unfold f_Rd_reads
  refine xs_step (fun K HC => xr_aload_n HC.1 0 1 (n := 0) (ix := 0) (j := 0) (c := 5) (x := v0) rfl rfl rfl rfl) ?_
  refine xs_step (fun K HC => xr_aload_n HC.1 1 2 (n := 1) (ix := 1) (j := 1) (c := 12) (x := v1) rfl rfl rfl rfl) ?_
  refine xs_heap (hp_mo_sr _ _ _ _) (fun K HC => xr_putr HC.1 2 5 5 2 12 rfl rfl wf_Rd_31 (by decide) fb_5_2 (Or.inl fn_5_2) fc_5_2 fd_5_2 (by decide)) (fun h_1 => ?_)
  refine xs_step (fun K HC => xr_aload_n HC.1 3 6 (n := 0) (ix := 0) (j := 0) (c := 5) (x := v0) rfl rfl rfl rfl) ?_
  refine xs_step (fun K HC => xr_iload_n HC.1 4 7 (n := 2) (ix := 2) (j := 2) (x := v2) rfl rfl rfl rfl) ?_
  refine xs_step (fun K HC => xr_sipush HC.1 5 10 (n := (1400)) (1400 : Int32) rfl rfl rfl) ?_
  refine xs_stepb (fun K HC hb => xr_min HC.1 6 13 hb rfl rfl wm_Rd_35 ly_mmin1 ly_m0 ly_mmin2 (by decide) (Nat.le_of_ble_eq_true rfl)) ?_
  refine xs_heap (hp_mo_si _ _ _ _) (fun K HC => xr_puti HC.1 7 16 5 3 rfl rfl wf_Rd_41 (by decide) fb_5_3 fn_5_3 fy_5_3) (fun h_2 => ?_)
  refine xs_step (fun K HC => xr_aload_n HC.1 8 17 (n := 0) (ix := 0) (j := 0) (c := 5) (x := v0) rfl rfl rfl rfl) ?_
  refine xs_step (fun K HC => xr_aload_n HC.1 9 18 (n := 3) (ix := 3) (j := 3) (c := 4) (x := v3) rfl rfl rfl rfl) ?_
  refine xs_heap (hp_mo_sr _ _ _ _) (fun K HC => xr_putr HC.1 10 21 5 4 4 rfl rfl wf_Rd_44 (by decide) fb_5_4 (Or.inl fn_5_4) fc_5_4 fd_5_4 (by decide)) (fun h_3 => ?_)
  refine xs_step (fun K HC => xr_aload_n HC.1 11 22 (n := 0) (ix := 0) (j := 0) (c := 5) (x := v0) rfl rfl rfl rfl) ?_
  refine xs_bind (fun q_4 eq_4 => ?_)
  refine xs_step (fun K HC => xr_getr HC.1 12 25 5 4 4 eq_4 rfl rfl wf_Rd_44 (by decide) fb_5_4 fc_5_4 fd_5_4) ?_
  refine xs_callv (s_Pl_empty q_4 h_3) (fun K HC x9 hM hmo hb => xr_callV HC.1 13 28 (av := []) (st := []) (hM (kg K) (cx_l (kx K))) hmo hb rfl rfl wm_Rd_48 wi_Pl_empty ws_Pl_empty wc_Pl_empty rfl wh_Pl_empty (by decide) (by decide) (by decide) (Nat.le_of_ble_eq_true rfl) rfl) (fun x_5 => ?_)
  refine xs_step (fun K HC => xr_aload_n HC.1 14 29 (n := 0) (ix := 0) (j := 0) (c := 5) (x := v0) rfl rfl rfl rfl) ?_
  refine xs_step (fun K HC => xr_iconst HC.1 15 30 (n := (0)) (0 : Int32) rfl rfl rfl) ?_
  refine xs_heap (hp_mo_si _ _ _ _) (fun K HC => xr_puti HC.1 16 33 5 0 rfl rfl wf_Rd_51 (by decide) fb_5_0 fn_5_0 fy_5_0) (fun h_6 => ?_)
  refine xs_step (fun K HC => xr_aload_n HC.1 17 34 (n := 0) (ix := 0) (j := 0) (c := 5) (x := v0) rfl rfl rfl rfl) ?_
  refine xs_step (fun K HC => xr_iconst HC.1 18 35 (n := (-1)) (-1 : Int32) rfl rfl rfl) ?_
  refine xs_heap (hp_mo_si _ _ _ _) (fun K HC => xr_puti HC.1 19 38 5 1 rfl rfl wf_Rd_27 (by decide) fb_5_1 fn_5_1 fy_5_1) (fun h_7 => ?_)
  refine xs_step (fun K HC => xr_aload_n HC.1 20 39 (n := 0) (ix := 0) (j := 0) (c := 5) (x := v0) rfl rfl rfl rfl) ?_
  refine xs_step (fun K HC => xr_iconst HC.1 21 40 (n := (0)) (0 : Int32) rfl rfl rfl) ?_
  refine xs_heap (hp_mo_si _ _ _ _) (fun K HC => xr_puti HC.1 22 43 5 6 rfl rfl wf_Rd_54 (by decide) fb_5_6 fn_5_6 fy_5_6) (fun h_8 => ?_)
  refine xs_step (fun K HC => xr_aload_n HC.1 23 44 (n := 0) (ix := 0) (j := 0) (c := 5) (x := v0) rfl rfl rfl rfl) ?_
  refine xs_callv (s_Rd_splitText v0 h_8) (fun K HC x9 hM hmo hb => xr_callV HC.1 24 47 (av := []) (st := []) (hM (kg K) (cx_l (kx K))) hmo hb rfl rfl wm_Rd_57 wi_Rd_splitText ws_Rd_splitText wc_Rd_splitText rfl wh_Rd_splitText (by decide) (by decide) (by decide) (Nat.le_of_ble_eq_true rfl) rfl) (fun x_9 => ?_)
  refine xs_step (fun K HC => xr_aload_n HC.1 25 48 (n := 0) (ix := 0) (j := 0) (c := 5) (x := v0) rfl rfl rfl rfl) ?_
  refine xs_step (fun K HC => xr_iconst HC.1 26 49 (n := (-1)) (-1 : Int32) rfl rfl rfl) ?_
  refine xs_heap (hp_mo_si _ _ _ _) (fun K HC => xr_puti HC.1 27 52 5 11 rfl rfl wf_Rd_60 (by decide) fb_5_11 fn_5_11 fy_5_11) (fun h_10 => ?_)
  refine xs_step (fun K HC => xr_aload_n HC.1 28 53 (n := 0) (ix := 0) (j := 0) (c := 5) (x := v0) rfl rfl rfl rfl) ?_
  refine xs_callv (s_Rd_advance v0 h_10) (fun K HC x9 hM hmo hb => xr_callV HC.1 29 56 (av := []) (st := []) (hM (kg K) (cx_l (kx K))) hmo hb rfl rfl wm_Rd_63 wi_Rd_advance ws_Rd_advance wc_Rd_advance rfl wh_Rd_advance (by decide) (by decide) (by decide) (Nat.le_of_ble_eq_true rfl) rfl) (fun x_11 => ?_)
  refine xs_step (fun K HC => xr_iconst HC.1 30 57 (n := (0)) (0 : Int32) rfl rfl rfl) ?_
  refine xs_step (fun K HC => xr_istore HC.1 31 59 (ix := 4) (lv' := [(0, av_R 5 (some v0)), (1, av_R 12 (some v1)), (2, av_I v2), (3, av_R 4 (some v3)), (4, av_I (0 : Int32))]) rfl rfl (by decide) rfl) ?_
  refine xs_step (fun K HC => xr_sub (lv' := [(0, av_R 5 (some v0)), (4, av_I (0 : Int32))]) [0, 4] rfl) ?_
  exact t_Rd_reads_59 v0 (0 : Int32) x_11
theorem s_Rd_reads (v0 : Nat) (v1 : Nat) (v2 : Int32) (v3 : Nat) (h : HP) : ∀ x, f_Rd_reads v0 v1 v2 v3 h = some x → hp_mo h x.2 ∧ ∀ g l, xx_M g l y_Rd_reads prog_7_method_2_code 5 (some .boolean) 82 [av_R 5 (some v0), av_R 12 (some v1), av_I v2, av_R 4 (some v3)] h (some (av_I x.1)) x.2 :=
  xM_i (tb := tb_Rd_reads) (b := false) (by decide +kernel) dt_Rd_reads (fun _ => trivial) (Nat.le_of_ble_eq_true rfl) (fun hb => by cases hb) (t_Rd_reads v0 v1 v2 v3 h)
def tb_X_plan : TBL := [(0, .aload_n 0, 1), (1, .getfield 16, 3), (4, .aload_n 0, 1), (5, .getfield 9, 3), (8, .aload_n 0, 1), (9, .getfield 51, 3), (12, .aload_n 0, 1), (13, .getfield 27, 3), (16, .invokevirtual 59, 3), (19, .istore_n 1, 1), (20, .aload_n 0, 1), (21, .iconst 0, 1), (22, .putfield 51, 3), (25, .iload_n 1, 1), (26, .ifCond .ne 5, 3), (29, .iconst (-1), 1), (30, .ireturn, 1), (31, .aload_n 0, 1), (32, .getfield 23, 3), (35, .astore_n 2, 1), (36, .aload_n 0, 1), (37, .aload_n 0, 1), (38, .getfield 27, 3), (41, .putfield 23, 3), (44, .aload_n 0, 1), (45, .aload_n 2, 1), (46, .putfield 27, 3), (49, .aload_n 0, 1), (50, .invokevirtual 48, 3), (53, .aload_n 0, 1), (54, .getfield 23, 3), (57, .getfield 63, 3), (60, .ireturn, 1)]
theorem dt_X_plan : ∀ q ∈ tb_X_plan, decode prog_1_method_4_code q.1 = .ok (q.2.1, q.2.2) := by decide +kernel
set_option maxHeartbeats 4000000 in
set_option maxRecDepth 100000 in
theorem t_X_plan (v0 : Nat) (h : HP) : xx_S (xx_D "LampYard" tb_X_plan 3 83 (some .int) false) xz_i (fun K => xL_i K) 0 [(0, av_R 10 (some v0))] [] h (f_X_plan v0 h) := by
  unfold f_X_plan
  refine xs_step (fun K HC => xr_aload_n HC.1 0 1 (n := 0) (ix := 0) (j := 0) (c := 10) (x := v0) rfl rfl rfl rfl) ?_
  refine xs_bind (fun q_1 eq_1 => ?_)
  refine xs_step (fun K HC => xr_getr HC.1 1 4 10 2 5 eq_1 rfl rfl wf_X_16 (by decide) fb_10_2 fc_10_2 fd_10_2) ?_
  refine xs_step (fun K HC => xr_aload_n HC.1 2 5 (n := 0) (ix := 0) (j := 0) (c := 10) (x := v0) rfl rfl rfl rfl) ?_
  refine xs_bind (fun q_2 eq_2 => ?_)
  refine xs_step (fun K HC => xr_getr HC.1 3 8 10 0 12 eq_2 rfl rfl wf_X_9 (by decide) fb_10_0 fc_10_0 fd_10_0) ?_
  refine xs_step (fun K HC => xr_aload_n HC.1 4 9 (n := 0) (ix := 0) (j := 0) (c := 10) (x := v0) rfl rfl rfl rfl) ?_
  refine xs_step (fun K HC => xr_geti HC.1 5 12 10 1 rfl rfl wf_X_51 (by decide) fb_10_1 fc_10_1) ?_
  refine xs_step (fun K HC => xr_aload_n HC.1 6 13 (n := 0) (ix := 0) (j := 0) (c := 10) (x := v0) rfl rfl rfl rfl) ?_
  refine xs_bind (fun q_3 eq_3 => ?_)
  refine xs_step (fun K HC => xr_getr HC.1 7 16 10 4 4 eq_3 rfl rfl wf_X_27 (by decide) fb_10_4 fc_10_4 fd_10_4) ?_
  refine xs_calli (s_Rd_reads q_1 q_2 (hp_i h v0 1) q_3 h) (fun K HC x9 hM hmo hb => xr_callV HC.1 8 19 (av := [av_R 12 (some q_2), av_I (hp_i h v0 1), av_R 4 (some q_3)]) (st := []) (hM (kg K) (cx_l (kx K))) hmo hb rfl rfl wm_X_59 wi_Rd_reads ws_Rd_reads wc_Rd_reads rfl wh_Rd_reads (by decide) (by decide) (by decide) (Nat.le_of_ble_eq_true rfl) rfl) (fun x_4 => ?_)
  refine xs_step (fun K HC => xr_istore_n HC.1 9 20 (n := 1) (ix := 1) (lv' := [(0, av_R 10 (some v0)), (1, av_I x_4.1)]) rfl rfl rfl (by decide) rfl) ?_
  refine xs_step (fun K HC => xr_aload_n HC.1 10 21 (n := 0) (ix := 0) (j := 0) (c := 10) (x := v0) rfl rfl rfl rfl) ?_
  refine xs_step (fun K HC => xr_iconst HC.1 11 22 (n := (0)) (0 : Int32) rfl rfl rfl) ?_
  refine xs_heap (hp_mo_si _ _ _ _) (fun K HC => xr_puti HC.1 12 25 10 1 rfl rfl wf_X_51 (by decide) fb_10_1 fn_10_1 fy_10_1) (fun h_5 => ?_)
  refine xs_step (fun K HC => xr_iload_n HC.1 13 26 (n := 1) (ix := 1) (j := 1) (x := x_4.1) rfl rfl rfl rfl) ?_
  refine xs_ite (fun K HC a b => xr_if_ne HC.1 14 31 29 rfl (by decide) rfl b a) ?_ ?_
  · refine xs_step (fun K HC => xr_iconst HC.1 15 30 (n := (-1)) (-1 : Int32) rfl rfl rfl) ?_
    exact xs_reti 16 rfl rfl (fun K q => q) (fun ty ht => by cases ht; rfl)
  refine xs_step (fun K HC => xr_aload_n HC.1 17 32 (n := 0) (ix := 0) (j := 0) (c := 10) (x := v0) rfl rfl rfl rfl) ?_
  refine xs_bind (fun q_6 eq_6 => ?_)
  refine xs_step (fun K HC => xr_getr HC.1 18 35 10 3 4 eq_6 rfl rfl wf_X_23 (by decide) fb_10_3 fc_10_3 fd_10_3) ?_
  refine xs_step (fun K HC => xr_astore_n HC.1 19 36 (n := 2) (ix := 2) (lv' := [(0, av_R 10 (some v0)), (1, av_I x_4.1), (2, av_R 4 (some q_6))]) rfl rfl rfl (by decide) rfl) ?_
  refine xs_step (fun K HC => xr_aload_n HC.1 20 37 (n := 0) (ix := 0) (j := 0) (c := 10) (x := v0) rfl rfl rfl rfl) ?_
  refine xs_step (fun K HC => xr_aload_n HC.1 21 38 (n := 0) (ix := 0) (j := 0) (c := 10) (x := v0) rfl rfl rfl rfl) ?_
  refine xs_bind (fun q_7 eq_7 => ?_)
  refine xs_step (fun K HC => xr_getr HC.1 22 41 10 4 4 eq_7 rfl rfl wf_X_27 (by decide) fb_10_4 fc_10_4 fd_10_4) ?_
  refine xs_heap (hp_mo_sr _ _ _ _) (fun K HC => xr_putr HC.1 23 44 10 3 4 rfl rfl wf_X_23 (by decide) fb_10_3 (Or.inl fn_10_3) fc_10_3 fd_10_3 (by decide)) (fun h_8 => ?_)
  refine xs_step (fun K HC => xr_aload_n HC.1 24 45 (n := 0) (ix := 0) (j := 0) (c := 10) (x := v0) rfl rfl rfl rfl) ?_
  refine xs_step (fun K HC => xr_aload_n HC.1 25 46 (n := 2) (ix := 2) (j := 2) (c := 4) (x := q_6) rfl rfl rfl rfl) ?_
  refine xs_heap (hp_mo_sr _ _ _ _) (fun K HC => xr_putr HC.1 26 49 10 4 4 rfl rfl wf_X_27 (by decide) fb_10_4 (Or.inl fn_10_4) fc_10_4 fd_10_4 (by decide)) (fun h_9 => ?_)
  refine xs_step (fun K HC => xr_aload_n HC.1 27 50 (n := 0) (ix := 0) (j := 0) (c := 10) (x := v0) rfl rfl rfl rfl) ?_
  refine xs_callv (s_X_startAnew v0 h_9) (fun K HC x9 hM hmo hb => xr_callV HC.1 28 53 (av := []) (st := []) (hM (kg K) (cx_l (kx K))) hmo hb rfl rfl wm_X_48 wi_X_startAnew ws_X_startAnew wc_X_startAnew rfl wh_X_startAnew (by decide) (by decide) (by decide) (Nat.le_of_ble_eq_true rfl) rfl) (fun x_10 => ?_)
  refine xs_step (fun K HC => xr_aload_n HC.1 29 54 (n := 0) (ix := 0) (j := 0) (c := 10) (x := v0) rfl rfl rfl rfl) ?_
  refine xs_bind (fun q_11 eq_11 => ?_)
  refine xs_step (fun K HC => xr_getr HC.1 30 57 10 3 4 eq_11 rfl rfl wf_X_23 (by decide) fb_10_3 fc_10_3 fd_10_3) ?_
  refine xs_step (fun K HC => xr_geti HC.1 31 60 4 5 rfl rfl wf_X_63 (by decide) fb_4_5 fc_4_5) ?_
  exact xs_reti 32 rfl rfl (fun K q => q) (fun ty ht => by cases ht; rfl)
theorem s_X_plan (v0 : Nat) (h : HP) : ∀ x, f_X_plan v0 h = some x → hp_mo h x.2 ∧ ∀ g l, xx_M g l y_X_plan prog_1_method_4_code 3 (some .int) 83 [av_R 10 (some v0)] h (some (av_I x.1)) x.2 :=
  xM_i (tb := tb_X_plan) (b := false) (by decide +kernel) dt_X_plan (fun _ => trivial) (Nat.le_of_ble_eq_true rfl) (fun hb => by cases hb) (t_X_plan v0 h)
def tb_X_fault : TBL := [(0, .iload_n 1, 1), (1, .ifCond .ne 11, 3), (4, .aload_n 0, 1), (5, .getfield 16, 3), (8, .getfield 66, 3), (11, .ireturn, 1), (12, .iload_n 1, 1), (13, .iconst 1, 1), (14, .if_icmp .ne 13, 3), (17, .aload_n 0, 1), (18, .getfield 16, 3), (21, .getfield 69, 3), (24, .goto 4, 3), (27, .iconst (-1), 1), (28, .ireturn, 1)]
theorem dt_X_fault : ∀ q ∈ tb_X_fault, decode prog_1_method_5_code q.1 = .ok (q.2.1, q.2.2) := by decide +kernel
set_option maxHeartbeats 4000000 in
set_option maxRecDepth 100000 in
theorem t_X_fault (v0 : Nat) (v1 : Int32) (h : HP) : xx_S (xx_D "LampYard" tb_X_fault 2 1 (some .int) false) xz_i (fun K => xL_i K) 0 [(0, av_R 10 (some v0)), (1, av_I v1)] [] h (f_X_fault v0 v1 h) := by
  unfold f_X_fault
  refine xs_step (fun K HC => xr_iload_n HC.1 0 1 (n := 1) (ix := 1) (j := 1) (x := v1) rfl rfl rfl rfl) ?_
  refine xs_ite (fun K HC a b => xr_if_ne HC.1 1 12 4 rfl (by decide) rfl b a) ?_ ?_
  · refine xs_step (fun K HC => xr_aload_n HC.1 2 5 (n := 0) (ix := 0) (j := 0) (c := 10) (x := v0) rfl rfl rfl rfl) ?_
    refine xs_bind (fun q_1 eq_1 => ?_)
    refine xs_step (fun K HC => xr_getr HC.1 3 8 10 2 5 eq_1 rfl rfl wf_X_16 (by decide) fb_10_2 fc_10_2 fd_10_2) ?_
    refine xs_step (fun K HC => xr_geti HC.1 4 11 5 0 rfl rfl wf_X_66 (by decide) fb_5_0 fc_5_0) ?_
    exact xs_reti 5 rfl rfl (fun K q => q) (fun ty ht => by cases ht; rfl)
  refine xs_step (fun K HC => xr_iload_n HC.1 6 13 (n := 1) (ix := 1) (j := 1) (x := v1) rfl rfl rfl rfl) ?_
  refine xs_step (fun K HC => xr_iconst HC.1 7 14 (n := (1)) (1 : Int32) rfl rfl rfl) ?_
  refine xs_ite (fun K HC a b => xr_icmp_ne HC.1 8 27 17 rfl (by decide) rfl b a) ?_ ?_
  · refine xs_step (fun K HC => xr_aload_n HC.1 9 18 (n := 0) (ix := 0) (j := 0) (c := 10) (x := v0) rfl rfl rfl rfl) ?_
    refine xs_bind (fun q_2 eq_2 => ?_)
    refine xs_step (fun K HC => xr_getr HC.1 10 21 10 2 5 eq_2 rfl rfl wf_X_16 (by decide) fb_10_2 fc_10_2 fd_10_2) ?_
    refine xs_step (fun K HC => xr_geti HC.1 11 24 5 1 rfl rfl wf_X_69 (by decide) fb_5_1 fc_5_1) ?_
    refine xs_step (fun K HC => xr_goto HC.1 12 28 rfl (by decide)) ?_
    exact xs_reti 14 rfl rfl (fun K q => q) (fun ty ht => by cases ht; rfl)
  refine xs_step (fun K HC => xr_iconst HC.1 13 28 (n := (-1)) (-1 : Int32) rfl rfl rfl) ?_
  exact xs_reti 14 rfl rfl (fun K q => q) (fun ty ht => by cases ht; rfl)
theorem s_X_fault (v0 : Nat) (v1 : Int32) (h : HP) : ∀ x, f_X_fault v0 v1 h = some x → hp_mo h x.2 ∧ ∀ g l, xx_M g l y_X_fault prog_1_method_5_code 2 (some .int) 1 [av_R 10 (some v0), av_I v1] h (some (av_I x.1)) x.2 :=
  xM_i (tb := tb_X_fault) (b := false) (by decide +kernel) dt_X_fault (fun _ => trivial) (Nat.le_of_ble_eq_true rfl) (fun hb => by cases hb) (t_X_fault v0 v1 h)
def tb_Pl_allOn : TBL := [(0, .aload_n 0, 1), (1, .getfield 40, 3), (4, .iconst 2, 1), (5, .if_icmp .ne 7, 3), (8, .iconst 3, 1), (9, .goto 4, 3), (12, .iconst 1, 1), (13, .ireturn, 1)]
theorem dt_Pl_allOn : ∀ q ∈ tb_Pl_allOn, decode prog_6_method_16_code q.1 = .ok (q.2.1, q.2.2) := by decide +kernel
set_option maxHeartbeats 4000000 in
set_option maxRecDepth 100000 in
theorem t_Pl_allOn (v0 : Nat) (h : HP) : xx_S (xx_D "LampYard$Plan" tb_Pl_allOn 1 1 (some .int) false) xz_i (fun K => xL_i K) 0 [(0, av_R 4 (some v0))] [] h (f_Pl_allOn v0 h) := by
  unfold f_Pl_allOn
  refine xs_step (fun K HC => xr_aload_n HC.1 0 1 (n := 0) (ix := 0) (j := 0) (c := 4) (x := v0) rfl rfl rfl rfl) ?_
  refine xs_step (fun K HC => xr_geti HC.1 1 4 4 0 rfl rfl wf_Pl_40 (by decide) fb_4_0 fc_4_0) ?_
  refine xs_step (fun K HC => xr_iconst HC.1 2 5 (n := (2)) (2 : Int32) rfl rfl rfl) ?_
  refine xs_ite (fun K HC a b => xr_icmp_ne HC.1 3 12 8 rfl (by decide) rfl b a) ?_ ?_
  · refine xs_step (fun K HC => xr_iconst HC.1 4 9 (n := (3)) (3 : Int32) rfl rfl rfl) ?_
    refine xs_step (fun K HC => xr_goto HC.1 5 13 rfl (by decide)) ?_
    exact xs_reti 7 rfl rfl (fun K q => q) (fun ty ht => by cases ht; rfl)
  refine xs_step (fun K HC => xr_iconst HC.1 6 13 (n := (1)) (1 : Int32) rfl rfl rfl) ?_
  exact xs_reti 7 rfl rfl (fun K q => q) (fun ty ht => by cases ht; rfl)
theorem s_Pl_allOn (v0 : Nat) (h : HP) : ∀ x, f_Pl_allOn v0 h = some x → hp_mo h x.2 ∧ ∀ g l, xx_M g l y_Pl_allOn prog_6_method_16_code 1 (some .int) 1 [av_R 4 (some v0)] h (some (av_I x.1)) x.2 :=
  xM_i (tb := tb_Pl_allOn) (b := false) (by decide +kernel) dt_Pl_allOn (fun _ => trivial) (Nat.le_of_ble_eq_true rfl) (fun hb => by cases hb) (t_Pl_allOn v0 h)
def tb_Pl_canBeLamps : TBL := [(0, .iload_n 1, 1), (1, .ifCond .lt 15, 3), (4, .iload_n 1, 1), (5, .aload_n 0, 1), (6, .invokevirtual 68, 3), (9, .if_icmp .gt 7, 3), (12, .iconst 1, 1), (13, .goto 4, 3), (16, .iconst 0, 1), (17, .ireturn, 1)]
theorem dt_Pl_canBeLamps : ∀ q ∈ tb_Pl_canBeLamps, decode prog_6_method_9_code q.1 = .ok (q.2.1, q.2.2) := by decide +kernel
set_option maxHeartbeats 4000000 in
set_option maxRecDepth 100000 in
theorem t_Pl_canBeLamps (v0 : Nat) (v1 : Int32) (h : HP) : xx_S (xx_D "LampYard$Plan" tb_Pl_canBeLamps 2 2 (some .boolean) false) xz_i (fun K => xL_i K) 0 [(0, av_R 4 (some v0)), (1, av_I v1)] [] h (f_Pl_canBeLamps v0 v1 h) := by
  unfold f_Pl_canBeLamps
  refine xs_step (fun K HC => xr_iload_n HC.1 0 1 (n := 1) (ix := 1) (j := 1) (x := v1) rfl rfl rfl rfl) ?_
  refine xs_ite (fun K HC => xr_if_lt HC.1 1 16 4 rfl (by decide) rfl) ?_ ?_
  · refine xs_step (fun K HC => xr_iconst HC.1 8 17 (n := (0)) (0 : Int32) rfl rfl rfl) ?_
    exact xs_reti 9 rfl rfl (fun K q => q) (fun ty ht => by cases ht; rfl)
  refine xs_step (fun K HC => xr_iload_n HC.1 2 5 (n := 1) (ix := 1) (j := 1) (x := v1) rfl rfl rfl rfl) ?_
  refine xs_step (fun K HC => xr_aload_n HC.1 3 6 (n := 0) (ix := 0) (j := 0) (c := 4) (x := v0) rfl rfl rfl rfl) ?_
  refine xs_calli (s_Pl_allOn v0 h) (fun K HC x9 hM hmo hb => xr_callV HC.1 4 9 (av := []) (st := [av_I v1]) (hM (kg K) (cx_l (kx K))) hmo hb rfl rfl wm_Pl_68 wi_Pl_allOn ws_Pl_allOn wc_Pl_allOn rfl wh_Pl_allOn (by decide) (by decide) (by decide) (Nat.le_of_ble_eq_true rfl) rfl) (fun x_1 => ?_)
  refine xs_ite (fun K HC => xr_icmp_gt HC.1 5 16 12 rfl (by decide) rfl) ?_ ?_
  · refine xs_step (fun K HC => xr_iconst HC.1 8 17 (n := (0)) (0 : Int32) rfl rfl rfl) ?_
    exact xs_reti 9 rfl rfl (fun K q => q) (fun ty ht => by cases ht; rfl)
  refine xs_step (fun K HC => xr_iconst HC.1 6 13 (n := (1)) (1 : Int32) rfl rfl rfl) ?_
  refine xs_step (fun K HC => xr_goto HC.1 7 17 rfl (by decide)) ?_
  exact xs_reti 9 rfl rfl (fun K q => q) (fun ty ht => by cases ht; rfl)
theorem s_Pl_canBeLamps (v0 : Nat) (v1 : Int32) (h : HP) : ∀ x, f_Pl_canBeLamps v0 v1 h = some x → hp_mo h x.2 ∧ ∀ g l, xx_M g l y_Pl_canBeLamps prog_6_method_9_code 2 (some .boolean) 2 [av_R 4 (some v0), av_I v1] h (some (av_I x.1)) x.2 :=
  xM_i (tb := tb_Pl_canBeLamps) (b := false) (by decide +kernel) dt_Pl_canBeLamps (fun _ => trivial) (Nat.le_of_ble_eq_true rfl) (fun hb => by cases hb) (t_Pl_canBeLamps v0 v1 h)
def tb_X_begin : TBL := [(0, .aload_n 0, 1), (1, .getfield 23, 3), (4, .iload_n 1, 1), (5, .invokevirtual 72, 3), (8, .ifCond .ne 5, 3), (11, .iconst 0, 1), (12, .ireturn, 1), (13, .aload_n 0, 1), (14, .getfield 33, 3), (17, .aload_n 0, 1), (18, .getfield 23, 3), (21, .iload_n 1, 1), (22, .invokevirtual 76, 3), (25, .iconst 1, 1), (26, .ireturn, 1)]
theorem dt_X_begin : ∀ q ∈ tb_X_begin, decode prog_1_method_6_code q.1 = .ok (q.2.1, q.2.2) := by decide +kernel
set_option maxHeartbeats 4000000 in
set_option maxRecDepth 100000 in
theorem t_X_begin (v0 : Nat) (v1 : Int32) (h : HP) : xx_S (xx_D "LampYard" tb_X_begin 2 5 (some .boolean) false) xz_i (fun K => xL_i K) 0 [(0, av_R 10 (some v0)), (1, av_I v1)] [] h (f_X_begin v0 v1 h) := by
  unfold f_X_begin
  refine xs_step (fun K HC => xr_aload_n HC.1 0 1 (n := 0) (ix := 0) (j := 0) (c := 10) (x := v0) rfl rfl rfl rfl) ?_
  refine xs_bind (fun q_1 eq_1 => ?_)
  refine xs_step (fun K HC => xr_getr HC.1 1 4 10 3 4 eq_1 rfl rfl wf_X_23 (by decide) fb_10_3 fc_10_3 fd_10_3) ?_
  refine xs_step (fun K HC => xr_iload_n HC.1 2 5 (n := 1) (ix := 1) (j := 1) (x := v1) rfl rfl rfl rfl) ?_
  refine xs_calli (s_Pl_canBeLamps q_1 v1 h) (fun K HC x9 hM hmo hb => xr_callV HC.1 3 8 (av := [av_I v1]) (st := []) (hM (kg K) (cx_l (kx K))) hmo hb rfl rfl wm_X_72 wi_Pl_canBeLamps ws_Pl_canBeLamps wc_Pl_canBeLamps rfl wh_Pl_canBeLamps (by decide) (by decide) (by decide) (Nat.le_of_ble_eq_true rfl) rfl) (fun x_2 => ?_)
  refine xs_ite (fun K HC a b => xr_if_ne HC.1 4 13 11 rfl (by decide) rfl b a) ?_ ?_
  · refine xs_step (fun K HC => xr_iconst HC.1 5 12 (n := (0)) (0 : Int32) rfl rfl rfl) ?_
    exact xs_reti 6 rfl rfl (fun K q => q) (fun ty ht => by cases ht; rfl)
  refine xs_step (fun K HC => xr_aload_n HC.1 7 14 (n := 0) (ix := 0) (j := 0) (c := 10) (x := v0) rfl rfl rfl rfl) ?_
  refine xs_bind (fun q_3 eq_3 => ?_)
  refine xs_step (fun K HC => xr_getr HC.1 8 17 10 5 1 eq_3 rfl rfl wf_X_33 (by decide) fb_10_5 fc_10_5 fd_10_5) ?_
  refine xs_step (fun K HC => xr_aload_n HC.1 9 18 (n := 0) (ix := 0) (j := 0) (c := 10) (x := v0) rfl rfl rfl rfl) ?_
  refine xs_bind (fun q_4 eq_4 => ?_)
  refine xs_step (fun K HC => xr_getr HC.1 10 21 10 3 4 eq_4 rfl rfl wf_X_23 (by decide) fb_10_3 fc_10_3 fd_10_3) ?_
  refine xs_step (fun K HC => xr_iload_n HC.1 11 22 (n := 1) (ix := 1) (j := 1) (x := v1) rfl rfl rfl rfl) ?_
  refine xs_callv (s_Co_startWith q_3 q_4 v1 x_2.2) (fun K HC x9 hM hmo hb => xr_callV HC.1 12 25 (av := [av_R 4 (some q_4), av_I v1]) (st := []) (hM (kg K) (cx_l (kx K))) hmo hb rfl rfl wm_X_76 wi_Co_startWith ws_Co_startWith wc_Co_startWith rfl wh_Co_startWith (by decide) (by decide) (by decide) (Nat.le_of_ble_eq_true rfl) rfl) (fun x_5 => ?_)
  refine xs_step (fun K HC => xr_iconst HC.1 13 26 (n := (1)) (1 : Int32) rfl rfl rfl) ?_
  exact xs_reti 14 rfl rfl (fun K q => q) (fun ty ht => by cases ht; rfl)
theorem s_X_begin (v0 : Nat) (v1 : Int32) (h : HP) : ∀ x, f_X_begin v0 v1 h = some x → hp_mo h x.2 ∧ ∀ g l, xx_M g l y_X_begin prog_1_method_6_code 2 (some .boolean) 5 [av_R 10 (some v0), av_I v1] h (some (av_I x.1)) x.2 :=
  xM_i (tb := tb_X_begin) (b := false) (by decide +kernel) dt_X_begin (fun _ => trivial) (Nat.le_of_ble_eq_true rfl) (fun hb => by cases hb) (t_X_begin v0 v1 h)
def tb_Pl_hasMan : TBL := [(0, .iload_n 1, 1), (1, .ifCond .lt 15, 3), (4, .iload_n 1, 1), (5, .aload_n 0, 1), (6, .getfield 56, 3), (9, .if_icmp .ge 7, 3), (12, .iconst 1, 1), (13, .goto 4, 3), (16, .iconst 0, 1), (17, .ireturn, 1)]
theorem dt_Pl_hasMan : ∀ q ∈ tb_Pl_hasMan, decode prog_6_method_7_code q.1 = .ok (q.2.1, q.2.2) := by decide +kernel
set_option maxHeartbeats 4000000 in
set_option maxRecDepth 100000 in
theorem t_Pl_hasMan (v0 : Nat) (v1 : Int32) (h : HP) : xx_S (xx_D "LampYard$Plan" tb_Pl_hasMan 2 1 (some .boolean) false) xz_i (fun K => xL_i K) 0 [(0, av_R 4 (some v0)), (1, av_I v1)] [] h (f_Pl_hasMan v0 v1 h) := by
  unfold f_Pl_hasMan
  refine xs_step (fun K HC => xr_iload_n HC.1 0 1 (n := 1) (ix := 1) (j := 1) (x := v1) rfl rfl rfl rfl) ?_
  refine xs_ite (fun K HC => xr_if_lt HC.1 1 16 4 rfl (by decide) rfl) ?_ ?_
  · refine xs_step (fun K HC => xr_iconst HC.1 8 17 (n := (0)) (0 : Int32) rfl rfl rfl) ?_
    exact xs_reti 9 rfl rfl (fun K q => q) (fun ty ht => by cases ht; rfl)
  refine xs_step (fun K HC => xr_iload_n HC.1 2 5 (n := 1) (ix := 1) (j := 1) (x := v1) rfl rfl rfl rfl) ?_
  refine xs_step (fun K HC => xr_aload_n HC.1 3 6 (n := 0) (ix := 0) (j := 0) (c := 4) (x := v0) rfl rfl rfl rfl) ?_
  refine xs_step (fun K HC => xr_geti HC.1 4 9 4 5 rfl rfl wf_Pl_56 (by decide) fb_4_5 fc_4_5) ?_
  refine xs_ite (fun K HC => xr_icmp_ge HC.1 5 16 12 rfl (by decide) rfl) ?_ ?_
  · refine xs_step (fun K HC => xr_iconst HC.1 8 17 (n := (0)) (0 : Int32) rfl rfl rfl) ?_
    exact xs_reti 9 rfl rfl (fun K q => q) (fun ty ht => by cases ht; rfl)
  refine xs_step (fun K HC => xr_iconst HC.1 6 13 (n := (1)) (1 : Int32) rfl rfl rfl) ?_
  refine xs_step (fun K HC => xr_goto HC.1 7 17 rfl (by decide)) ?_
  exact xs_reti 9 rfl rfl (fun K q => q) (fun ty ht => by cases ht; rfl)
theorem s_Pl_hasMan (v0 : Nat) (v1 : Int32) (h : HP) : ∀ x, f_Pl_hasMan v0 v1 h = some x → hp_mo h x.2 ∧ ∀ g l, xx_M g l y_Pl_hasMan prog_6_method_7_code 2 (some .boolean) 1 [av_R 4 (some v0), av_I v1] h (some (av_I x.1)) x.2 :=
  xM_i (tb := tb_Pl_hasMan) (b := false) (by decide +kernel) dt_Pl_hasMan (fun _ => trivial) (Nat.le_of_ble_eq_true rfl) (fun hb => by cases hb) (t_Pl_hasMan v0 v1 h)
def tb_St_dayOf : TBL := [(0, .lload_n 0, 1), (1, .iconst 2, 1), (2, .lushr, 1), (3, .l2i, 1), (4, .bipush 15, 2), (6, .iand, 1), (7, .ireturn, 1)]
theorem dt_St_dayOf : ∀ q ∈ tb_St_dayOf, decode prog_9_method_3_code q.1 = .ok (q.2.1, q.2.2) := by decide +kernel
set_option maxHeartbeats 4000000 in
set_option maxRecDepth 100000 in
theorem t_St_dayOf (v0 : Int64) (h : HP) : xx_S (xx_D "LampYard$State" tb_St_dayOf 2 1 (some .int) false) xz_i (fun K => xL_i K) 0 [(0, av_L v0)] [] h (f_St_dayOf v0 h) := by
  unfold f_St_dayOf
  refine xs_step (fun K HC => xr_lload_n HC.1 0 1 (n := 0) (ix := 0) (j := 0) (x := v0) rfl rfl rfl rfl) ?_
  refine xs_step (fun K HC => xr_iconst HC.1 1 2 (n := (2)) (2 : Int32) rfl rfl rfl) ?_
  refine xs_step (fun K HC => xr_lushr HC.1 2 3 rfl rfl) ?_
  refine xs_step (fun K HC => xr_l2i HC.1 3 4 rfl rfl) ?_
  refine xs_step (fun K HC => xr_bipush HC.1 4 6 (n := (15)) (15 : Int32) rfl rfl rfl) ?_
  refine xs_step (fun K HC => xr_iand HC.1 5 7 rfl rfl) ?_
  exact xs_reti 6 rfl rfl (fun K q => q) (fun ty ht => by cases ht; rfl)
theorem s_St_dayOf (v0 : Int64) (h : HP) : ∀ x, f_St_dayOf v0 h = some x → hp_mo h x.2 ∧ ∀ g l, xx_M g l y_St_dayOf prog_9_method_3_code 2 (some .int) 1 [av_L v0] h (some (av_I x.1)) x.2 :=
  xM_i (tb := tb_St_dayOf) (b := false) (by decide +kernel) dt_St_dayOf (fun _ => trivial) (Nat.le_of_ble_eq_true rfl) (fun hb => by cases hb) (t_St_dayOf v0 h)
