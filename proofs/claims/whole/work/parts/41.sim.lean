def tb_Lo_agreement : TBL := [(0, .aload_n 0, 1), (1, .iload_n 3, 1), (2, .invokevirtual 48, 3), (5, .istore 4, 2), (7, .iload 4, 2), (9, .iconst (-1), 1), (10, .if_icmp .ne 5, 3), (13, .iconst (-1), 1), (14, .ireturn, 1), (15, .aload_n 1, 1), (16, .iload_n 2, 1), (17, .invokevirtual 51, 3), (20, .lstore 5, 2), (22, .iconst 0, 1), (23, .istore 7, 2), (25, .iload 7, 2), (27, .iload 4, 2), (29, .if_icmp .gt 72, 3), (32, .aload_n 1, 1), (33, .lload 5, 2), (35, .aload_n 0, 1), (36, .getfield 24, 3), (39, .iload 7, 2), (41, .iaload, 1), (42, .invokevirtual 57, 3), (45, .istore 8, 2), (47, .aload_n 1, 1), (48, .lload 5, 2), (50, .aload_n 0, 1), (51, .getfield 24, 3), (54, .iload 7, 2), (56, .iaload, 1), (57, .iload 8, 2), (59, .invokevirtual 61, 3), (62, .lstore 5, 2), (64, .iload 8, 2), (66, .sipush 128, 3), (69, .iand, 1), (70, .ifCond .eq 25, 3), (73, .iload 7, 2), (75, .iload 4, 2), (77, .if_icmp .ne 16, 3), (80, .aload_n 1, 1), (81, .lload 5, 2), (83, .invokevirtual 65, 3), (86, .ifCond .eq 7, 3), (89, .iconst 1, 1), (90, .goto 4, 3), (93, .iconst 0, 1), (94, .ireturn, 1), (95, .iinc 7 1, 3), (98, .goto (-73), 3), (101, .iconst 1, 1), (102, .ireturn, 1)]
theorem dt_Lo_agreement : ∀ q ∈ tb_Lo_agreement, decode prog_5_method_8_code q.1 = .ok (q.2.1, q.2.2) := by decide +kernel
set_option maxHeartbeats 4000000 in
set_option maxRecDepth 100000 in
theorem t_Lo_agreement_73 (v1 : Nat) (v4 : Int32) (v5 : Int64) (v7 : Int32) (h : HP) : xx_S (xx_D "LampYard$Logs" tb_Lo_agreement 9 4 (some .int) false) xz_i (fun K => xL_i K) 73 [(1, av_R 4 (some v1)), (4, av_I v4), (5, av_L v5), (7, av_I v7)] [] h (f_Lo_agreement_73 v1 v4 v5 v7 h) := by
  unfold f_Lo_agreement_73
  refine xs_step (fun K HC => xr_iload HC.1 39 75 (ix := 7) (j := 3) (x := v7) rfl rfl rfl) ?_
  refine xs_step (fun K HC => xr_iload HC.1 40 77 (ix := 4) (j := 1) (x := v4) rfl rfl rfl) ?_
  refine xs_ite (fun K HC a b => xr_icmp_ne HC.1 41 93 80 rfl (by decide) rfl b a) ?_ ?_
  · refine xs_step (fun K HC => xr_aload_n HC.1 42 81 (n := 1) (ix := 1) (j := 0) (c := 4) (x := v1) rfl rfl rfl rfl) ?_
    refine xs_step (fun K HC => xr_lload HC.1 43 83 (ix := 5) (j := 2) (x := v5) rfl rfl rfl) ?_
    refine xs_calli (s_Pl_haveAllBeen v1 v5 h) (fun K HC x9 hM hmo hb => xr_callV HC.1 44 86 (av := [av_L v5]) (st := []) (hM (kg K) (cx_l (kx K))) hmo hb rfl rfl wm_Lo_65 wi_Pl_haveAllBeen ws_Pl_haveAllBeen wc_Pl_haveAllBeen rfl wh_Pl_haveAllBeen (by decide) (by decide) (by decide) (Nat.le_of_ble_eq_true rfl) rfl) (fun x_10 => ?_)
    refine xs_ite (fun K HC => xr_if_eq HC.1 45 93 89 rfl (by decide) rfl) ?_ ?_
    · refine xs_step (fun K HC => xr_iconst HC.1 48 94 (n := (0)) (0 : Int32) rfl rfl rfl) ?_
      exact xs_reti 49 rfl rfl (fun K q => q) (fun ty ht => by cases ht; rfl)
    refine xs_step (fun K HC => xr_iconst HC.1 46 90 (n := (1)) (1 : Int32) rfl rfl rfl) ?_
    refine xs_step (fun K HC => xr_goto HC.1 47 94 rfl (by decide)) ?_
    exact xs_reti 49 rfl rfl (fun K q => q) (fun ty ht => by cases ht; rfl)
  refine xs_step (fun K HC => xr_iconst HC.1 48 94 (n := (0)) (0 : Int32) rfl rfl rfl) ?_
  exact xs_reti 49 rfl rfl (fun K q => q) (fun ty ht => by cases ht; rfl)
set_option maxHeartbeats 4000000 in
set_option maxRecDepth 100000 in
theorem t_Lo_agreement_25b (v0 : Nat) (v1 : Nat) (v4 : Int32) (v5 : Int64) (v7 : Int32) (h : HP) : xx_S (xx_D "LampYard$Logs" tb_Lo_agreement 9 4 (some .int) false) (xx_z2 (fun s : (Int64 × Int32 × HP) => s.2.2) xz_i) (fun K => xx_L2 (fun s : (Int64 × Int32 × HP) => xx_X K 25 [(0, av_R 3 (some v0)), (1, av_R 4 (some v1)), (4, av_I v4), (5, av_L s.1), (7, av_I s.2.1)] [] (s.2.2)) (xL_i K)) 25 [(0, av_R 3 (some v0)), (1, av_R 4 (some v1)), (4, av_I v4), (5, av_L v5), (7, av_I v7)] [] h (f_Lo_agreement_25b v0 v1 v4 v5 v7 h) := by
  unfold f_Lo_agreement_25b
  refine xs_step (fun K HC => xr_iload HC.1 15 27 (ix := 7) (j := 4) (x := v7) rfl rfl rfl) ?_
  refine xs_step (fun K HC => xr_iload HC.1 16 29 (ix := 4) (j := 2) (x := v4) rfl rfl rfl) ?_
  refine xs_ite (fun K HC => xr_icmp_gt HC.1 17 101 32 rfl (by decide) rfl) ?_ ?_
  · refine xs_step (fun K HC => xr_iconst HC.1 52 102 (n := (1)) (1 : Int32) rfl rfl rfl) ?_
    exact xs_reti 53 rfl rfl (fun K q => q) (fun ty ht => by cases ht; rfl)
  refine xs_step (fun K HC => xr_aload_n HC.1 18 33 (n := 1) (ix := 1) (j := 1) (c := 4) (x := v1) rfl rfl rfl rfl) ?_
  refine xs_step (fun K HC => xr_lload HC.1 19 35 (ix := 5) (j := 3) (x := v5) rfl rfl rfl) ?_
  refine xs_step (fun K HC => xr_aload_n HC.1 20 36 (n := 0) (ix := 0) (j := 0) (c := 3) (x := v0) rfl rfl rfl rfl) ?_
  refine xs_bind (fun q_3 eq_3 => ?_)
  refine xs_step (fun K HC => xr_getr HC.1 21 39 3 6 13 eq_3 rfl rfl wf_Lo_24 (by decide) fb_3_6 fc_3_6 fd_3_6) ?_
  refine xs_step (fun K HC => xr_iload HC.1 22 41 (ix := 7) (j := 4) (x := v7) rfl rfl rfl) ?_
  refine xs_chk (fun hb_4 => ?_)
  refine xs_step (fun K HC => xr_iald HC.1 23 42 (hp_in_vp hb_4) rfl rfl) ?_
  refine xs_calli (s_Pl_outcome v1 v5 (hp_i h q_3 (v7).toNatClampNeg) h) (fun K HC x9 hM hmo hb => xr_callV HC.1 24 45 (av := [av_L v5, av_I (hp_i h q_3 (v7).toNatClampNeg)]) (st := []) (hM (kg K) (cx_l (kx K))) hmo hb rfl rfl wm_Lo_57 wi_Pl_outcome ws_Pl_outcome wc_Pl_outcome rfl wh_Pl_outcome (by decide) (by decide) (by decide) (Nat.le_of_ble_eq_true rfl) rfl) (fun x_5 => ?_)
  refine xs_step (fun K HC => xr_istore HC.1 25 47 (ix := 8) (lv' := [(0, av_R 3 (some v0)), (1, av_R 4 (some v1)), (4, av_I v4), (5, av_L v5), (7, av_I v7), (8, av_I x_5.1)]) rfl rfl (by decide) rfl) ?_
  refine xs_step (fun K HC => xr_aload_n HC.1 26 48 (n := 1) (ix := 1) (j := 1) (c := 4) (x := v1) rfl rfl rfl rfl) ?_
  refine xs_step (fun K HC => xr_lload HC.1 27 50 (ix := 5) (j := 3) (x := v5) rfl rfl rfl) ?_
  refine xs_step (fun K HC => xr_aload_n HC.1 28 51 (n := 0) (ix := 0) (j := 0) (c := 3) (x := v0) rfl rfl rfl rfl) ?_
  refine xs_bind (fun q_6 eq_6 => ?_)
  refine xs_step (fun K HC => xr_getr HC.1 29 54 3 6 13 eq_6 rfl rfl wf_Lo_24 (by decide) fb_3_6 fc_3_6 fd_3_6) ?_
  refine xs_step (fun K HC => xr_iload HC.1 30 56 (ix := 7) (j := 4) (x := v7) rfl rfl rfl) ?_
  refine xs_chk (fun hb_7 => ?_)
  refine xs_step (fun K HC => xr_iald HC.1 31 57 (hp_in_vp hb_7) rfl rfl) ?_
  refine xs_step (fun K HC => xr_iload HC.1 32 59 (ix := 8) (j := 5) (x := x_5.1) rfl rfl rfl) ?_
  refine xs_calll (s_Pl_after v1 v5 (hp_i x_5.2 q_6 (v7).toNatClampNeg) x_5.1 x_5.2) (fun K HC x9 hM hmo hb => xr_callV HC.1 33 62 (av := [av_L v5, av_I (hp_i x_5.2 q_6 (v7).toNatClampNeg), av_I x_5.1]) (st := []) (hM (kg K) (cx_l (kx K))) hmo hb rfl rfl wm_Lo_61 wi_Pl_after ws_Pl_after wc_Pl_after rfl wh_Pl_after (by decide) (by decide) (by decide) (Nat.le_of_ble_eq_true rfl) rfl) (fun x_8 => ?_)
  refine xs_step (fun K HC => xr_lstore HC.1 34 64 (ix := 5) (lv' := [(0, av_R 3 (some v0)), (1, av_R 4 (some v1)), (4, av_I v4), (5, av_L x_8.1), (7, av_I v7), (8, av_I x_5.1)]) rfl rfl (by decide) rfl) ?_
  refine xs_step (fun K HC => xr_iload HC.1 35 66 (ix := 8) (j := 5) (x := x_5.1) rfl rfl rfl) ?_
  refine xs_step (fun K HC => xr_sipush HC.1 36 69 (n := (128)) (128 : Int32) rfl rfl rfl) ?_
  refine xs_step (fun K HC => xr_iand HC.1 37 70 rfl rfl) ?_
  refine xs_ite (fun K HC => xr_if_eq HC.1 38 95 73 rfl (by decide) rfl) ?_ ?_
  · refine xs_gen (fun v7_9 ev7_9 => ?_)
    refine xs_step (fun K HC => xr_iinc HC.1 50 98 (ix := 7) (j := 4) (n := (1)) (x := v7) v7_9 (lv' := [(0, av_R 3 (some v0)), (1, av_R 4 (some v1)), (4, av_I v4), (5, av_L x_8.1), (7, av_I v7_9), (8, av_I x_5.1)]) rfl (by rw [ev7_9]; rfl) rfl rfl (by decide) rfl) ?_
    refine xs_step (fun K HC => xr_goto HC.1 51 25 rfl (by decide)) ?_
    refine xs_step (fun K HC => xr_sub (lv' := [(0, av_R 3 (some v0)), (1, av_R 4 (some v1)), (4, av_I v4), (5, av_L x_8.1), (7, av_I v7_9)]) [0, 1, 2, 3, 4] rfl) ?_
    exact xs_back rfl (fun K q => q)
  refine xs_step (fun K HC => xr_sub (lv' := [(1, av_R 4 (some v1)), (4, av_I v4), (5, av_L x_8.1), (7, av_I v7)]) [1, 2, 3, 4] rfl) ?_
  exact xs_map (fun _ => rfl) (fun _ _ q => q) (t_Lo_agreement_73 v1 v4 x_8.1 v7 x_8.2)
theorem t_Lo_agreement_25 (v0 : Nat) (v1 : Nat) (v4 : Int32) (v5 : Int64) (v7 : Int32) (h : HP) : xx_S (xx_D "LampYard$Logs" tb_Lo_agreement 9 4 (some .int) false) xz_i (fun K => xL_i K) 25 [(0, av_R 3 (some v0)), (1, av_R 4 (some v1)), (4, av_I v4), (5, av_L v5), (7, av_I v7)] [] h (f_Lo_agreement_25 v0 v1 v4 v5 v7 h) :=
  xs_loop (zf := xz_i) (L := (fun K => xL_i K)) (fun s : (Int64 × Int32 × HP) => [(0, av_R 3 (some v0)), (1, av_R 4 (some v1)), (4, av_I v4), (5, av_L s.1), (7, av_I s.2.1)]) (fun s : (Int64 × Int32 × HP) => s.2.2) (fun s => t_Lo_agreement_25b v0 v1 v4 s.1 s.2.1 s.2.2) (v5, v7, h)
set_option maxHeartbeats 4000000 in
set_option maxRecDepth 100000 in
theorem t_Lo_agreement (v0 : Nat) (v1 : Nat) (v2 : Int32) (v3 : Int32) (h : HP) : xx_S (xx_D "LampYard$Logs" tb_Lo_agreement 9 4 (some .int) false) xz_i (fun K => xL_i K) 0 [(0, av_R 3 (some v0)), (1, av_R 4 (some v1)), (2, av_I v2), (3, av_I v3)] [] h (f_Lo_agreement v0 v1 v2 v3 h) := by
  unfold f_Lo_agreement
  refine xs_step (fun K HC => xr_aload_n HC.1 0 1 (n := 0) (ix := 0) (j := 0) (c := 3) (x := v0) rfl rfl rfl rfl) ?_
  refine xs_step (fun K HC => xr_iload_n HC.1 1 2 (n := 3) (ix := 3) (j := 3) (x := v3) rfl rfl rfl rfl) ?_
  refine xs_calli (s_Lo_latestWithoutGap v0 v3 h) (fun K HC x9 hM hmo hb => xr_callV HC.1 2 5 (av := [av_I v3]) (st := []) (hM (kg K) (cx_l (kx K))) hmo hb rfl rfl wm_Lo_48 wi_Lo_latestWithoutGap ws_Lo_latestWithoutGap wc_Lo_latestWithoutGap rfl wh_Lo_latestWithoutGap (by decide) (by decide) (by decide) (Nat.le_of_ble_eq_true rfl) rfl) (fun x_1 => ?_)
  refine xs_step (fun K HC => xr_istore HC.1 3 7 (ix := 4) (lv' := [(0, av_R 3 (some v0)), (1, av_R 4 (some v1)), (2, av_I v2), (3, av_I v3), (4, av_I x_1.1)]) rfl rfl (by decide) rfl) ?_
  refine xs_step (fun K HC => xr_iload HC.1 4 9 (ix := 4) (j := 4) (x := x_1.1) rfl rfl rfl) ?_
  refine xs_step (fun K HC => xr_iconst HC.1 5 10 (n := (-1)) (-1 : Int32) rfl rfl rfl) ?_
  refine xs_ite (fun K HC a b => xr_icmp_ne HC.1 6 15 13 rfl (by decide) rfl b a) ?_ ?_
  · refine xs_step (fun K HC => xr_iconst HC.1 7 14 (n := (-1)) (-1 : Int32) rfl rfl rfl) ?_
    exact xs_reti 8 rfl rfl (fun K q => q) (fun ty ht => by cases ht; rfl)
  refine xs_step (fun K HC => xr_aload_n HC.1 9 16 (n := 1) (ix := 1) (j := 1) (c := 4) (x := v1) rfl rfl rfl rfl) ?_
  refine xs_step (fun K HC => xr_iload_n HC.1 10 17 (n := 2) (ix := 2) (j := 2) (x := v2) rfl rfl rfl rfl) ?_
  refine xs_calll (s_Pl_firstState v1 v2 x_1.2) (fun K HC x9 hM hmo hb => xr_callV HC.1 11 20 (av := [av_I v2]) (st := []) (hM (kg K) (cx_l (kx K))) hmo hb rfl rfl wm_Lo_51 wi_Pl_firstState ws_Pl_firstState wc_Pl_firstState rfl wh_Pl_firstState (by decide) (by decide) (by decide) (Nat.le_of_ble_eq_true rfl) rfl) (fun x_2 => ?_)
  refine xs_step (fun K HC => xr_lstore HC.1 12 22 (ix := 5) (lv' := [(0, av_R 3 (some v0)), (1, av_R 4 (some v1)), (2, av_I v2), (3, av_I v3), (4, av_I x_1.1), (5, av_L x_2.1)]) rfl rfl (by decide) rfl) ?_
  refine xs_step (fun K HC => xr_iconst HC.1 13 23 (n := (0)) (0 : Int32) rfl rfl rfl) ?_
  refine xs_step (fun K HC => xr_istore HC.1 14 25 (ix := 7) (lv' := [(0, av_R 3 (some v0)), (1, av_R 4 (some v1)), (2, av_I v2), (3, av_I v3), (4, av_I x_1.1), (5, av_L x_2.1), (7, av_I (0 : Int32))]) rfl rfl (by decide) rfl) ?_
  refine xs_step (fun K HC => xr_sub (lv' := [(0, av_R 3 (some v0)), (1, av_R 4 (some v1)), (4, av_I x_1.1), (5, av_L x_2.1), (7, av_I (0 : Int32))]) [0, 1, 4, 5, 6] rfl) ?_
  exact t_Lo_agreement_25 v0 v1 x_1.1 x_2.1 (0 : Int32) x_2.2
theorem s_Lo_agreement (v0 : Nat) (v1 : Nat) (v2 : Int32) (v3 : Int32) (h : HP) : ∀ x, f_Lo_agreement v0 v1 v2 v3 h = some x → hp_mo h x.2 ∧ ∀ g l, xx_M g l y_Lo_agreement prog_5_method_8_code 9 (some .int) 4 [av_R 3 (some v0), av_R 4 (some v1), av_I v2, av_I v3] h (some (av_I x.1)) x.2 :=
  xM_i (tb := tb_Lo_agreement) (b := false) (by decide +kernel) dt_Lo_agreement (fun _ => trivial) (Nat.le_of_ble_eq_true rfl) (fun hb => by cases hb) (t_Lo_agreement v0 v1 v2 v3 h)
def tb_X_agrees : TBL := [(0, .aload_n 0, 1), (1, .getfield 23, 3), (4, .iload_n 1, 1), (5, .invokevirtual 72, 3), (8, .ifCond .eq 19, 3), (11, .aload_n 0, 1), (12, .getfield 44, 3), (15, .aload_n 0, 1), (16, .getfield 23, 3), (19, .iload_n 1, 1), (20, .iload_n 2, 1), (21, .invokevirtual 247, 3), (24, .goto 4, 3), (27, .iconst (-1), 1), (28, .ireturn, 1)]
theorem dt_X_agrees : ∀ q ∈ tb_X_agrees, decode prog_1_method_32_code q.1 = .ok (q.2.1, q.2.2) := by decide +kernel
set_option maxHeartbeats 4000000 in
set_option maxRecDepth 100000 in
theorem t_X_agrees (v0 : Nat) (v1 : Int32) (v2 : Int32) (h : HP) : xx_S (xx_D "LampYard" tb_X_agrees 3 5 (some .int) false) xz_i (fun K => xL_i K) 0 [(0, av_R 10 (some v0)), (1, av_I v1), (2, av_I v2)] [] h (f_X_agrees v0 v1 v2 h) := by
  unfold f_X_agrees
  refine xs_step (fun K HC => xr_aload_n HC.1 0 1 (n := 0) (ix := 0) (j := 0) (c := 10) (x := v0) rfl rfl rfl rfl) ?_
  refine xs_bind (fun q_1 eq_1 => ?_)
  refine xs_step (fun K HC => xr_getr HC.1 1 4 10 3 4 eq_1 rfl rfl wf_X_23 (by decide) fb_10_3 fc_10_3 fd_10_3) ?_
  refine xs_step (fun K HC => xr_iload_n HC.1 2 5 (n := 1) (ix := 1) (j := 1) (x := v1) rfl rfl rfl rfl) ?_
  refine xs_calli (s_Pl_canBeLamps q_1 v1 h) (fun K HC x9 hM hmo hb => xr_callV HC.1 3 8 (av := [av_I v1]) (st := []) (hM (kg K) (cx_l (kx K))) hmo hb rfl rfl wm_X_72 wi_Pl_canBeLamps ws_Pl_canBeLamps wc_Pl_canBeLamps rfl wh_Pl_canBeLamps (by decide) (by decide) (by decide) (Nat.le_of_ble_eq_true rfl) rfl) (fun x_2 => ?_)
  refine xs_ite (fun K HC => xr_if_eq HC.1 4 27 11 rfl (by decide) rfl) ?_ ?_
  · refine xs_step (fun K HC => xr_iconst HC.1 13 28 (n := (-1)) (-1 : Int32) rfl rfl rfl) ?_
    exact xs_reti 14 rfl rfl (fun K q => q) (fun ty ht => by cases ht; rfl)
  refine xs_step (fun K HC => xr_aload_n HC.1 5 12 (n := 0) (ix := 0) (j := 0) (c := 10) (x := v0) rfl rfl rfl rfl) ?_
  refine xs_bind (fun q_3 eq_3 => ?_)
  refine xs_step (fun K HC => xr_getr HC.1 6 15 10 7 3 eq_3 rfl rfl wf_X_44 (by decide) fb_10_7 fc_10_7 fd_10_7) ?_
  refine xs_step (fun K HC => xr_aload_n HC.1 7 16 (n := 0) (ix := 0) (j := 0) (c := 10) (x := v0) rfl rfl rfl rfl) ?_
  refine xs_bind (fun q_4 eq_4 => ?_)
  refine xs_step (fun K HC => xr_getr HC.1 8 19 10 3 4 eq_4 rfl rfl wf_X_23 (by decide) fb_10_3 fc_10_3 fd_10_3) ?_
  refine xs_step (fun K HC => xr_iload_n HC.1 9 20 (n := 1) (ix := 1) (j := 1) (x := v1) rfl rfl rfl rfl) ?_
  refine xs_step (fun K HC => xr_iload_n HC.1 10 21 (n := 2) (ix := 2) (j := 2) (x := v2) rfl rfl rfl rfl) ?_
  refine xs_calli (s_Lo_agreement q_3 q_4 v1 v2 x_2.2) (fun K HC x9 hM hmo hb => xr_callV HC.1 11 24 (av := [av_R 4 (some q_4), av_I v1, av_I v2]) (st := []) (hM (kg K) (cx_l (kx K))) hmo hb rfl rfl wm_X_247 wi_Lo_agreement ws_Lo_agreement wc_Lo_agreement rfl wh_Lo_agreement (by decide) (by decide) (by decide) (Nat.le_of_ble_eq_true rfl) rfl) (fun x_5 => ?_)
  refine xs_step (fun K HC => xr_goto HC.1 12 28 rfl (by decide)) ?_
  exact xs_reti 14 rfl rfl (fun K q => q) (fun ty ht => by cases ht; rfl)
theorem s_X_agrees (v0 : Nat) (v1 : Int32) (v2 : Int32) (h : HP) : ∀ x, f_X_agrees v0 v1 v2 h = some x → hp_mo h x.2 ∧ ∀ g l, xx_M g l y_X_agrees prog_1_method_32_code 3 (some .int) 5 [av_R 10 (some v0), av_I v1, av_I v2] h (some (av_I x.1)) x.2 :=
  xM_i (tb := tb_X_agrees) (b := false) (by decide +kernel) dt_X_agrees (fun _ => trivial) (Nat.le_of_ble_eq_true rfl) (fun hb => by cases hb) (t_X_agrees v0 v1 v2 h)
def tb_Co_copy : TBL := [(0, .aload_n 0, 1), (1, .aload_n 1, 1), (2, .getfield 21, 3), (5, .putfield 21, 3), (8, .aload_n 0, 1), (9, .aload_n 1, 1), (10, .getfield 25, 3), (13, .putfield 25, 3), (16, .aload_n 0, 1), (17, .aload_n 1, 1), (18, .getfield 29, 3), (21, .putfield 29, 3), (24, .aload_n 1, 1), (25, .getfield 9, 3), (28, .iconst 0, 1), (29, .aload_n 0, 1), (30, .getfield 9, 3), (33, .iconst 0, 1), (34, .bipush 6, 2), (36, .invokestatic 39, 3), (39, .return_, 1)]
theorem dt_Co_copy : ∀ q ∈ tb_Co_copy, decode prog_3_method_3_code q.1 = .ok (q.2.1, q.2.2) := by decide +kernel
set_option maxHeartbeats 4000000 in
set_option maxRecDepth 100000 in
theorem t_Co_copy (v0 : Nat) (v1 : Nat) (h : HP) : xx_S (xx_D "LampYard$Course" tb_Co_copy 2 2 none false) xz_v (fun K => xL_v K) 0 [(0, av_R 1 (some v0)), (1, av_R 1 (some v1))] [] h (f_Co_copy v0 v1 h) := by
  unfold f_Co_copy
  refine xs_step (fun K HC => xr_aload_n HC.1 0 1 (n := 0) (ix := 0) (j := 0) (c := 1) (x := v0) rfl rfl rfl rfl) ?_
  refine xs_step (fun K HC => xr_aload_n HC.1 1 2 (n := 1) (ix := 1) (j := 1) (c := 1) (x := v1) rfl rfl rfl rfl) ?_
  refine xs_step (fun K HC => xr_getl HC.1 2 5 1 0 rfl rfl wf_Co_21 (by decide) fb_1_0 fc_1_0) ?_
  refine xs_heap (hp_mo_sl _ _ _ _) (fun K HC => xr_putl HC.1 3 8 1 0 rfl rfl wf_Co_21 (by decide) fb_1_0 fn_1_0 fy_1_0) (fun h_1 => ?_)
  refine xs_step (fun K HC => xr_aload_n HC.1 4 9 (n := 0) (ix := 0) (j := 0) (c := 1) (x := v0) rfl rfl rfl rfl) ?_
  refine xs_step (fun K HC => xr_aload_n HC.1 5 10 (n := 1) (ix := 1) (j := 1) (c := 1) (x := v1) rfl rfl rfl rfl) ?_
  refine xs_step (fun K HC => xr_geti HC.1 6 13 1 1 rfl rfl wf_Co_25 (by decide) fb_1_1 fc_1_1) ?_
  refine xs_heap (hp_mo_si _ _ _ _) (fun K HC => xr_puti HC.1 7 16 1 1 rfl rfl wf_Co_25 (by decide) fb_1_1 fn_1_1 fy_1_1) (fun h_2 => ?_)
  refine xs_step (fun K HC => xr_aload_n HC.1 8 17 (n := 0) (ix := 0) (j := 0) (c := 1) (x := v0) rfl rfl rfl rfl) ?_
  refine xs_step (fun K HC => xr_aload_n HC.1 9 18 (n := 1) (ix := 1) (j := 1) (c := 1) (x := v1) rfl rfl rfl rfl) ?_
  refine xs_step (fun K HC => xr_geti HC.1 10 21 1 2 rfl rfl wf_Co_29 (by decide) fb_1_2 fc_1_2) ?_
  refine xs_chk (fun hz_4 => ?_)
  refine xs_heap (hp_mo_si _ _ _ _) (fun K HC => xr_putz HC.1 11 24 1 2 (hp_z01_or hz_4) rfl rfl wf_Co_29 (by decide) fb_1_2 fn_1_2 fy_1_2) (fun h_3 => ?_)
  refine xs_step (fun K HC => xr_aload_n HC.1 12 25 (n := 1) (ix := 1) (j := 1) (c := 1) (x := v1) rfl rfl rfl rfl) ?_
  refine xs_bind (fun q_5 eq_5 => ?_)
  refine xs_step (fun K HC => xr_getr HC.1 13 28 1 4 13 eq_5 rfl rfl wf_Co_9 (by decide) fb_1_4 fc_1_4 fd_1_4) ?_
  refine xs_step (fun K HC => xr_iconst HC.1 14 29 (n := (0)) (0 : Int32) rfl rfl rfl) ?_
  refine xs_step (fun K HC => xr_aload_n HC.1 15 30 (n := 0) (ix := 0) (j := 0) (c := 1) (x := v0) rfl rfl rfl rfl) ?_
  refine xs_bind (fun q_6 eq_6 => ?_)
  refine xs_step (fun K HC => xr_getr HC.1 16 33 1 4 13 eq_6 rfl rfl wf_Co_9 (by decide) fb_1_4 fc_1_4 fd_1_4) ?_
  refine xs_step (fun K HC => xr_iconst HC.1 17 34 (n := (0)) (0 : Int32) rfl rfl rfl) ?_
  refine xs_step (fun K HC => xr_bipush HC.1 18 36 (n := (6)) (6 : Int32) rfl rfl rfl) ?_
  refine xs_chk (fun hb_8 => ?_)
  refine xs_heap (hp_mo_cp _ _ _ _ _ _) (fun K HC => xr_copy6 HC.1 19 39 hb_8.1 hb_8.2 rfl rfl wm_Co_39 (by decide) (Nat.le_of_ble_eq_true rfl)) (fun h_7 => ?_)
  exact xs_ret 20 rfl rfl (fun K q => q)
theorem s_Co_copy (v0 : Nat) (v1 : Nat) (h : HP) : ∀ x, f_Co_copy v0 v1 h = some x → hp_mo h x ∧ ∀ g l, xx_M g l y_Co_copy prog_3_method_3_code 2 none 2 [av_R 1 (some v0), av_R 1 (some v1)] h none x :=
  xM_v (tb := tb_Co_copy) (b := false) (by decide +kernel) dt_Co_copy trivial (Nat.le_of_ble_eq_true rfl) (fun hb => by cases hb) (t_Co_copy v0 v1 h)
def tb_X_image : TBL := [(0, .iload_n 1, 1), (1, .ifCond .lt 8, 3), (4, .iload_n 1, 1), (5, .iconst 3, 1), (6, .if_icmp .lt 5, 3), (9, .iconst (-1), 1), (10, .ireturn, 1), (11, .aload_n 0, 1), (12, .getfield 37, 3), (15, .iload_n 1, 1), (16, .aaload, 1), (17, .aload_n 0, 1), (18, .getfield 33, 3), (21, .invokevirtual 251, 3), (24, .aload_n 0, 1), (25, .getfield 37, 3), (28, .iload_n 1, 1), (29, .aaload, 1), (30, .iconst 1, 1), (31, .putfield 255, 3), (34, .aload_n 0, 1), (35, .getfield 33, 3), (38, .getfield 87, 3), (41, .ireturn, 1)]
theorem dt_X_image : ∀ q ∈ tb_X_image, decode prog_1_method_33_code q.1 = .ok (q.2.1, q.2.2) := by decide +kernel
set_option maxHeartbeats 4000000 in
set_option maxRecDepth 100000 in
theorem t_X_image (v0 : Nat) (v1 : Int32) (h : HP) : xx_S (xx_D "LampYard" tb_X_image 2 3 (some .int) false) xz_i (fun K => xL_i K) 0 [(0, av_R 10 (some v0)), (1, av_I v1)] [] h (f_X_image v0 v1 h) := by
  unfold f_X_image
  refine xs_step (fun K HC => xr_iload_n HC.1 0 1 (n := 1) (ix := 1) (j := 1) (x := v1) rfl rfl rfl rfl) ?_
  refine xs_ite (fun K HC => xr_if_lt HC.1 1 9 4 rfl (by decide) rfl) ?_ ?_
  · refine xs_step (fun K HC => xr_iconst HC.1 5 10 (n := (-1)) (-1 : Int32) rfl rfl rfl) ?_
    exact xs_reti 6 rfl rfl (fun K q => q) (fun ty ht => by cases ht; rfl)
  refine xs_step (fun K HC => xr_iload_n HC.1 2 5 (n := 1) (ix := 1) (j := 1) (x := v1) rfl rfl rfl rfl) ?_
  refine xs_step (fun K HC => xr_iconst HC.1 3 6 (n := (3)) (3 : Int32) rfl rfl rfl) ?_
  refine xs_ite (fun K HC => xr_icmp_lt HC.1 4 11 9 rfl (by decide) rfl) ?_ ?_
  · refine xs_step (fun K HC => xr_aload_n HC.1 7 12 (n := 0) (ix := 0) (j := 0) (c := 10) (x := v0) rfl rfl rfl rfl) ?_
    refine xs_bind (fun q_1 eq_1 => ?_)
    refine xs_step (fun K HC => xr_getr HC.1 8 15 10 6 16 eq_1 rfl rfl wf_X_37 (by decide) fb_10_6 fc_10_6 fd_10_6) ?_
    refine xs_step (fun K HC => xr_iload_n HC.1 9 16 (n := 1) (ix := 1) (j := 1) (x := v1) rfl rfl rfl rfl) ?_
    refine xs_chk (fun hb_2 => ?_)
    refine xs_bind (fun q_3 eq_3 => ?_)
    refine xs_step (fun K HC => xr_aald HC.1 10 17 eq_3 (hp_in_vp hb_2) rfl rfl) ?_
    refine xs_step (fun K HC => xr_aload_n HC.1 11 18 (n := 0) (ix := 0) (j := 0) (c := 10) (x := v0) rfl rfl rfl rfl) ?_
    refine xs_bind (fun q_4 eq_4 => ?_)
    refine xs_step (fun K HC => xr_getr HC.1 12 21 10 5 1 eq_4 rfl rfl wf_X_33 (by decide) fb_10_5 fc_10_5 fd_10_5) ?_
    refine xs_callv (s_Co_copy q_3 q_4 h) (fun K HC x9 hM hmo hb => xr_callV HC.1 13 24 (av := [av_R 1 (some q_4)]) (st := []) (hM (kg K) (cx_l (kx K))) hmo hb rfl rfl wm_X_251 wi_Co_copy ws_Co_copy wc_Co_copy rfl wh_Co_copy (by decide) (by decide) (by decide) (Nat.le_of_ble_eq_true rfl) rfl) (fun x_5 => ?_)
    refine xs_step (fun K HC => xr_aload_n HC.1 14 25 (n := 0) (ix := 0) (j := 0) (c := 10) (x := v0) rfl rfl rfl rfl) ?_
    refine xs_bind (fun q_6 eq_6 => ?_)
    refine xs_step (fun K HC => xr_getr HC.1 15 28 10 6 16 eq_6 rfl rfl wf_X_37 (by decide) fb_10_6 fc_10_6 fd_10_6) ?_
    refine xs_step (fun K HC => xr_iload_n HC.1 16 29 (n := 1) (ix := 1) (j := 1) (x := v1) rfl rfl rfl rfl) ?_
    refine xs_chk (fun hb_7 => ?_)
    refine xs_bind (fun q_8 eq_8 => ?_)
    refine xs_step (fun K HC => xr_aald HC.1 17 30 eq_8 (hp_in_vp hb_7) rfl rfl) ?_
    refine xs_step (fun K HC => xr_iconst HC.1 18 31 (n := (1)) (1 : Int32) rfl rfl rfl) ?_
    refine xs_heap (hp_mo_si _ _ _ _) (fun K HC => xr_putz HC.1 19 34 1 3 (Or.inr rfl) rfl rfl wf_X_255 (by decide) fb_1_3 fn_1_3 fy_1_3) (fun h_9 => ?_)
    refine xs_step (fun K HC => xr_aload_n HC.1 20 35 (n := 0) (ix := 0) (j := 0) (c := 10) (x := v0) rfl rfl rfl rfl) ?_
    refine xs_bind (fun q_10 eq_10 => ?_)
    refine xs_step (fun K HC => xr_getr HC.1 21 38 10 5 1 eq_10 rfl rfl wf_X_33 (by decide) fb_10_5 fc_10_5 fd_10_5) ?_
    refine xs_step (fun K HC => xr_geti HC.1 22 41 1 1 rfl rfl wf_X_87 (by decide) fb_1_1 fc_1_1) ?_
    exact xs_reti 23 rfl rfl (fun K q => q) (fun ty ht => by cases ht; rfl)
  refine xs_step (fun K HC => xr_iconst HC.1 5 10 (n := (-1)) (-1 : Int32) rfl rfl rfl) ?_
  exact xs_reti 6 rfl rfl (fun K q => q) (fun ty ht => by cases ht; rfl)
theorem s_X_image (v0 : Nat) (v1 : Int32) (h : HP) : ∀ x, f_X_image v0 v1 h = some x → hp_mo h x.2 ∧ ∀ g l, xx_M g l y_X_image prog_1_method_33_code 2 (some .int) 3 [av_R 10 (some v0), av_I v1] h (some (av_I x.1)) x.2 :=
  xM_i (tb := tb_X_image) (b := false) (by decide +kernel) dt_X_image (fun _ => trivial) (Nat.le_of_ble_eq_true rfl) (fun hb => by cases hb) (t_X_image v0 v1 h)
def tb_X_back : TBL := [(0, .iload_n 1, 1), (1, .ifCond .lt 20, 3), (4, .iload_n 1, 1), (5, .iconst 3, 1), (6, .if_icmp .ge 15, 3), (9, .aload_n 0, 1), (10, .getfield 37, 3), (13, .iload_n 1, 1), (14, .aaload, 1), (15, .getfield 255, 3), (18, .ifCond .ne 5, 3), (21, .iconst (-1), 1), (22, .ireturn, 1), (23, .aload_n 0, 1), (24, .getfield 33, 3), (27, .aload_n 0, 1), (28, .getfield 37, 3), (31, .iload_n 1, 1), (32, .aaload, 1), (33, .invokevirtual 251, 3), (36, .aload_n 0, 1), (37, .getfield 33, 3), (40, .getfield 87, 3), (43, .ireturn, 1)]
theorem dt_X_back : ∀ q ∈ tb_X_back, decode prog_1_method_34_code q.1 = .ok (q.2.1, q.2.2) := by decide +kernel
set_option maxHeartbeats 4000000 in
set_option maxRecDepth 100000 in
theorem t_X_back (v0 : Nat) (v1 : Int32) (h : HP) : xx_S (xx_D "LampYard" tb_X_back 2 3 (some .int) false) xz_i (fun K => xL_i K) 0 [(0, av_R 10 (some v0)), (1, av_I v1)] [] h (f_X_back v0 v1 h) := by
  unfold f_X_back
  refine xs_step (fun K HC => xr_iload_n HC.1 0 1 (n := 1) (ix := 1) (j := 1) (x := v1) rfl rfl rfl rfl) ?_
  refine xs_ite (fun K HC => xr_if_lt HC.1 1 21 4 rfl (by decide) rfl) ?_ ?_
  · refine xs_step (fun K HC => xr_iconst HC.1 11 22 (n := (-1)) (-1 : Int32) rfl rfl rfl) ?_
    exact xs_reti 12 rfl rfl (fun K q => q) (fun ty ht => by cases ht; rfl)
  refine xs_step (fun K HC => xr_iload_n HC.1 2 5 (n := 1) (ix := 1) (j := 1) (x := v1) rfl rfl rfl rfl) ?_
  refine xs_step (fun K HC => xr_iconst HC.1 3 6 (n := (3)) (3 : Int32) rfl rfl rfl) ?_
  refine xs_ite (fun K HC => xr_icmp_ge HC.1 4 21 9 rfl (by decide) rfl) ?_ ?_
  · refine xs_step (fun K HC => xr_iconst HC.1 11 22 (n := (-1)) (-1 : Int32) rfl rfl rfl) ?_
    exact xs_reti 12 rfl rfl (fun K q => q) (fun ty ht => by cases ht; rfl)
  refine xs_step (fun K HC => xr_aload_n HC.1 5 10 (n := 0) (ix := 0) (j := 0) (c := 10) (x := v0) rfl rfl rfl rfl) ?_
  refine xs_bind (fun q_1 eq_1 => ?_)
  refine xs_step (fun K HC => xr_getr HC.1 6 13 10 6 16 eq_1 rfl rfl wf_X_37 (by decide) fb_10_6 fc_10_6 fd_10_6) ?_
  refine xs_step (fun K HC => xr_iload_n HC.1 7 14 (n := 1) (ix := 1) (j := 1) (x := v1) rfl rfl rfl rfl) ?_
  refine xs_chk (fun hb_2 => ?_)
  refine xs_bind (fun q_3 eq_3 => ?_)
  refine xs_step (fun K HC => xr_aald HC.1 8 15 eq_3 (hp_in_vp hb_2) rfl rfl) ?_
  refine xs_step (fun K HC => xr_geti HC.1 9 18 1 3 rfl rfl wf_X_255 (by decide) fb_1_3 fc_1_3) ?_
  refine xs_ite (fun K HC a b => xr_if_ne HC.1 10 23 21 rfl (by decide) rfl b a) ?_ ?_
  · refine xs_step (fun K HC => xr_iconst HC.1 11 22 (n := (-1)) (-1 : Int32) rfl rfl rfl) ?_
    exact xs_reti 12 rfl rfl (fun K q => q) (fun ty ht => by cases ht; rfl)
  refine xs_step (fun K HC => xr_aload_n HC.1 13 24 (n := 0) (ix := 0) (j := 0) (c := 10) (x := v0) rfl rfl rfl rfl) ?_
  refine xs_bind (fun q_4 eq_4 => ?_)
  refine xs_step (fun K HC => xr_getr HC.1 14 27 10 5 1 eq_4 rfl rfl wf_X_33 (by decide) fb_10_5 fc_10_5 fd_10_5) ?_
  refine xs_step (fun K HC => xr_aload_n HC.1 15 28 (n := 0) (ix := 0) (j := 0) (c := 10) (x := v0) rfl rfl rfl rfl) ?_
  refine xs_bind (fun q_5 eq_5 => ?_)
  refine xs_step (fun K HC => xr_getr HC.1 16 31 10 6 16 eq_5 rfl rfl wf_X_37 (by decide) fb_10_6 fc_10_6 fd_10_6) ?_
  refine xs_step (fun K HC => xr_iload_n HC.1 17 32 (n := 1) (ix := 1) (j := 1) (x := v1) rfl rfl rfl rfl) ?_
  refine xs_chk (fun hb_6 => ?_)
  refine xs_bind (fun q_7 eq_7 => ?_)
  refine xs_step (fun K HC => xr_aald HC.1 18 33 eq_7 (hp_in_vp hb_6) rfl rfl) ?_
  refine xs_callv (s_Co_copy q_4 q_7 h) (fun K HC x9 hM hmo hb => xr_callV HC.1 19 36 (av := [av_R 1 (some q_7)]) (st := []) (hM (kg K) (cx_l (kx K))) hmo hb rfl rfl wm_X_251 wi_Co_copy ws_Co_copy wc_Co_copy rfl wh_Co_copy (by decide) (by decide) (by decide) (Nat.le_of_ble_eq_true rfl) rfl) (fun x_8 => ?_)
  refine xs_step (fun K HC => xr_aload_n HC.1 20 37 (n := 0) (ix := 0) (j := 0) (c := 10) (x := v0) rfl rfl rfl rfl) ?_
  refine xs_bind (fun q_9 eq_9 => ?_)
  refine xs_step (fun K HC => xr_getr HC.1 21 40 10 5 1 eq_9 rfl rfl wf_X_33 (by decide) fb_10_5 fc_10_5 fd_10_5) ?_
  refine xs_step (fun K HC => xr_geti HC.1 22 43 1 1 rfl rfl wf_X_87 (by decide) fb_1_1 fc_1_1) ?_
  exact xs_reti 23 rfl rfl (fun K q => q) (fun ty ht => by cases ht; rfl)
theorem s_X_back (v0 : Nat) (v1 : Int32) (h : HP) : ∀ x, f_X_back v0 v1 h = some x → hp_mo h x.2 ∧ ∀ g l, xx_M g l y_X_back prog_1_method_34_code 2 (some .int) 3 [av_R 10 (some v0), av_I v1] h (some (av_I x.1)) x.2 :=
  xM_i (tb := tb_X_back) (b := false) (by decide +kernel) dt_X_back (fun _ => trivial) (Nat.le_of_ble_eq_true rfl) (fun hb => by cases hb) (t_X_back v0 v1 h)
def tb_X_about : TBL := [(0, .iload_n 1, 1), (1, .tableswitch 143 0 9 #[55, 63, 71, 79, 87, 98, 114, 122, 130, 135], 55), (56, .aload_n 0, 1), (57, .getfield 23, 3), (60, .getfield 63, 3), (63, .ireturn, 1), (64, .aload_n 0, 1), (65, .getfield 23, 3), (68, .getfield 258, 3), (71, .ireturn, 1), (72, .aload_n 0, 1), (73, .getfield 23, 3), (76, .getfield 261, 3), (79, .ireturn, 1), (80, .aload_n 0, 1), (81, .getfield 33, 3), (84, .getfield 87, 3), (87, .ireturn, 1), (88, .aload_n 0, 1), (89, .getfield 33, 3), (92, .getfield 94, 3), (95, .invokestatic 102, 3), (98, .ireturn, 1), (99, .aload_n 0, 1), (100, .getfield 33, 3), (103, .getfield 83, 3), (106, .ifCond .eq 7, 3), (109, .iconst 1, 1), (110, .goto 4, 3), (113, .iconst 0, 1), (114, .ireturn, 1), (115, .aload_n 0, 1), (116, .getfield 44, 3), (119, .getfield 264, 3), (122, .ireturn, 1), (123, .aload_n 0, 1), (124, .getfield 44, 3), (127, .getfield 267, 3), (130, .ireturn, 1), (131, .aload_n 0, 1), (132, .getfield 51, 3), (135, .ireturn, 1), (136, .aload_n 0, 1), (137, .getfield 23, 3), (140, .getfield 270, 3), (143, .ireturn, 1), (144, .iconst (-1), 1), (145, .ireturn, 1)]
theorem dt_X_about : ∀ q ∈ tb_X_about, decode prog_1_method_35_code q.1 = .ok (q.2.1, q.2.2) := by decide +kernel
set_option maxHeartbeats 4000000 in
set_option maxRecDepth 100000 in
theorem t_X_about (v0 : Nat) (v1 : Int32) (h : HP) : xx_S (xx_D "LampYard" tb_X_about 2 2 (some .int) false) xz_i (fun K => xL_i K) 0 [(0, av_R 10 (some v0)), (1, av_I v1)] [] h (f_X_about v0 v1 h) := by
  unfold f_X_about
  refine xs_step (fun K HC => xr_iload_n HC.1 0 1 (n := 1) (ix := 1) (j := 1) (x := v1) rfl rfl rfl rfl) ?_
  refine xs_if (fun hc_2 => ?_) (fun hc_2 => ?_)
  · refine xs_step (fun K HC => xr_tabI HC.1 1 56 (0 : Int32) rfl hc_2 (by decide) (by decide) rfl (by decide)) ?_
    refine xs_step (fun K HC => xr_aload_n HC.1 2 57 (n := 0) (ix := 0) (j := 0) (c := 10) (x := v0) rfl rfl rfl rfl) ?_
    refine xs_bind (fun q_1 eq_1 => ?_)
    refine xs_step (fun K HC => xr_getr HC.1 3 60 10 3 4 eq_1 rfl rfl wf_X_23 (by decide) fb_10_3 fc_10_3 fd_10_3) ?_
    refine xs_step (fun K HC => xr_geti HC.1 4 63 4 5 rfl rfl wf_X_63 (by decide) fb_4_5 fc_4_5) ?_
    exact xs_reti 5 rfl rfl (fun K q => q) (fun ty ht => by cases ht; rfl)
  refine xs_if (fun hc_4 => ?_) (fun hc_4 => ?_)
  · refine xs_step (fun K HC => xr_tabI HC.1 1 64 (1 : Int32) rfl hc_4 (by decide) (by decide) rfl (by decide)) ?_
    refine xs_step (fun K HC => xr_aload_n HC.1 6 65 (n := 0) (ix := 0) (j := 0) (c := 10) (x := v0) rfl rfl rfl rfl) ?_
    refine xs_bind (fun q_3 eq_3 => ?_)
    refine xs_step (fun K HC => xr_getr HC.1 7 68 10 3 4 eq_3 rfl rfl wf_X_23 (by decide) fb_10_3 fc_10_3 fd_10_3) ?_
    refine xs_step (fun K HC => xr_geti HC.1 8 71 4 4 rfl rfl wf_X_258 (by decide) fb_4_4 fc_4_4) ?_
    exact xs_reti 9 rfl rfl (fun K q => q) (fun ty ht => by cases ht; rfl)
  refine xs_if (fun hc_6 => ?_) (fun hc_6 => ?_)
  · refine xs_step (fun K HC => xr_tabI HC.1 1 72 (2 : Int32) rfl hc_6 (by decide) (by decide) rfl (by decide)) ?_
    refine xs_step (fun K HC => xr_aload_n HC.1 10 73 (n := 0) (ix := 0) (j := 0) (c := 10) (x := v0) rfl rfl rfl rfl) ?_
    refine xs_bind (fun q_5 eq_5 => ?_)
    refine xs_step (fun K HC => xr_getr HC.1 11 76 10 3 4 eq_5 rfl rfl wf_X_23 (by decide) fb_10_3 fc_10_3 fd_10_3) ?_
    refine xs_step (fun K HC => xr_geti HC.1 12 79 4 6 rfl rfl wf_X_261 (by decide) fb_4_6 fc_4_6) ?_
    exact xs_reti 13 rfl rfl (fun K q => q) (fun ty ht => by cases ht; rfl)
  refine xs_if (fun hc_8 => ?_) (fun hc_8 => ?_)
  · refine xs_step (fun K HC => xr_tabI HC.1 1 80 (3 : Int32) rfl hc_8 (by decide) (by decide) rfl (by decide)) ?_
    refine xs_step (fun K HC => xr_aload_n HC.1 14 81 (n := 0) (ix := 0) (j := 0) (c := 10) (x := v0) rfl rfl rfl rfl) ?_
    refine xs_bind (fun q_7 eq_7 => ?_)
    refine xs_step (fun K HC => xr_getr HC.1 15 84 10 5 1 eq_7 rfl rfl wf_X_33 (by decide) fb_10_5 fc_10_5 fd_10_5) ?_
    refine xs_step (fun K HC => xr_geti HC.1 16 87 1 1 rfl rfl wf_X_87 (by decide) fb_1_1 fc_1_1) ?_
    exact xs_reti 17 rfl rfl (fun K q => q) (fun ty ht => by cases ht; rfl)
  refine xs_if (fun hc_11 => ?_) (fun hc_11 => ?_)
  · refine xs_step (fun K HC => xr_tabI HC.1 1 88 (4 : Int32) rfl hc_11 (by decide) (by decide) rfl (by decide)) ?_
    refine xs_step (fun K HC => xr_aload_n HC.1 18 89 (n := 0) (ix := 0) (j := 0) (c := 10) (x := v0) rfl rfl rfl rfl) ?_
    refine xs_bind (fun q_9 eq_9 => ?_)
    refine xs_step (fun K HC => xr_getr HC.1 19 92 10 5 1 eq_9 rfl rfl wf_X_33 (by decide) fb_10_5 fc_10_5 fd_10_5) ?_
    refine xs_step (fun K HC => xr_getl HC.1 20 95 1 0 rfl rfl wf_X_94 (by decide) fb_1_0 fc_1_0) ?_
    refine xs_calli (s_St_lampsOf (hp_l h q_9 0) h) (fun K HC x9 hM hmo hb => xr_callS HC.1 21 98 (av := [av_L (hp_l h q_9 0)]) (st := []) (hM (kg K) (cx_l (kx K))) hmo hb rfl rfl wm_X_102 wt_St_lampsOf wn_St_lampsOf wc_St_lampsOf wh_St_lampsOf (by decide) (by decide) (Nat.le_of_ble_eq_true rfl) rfl) (fun x_10 => ?_)
    exact xs_reti 22 rfl rfl (fun K q => q) (fun ty ht => by cases ht; rfl)
  refine xs_if (fun hc_13 => ?_) (fun hc_13 => ?_)
  · refine xs_step (fun K HC => xr_tabI HC.1 1 99 (5 : Int32) rfl hc_13 (by decide) (by decide) rfl (by decide)) ?_
    refine xs_step (fun K HC => xr_aload_n HC.1 23 100 (n := 0) (ix := 0) (j := 0) (c := 10) (x := v0) rfl rfl rfl rfl) ?_
    refine xs_bind (fun q_12 eq_12 => ?_)
    refine xs_step (fun K HC => xr_getr HC.1 24 103 10 5 1 eq_12 rfl rfl wf_X_33 (by decide) fb_10_5 fc_10_5 fd_10_5) ?_
    refine xs_step (fun K HC => xr_geti HC.1 25 106 1 2 rfl rfl wf_X_83 (by decide) fb_1_2 fc_1_2) ?_
    refine xs_ite (fun K HC => xr_if_eq HC.1 26 113 109 rfl (by decide) rfl) ?_ ?_
    · refine xs_step (fun K HC => xr_iconst HC.1 29 114 (n := (0)) (0 : Int32) rfl rfl rfl) ?_
      exact xs_reti 30 rfl rfl (fun K q => q) (fun ty ht => by cases ht; rfl)
    refine xs_step (fun K HC => xr_iconst HC.1 27 110 (n := (1)) (1 : Int32) rfl rfl rfl) ?_
    refine xs_step (fun K HC => xr_goto HC.1 28 114 rfl (by decide)) ?_
    exact xs_reti 30 rfl rfl (fun K q => q) (fun ty ht => by cases ht; rfl)
  refine xs_if (fun hc_15 => ?_) (fun hc_15 => ?_)
  · refine xs_step (fun K HC => xr_tabI HC.1 1 115 (6 : Int32) rfl hc_15 (by decide) (by decide) rfl (by decide)) ?_
    refine xs_step (fun K HC => xr_aload_n HC.1 31 116 (n := 0) (ix := 0) (j := 0) (c := 10) (x := v0) rfl rfl rfl rfl) ?_
    refine xs_bind (fun q_14 eq_14 => ?_)
    refine xs_step (fun K HC => xr_getr HC.1 32 119 10 7 3 eq_14 rfl rfl wf_X_44 (by decide) fb_10_7 fc_10_7 fd_10_7) ?_
    refine xs_step (fun K HC => xr_geti HC.1 33 122 3 0 rfl rfl wf_X_264 (by decide) fb_3_0 fc_3_0) ?_
    exact xs_reti 34 rfl rfl (fun K q => q) (fun ty ht => by cases ht; rfl)
  refine xs_if (fun hc_17 => ?_) (fun hc_17 => ?_)
  · refine xs_step (fun K HC => xr_tabI HC.1 1 123 (7 : Int32) rfl hc_17 (by decide) (by decide) rfl (by decide)) ?_
    refine xs_step (fun K HC => xr_aload_n HC.1 35 124 (n := 0) (ix := 0) (j := 0) (c := 10) (x := v0) rfl rfl rfl rfl) ?_
    refine xs_bind (fun q_16 eq_16 => ?_)
    refine xs_step (fun K HC => xr_getr HC.1 36 127 10 7 3 eq_16 rfl rfl wf_X_44 (by decide) fb_10_7 fc_10_7 fd_10_7) ?_
    refine xs_step (fun K HC => xr_geti HC.1 37 130 3 1 rfl rfl wf_X_267 (by decide) fb_3_1 fc_3_1) ?_
    exact xs_reti 38 rfl rfl (fun K q => q) (fun ty ht => by cases ht; rfl)
  refine xs_if (fun hc_18 => ?_) (fun hc_18 => ?_)
  · refine xs_step (fun K HC => xr_tabI HC.1 1 131 (8 : Int32) rfl hc_18 (by decide) (by decide) rfl (by decide)) ?_
    refine xs_step (fun K HC => xr_aload_n HC.1 39 132 (n := 0) (ix := 0) (j := 0) (c := 10) (x := v0) rfl rfl rfl rfl) ?_
    refine xs_step (fun K HC => xr_geti HC.1 40 135 10 1 rfl rfl wf_X_51 (by decide) fb_10_1 fc_10_1) ?_
    exact xs_reti 41 rfl rfl (fun K q => q) (fun ty ht => by cases ht; rfl)
  refine xs_if (fun hc_20 => ?_) (fun hc_20 => ?_)
  · refine xs_step (fun K HC => xr_tabI HC.1 1 136 (9 : Int32) rfl hc_20 (by decide) (by decide) rfl (by decide)) ?_
    refine xs_step (fun K HC => xr_aload_n HC.1 42 137 (n := 0) (ix := 0) (j := 0) (c := 10) (x := v0) rfl rfl rfl rfl) ?_
    refine xs_bind (fun q_19 eq_19 => ?_)
    refine xs_step (fun K HC => xr_getr HC.1 43 140 10 3 4 eq_19 rfl rfl wf_X_23 (by decide) fb_10_3 fc_10_3 fd_10_3) ?_
    refine xs_step (fun K HC => xr_geti HC.1 44 143 4 7 rfl rfl wf_X_270 (by decide) fb_4_7 fc_4_7) ?_
    exact xs_reti 45 rfl rfl (fun K q => q) (fun ty ht => by cases ht; rfl)
  refine xs_step (fun K HC => xr_tabO HC.1 1 144 [(0 : Int32), (1 : Int32), (2 : Int32), (3 : Int32), (4 : Int32), (5 : Int32), (6 : Int32), (7 : Int32), (8 : Int32), (9 : Int32)] rfl (by decide) (by simp only [List.forall_mem_cons]; exact ⟨hc_2, hc_4, hc_6, hc_8, hc_11, hc_13, hc_15, hc_17, hc_18, hc_20, fun _ h9 => absurd h9 List.not_mem_nil⟩) (by decide)) ?_
  refine xs_step (fun K HC => xr_iconst HC.1 46 145 (n := (-1)) (-1 : Int32) rfl rfl rfl) ?_
  exact xs_reti 47 rfl rfl (fun K q => q) (fun ty ht => by cases ht; rfl)
theorem s_X_about (v0 : Nat) (v1 : Int32) (h : HP) : ∀ x, f_X_about v0 v1 h = some x → hp_mo h x.2 ∧ ∀ g l, xx_M g l y_X_about prog_1_method_35_code 2 (some .int) 2 [av_R 10 (some v0), av_I v1] h (some (av_I x.1)) x.2 :=
  xM_i (tb := tb_X_about) (b := false) (by decide +kernel) dt_X_about (fun _ => trivial) (Nat.le_of_ble_eq_true rfl) (fun hb => by cases hb) (t_X_about v0 v1 h)
def tb_M_plain : TBL := [(0, .aload_n 0, 1), (1, .iconst 1, 1), (2, .putfield 383, 3), (5, .aload_n 0, 1), (6, .iconst 1, 1), (7, .putfield 386, 3), (10, .aload_n 0, 1), (11, .bipush 99, 2), (13, .putfield 389, 3), (16, .aload_n 0, 1), (17, .iconst 0, 1), (18, .putfield 392, 3), (21, .return_, 1)]
theorem dt_M_plain : ∀ q ∈ tb_M_plain, decode prog_14_method_34_code q.1 = .ok (q.2.1, q.2.2) := by decide +kernel
set_option maxHeartbeats 4000000 in
set_option maxRecDepth 100000 in
theorem t_M_plain (v0 : Nat) (h : HP) : xx_S (xx_D "LampYardModel" tb_M_plain 1 1 none false) xz_v (fun K => xL_v K) 0 [(0, av_R 11 (some v0))] [] h (f_M_plain v0 h) := by
  unfold f_M_plain
  refine xs_step (fun K HC => xr_aload_n HC.1 0 1 (n := 0) (ix := 0) (j := 0) (c := 11) (x := v0) rfl rfl rfl rfl) ?_
  refine xs_step (fun K HC => xr_iconst HC.1 1 2 (n := (1)) (1 : Int32) rfl rfl rfl) ?_
  refine xs_heap (hp_mo_si _ _ _ _) (fun K HC => xr_puti HC.1 2 5 11 28 rfl rfl wf_M_383 (by decide) fb_11_28 fn_11_28 fy_11_28) (fun h_1 => ?_)
  refine xs_step (fun K HC => xr_aload_n HC.1 3 6 (n := 0) (ix := 0) (j := 0) (c := 11) (x := v0) rfl rfl rfl rfl) ?_
  refine xs_step (fun K HC => xr_iconst HC.1 4 7 (n := (1)) (1 : Int32) rfl rfl rfl) ?_
  refine xs_heap (hp_mo_si _ _ _ _) (fun K HC => xr_puti HC.1 5 10 11 29 rfl rfl wf_M_386 (by decide) fb_11_29 fn_11_29 fy_11_29) (fun h_2 => ?_)
  refine xs_step (fun K HC => xr_aload_n HC.1 6 11 (n := 0) (ix := 0) (j := 0) (c := 11) (x := v0) rfl rfl rfl rfl) ?_
  refine xs_step (fun K HC => xr_bipush HC.1 7 13 (n := (99)) (99 : Int32) rfl rfl rfl) ?_
  refine xs_heap (hp_mo_si _ _ _ _) (fun K HC => xr_puti HC.1 8 16 11 30 rfl rfl wf_M_389 (by decide) fb_11_30 fn_11_30 fy_11_30) (fun h_3 => ?_)
  refine xs_step (fun K HC => xr_aload_n HC.1 9 17 (n := 0) (ix := 0) (j := 0) (c := 11) (x := v0) rfl rfl rfl rfl) ?_
  refine xs_step (fun K HC => xr_iconst HC.1 10 18 (n := (0)) (0 : Int32) rfl rfl rfl) ?_
  refine xs_heap (hp_mo_si _ _ _ _) (fun K HC => xr_puti HC.1 11 21 11 31 rfl rfl wf_M_392 (by decide) fb_11_31 fn_11_31 fy_11_31) (fun h_4 => ?_)
  exact xs_ret 12 rfl rfl (fun K q => q)
theorem s_M_plain (v0 : Nat) (h : HP) : ∀ x, f_M_plain v0 h = some x → hp_mo h x ∧ ∀ g l, xx_M g l y_M_plain prog_14_method_34_code 1 none 1 [av_R 11 (some v0)] h none x :=
  xM_v (tb := tb_M_plain) (b := false) (by decide +kernel) dt_M_plain trivial (Nat.le_of_ble_eq_true rfl) (fun hb => by cases hb) (t_M_plain v0 h)
def tb_M_fresh : TBL := [(0, .aload_n 0, 1), (1, .iload_n 1, 1), (2, .putfield 413, 3), (5, .aload_n 0, 1), (6, .iconst 0, 1), (7, .putfield 416, 3), (10, .iconst 0, 1), (11, .istore_n 2, 1), (12, .iload_n 2, 1), (13, .bipush 6, 2), (15, .if_icmp .ge 47, 3), (18, .aload_n 0, 1), (19, .getfield 73, 3), (22, .iload_n 2, 1), (23, .iload_n 2, 1), (24, .aload_n 0, 1), (25, .getfield 401, 3), (28, .if_icmp .ge 12, 3), (31, .aload_n 0, 1), (32, .getfield 33, 3), (35, .iload_n 2, 1), (36, .iaload, 1), (37, .goto 4, 3), (40, .iconst 0, 1), (41, .iastore, 1), (42, .aload_n 0, 1), (43, .getfield 76, 3), (46, .iload_n 2, 1), (47, .iconst 0, 1), (48, .iastore, 1), (49, .aload_n 0, 1), (50, .getfield 82, 3), (53, .iload_n 2, 1), (54, .iconst 0, 1), (55, .bastore, 1), (56, .iinc 2 1, 3), (59, .goto (-47), 3), (62, .return_, 1)]
theorem dt_M_fresh : ∀ q ∈ tb_M_fresh, decode prog_14_method_45_code q.1 = .ok (q.2.1, q.2.2) := by decide +kernel
set_option maxHeartbeats 4000000 in
set_option maxRecDepth 100000 in
theorem t_M_fresh_41 (v0 : Nat) (v2 : Int32) (s0 : Int32) (s1 : Int32) (s2 : Nat) (h : HP) : xx_S (xx_D "LampYardModel" tb_M_fresh 3 1 none false) (xx_z2 (fun s : (Int32 × HP) => s.2) xz_v) (fun K => xx_L2 (fun s : (Int32 × HP) => xx_X K 12 [(0, av_R 11 (some v0)), (2, av_I s.1)] [] (s.2)) (xL_v K)) 41 [(0, av_R 11 (some v0)), (2, av_I v2)] [av_I s0, av_I s1, av_R 13 (some s2)] h (f_M_fresh_41 v0 v2 s0 s1 s2 h) := by
  unfold f_M_fresh_41
  refine xs_chk (fun hb_4 => ?_)
  refine xs_heap (hp_mo_si _ _ _ _) (fun K HC => xr_iast HC.1 24 42 (hp_in_vp hb_4) rfl rfl) (fun h_5 => ?_)
  refine xs_step (fun K HC => xr_aload_n HC.1 25 43 (n := 0) (ix := 0) (j := 0) (c := 11) (x := v0) rfl rfl rfl rfl) ?_
  refine xs_bind (fun q_6 eq_6 => ?_)
  refine xs_step (fun K HC => xr_getr HC.1 26 46 11 48 13 eq_6 rfl rfl wf_M_76 (by decide) fb_11_48 fc_11_48 fd_11_48) ?_
  refine xs_step (fun K HC => xr_iload_n HC.1 27 47 (n := 2) (ix := 2) (j := 1) (x := v2) rfl rfl rfl rfl) ?_
  refine xs_step (fun K HC => xr_iconst HC.1 28 48 (n := (0)) (0 : Int32) rfl rfl rfl) ?_
  refine xs_chk (fun hb_7 => ?_)
  refine xs_heap (hp_mo_si _ _ _ _) (fun K HC => xr_iast HC.1 29 49 (hp_in_vp hb_7) rfl rfl) (fun h_8 => ?_)
  refine xs_step (fun K HC => xr_aload_n HC.1 30 50 (n := 0) (ix := 0) (j := 0) (c := 11) (x := v0) rfl rfl rfl rfl) ?_
  refine xs_bind (fun q_9 eq_9 => ?_)
  refine xs_step (fun K HC => xr_getr HC.1 31 53 11 50 15 eq_9 rfl rfl wf_M_82 (by decide) fb_11_50 fc_11_50 fd_11_50) ?_
  refine xs_step (fun K HC => xr_iload_n HC.1 32 54 (n := 2) (ix := 2) (j := 1) (x := v2) rfl rfl rfl rfl) ?_
  refine xs_step (fun K HC => xr_iconst HC.1 33 55 (n := (0)) (0 : Int32) rfl rfl rfl) ?_
  refine xs_chk (fun hb_10 => ?_)
  refine xs_heap (hp_mo_si _ _ _ _) (fun K HC => xr_zast HC.1 34 56 (hp_in_vp hb_10) rfl rfl) (fun h_11 => ?_)
  refine xs_gen (fun v2_12 ev2_12 => ?_)
  refine xs_step (fun K HC => xr_iinc HC.1 35 59 (ix := 2) (j := 1) (n := (1)) (x := v2) v2_12 (lv' := [(0, av_R 11 (some v0)), (2, av_I v2_12)]) rfl (by rw [ev2_12]; rfl) rfl rfl (by decide) rfl) ?_
  refine xs_step (fun K HC => xr_goto HC.1 36 12 rfl (by decide)) ?_
  exact xs_back rfl (fun K q => q)
set_option maxHeartbeats 4000000 in
set_option maxRecDepth 100000 in
theorem t_M_fresh_12b (v0 : Nat) (v2 : Int32) (h : HP) : xx_S (xx_D "LampYardModel" tb_M_fresh 3 1 none false) (xx_z2 (fun s : (Int32 × HP) => s.2) xz_v) (fun K => xx_L2 (fun s : (Int32 × HP) => xx_X K 12 [(0, av_R 11 (some v0)), (2, av_I s.1)] [] (s.2)) (xL_v K)) 12 [(0, av_R 11 (some v0)), (2, av_I v2)] [] h (f_M_fresh_12b v0 v2 h) := by
  unfold f_M_fresh_12b
  refine xs_step (fun K HC => xr_iload_n HC.1 8 13 (n := 2) (ix := 2) (j := 1) (x := v2) rfl rfl rfl rfl) ?_
  refine xs_step (fun K HC => xr_bipush HC.1 9 15 (n := (6)) (6 : Int32) rfl rfl rfl) ?_
  refine xs_ite (fun K HC => xr_icmp_ge HC.1 10 62 18 rfl (by decide) rfl) ?_ ?_
  · exact xs_ret 37 rfl rfl (fun K q => q)
  refine xs_step (fun K HC => xr_aload_n HC.1 11 19 (n := 0) (ix := 0) (j := 0) (c := 11) (x := v0) rfl rfl rfl rfl) ?_
  refine xs_bind (fun q_3 eq_3 => ?_)
  refine xs_step (fun K HC => xr_getr HC.1 12 22 11 47 13 eq_3 rfl rfl wf_M_73 (by decide) fb_11_47 fc_11_47 fd_11_47) ?_
  refine xs_step (fun K HC => xr_iload_n HC.1 13 23 (n := 2) (ix := 2) (j := 1) (x := v2) rfl rfl rfl rfl) ?_
  refine xs_step (fun K HC => xr_iload_n HC.1 14 24 (n := 2) (ix := 2) (j := 1) (x := v2) rfl rfl rfl rfl) ?_
  refine xs_step (fun K HC => xr_aload_n HC.1 15 25 (n := 0) (ix := 0) (j := 0) (c := 11) (x := v0) rfl rfl rfl rfl) ?_
  refine xs_step (fun K HC => xr_geti HC.1 16 28 11 33 rfl rfl wf_M_401 (by decide) fb_11_33 fc_11_33) ?_
  refine xs_ite (fun K HC => xr_icmp_ge HC.1 17 40 31 rfl (by decide) rfl) ?_ ?_
  · refine xs_step (fun K HC => xr_iconst HC.1 23 41 (n := (0)) (0 : Int32) rfl rfl rfl) ?_
    exact t_M_fresh_41 v0 v2 (0 : Int32) v2 q_3 h
  refine xs_step (fun K HC => xr_aload_n HC.1 18 32 (n := 0) (ix := 0) (j := 0) (c := 11) (x := v0) rfl rfl rfl rfl) ?_
  refine xs_bind (fun q_13 eq_13 => ?_)
  refine xs_step (fun K HC => xr_getr HC.1 19 35 11 15 13 eq_13 rfl rfl wf_M_33 (by decide) fb_11_15 fc_11_15 fd_11_15) ?_
  refine xs_step (fun K HC => xr_iload_n HC.1 20 36 (n := 2) (ix := 2) (j := 1) (x := v2) rfl rfl rfl rfl) ?_
  refine xs_chk (fun hb_14 => ?_)
  refine xs_step (fun K HC => xr_iald HC.1 21 37 (hp_in_vp hb_14) rfl rfl) ?_
  refine xs_step (fun K HC => xr_goto HC.1 22 41 rfl (by decide)) ?_
  exact t_M_fresh_41 v0 v2 (hp_i h q_13 (v2).toNatClampNeg) v2 q_3 h
theorem t_M_fresh_12 (v0 : Nat) (v2 : Int32) (h : HP) : xx_S (xx_D "LampYardModel" tb_M_fresh 3 1 none false) xz_v (fun K => xL_v K) 12 [(0, av_R 11 (some v0)), (2, av_I v2)] [] h (f_M_fresh_12 v0 v2 h) :=
  xs_loop (zf := xz_v) (L := (fun K => xL_v K)) (fun s : (Int32 × HP) => [(0, av_R 11 (some v0)), (2, av_I s.1)]) (fun s : (Int32 × HP) => s.2) (fun s => t_M_fresh_12b v0 s.1 s.2) (v2, h)
set_option maxHeartbeats 4000000 in
set_option maxRecDepth 100000 in
theorem t_M_fresh (v0 : Nat) (v1 : Int32) (h : HP) : xx_S (xx_D "LampYardModel" tb_M_fresh 3 1 none false) xz_v (fun K => xL_v K) 0 [(0, av_R 11 (some v0)), (1, av_I v1)] [] h (f_M_fresh v0 v1 h) := by
  unfold f_M_fresh
  refine xs_step (fun K HC => xr_aload_n HC.1 0 1 (n := 0) (ix := 0) (j := 0) (c := 11) (x := v0) rfl rfl rfl rfl) ?_
  refine xs_step (fun K HC => xr_iload_n HC.1 1 2 (n := 1) (ix := 1) (j := 1) (x := v1) rfl rfl rfl rfl) ?_
  refine xs_heap (hp_mo_si _ _ _ _) (fun K HC => xr_puti HC.1 2 5 11 51 rfl rfl wf_M_413 (by decide) fb_11_51 fn_11_51 fy_11_51) (fun h_1 => ?_)
  refine xs_step (fun K HC => xr_aload_n HC.1 3 6 (n := 0) (ix := 0) (j := 0) (c := 11) (x := v0) rfl rfl rfl rfl) ?_
  refine xs_step (fun K HC => xr_iconst HC.1 4 7 (n := (0)) (0 : Int32) rfl rfl rfl) ?_
  refine xs_heap (hp_mo_si _ _ _ _) (fun K HC => xr_puti HC.1 5 10 11 52 rfl rfl wf_M_416 (by decide) fb_11_52 fn_11_52 fy_11_52) (fun h_2 => ?_)
  refine xs_step (fun K HC => xr_iconst HC.1 6 11 (n := (0)) (0 : Int32) rfl rfl rfl) ?_
  refine xs_step (fun K HC => xr_istore_n HC.1 7 12 (n := 2) (ix := 2) (lv' := [(0, av_R 11 (some v0)), (1, av_I v1), (2, av_I (0 : Int32))]) rfl rfl rfl (by decide) rfl) ?_
  refine xs_step (fun K HC => xr_sub (lv' := [(0, av_R 11 (some v0)), (2, av_I (0 : Int32))]) [0, 2] rfl) ?_
  exact t_M_fresh_12 v0 (0 : Int32) h_2
theorem s_M_fresh (v0 : Nat) (v1 : Int32) (h : HP) : ∀ x, f_M_fresh v0 v1 h = some x → hp_mo h x ∧ ∀ g l, xx_M g l y_M_fresh prog_14_method_45_code 3 none 1 [av_R 11 (some v0), av_I v1] h none x :=
  xM_v (tb := tb_M_fresh) (b := false) (by decide +kernel) dt_M_fresh trivial (Nat.le_of_ble_eq_true rfl) (fun hb => by cases hb) (t_M_fresh v0 v1 h)
def tb_M_beginWith : TBL := [(0, .aload_n 0, 1), (1, .iload_n 1, 1), (2, .invokevirtual 448, 3), (5, .aload_n 0, 1), (6, .iconst 0, 1), (7, .putfield 451, 3), (10, .aload_n 0, 1), (11, .iconst 0, 1), (12, .putfield 454, 3), (15, .iconst 0, 1), (16, .istore_n 2, 1), (17, .iload_n 2, 1), (18, .bipush 6, 2), (20, .if_icmp .ge 16, 3), (23, .aload_n 0, 1), (24, .getfield 79, 3), (27, .iload_n 2, 1), (28, .iconst 0, 1), (29, .iastore, 1), (30, .iinc 2 1, 3), (33, .goto (-16), 3), (36, .return_, 1)]
theorem dt_M_beginWith : ∀ q ∈ tb_M_beginWith, decode prog_14_method_48_code q.1 = .ok (q.2.1, q.2.2) := by decide +kernel
set_option maxHeartbeats 4000000 in
set_option maxRecDepth 100000 in
theorem t_M_beginWith_17b (v0 : Nat) (v2 : Int32) (h : HP) : xx_S (xx_D "LampYardModel" tb_M_beginWith 3 2 none false) (xx_z2 (fun s : (Int32 × HP) => s.2) xz_v) (fun K => xx_L2 (fun s : (Int32 × HP) => xx_X K 17 [(0, av_R 11 (some v0)), (2, av_I s.1)] [] (s.2)) (xL_v K)) 17 [(0, av_R 11 (some v0)), (2, av_I v2)] [] h (f_M_beginWith_17b v0 v2 h) := by
  unfold f_M_beginWith_17b
  refine xs_step (fun K HC => xr_iload_n HC.1 11 18 (n := 2) (ix := 2) (j := 1) (x := v2) rfl rfl rfl rfl) ?_
  refine xs_step (fun K HC => xr_bipush HC.1 12 20 (n := (6)) (6 : Int32) rfl rfl rfl) ?_
  refine xs_ite (fun K HC => xr_icmp_ge HC.1 13 36 23 rfl (by decide) rfl) ?_ ?_
  · exact xs_ret 21 rfl rfl (fun K q => q)
  refine xs_step (fun K HC => xr_aload_n HC.1 14 24 (n := 0) (ix := 0) (j := 0) (c := 11) (x := v0) rfl rfl rfl rfl) ?_
  refine xs_bind (fun q_4 eq_4 => ?_)
  refine xs_step (fun K HC => xr_getr HC.1 15 27 11 49 13 eq_4 rfl rfl wf_M_79 (by decide) fb_11_49 fc_11_49 fd_11_49) ?_
  refine xs_step (fun K HC => xr_iload_n HC.1 16 28 (n := 2) (ix := 2) (j := 1) (x := v2) rfl rfl rfl rfl) ?_
  refine xs_step (fun K HC => xr_iconst HC.1 17 29 (n := (0)) (0 : Int32) rfl rfl rfl) ?_
  refine xs_chk (fun hb_5 => ?_)
  refine xs_heap (hp_mo_si _ _ _ _) (fun K HC => xr_iast HC.1 18 30 (hp_in_vp hb_5) rfl rfl) (fun h_6 => ?_)
  refine xs_gen (fun v2_7 ev2_7 => ?_)
  refine xs_step (fun K HC => xr_iinc HC.1 19 33 (ix := 2) (j := 1) (n := (1)) (x := v2) v2_7 (lv' := [(0, av_R 11 (some v0)), (2, av_I v2_7)]) rfl (by rw [ev2_7]; rfl) rfl rfl (by decide) rfl) ?_
  refine xs_step (fun K HC => xr_goto HC.1 20 17 rfl (by decide)) ?_
  exact xs_back rfl (fun K q => q)
theorem t_M_beginWith_17 (v0 : Nat) (v2 : Int32) (h : HP) : xx_S (xx_D "LampYardModel" tb_M_beginWith 3 2 none false) xz_v (fun K => xL_v K) 17 [(0, av_R 11 (some v0)), (2, av_I v2)] [] h (f_M_beginWith_17 v0 v2 h) :=
  xs_loop (zf := xz_v) (L := (fun K => xL_v K)) (fun s : (Int32 × HP) => [(0, av_R 11 (some v0)), (2, av_I s.1)]) (fun s : (Int32 × HP) => s.2) (fun s => t_M_beginWith_17b v0 s.1 s.2) (v2, h)
set_option maxHeartbeats 4000000 in
set_option maxRecDepth 100000 in
theorem t_M_beginWith (v0 : Nat) (v1 : Int32) (h : HP) : xx_S (xx_D "LampYardModel" tb_M_beginWith 3 2 none false) xz_v (fun K => xL_v K) 0 [(0, av_R 11 (some v0)), (1, av_I v1)] [] h (f_M_beginWith v0 v1 h) := by
  unfold f_M_beginWith
  refine xs_step (fun K HC => xr_aload_n HC.1 0 1 (n := 0) (ix := 0) (j := 0) (c := 11) (x := v0) rfl rfl rfl rfl) ?_
  refine xs_step (fun K HC => xr_iload_n HC.1 1 2 (n := 1) (ix := 1) (j := 1) (x := v1) rfl rfl rfl rfl) ?_
  refine xs_callv (s_M_fresh v0 v1 h) (fun K HC x9 hM hmo hb => xr_callV HC.1 2 5 (av := [av_I v1]) (st := []) (hM (kg K) (cx_l (kx K))) hmo hb rfl rfl wm_M_448 wi_M_fresh ws_M_fresh wc_M_fresh rfl wh_M_fresh (by decide) (by decide) (by decide) (Nat.le_of_ble_eq_true rfl) rfl) (fun x_1 => ?_)
  refine xs_step (fun K HC => xr_aload_n HC.1 3 6 (n := 0) (ix := 0) (j := 0) (c := 11) (x := v0) rfl rfl rfl rfl) ?_
  refine xs_step (fun K HC => xr_iconst HC.1 4 7 (n := (0)) (0 : Int32) rfl rfl rfl) ?_
  refine xs_heap (hp_mo_si _ _ _ _) (fun K HC => xr_puti HC.1 5 10 11 55 rfl rfl wf_M_451 (by decide) fb_11_55 fn_11_55 fy_11_55) (fun h_2 => ?_)
  refine xs_step (fun K HC => xr_aload_n HC.1 6 11 (n := 0) (ix := 0) (j := 0) (c := 11) (x := v0) rfl rfl rfl rfl) ?_
  refine xs_step (fun K HC => xr_iconst HC.1 7 12 (n := (0)) (0 : Int32) rfl rfl rfl) ?_
  refine xs_heap (hp_mo_si _ _ _ _) (fun K HC => xr_putz HC.1 8 15 11 56 (Or.inl rfl) rfl rfl wf_M_454 (by decide) fb_11_56 fn_11_56 fy_11_56) (fun h_3 => ?_)
  refine xs_step (fun K HC => xr_iconst HC.1 9 16 (n := (0)) (0 : Int32) rfl rfl rfl) ?_
  refine xs_step (fun K HC => xr_istore_n HC.1 10 17 (n := 2) (ix := 2) (lv' := [(0, av_R 11 (some v0)), (1, av_I v1), (2, av_I (0 : Int32))]) rfl rfl rfl (by decide) rfl) ?_
  refine xs_step (fun K HC => xr_sub (lv' := [(0, av_R 11 (some v0)), (2, av_I (0 : Int32))]) [0, 2] rfl) ?_
  exact t_M_beginWith_17 v0 (0 : Int32) h_3
theorem s_M_beginWith (v0 : Nat) (v1 : Int32) (h : HP) : ∀ x, f_M_beginWith v0 v1 h = some x → hp_mo h x ∧ ∀ g l, xx_M g l y_M_beginWith prog_14_method_48_code 3 none 2 [av_R 11 (some v0), av_I v1] h none x :=
  xM_v (tb := tb_M_beginWith) (b := false) (by decide +kernel) dt_M_beginWith trivial (Nat.le_of_ble_eq_true rfl) (fun hb => by cases hb) (t_M_beginWith v0 v1 h)
