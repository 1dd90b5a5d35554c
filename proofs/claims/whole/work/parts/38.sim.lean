def tb_Fa_putFaulty : TBL := [(0, .iload 4, 2), (2, .ifCond .ne 35, 3), (5, .iconst 0, 1), (6, .istore 5, 2), (8, .iload 5, 2), (10, .aload_n 1, 1), (11, .getfield 70, 3), (14, .if_icmp .ge 20, 3), (17, .aload_n 0, 1), (18, .aload_n 1, 1), (19, .lload_n 2, 1), (20, .iload 5, 2), (22, .invokevirtual 75, 3), (25, .invokevirtual 79, 3), (28, .iinc 5 1, 3), (31, .goto (-23), 3), (34, .goto 31, 3), (37, .iload 4, 2), (39, .iconst 1, 1), (40, .if_icmp .ne 7, 3), (43, .iconst 0, 1), (44, .goto 9, 3), (47, .lload_n 2, 1), (48, .invokestatic 83, 3), (51, .iconst 1, 1), (52, .ixor, 1), (53, .istore 5, 2), (55, .aload_n 0, 1), (56, .lload_n 2, 1), (57, .iload 5, 2), (59, .invokestatic 89, 3), (62, .invokevirtual 79, 3), (65, .return_, 1)]
theorem dt_Fa_putFaulty : ∀ q ∈ tb_Fa_putFaulty, decode prog_4_method_5_code q.1 = .ok (q.2.1, q.2.2) := by decide +kernel
set_option maxHeartbeats 4000000 in
set_option maxRecDepth 100000 in
theorem t_Fa_putFaulty_8b (v0 : Nat) (v1 : Nat) (v2 : Int64) (v5 : Int32) (h : HP) : xx_S (xx_D "LampYard$Faults" tb_Fa_putFaulty 6 4 none false) (xx_z2 (fun s : (Int32 × HP) => s.2) xz_v) (fun K => xx_L2 (fun s : (Int32 × HP) => xx_X K 8 [(0, av_R 2 (some v0)), (1, av_R 4 (some v1)), (2, av_L v2), (5, av_I s.1)] [] (s.2)) (xL_v K)) 8 [(0, av_R 2 (some v0)), (1, av_R 4 (some v1)), (2, av_L v2), (5, av_I v5)] [] h (f_Fa_putFaulty_8b v0 v1 v2 v5 h) := by
  unfold f_Fa_putFaulty_8b
  refine xs_step (fun K HC => xr_iload HC.1 4 10 (ix := 5) (j := 3) (x := v5) rfl rfl rfl) ?_
  refine xs_step (fun K HC => xr_aload_n HC.1 5 11 (n := 1) (ix := 1) (j := 1) (c := 4) (x := v1) rfl rfl rfl rfl) ?_
  refine xs_step (fun K HC => xr_geti HC.1 6 14 4 5 rfl rfl wf_Fa_70 (by decide) fb_4_5 fc_4_5) ?_
  refine xs_ite (fun K HC => xr_icmp_ge HC.1 7 34 17 rfl (by decide) rfl) ?_ ?_
  · refine xs_step (fun K HC => xr_goto HC.1 16 65 rfl (by decide)) ?_
    exact xs_ret 32 rfl rfl (fun K q => q)
  refine xs_step (fun K HC => xr_aload_n HC.1 8 18 (n := 0) (ix := 0) (j := 0) (c := 2) (x := v0) rfl rfl rfl rfl) ?_
  refine xs_step (fun K HC => xr_aload_n HC.1 9 19 (n := 1) (ix := 1) (j := 1) (c := 4) (x := v1) rfl rfl rfl rfl) ?_
  refine xs_step (fun K HC => xr_lload_n HC.1 10 20 (n := 2) (ix := 2) (j := 2) (x := v2) rfl rfl rfl rfl) ?_
  refine xs_step (fun K HC => xr_iload HC.1 11 22 (ix := 5) (j := 3) (x := v5) rfl rfl rfl) ?_
  refine xs_calll (s_Pl_forgotten v1 v2 v5 h) (fun K HC x9 hM hmo hb => xr_callV HC.1 12 25 (av := [av_L v2, av_I v5]) (st := [av_R 2 (some v0)]) (hM (kg K) (cx_l (kx K))) hmo hb rfl rfl wm_Fa_75 wi_Pl_forgotten ws_Pl_forgotten wc_Pl_forgotten rfl wh_Pl_forgotten (by decide) (by decide) (by decide) (Nat.le_of_ble_eq_true rfl) rfl) (fun x_1 => ?_)
  refine xs_callv (s_Fa_putBehind v0 x_1.1 x_1.2) (fun K HC x9 hM hmo hb => xr_callV HC.1 13 28 (av := [av_L x_1.1]) (st := []) (hM (kg K) (cx_l (kx K))) hmo hb rfl rfl wm_Fa_79 wi_Fa_putBehind ws_Fa_putBehind wc_Fa_putBehind rfl wh_Fa_putBehind (by decide) (by decide) (by decide) (Nat.le_of_ble_eq_true rfl) rfl) (fun x_2 => ?_)
  refine xs_gen (fun v5_3 ev5_3 => ?_)
  refine xs_step (fun K HC => xr_iinc HC.1 14 31 (ix := 5) (j := 3) (n := (1)) (x := v5) v5_3 (lv' := [(0, av_R 2 (some v0)), (1, av_R 4 (some v1)), (2, av_L v2), (5, av_I v5_3)]) rfl (by rw [ev5_3]; rfl) rfl rfl (by decide) rfl) ?_
  refine xs_step (fun K HC => xr_goto HC.1 15 8 rfl (by decide)) ?_
  exact xs_back rfl (fun K q => q)
theorem t_Fa_putFaulty_8 (v0 : Nat) (v1 : Nat) (v2 : Int64) (v5 : Int32) (h : HP) : xx_S (xx_D "LampYard$Faults" tb_Fa_putFaulty 6 4 none false) xz_v (fun K => xL_v K) 8 [(0, av_R 2 (some v0)), (1, av_R 4 (some v1)), (2, av_L v2), (5, av_I v5)] [] h (f_Fa_putFaulty_8 v0 v1 v2 v5 h) :=
  xs_loop (zf := xz_v) (L := (fun K => xL_v K)) (fun s : (Int32 × HP) => [(0, av_R 2 (some v0)), (1, av_R 4 (some v1)), (2, av_L v2), (5, av_I s.1)]) (fun s : (Int32 × HP) => s.2) (fun s => t_Fa_putFaulty_8b v0 v1 v2 s.1 s.2) (v5, h)
set_option maxHeartbeats 4000000 in
set_option maxRecDepth 100000 in
theorem t_Fa_putFaulty_53 (v0 : Nat) (v2 : Int64) (s0 : Int32) (h : HP) : xx_S (xx_D "LampYard$Faults" tb_Fa_putFaulty 6 4 none false) xz_v (fun K => xL_v K) 53 [(0, av_R 2 (some v0)), (2, av_L v2)] [av_I s0] h (f_Fa_putFaulty_53 v0 v2 s0 h) := by
  unfold f_Fa_putFaulty_53
  refine xs_step (fun K HC => xr_istore HC.1 26 55 (ix := 5) (lv' := [(0, av_R 2 (some v0)), (2, av_L v2), (5, av_I s0)]) rfl rfl (by decide) rfl) ?_
  refine xs_step (fun K HC => xr_aload_n HC.1 27 56 (n := 0) (ix := 0) (j := 0) (c := 2) (x := v0) rfl rfl rfl rfl) ?_
  refine xs_step (fun K HC => xr_lload_n HC.1 28 57 (n := 2) (ix := 2) (j := 1) (x := v2) rfl rfl rfl rfl) ?_
  refine xs_step (fun K HC => xr_iload HC.1 29 59 (ix := 5) (j := 2) (x := s0) rfl rfl rfl) ?_
  refine xs_calll (s_St_withLamps v2 s0 h) (fun K HC x9 hM hmo hb => xr_callS HC.1 30 62 (av := [av_L v2, av_I s0]) (st := [av_R 2 (some v0)]) (hM (kg K) (cx_l (kx K))) hmo hb rfl rfl wm_Fa_89 wt_St_withLamps wn_St_withLamps wc_St_withLamps wh_St_withLamps (by decide) (by decide) (Nat.le_of_ble_eq_true rfl) rfl) (fun x_4 => ?_)
  refine xs_callv (s_Fa_putBehind v0 x_4.1 x_4.2) (fun K HC x9 hM hmo hb => xr_callV HC.1 31 65 (av := [av_L x_4.1]) (st := []) (hM (kg K) (cx_l (kx K))) hmo hb rfl rfl wm_Fa_79 wi_Fa_putBehind ws_Fa_putBehind wc_Fa_putBehind rfl wh_Fa_putBehind (by decide) (by decide) (by decide) (Nat.le_of_ble_eq_true rfl) rfl) (fun x_5 => ?_)
  exact xs_ret 32 rfl rfl (fun K q => q)
set_option maxHeartbeats 4000000 in
set_option maxRecDepth 100000 in
theorem t_Fa_putFaulty (v0 : Nat) (v1 : Nat) (v2 : Int64) (v4 : Int32) (h : HP) : xx_S (xx_D "LampYard$Faults" tb_Fa_putFaulty 6 4 none false) xz_v (fun K => xL_v K) 0 [(0, av_R 2 (some v0)), (1, av_R 4 (some v1)), (2, av_L v2), (4, av_I v4)] [] h (f_Fa_putFaulty v0 v1 v2 v4 h) := by
  unfold f_Fa_putFaulty
  refine xs_step (fun K HC => xr_iload HC.1 0 2 (ix := 4) (j := 3) (x := v4) rfl rfl rfl) ?_
  refine xs_ite (fun K HC a b => xr_if_ne HC.1 1 37 5 rfl (by decide) rfl b a) ?_ ?_
  · refine xs_step (fun K HC => xr_iconst HC.1 2 6 (n := (0)) (0 : Int32) rfl rfl rfl) ?_
    refine xs_step (fun K HC => xr_istore HC.1 3 8 (ix := 5) (lv' := [(0, av_R 2 (some v0)), (1, av_R 4 (some v1)), (2, av_L v2), (4, av_I v4), (5, av_I (0 : Int32))]) rfl rfl (by decide) rfl) ?_
    refine xs_step (fun K HC => xr_sub (lv' := [(0, av_R 2 (some v0)), (1, av_R 4 (some v1)), (2, av_L v2), (5, av_I (0 : Int32))]) [0, 1, 2, 4] rfl) ?_
    exact t_Fa_putFaulty_8 v0 v1 v2 (0 : Int32) h
  refine xs_step (fun K HC => xr_iload HC.1 17 39 (ix := 4) (j := 3) (x := v4) rfl rfl rfl) ?_
  refine xs_step (fun K HC => xr_iconst HC.1 18 40 (n := (1)) (1 : Int32) rfl rfl rfl) ?_
  refine xs_ite (fun K HC a b => xr_icmp_ne HC.1 19 47 43 rfl (by decide) rfl b a) ?_ ?_
  · refine xs_step (fun K HC => xr_iconst HC.1 20 44 (n := (0)) (0 : Int32) rfl rfl rfl) ?_
    refine xs_step (fun K HC => xr_goto HC.1 21 53 rfl (by decide)) ?_
    refine xs_step (fun K HC => xr_sub (lv' := [(0, av_R 2 (some v0)), (2, av_L v2)]) [0, 2] rfl) ?_
    exact t_Fa_putFaulty_53 v0 v2 (0 : Int32) h
  refine xs_step (fun K HC => xr_lload_n HC.1 22 48 (n := 2) (ix := 2) (j := 2) (x := v2) rfl rfl rfl rfl) ?_
  refine xs_calli (s_St_lampsOf v2 h) (fun K HC x9 hM hmo hb => xr_callS HC.1 23 51 (av := [av_L v2]) (st := []) (hM (kg K) (cx_l (kx K))) hmo hb rfl rfl wm_Fa_83 wt_St_lampsOf wn_St_lampsOf wc_St_lampsOf wh_St_lampsOf (by decide) (by decide) (Nat.le_of_ble_eq_true rfl) rfl) (fun x_6 => ?_)
  refine xs_step (fun K HC => xr_iconst HC.1 24 52 (n := (1)) (1 : Int32) rfl rfl rfl) ?_
  refine xs_step (fun K HC => xr_ixor HC.1 25 53 rfl rfl) ?_
  refine xs_step (fun K HC => xr_sub (lv' := [(0, av_R 2 (some v0)), (2, av_L v2)]) [0, 2] rfl) ?_
  exact t_Fa_putFaulty_53 v0 v2 (x_6.1 ^^^ (1 : Int32)) x_6.2
theorem s_Fa_putFaulty (v0 : Nat) (v1 : Nat) (v2 : Int64) (v4 : Int32) (h : HP) : ∀ x, f_Fa_putFaulty v0 v1 v2 v4 h = some x → hp_mo h x ∧ ∀ g l, xx_M g l y_Fa_putFaulty prog_4_method_5_code 6 none 4 [av_R 2 (some v0), av_R 4 (some v1), av_L v2, av_I v4] h none x :=
  xM_v (tb := tb_Fa_putFaulty) (b := false) (by decide +kernel) dt_Fa_putFaulty trivial (Nat.le_of_ble_eq_true rfl) (fun hb => by cases hb) (t_Fa_putFaulty v0 v1 v2 v4 h)
def tb_Fa_saysWrongly : TBL := [(0, .aload_n 1, 1), (1, .getfield 51, 3), (4, .astore 4, 2), (6, .iconst 0, 1), (7, .istore 5, 2), (9, .iconst 0, 1), (10, .istore 6, 2), (12, .iload 6, 2), (14, .aload 4, 2), (16, .getfield 70, 3), (19, .if_icmp .ge 73, 3), (22, .aload_n 1, 1), (23, .getfield 95, 3), (26, .aload 4, 2), (28, .lload_n 2, 1), (29, .iload 6, 2), (31, .invokevirtual 99, 3), (34, .istore 7, 2), (36, .aload 4, 2), (38, .lload_n 2, 1), (39, .iload 6, 2), (41, .iload 7, 2), (43, .invokevirtual 105, 3), (46, .lstore 8, 2), (48, .iload 7, 2), (50, .sipush 128, 3), (53, .iand, 1), (54, .ifCond .ne 12, 3), (57, .aload_n 0, 1), (58, .lload 8, 2), (60, .invokevirtual 79, 3), (63, .goto 23, 3), (66, .iload 5, 2), (68, .aload 4, 2), (70, .lload 8, 2), (72, .invokevirtual 109, 3), (75, .ifCond .ne 7, 3), (78, .iconst 1, 1), (79, .goto 4, 3), (82, .iconst 0, 1), (83, .ior, 1), (84, .istore 5, 2), (86, .iinc 6 1, 3), (89, .goto (-77), 3), (92, .iload 5, 2), (94, .ireturn, 1)]
theorem dt_Fa_saysWrongly : ∀ q ∈ tb_Fa_saysWrongly, decode prog_4_method_7_code q.1 = .ok (q.2.1, q.2.2) := by decide +kernel
set_option maxHeartbeats 4000000 in
set_option maxRecDepth 100000 in
theorem t_Fa_saysWrongly_86 (v0 : Nat) (v1 : Nat) (v2 : Int64) (v4 : Nat) (v5 : Int32) (v6 : Int32) (h : HP) : xx_S (xx_D "LampYard$Faults" tb_Fa_saysWrongly 10 5 (some .boolean) false) (xx_z2 (fun s : (Int32 × Int32 × HP) => s.2.2) xz_i) (fun K => xx_L2 (fun s : (Int32 × Int32 × HP) => xx_X K 12 [(0, av_R 2 (some v0)), (1, av_R 9 (some v1)), (2, av_L v2), (4, av_R 4 (some v4)), (5, av_I s.1), (6, av_I s.2.1)] [] (s.2.2)) (xL_i K)) 86 [(0, av_R 2 (some v0)), (1, av_R 9 (some v1)), (2, av_L v2), (4, av_R 4 (some v4)), (5, av_I v5), (6, av_I v6)] [] h (f_Fa_saysWrongly_86 v0 v1 v2 v4 v5 v6 h) := by
  unfold f_Fa_saysWrongly_86
  refine xs_gen (fun v6_7 ev6_7 => ?_)
  refine xs_step (fun K HC => xr_iinc HC.1 42 89 (ix := 6) (j := 5) (n := (1)) (x := v6) v6_7 (lv' := [(0, av_R 2 (some v0)), (1, av_R 9 (some v1)), (2, av_L v2), (4, av_R 4 (some v4)), (5, av_I v5), (6, av_I v6_7)]) rfl (by rw [ev6_7]; rfl) rfl rfl (by decide) rfl) ?_
  refine xs_step (fun K HC => xr_goto HC.1 43 12 rfl (by decide)) ?_
  exact xs_back rfl (fun K q => q)
set_option maxHeartbeats 4000000 in
set_option maxRecDepth 100000 in
theorem t_Fa_saysWrongly_83 (v0 : Nat) (v1 : Nat) (v2 : Int64) (v4 : Nat) (v6 : Int32) (s0 : Int32) (s1 : Int32) (h : HP) : xx_S (xx_D "LampYard$Faults" tb_Fa_saysWrongly 10 5 (some .boolean) false) (xx_z2 (fun s : (Int32 × Int32 × HP) => s.2.2) xz_i) (fun K => xx_L2 (fun s : (Int32 × Int32 × HP) => xx_X K 12 [(0, av_R 2 (some v0)), (1, av_R 9 (some v1)), (2, av_L v2), (4, av_R 4 (some v4)), (5, av_I s.1), (6, av_I s.2.1)] [] (s.2.2)) (xL_i K)) 83 [(0, av_R 2 (some v0)), (1, av_R 9 (some v1)), (2, av_L v2), (4, av_R 4 (some v4)), (6, av_I v6)] [av_I s0, av_I s1] h (f_Fa_saysWrongly_83 v0 v1 v2 v4 v6 s0 s1 h) := by
  unfold f_Fa_saysWrongly_83
  refine xs_step (fun K HC => xr_ior HC.1 40 84 rfl rfl) ?_
  refine xs_topi (fun v5_9 => ?_)
  refine xs_step (fun K HC => xr_istore HC.1 41 86 (ix := 5) (lv' := [(0, av_R 2 (some v0)), (1, av_R 9 (some v1)), (2, av_L v2), (4, av_R 4 (some v4)), (5, av_I v5_9), (6, av_I v6)]) rfl rfl (by decide) rfl) ?_
  exact t_Fa_saysWrongly_86 v0 v1 v2 v4 v5_9 v6 h
set_option maxHeartbeats 4000000 in
set_option maxRecDepth 100000 in
theorem t_Fa_saysWrongly_12b (v0 : Nat) (v1 : Nat) (v2 : Int64) (v4 : Nat) (v5 : Int32) (v6 : Int32) (h : HP) : xx_S (xx_D "LampYard$Faults" tb_Fa_saysWrongly 10 5 (some .boolean) false) (xx_z2 (fun s : (Int32 × Int32 × HP) => s.2.2) xz_i) (fun K => xx_L2 (fun s : (Int32 × Int32 × HP) => xx_X K 12 [(0, av_R 2 (some v0)), (1, av_R 9 (some v1)), (2, av_L v2), (4, av_R 4 (some v4)), (5, av_I s.1), (6, av_I s.2.1)] [] (s.2.2)) (xL_i K)) 12 [(0, av_R 2 (some v0)), (1, av_R 9 (some v1)), (2, av_L v2), (4, av_R 4 (some v4)), (5, av_I v5), (6, av_I v6)] [] h (f_Fa_saysWrongly_12b v0 v1 v2 v4 v5 v6 h) := by
  unfold f_Fa_saysWrongly_12b
  refine xs_step (fun K HC => xr_iload HC.1 7 14 (ix := 6) (j := 5) (x := v6) rfl rfl rfl) ?_
  refine xs_step (fun K HC => xr_aload HC.1 8 16 (ix := 4) (j := 3) (c := 4) (x := v4) rfl rfl rfl) ?_
  refine xs_step (fun K HC => xr_geti HC.1 9 19 4 5 rfl rfl wf_Fa_70 (by decide) fb_4_5 fc_4_5) ?_
  refine xs_ite (fun K HC => xr_icmp_ge HC.1 10 92 22 rfl (by decide) rfl) ?_ ?_
  · refine xs_step (fun K HC => xr_iload HC.1 44 94 (ix := 5) (j := 4) (x := v5) rfl rfl rfl) ?_
    refine xs_chk (fun hz_2 => ?_)
    exact xs_reti 45 rfl rfl (fun K q => q) (fun ty ht => by cases ht; rcases hp_z01_or hz_2 with e9 | e9 <;> rw [e9] <;> rfl)
  refine xs_step (fun K HC => xr_aload_n HC.1 11 23 (n := 1) (ix := 1) (j := 1) (c := 9) (x := v1) rfl rfl rfl rfl) ?_
  refine xs_bind (fun q_3 eq_3 => ?_)
  refine xs_step (fun K HC => xr_getr HC.1 12 26 9 0 8 eq_3 rfl rfl wf_Fa_95 (by decide) fb_9_0 fc_9_0 fd_9_0) ?_
  refine xs_step (fun K HC => xr_aload HC.1 13 28 (ix := 4) (j := 3) (c := 4) (x := v4) rfl rfl rfl) ?_
  refine xs_step (fun K HC => xr_lload_n HC.1 14 29 (n := 2) (ix := 2) (j := 2) (x := v2) rfl rfl rfl rfl) ?_
  refine xs_step (fun K HC => xr_iload HC.1 15 31 (ix := 6) (j := 5) (x := v6) rfl rfl rfl) ?_
  refine xs_calli (s_Sp_outcome q_3 v4 v2 v6 h) (fun K HC x9 hM hmo hb => xr_callV HC.1 16 34 (av := [av_R 4 (some v4), av_L v2, av_I v6]) (st := []) (hM (kg K) (cx_l (kx K))) hmo hb rfl rfl wm_Fa_99 wi_Sp_outcome ws_Sp_outcome wc_Sp_outcome rfl wh_Sp_outcome (by decide) (by decide) (by decide) (Nat.le_of_ble_eq_true rfl) rfl) (fun x_4 => ?_)
  refine xs_step (fun K HC => xr_istore HC.1 17 36 (ix := 7) (lv' := [(0, av_R 2 (some v0)), (1, av_R 9 (some v1)), (2, av_L v2), (4, av_R 4 (some v4)), (5, av_I v5), (6, av_I v6), (7, av_I x_4.1)]) rfl rfl (by decide) rfl) ?_
  refine xs_step (fun K HC => xr_aload HC.1 18 38 (ix := 4) (j := 3) (c := 4) (x := v4) rfl rfl rfl) ?_
  refine xs_step (fun K HC => xr_lload_n HC.1 19 39 (n := 2) (ix := 2) (j := 2) (x := v2) rfl rfl rfl rfl) ?_
  refine xs_step (fun K HC => xr_iload HC.1 20 41 (ix := 6) (j := 5) (x := v6) rfl rfl rfl) ?_
  refine xs_step (fun K HC => xr_iload HC.1 21 43 (ix := 7) (j := 6) (x := x_4.1) rfl rfl rfl) ?_
  refine xs_calll (s_Pl_after v4 v2 v6 x_4.1 x_4.2) (fun K HC x9 hM hmo hb => xr_callV HC.1 22 46 (av := [av_L v2, av_I v6, av_I x_4.1]) (st := []) (hM (kg K) (cx_l (kx K))) hmo hb rfl rfl wm_Fa_105 wi_Pl_after ws_Pl_after wc_Pl_after rfl wh_Pl_after (by decide) (by decide) (by decide) (Nat.le_of_ble_eq_true rfl) rfl) (fun x_5 => ?_)
  refine xs_step (fun K HC => xr_lstore HC.1 23 48 (ix := 8) (lv' := [(0, av_R 2 (some v0)), (1, av_R 9 (some v1)), (2, av_L v2), (4, av_R 4 (some v4)), (5, av_I v5), (6, av_I v6), (7, av_I x_4.1), (8, av_L x_5.1)]) rfl rfl (by decide) rfl) ?_
  refine xs_step (fun K HC => xr_iload HC.1 24 50 (ix := 7) (j := 6) (x := x_4.1) rfl rfl rfl) ?_
  refine xs_step (fun K HC => xr_sipush HC.1 25 53 (n := (128)) (128 : Int32) rfl rfl rfl) ?_
  refine xs_step (fun K HC => xr_iand HC.1 26 54 rfl rfl) ?_
  refine xs_ite (fun K HC a b => xr_if_ne HC.1 27 66 57 rfl (by decide) rfl b a) ?_ ?_
  · refine xs_step (fun K HC => xr_aload_n HC.1 28 58 (n := 0) (ix := 0) (j := 0) (c := 2) (x := v0) rfl rfl rfl rfl) ?_
    refine xs_step (fun K HC => xr_lload HC.1 29 60 (ix := 8) (j := 7) (x := x_5.1) rfl rfl rfl) ?_
    refine xs_callv (s_Fa_putBehind v0 x_5.1 x_5.2) (fun K HC x9 hM hmo hb => xr_callV HC.1 30 63 (av := [av_L x_5.1]) (st := []) (hM (kg K) (cx_l (kx K))) hmo hb rfl rfl wm_Fa_79 wi_Fa_putBehind ws_Fa_putBehind wc_Fa_putBehind rfl wh_Fa_putBehind (by decide) (by decide) (by decide) (Nat.le_of_ble_eq_true rfl) rfl) (fun x_6 => ?_)
    refine xs_step (fun K HC => xr_goto HC.1 31 86 rfl (by decide)) ?_
    refine xs_step (fun K HC => xr_sub (lv' := [(0, av_R 2 (some v0)), (1, av_R 9 (some v1)), (2, av_L v2), (4, av_R 4 (some v4)), (5, av_I v5), (6, av_I v6)]) [0, 1, 2, 3, 4, 5] rfl) ?_
    exact t_Fa_saysWrongly_86 v0 v1 v2 v4 v5 v6 x_6
  refine xs_step (fun K HC => xr_iload HC.1 32 68 (ix := 5) (j := 4) (x := v5) rfl rfl rfl) ?_
  refine xs_step (fun K HC => xr_aload HC.1 33 70 (ix := 4) (j := 3) (c := 4) (x := v4) rfl rfl rfl) ?_
  refine xs_step (fun K HC => xr_lload HC.1 34 72 (ix := 8) (j := 7) (x := x_5.1) rfl rfl rfl) ?_
  refine xs_calli (s_Pl_haveAllBeen v4 x_5.1 x_5.2) (fun K HC x9 hM hmo hb => xr_callV HC.1 35 75 (av := [av_L x_5.1]) (st := [av_I v5]) (hM (kg K) (cx_l (kx K))) hmo hb rfl rfl wm_Fa_109 wi_Pl_haveAllBeen ws_Pl_haveAllBeen wc_Pl_haveAllBeen rfl wh_Pl_haveAllBeen (by decide) (by decide) (by decide) (Nat.le_of_ble_eq_true rfl) rfl) (fun x_8 => ?_)
  refine xs_ite (fun K HC a b => xr_if_ne HC.1 36 82 78 rfl (by decide) rfl b a) ?_ ?_
  · refine xs_step (fun K HC => xr_iconst HC.1 37 79 (n := (1)) (1 : Int32) rfl rfl rfl) ?_
    refine xs_step (fun K HC => xr_goto HC.1 38 83 rfl (by decide)) ?_
    refine xs_step (fun K HC => xr_sub (lv' := [(0, av_R 2 (some v0)), (1, av_R 9 (some v1)), (2, av_L v2), (4, av_R 4 (some v4)), (6, av_I v6)]) [0, 1, 2, 3, 5] rfl) ?_
    exact t_Fa_saysWrongly_83 v0 v1 v2 v4 v6 (1 : Int32) v5 x_8.2
  refine xs_step (fun K HC => xr_iconst HC.1 39 83 (n := (0)) (0 : Int32) rfl rfl rfl) ?_
  refine xs_step (fun K HC => xr_sub (lv' := [(0, av_R 2 (some v0)), (1, av_R 9 (some v1)), (2, av_L v2), (4, av_R 4 (some v4)), (6, av_I v6)]) [0, 1, 2, 3, 5] rfl) ?_
  exact t_Fa_saysWrongly_83 v0 v1 v2 v4 v6 (0 : Int32) v5 x_8.2
theorem t_Fa_saysWrongly_12 (v0 : Nat) (v1 : Nat) (v2 : Int64) (v4 : Nat) (v5 : Int32) (v6 : Int32) (h : HP) : xx_S (xx_D "LampYard$Faults" tb_Fa_saysWrongly 10 5 (some .boolean) false) xz_i (fun K => xL_i K) 12 [(0, av_R 2 (some v0)), (1, av_R 9 (some v1)), (2, av_L v2), (4, av_R 4 (some v4)), (5, av_I v5), (6, av_I v6)] [] h (f_Fa_saysWrongly_12 v0 v1 v2 v4 v5 v6 h) :=
  xs_loop (zf := xz_i) (L := (fun K => xL_i K)) (fun s : (Int32 × Int32 × HP) => [(0, av_R 2 (some v0)), (1, av_R 9 (some v1)), (2, av_L v2), (4, av_R 4 (some v4)), (5, av_I s.1), (6, av_I s.2.1)]) (fun s : (Int32 × Int32 × HP) => s.2.2) (fun s => t_Fa_saysWrongly_12b v0 v1 v2 v4 s.1 s.2.1 s.2.2) (v5, v6, h)
set_option maxHeartbeats 4000000 in
set_option maxRecDepth 100000 in
theorem t_Fa_saysWrongly (v0 : Nat) (v1 : Nat) (v2 : Int64) (h : HP) : xx_S (xx_D "LampYard$Faults" tb_Fa_saysWrongly 10 5 (some .boolean) false) xz_i (fun K => xL_i K) 0 [(0, av_R 2 (some v0)), (1, av_R 9 (some v1)), (2, av_L v2)] [] h (f_Fa_saysWrongly v0 v1 v2 h) := by
  unfold f_Fa_saysWrongly
  refine xs_step (fun K HC => xr_aload_n HC.1 0 1 (n := 1) (ix := 1) (j := 1) (c := 9) (x := v1) rfl rfl rfl rfl) ?_
  refine xs_bind (fun q_1 eq_1 => ?_)
  refine xs_step (fun K HC => xr_getr HC.1 1 4 9 4 4 eq_1 rfl rfl wf_Fa_51 (by decide) fb_9_4 fc_9_4 fd_9_4) ?_
  refine xs_step (fun K HC => xr_astore HC.1 2 6 (ix := 4) (lv' := [(0, av_R 2 (some v0)), (1, av_R 9 (some v1)), (2, av_L v2), (4, av_R 4 (some q_1))]) rfl rfl (by decide) rfl) ?_
  refine xs_step (fun K HC => xr_iconst HC.1 3 7 (n := (0)) (0 : Int32) rfl rfl rfl) ?_
  refine xs_step (fun K HC => xr_istore HC.1 4 9 (ix := 5) (lv' := [(0, av_R 2 (some v0)), (1, av_R 9 (some v1)), (2, av_L v2), (4, av_R 4 (some q_1)), (5, av_I (0 : Int32))]) rfl rfl (by decide) rfl) ?_
  refine xs_step (fun K HC => xr_iconst HC.1 5 10 (n := (0)) (0 : Int32) rfl rfl rfl) ?_
  refine xs_step (fun K HC => xr_istore HC.1 6 12 (ix := 6) (lv' := [(0, av_R 2 (some v0)), (1, av_R 9 (some v1)), (2, av_L v2), (4, av_R 4 (some q_1)), (5, av_I (0 : Int32)), (6, av_I (0 : Int32))]) rfl rfl (by decide) rfl) ?_
  exact t_Fa_saysWrongly_12 v0 v1 v2 q_1 (0 : Int32) (0 : Int32) h
theorem s_Fa_saysWrongly (v0 : Nat) (v1 : Nat) (v2 : Int64) (h : HP) : ∀ x, f_Fa_saysWrongly v0 v1 v2 h = some x → hp_mo h x.2 ∧ ∀ g l, xx_M g l y_Fa_saysWrongly prog_4_method_7_code 10 (some .boolean) 5 [av_R 2 (some v0), av_R 9 (some v1), av_L v2] h (some (av_I x.1)) x.2 :=
  xM_i (tb := tb_Fa_saysWrongly) (b := false) (by decide +kernel) dt_Fa_saysWrongly (fun _ => trivial) (Nat.le_of_ble_eq_true rfl) (fun hb => by cases hb) (t_Fa_saysWrongly v0 v1 v2 h)
def tb_Fa_lookThrough : TBL := [(0, .aload_n 0, 1), (1, .getfield 18, 3), (4, .sipush 5000, 3), (7, .aload_n 1, 1), (8, .getfield 35, 3), (11, .getfield 40, 3), (14, .isub, 1), (15, .invokevirtual 44, 3), (18, .aload_n 0, 1), (19, .iconst 0, 1), (20, .putfield 47, 3), (23, .iconst 0, 1), (24, .istore_n 3, 1), (25, .iload_n 3, 1), (26, .aload_n 1, 1), (27, .getfield 35, 3), (30, .getfield 40, 3), (33, .if_icmp .ge 33, 3), (36, .aload_n 0, 1), (37, .getfield 47, 3), (40, .ifCond .ne 26, 3), (43, .aload_n 0, 1), (44, .aload_n 1, 1), (45, .getfield 51, 3), (48, .aload_n 1, 1), (49, .getfield 35, 3), (52, .iload_n 3, 1), (53, .invokevirtual 55, 3), (56, .iload_n 2, 1), (57, .invokevirtual 59, 3), (60, .iinc 3 1, 3), (63, .goto (-38), 3), (66, .aload_n 1, 1), (67, .getfield 63, 3), (70, .ifCond .le 7, 3), (73, .iconst 1, 1), (74, .goto 4, 3), (77, .iconst 0, 1), (78, .istore_n 3, 1), (79, .iconst 0, 1), (80, .istore 4, 2), (82, .iload 4, 2), (84, .sipush 5000, 3), (87, .if_icmp .ge 45, 3), (90, .iload 4, 2), (92, .aload_n 0, 1), (93, .getfield 18, 3), (96, .getfield 40, 3), (99, .if_icmp .ge 33, 3), (102, .aload_n 0, 1), (103, .getfield 47, 3), (106, .ifCond .ne 26, 3), (109, .iload_n 3, 1), (110, .aload_n 0, 1), (111, .aload_n 1, 1), (112, .aload_n 0, 1), (113, .getfield 18, 3), (116, .iload 4, 2), (118, .invokevirtual 55, 3), (121, .invokevirtual 66, 3), (124, .ior, 1), (125, .istore_n 3, 1), (126, .iinc 4 1, 3), (129, .goto (-47), 3), (132, .aload_n 0, 1), (133, .getfield 47, 3), (136, .ifCond .eq 6, 3), (139, .bipush (-2), 2), (141, .ireturn, 1), (142, .iload_n 3, 1), (143, .ifCond .eq 7, 3), (146, .iconst 0, 1), (147, .goto 4, 3), (150, .iconst 1, 1), (151, .ireturn, 1)]
theorem dt_Fa_lookThrough : ∀ q ∈ tb_Fa_lookThrough, decode prog_4_method_4_code q.1 = .ok (q.2.1, q.2.2) := by decide +kernel
set_option maxHeartbeats 4000000 in
set_option maxRecDepth 100000 in
theorem t_Fa_lookThrough_132 (v0 : Nat) (v3 : Int32) (h : HP) : xx_S (xx_D "LampYard$Faults" tb_Fa_lookThrough 5 6 (some .int) false) xz_i (fun K => xL_i K) 132 [(0, av_R 2 (some v0)), (3, av_I v3)] [] h (f_Fa_lookThrough_132 v0 v3 h) := by
  unfold f_Fa_lookThrough_132
  refine xs_step (fun K HC => xr_aload_n HC.1 64 133 (n := 0) (ix := 0) (j := 0) (c := 2) (x := v0) rfl rfl rfl rfl) ?_
  refine xs_step (fun K HC => xr_geti HC.1 65 136 2 2 rfl rfl wf_Fa_47 (by decide) fb_2_2 fc_2_2) ?_
  refine xs_ite (fun K HC => xr_if_eq HC.1 66 142 139 rfl (by decide) rfl) ?_ ?_
  · refine xs_step (fun K HC => xr_iload_n HC.1 69 143 (n := 3) (ix := 3) (j := 1) (x := v3) rfl rfl rfl rfl) ?_
    refine xs_ite (fun K HC => xr_if_eq HC.1 70 150 146 rfl (by decide) rfl) ?_ ?_
    · refine xs_step (fun K HC => xr_iconst HC.1 73 151 (n := (1)) (1 : Int32) rfl rfl rfl) ?_
      exact xs_reti 74 rfl rfl (fun K q => q) (fun ty ht => by cases ht; rfl)
    refine xs_step (fun K HC => xr_iconst HC.1 71 147 (n := (0)) (0 : Int32) rfl rfl rfl) ?_
    refine xs_step (fun K HC => xr_goto HC.1 72 151 rfl (by decide)) ?_
    exact xs_reti 74 rfl rfl (fun K q => q) (fun ty ht => by cases ht; rfl)
  refine xs_step (fun K HC => xr_bipush HC.1 67 141 (n := (-2)) (-2 : Int32) rfl rfl rfl) ?_
  exact xs_reti 68 rfl rfl (fun K q => q) (fun ty ht => by cases ht; rfl)
set_option maxHeartbeats 4000000 in
set_option maxRecDepth 100000 in
theorem t_Fa_lookThrough_82b (v0 : Nat) (v1 : Nat) (v3 : Int32) (v4 : Int32) (h : HP) : xx_S (xx_D "LampYard$Faults" tb_Fa_lookThrough 5 6 (some .int) false) (xx_z2 (fun s : (Int32 × Int32 × HP) => s.2.2) xz_i) (fun K => xx_L2 (fun s : (Int32 × Int32 × HP) => xx_X K 82 [(0, av_R 2 (some v0)), (1, av_R 9 (some v1)), (3, av_I s.1), (4, av_I s.2.1)] [] (s.2.2)) (xL_i K)) 82 [(0, av_R 2 (some v0)), (1, av_R 9 (some v1)), (3, av_I v3), (4, av_I v4)] [] h (f_Fa_lookThrough_82b v0 v1 v3 v4 h) := by
  unfold f_Fa_lookThrough_82b
  refine xs_step (fun K HC => xr_iload HC.1 41 84 (ix := 4) (j := 3) (x := v4) rfl rfl rfl) ?_
  refine xs_step (fun K HC => xr_sipush HC.1 42 87 (n := (5000)) (5000 : Int32) rfl rfl rfl) ?_
  refine xs_ite (fun K HC => xr_icmp_ge HC.1 43 132 90 rfl (by decide) rfl) ?_ ?_
  · refine xs_step (fun K HC => xr_sub (lv' := [(0, av_R 2 (some v0)), (3, av_I v3)]) [0, 2] rfl) ?_
    exact xs_map (fun _ => rfl) (fun _ _ q => q) (t_Fa_lookThrough_132 v0 v3 h)
  refine xs_step (fun K HC => xr_iload HC.1 44 92 (ix := 4) (j := 3) (x := v4) rfl rfl rfl) ?_
  refine xs_step (fun K HC => xr_aload_n HC.1 45 93 (n := 0) (ix := 0) (j := 0) (c := 2) (x := v0) rfl rfl rfl rfl) ?_
  refine xs_bind (fun q_6 eq_6 => ?_)
  refine xs_step (fun K HC => xr_getr HC.1 46 96 2 1 7 eq_6 rfl rfl wf_Fa_18 (by decide) fb_2_1 fc_2_1 fd_2_1) ?_
  refine xs_step (fun K HC => xr_geti HC.1 47 99 7 0 rfl rfl wf_Fa_40 (by decide) fb_7_0 fc_7_0) ?_
  refine xs_ite (fun K HC => xr_icmp_ge HC.1 48 132 102 rfl (by decide) rfl) ?_ ?_
  · refine xs_step (fun K HC => xr_sub (lv' := [(0, av_R 2 (some v0)), (3, av_I v3)]) [0, 2] rfl) ?_
    exact xs_map (fun _ => rfl) (fun _ _ q => q) (t_Fa_lookThrough_132 v0 v3 h)
  refine xs_step (fun K HC => xr_aload_n HC.1 49 103 (n := 0) (ix := 0) (j := 0) (c := 2) (x := v0) rfl rfl rfl rfl) ?_
  refine xs_step (fun K HC => xr_geti HC.1 50 106 2 2 rfl rfl wf_Fa_47 (by decide) fb_2_2 fc_2_2) ?_
  refine xs_ite (fun K HC a b => xr_if_ne HC.1 51 132 109 rfl (by decide) rfl b a) ?_ ?_
  · refine xs_step (fun K HC => xr_iload_n HC.1 52 110 (n := 3) (ix := 3) (j := 2) (x := v3) rfl rfl rfl rfl) ?_
    refine xs_step (fun K HC => xr_aload_n HC.1 53 111 (n := 0) (ix := 0) (j := 0) (c := 2) (x := v0) rfl rfl rfl rfl) ?_
    refine xs_step (fun K HC => xr_aload_n HC.1 54 112 (n := 1) (ix := 1) (j := 1) (c := 9) (x := v1) rfl rfl rfl rfl) ?_
    refine xs_step (fun K HC => xr_aload_n HC.1 55 113 (n := 0) (ix := 0) (j := 0) (c := 2) (x := v0) rfl rfl rfl rfl) ?_
    refine xs_bind (fun q_7 eq_7 => ?_)
    refine xs_step (fun K HC => xr_getr HC.1 56 116 2 1 7 eq_7 rfl rfl wf_Fa_18 (by decide) fb_2_1 fc_2_1 fd_2_1) ?_
    refine xs_step (fun K HC => xr_iload HC.1 57 118 (ix := 4) (j := 3) (x := v4) rfl rfl rfl) ?_
    refine xs_calll (s_Ss_member q_7 v4 h) (fun K HC x9 hM hmo hb => xr_callV HC.1 58 121 (av := [av_I v4]) (st := [av_R 9 (some v1), av_R 2 (some v0), av_I v3]) (hM (kg K) (cx_l (kx K))) hmo hb rfl rfl wm_Fa_55 wi_Ss_member ws_Ss_member wc_Ss_member rfl wh_Ss_member (by decide) (by decide) (by decide) (Nat.le_of_ble_eq_true rfl) rfl) (fun x_8 => ?_)
    refine xs_calli (s_Fa_saysWrongly v0 v1 x_8.1 x_8.2) (fun K HC x9 hM hmo hb => xr_callV HC.1 59 124 (av := [av_R 9 (some v1), av_L x_8.1]) (st := [av_I v3]) (hM (kg K) (cx_l (kx K))) hmo hb rfl rfl wm_Fa_66 wi_Fa_saysWrongly ws_Fa_saysWrongly wc_Fa_saysWrongly rfl wh_Fa_saysWrongly (by decide) (by decide) (by decide) (Nat.le_of_ble_eq_true rfl) rfl) (fun x_9 => ?_)
    refine xs_step (fun K HC => xr_ior HC.1 60 125 rfl rfl) ?_
    refine xs_topi (fun v3_10 => ?_)
    refine xs_step (fun K HC => xr_istore_n HC.1 61 126 (n := 3) (ix := 3) (lv' := [(0, av_R 2 (some v0)), (1, av_R 9 (some v1)), (3, av_I v3_10), (4, av_I v4)]) rfl rfl rfl (by decide) rfl) ?_
    refine xs_gen (fun v4_11 ev4_11 => ?_)
    refine xs_step (fun K HC => xr_iinc HC.1 62 129 (ix := 4) (j := 3) (n := (1)) (x := v4) v4_11 (lv' := [(0, av_R 2 (some v0)), (1, av_R 9 (some v1)), (3, av_I v3_10), (4, av_I v4_11)]) rfl (by rw [ev4_11]; rfl) rfl rfl (by decide) rfl) ?_
    refine xs_step (fun K HC => xr_goto HC.1 63 82 rfl (by decide)) ?_
    exact xs_back rfl (fun K q => q)
  refine xs_step (fun K HC => xr_sub (lv' := [(0, av_R 2 (some v0)), (3, av_I v3)]) [0, 2] rfl) ?_
  exact xs_map (fun _ => rfl) (fun _ _ q => q) (t_Fa_lookThrough_132 v0 v3 h)
theorem t_Fa_lookThrough_82 (v0 : Nat) (v1 : Nat) (v3 : Int32) (v4 : Int32) (h : HP) : xx_S (xx_D "LampYard$Faults" tb_Fa_lookThrough 5 6 (some .int) false) xz_i (fun K => xL_i K) 82 [(0, av_R 2 (some v0)), (1, av_R 9 (some v1)), (3, av_I v3), (4, av_I v4)] [] h (f_Fa_lookThrough_82 v0 v1 v3 v4 h) :=
  xs_loop (zf := xz_i) (L := (fun K => xL_i K)) (fun s : (Int32 × Int32 × HP) => [(0, av_R 2 (some v0)), (1, av_R 9 (some v1)), (3, av_I s.1), (4, av_I s.2.1)]) (fun s : (Int32 × Int32 × HP) => s.2.2) (fun s => t_Fa_lookThrough_82b v0 v1 s.1 s.2.1 s.2.2) (v3, v4, h)
set_option maxHeartbeats 4000000 in
set_option maxRecDepth 100000 in
theorem t_Fa_lookThrough_78 (v0 : Nat) (v1 : Nat) (s0 : Int32) (h : HP) : xx_S (xx_D "LampYard$Faults" tb_Fa_lookThrough 5 6 (some .int) false) xz_i (fun K => xL_i K) 78 [(0, av_R 2 (some v0)), (1, av_R 9 (some v1))] [av_I s0] h (f_Fa_lookThrough_78 v0 v1 s0 h) := by
  unfold f_Fa_lookThrough_78
  refine xs_step (fun K HC => xr_istore_n HC.1 38 79 (n := 3) (ix := 3) (lv' := [(0, av_R 2 (some v0)), (1, av_R 9 (some v1)), (3, av_I s0)]) rfl rfl rfl (by decide) rfl) ?_
  refine xs_step (fun K HC => xr_iconst HC.1 39 80 (n := (0)) (0 : Int32) rfl rfl rfl) ?_
  refine xs_step (fun K HC => xr_istore HC.1 40 82 (ix := 4) (lv' := [(0, av_R 2 (some v0)), (1, av_R 9 (some v1)), (3, av_I s0), (4, av_I (0 : Int32))]) rfl rfl (by decide) rfl) ?_
  exact t_Fa_lookThrough_82 v0 v1 s0 (0 : Int32) h
set_option maxHeartbeats 4000000 in
set_option maxRecDepth 100000 in
theorem t_Fa_lookThrough_66 (v0 : Nat) (v1 : Nat) (h : HP) : xx_S (xx_D "LampYard$Faults" tb_Fa_lookThrough 5 6 (some .int) false) xz_i (fun K => xL_i K) 66 [(0, av_R 2 (some v0)), (1, av_R 9 (some v1))] [] h (f_Fa_lookThrough_66 v0 v1 h) := by
  unfold f_Fa_lookThrough_66
  refine xs_step (fun K HC => xr_aload_n HC.1 32 67 (n := 1) (ix := 1) (j := 1) (c := 9) (x := v1) rfl rfl rfl rfl) ?_
  refine xs_step (fun K HC => xr_geti HC.1 33 70 9 7 rfl rfl wf_Fa_63 (by decide) fb_9_7 fc_9_7) ?_
  refine xs_ite (fun K HC => xr_if_le HC.1 34 77 73 rfl (by decide) rfl) ?_ ?_
  · refine xs_step (fun K HC => xr_iconst HC.1 37 78 (n := (0)) (0 : Int32) rfl rfl rfl) ?_
    exact t_Fa_lookThrough_78 v0 v1 (0 : Int32) h
  refine xs_step (fun K HC => xr_iconst HC.1 35 74 (n := (1)) (1 : Int32) rfl rfl rfl) ?_
  refine xs_step (fun K HC => xr_goto HC.1 36 78 rfl (by decide)) ?_
  exact t_Fa_lookThrough_78 v0 v1 (1 : Int32) h
set_option maxHeartbeats 4000000 in
set_option maxRecDepth 100000 in
theorem t_Fa_lookThrough_25b (v0 : Nat) (v1 : Nat) (v2 : Int32) (v3 : Int32) (h : HP) : xx_S (xx_D "LampYard$Faults" tb_Fa_lookThrough 5 6 (some .int) false) (xx_z2 (fun s : (Int32 × HP) => s.2) xz_i) (fun K => xx_L2 (fun s : (Int32 × HP) => xx_X K 25 [(0, av_R 2 (some v0)), (1, av_R 9 (some v1)), (2, av_I v2), (3, av_I s.1)] [] (s.2)) (xL_i K)) 25 [(0, av_R 2 (some v0)), (1, av_R 9 (some v1)), (2, av_I v2), (3, av_I v3)] [] h (f_Fa_lookThrough_25b v0 v1 v2 v3 h) := by
  unfold f_Fa_lookThrough_25b
  refine xs_step (fun K HC => xr_iload_n HC.1 13 26 (n := 3) (ix := 3) (j := 3) (x := v3) rfl rfl rfl rfl) ?_
  refine xs_step (fun K HC => xr_aload_n HC.1 14 27 (n := 1) (ix := 1) (j := 1) (c := 9) (x := v1) rfl rfl rfl rfl) ?_
  refine xs_bind (fun q_5 eq_5 => ?_)
  refine xs_step (fun K HC => xr_getr HC.1 15 30 9 1 7 eq_5 rfl rfl wf_Fa_35 (by decide) fb_9_1 fc_9_1 fd_9_1) ?_
  refine xs_step (fun K HC => xr_geti HC.1 16 33 7 0 rfl rfl wf_Fa_40 (by decide) fb_7_0 fc_7_0) ?_
  refine xs_ite (fun K HC => xr_icmp_ge HC.1 17 66 36 rfl (by decide) rfl) ?_ ?_
  · refine xs_step (fun K HC => xr_sub (lv' := [(0, av_R 2 (some v0)), (1, av_R 9 (some v1))]) [0, 1] rfl) ?_
    exact xs_map (fun _ => rfl) (fun _ _ q => q) (t_Fa_lookThrough_66 v0 v1 h)
  refine xs_step (fun K HC => xr_aload_n HC.1 18 37 (n := 0) (ix := 0) (j := 0) (c := 2) (x := v0) rfl rfl rfl rfl) ?_
  refine xs_step (fun K HC => xr_geti HC.1 19 40 2 2 rfl rfl wf_Fa_47 (by decide) fb_2_2 fc_2_2) ?_
  refine xs_ite (fun K HC a b => xr_if_ne HC.1 20 66 43 rfl (by decide) rfl b a) ?_ ?_
  · refine xs_step (fun K HC => xr_aload_n HC.1 21 44 (n := 0) (ix := 0) (j := 0) (c := 2) (x := v0) rfl rfl rfl rfl) ?_
    refine xs_step (fun K HC => xr_aload_n HC.1 22 45 (n := 1) (ix := 1) (j := 1) (c := 9) (x := v1) rfl rfl rfl rfl) ?_
    refine xs_bind (fun q_12 eq_12 => ?_)
    refine xs_step (fun K HC => xr_getr HC.1 23 48 9 4 4 eq_12 rfl rfl wf_Fa_51 (by decide) fb_9_4 fc_9_4 fd_9_4) ?_
    refine xs_step (fun K HC => xr_aload_n HC.1 24 49 (n := 1) (ix := 1) (j := 1) (c := 9) (x := v1) rfl rfl rfl rfl) ?_
    refine xs_bind (fun q_13 eq_13 => ?_)
    refine xs_step (fun K HC => xr_getr HC.1 25 52 9 1 7 eq_13 rfl rfl wf_Fa_35 (by decide) fb_9_1 fc_9_1 fd_9_1) ?_
    refine xs_step (fun K HC => xr_iload_n HC.1 26 53 (n := 3) (ix := 3) (j := 3) (x := v3) rfl rfl rfl rfl) ?_
    refine xs_calll (s_Ss_member q_13 v3 h) (fun K HC x9 hM hmo hb => xr_callV HC.1 27 56 (av := [av_I v3]) (st := [av_R 4 (some q_12), av_R 2 (some v0)]) (hM (kg K) (cx_l (kx K))) hmo hb rfl rfl wm_Fa_55 wi_Ss_member ws_Ss_member wc_Ss_member rfl wh_Ss_member (by decide) (by decide) (by decide) (Nat.le_of_ble_eq_true rfl) rfl) (fun x_14 => ?_)
    refine xs_step (fun K HC => xr_iload_n HC.1 28 57 (n := 2) (ix := 2) (j := 2) (x := v2) rfl rfl rfl rfl) ?_
    refine xs_callv (s_Fa_putFaulty v0 q_12 x_14.1 v2 x_14.2) (fun K HC x9 hM hmo hb => xr_callV HC.1 29 60 (av := [av_R 4 (some q_12), av_L x_14.1, av_I v2]) (st := []) (hM (kg K) (cx_l (kx K))) hmo hb rfl rfl wm_Fa_59 wi_Fa_putFaulty ws_Fa_putFaulty wc_Fa_putFaulty rfl wh_Fa_putFaulty (by decide) (by decide) (by decide) (Nat.le_of_ble_eq_true rfl) rfl) (fun x_15 => ?_)
    refine xs_gen (fun v3_16 ev3_16 => ?_)
    refine xs_step (fun K HC => xr_iinc HC.1 30 63 (ix := 3) (j := 3) (n := (1)) (x := v3) v3_16 (lv' := [(0, av_R 2 (some v0)), (1, av_R 9 (some v1)), (2, av_I v2), (3, av_I v3_16)]) rfl (by rw [ev3_16]; rfl) rfl rfl (by decide) rfl) ?_
    refine xs_step (fun K HC => xr_goto HC.1 31 25 rfl (by decide)) ?_
    exact xs_back rfl (fun K q => q)
  refine xs_step (fun K HC => xr_sub (lv' := [(0, av_R 2 (some v0)), (1, av_R 9 (some v1))]) [0, 1] rfl) ?_
  exact xs_map (fun _ => rfl) (fun _ _ q => q) (t_Fa_lookThrough_66 v0 v1 h)
theorem t_Fa_lookThrough_25 (v0 : Nat) (v1 : Nat) (v2 : Int32) (v3 : Int32) (h : HP) : xx_S (xx_D "LampYard$Faults" tb_Fa_lookThrough 5 6 (some .int) false) xz_i (fun K => xL_i K) 25 [(0, av_R 2 (some v0)), (1, av_R 9 (some v1)), (2, av_I v2), (3, av_I v3)] [] h (f_Fa_lookThrough_25 v0 v1 v2 v3 h) :=
  xs_loop (zf := xz_i) (L := (fun K => xL_i K)) (fun s : (Int32 × HP) => [(0, av_R 2 (some v0)), (1, av_R 9 (some v1)), (2, av_I v2), (3, av_I s.1)]) (fun s : (Int32 × HP) => s.2) (fun s => t_Fa_lookThrough_25b v0 v1 v2 s.1 s.2) (v3, h)
set_option maxHeartbeats 4000000 in
set_option maxRecDepth 100000 in
theorem t_Fa_lookThrough (v0 : Nat) (v1 : Nat) (v2 : Int32) (h : HP) : xx_S (xx_D "LampYard$Faults" tb_Fa_lookThrough 5 6 (some .int) false) xz_i (fun K => xL_i K) 0 [(0, av_R 2 (some v0)), (1, av_R 9 (some v1)), (2, av_I v2)] [] h (f_Fa_lookThrough v0 v1 v2 h) := by
  unfold f_Fa_lookThrough
  refine xs_step (fun K HC => xr_aload_n HC.1 0 1 (n := 0) (ix := 0) (j := 0) (c := 2) (x := v0) rfl rfl rfl rfl) ?_
  refine xs_bind (fun q_1 eq_1 => ?_)
  refine xs_step (fun K HC => xr_getr HC.1 1 4 2 1 7 eq_1 rfl rfl wf_Fa_18 (by decide) fb_2_1 fc_2_1 fd_2_1) ?_
  refine xs_step (fun K HC => xr_sipush HC.1 2 7 (n := (5000)) (5000 : Int32) rfl rfl rfl) ?_
  refine xs_step (fun K HC => xr_aload_n HC.1 3 8 (n := 1) (ix := 1) (j := 1) (c := 9) (x := v1) rfl rfl rfl rfl) ?_
  refine xs_bind (fun q_2 eq_2 => ?_)
  refine xs_step (fun K HC => xr_getr HC.1 4 11 9 1 7 eq_2 rfl rfl wf_Fa_35 (by decide) fb_9_1 fc_9_1 fd_9_1) ?_
  refine xs_step (fun K HC => xr_geti HC.1 5 14 7 0 rfl rfl wf_Fa_40 (by decide) fb_7_0 fc_7_0) ?_
  refine xs_step (fun K HC => xr_isub HC.1 6 15 rfl rfl) ?_
  refine xs_callv (s_Ss_clear q_1 ((5000 : Int32) - (hp_i h q_2 0)) h) (fun K HC x9 hM hmo hb => xr_callV HC.1 7 18 (av := [av_I ((5000 : Int32) - (hp_i h q_2 0))]) (st := []) (hM (kg K) (cx_l (kx K))) hmo hb rfl rfl wm_Fa_44 wi_Ss_clear ws_Ss_clear wc_Ss_clear rfl wh_Ss_clear (by decide) (by decide) (by decide) (Nat.le_of_ble_eq_true rfl) rfl) (fun x_3 => ?_)
  refine xs_step (fun K HC => xr_aload_n HC.1 8 19 (n := 0) (ix := 0) (j := 0) (c := 2) (x := v0) rfl rfl rfl rfl) ?_
  refine xs_step (fun K HC => xr_iconst HC.1 9 20 (n := (0)) (0 : Int32) rfl rfl rfl) ?_
  refine xs_heap (hp_mo_si _ _ _ _) (fun K HC => xr_putz HC.1 10 23 2 2 (Or.inl rfl) rfl rfl wf_Fa_47 (by decide) fb_2_2 fn_2_2 fy_2_2) (fun h_4 => ?_)
  refine xs_step (fun K HC => xr_iconst HC.1 11 24 (n := (0)) (0 : Int32) rfl rfl rfl) ?_
  refine xs_step (fun K HC => xr_istore_n HC.1 12 25 (n := 3) (ix := 3) (lv' := [(0, av_R 2 (some v0)), (1, av_R 9 (some v1)), (2, av_I v2), (3, av_I (0 : Int32))]) rfl rfl rfl (by decide) rfl) ?_
  exact t_Fa_lookThrough_25 v0 v1 v2 (0 : Int32) h_4
theorem s_Fa_lookThrough (v0 : Nat) (v1 : Nat) (v2 : Int32) (h : HP) : ∀ x, f_Fa_lookThrough v0 v1 v2 h = some x → hp_mo h x.2 ∧ ∀ g l, xx_M g l y_Fa_lookThrough prog_4_method_4_code 5 (some .int) 6 [av_R 2 (some v0), av_R 9 (some v1), av_I v2] h (some (av_I x.1)) x.2 :=
  xM_i (tb := tb_Fa_lookThrough) (b := false) (by decide +kernel) dt_Fa_lookThrough (fun _ => trivial) (Nat.le_of_ble_eq_true rfl) (fun hb => by cases hb) (t_Fa_lookThrough v0 v1 v2 h)
def tb_Fa_borne : TBL := [(0, .iload_n 2, 1), (1, .ifCond .lt 8, 3), (4, .iload_n 2, 1), (5, .iconst 3, 1), (6, .if_icmp .lt 5, 3), (9, .iconst (-1), 1), (10, .ireturn, 1), (11, .aload_n 0, 1), (12, .getfield 11, 3), (15, .iload_n 2, 1), (16, .iaload, 1), (17, .bipush (-3), 2), (19, .if_icmp .ne 15, 3), (22, .aload_n 0, 1), (23, .getfield 11, 3), (26, .iload_n 2, 1), (27, .aload_n 0, 1), (28, .aload_n 1, 1), (29, .iload_n 2, 1), (30, .invokevirtual 31, 3), (33, .iastore, 1), (34, .aload_n 0, 1), (35, .getfield 11, 3), (38, .iload_n 2, 1), (39, .iaload, 1), (40, .ireturn, 1)]
theorem dt_Fa_borne : ∀ q ∈ tb_Fa_borne, decode prog_4_method_3_code q.1 = .ok (q.2.1, q.2.2) := by decide +kernel
set_option maxHeartbeats 4000000 in
set_option maxRecDepth 100000 in
theorem t_Fa_borne (v0 : Nat) (v1 : Nat) (v2 : Int32) (h : HP) : xx_S (xx_D "LampYard$Faults" tb_Fa_borne 3 7 (some .int) false) xz_i (fun K => xL_i K) 0 [(0, av_R 2 (some v0)), (1, av_R 9 (some v1)), (2, av_I v2)] [] h (f_Fa_borne v0 v1 v2 h) := by
  unfold f_Fa_borne
  refine xs_step (fun K HC => xr_iload_n HC.1 0 1 (n := 2) (ix := 2) (j := 2) (x := v2) rfl rfl rfl rfl) ?_
  refine xs_ite (fun K HC => xr_if_lt HC.1 1 9 4 rfl (by decide) rfl) ?_ ?_
  · refine xs_step (fun K HC => xr_iconst HC.1 5 10 (n := (-1)) (-1 : Int32) rfl rfl rfl) ?_
    exact xs_reti 6 rfl rfl (fun K q => q) (fun ty ht => by cases ht; rfl)
  refine xs_step (fun K HC => xr_iload_n HC.1 2 5 (n := 2) (ix := 2) (j := 2) (x := v2) rfl rfl rfl rfl) ?_
  refine xs_step (fun K HC => xr_iconst HC.1 3 6 (n := (3)) (3 : Int32) rfl rfl rfl) ?_
  refine xs_ite (fun K HC => xr_icmp_lt HC.1 4 11 9 rfl (by decide) rfl) ?_ ?_
  · refine xs_step (fun K HC => xr_aload_n HC.1 7 12 (n := 0) (ix := 0) (j := 0) (c := 2) (x := v0) rfl rfl rfl rfl) ?_
    refine xs_bind (fun q_1 eq_1 => ?_)
    refine xs_step (fun K HC => xr_getr HC.1 8 15 2 0 13 eq_1 rfl rfl wf_Fa_11 (by decide) fb_2_0 fc_2_0 fd_2_0) ?_
    refine xs_step (fun K HC => xr_iload_n HC.1 9 16 (n := 2) (ix := 2) (j := 2) (x := v2) rfl rfl rfl rfl) ?_
    refine xs_chk (fun hb_2 => ?_)
    refine xs_step (fun K HC => xr_iald HC.1 10 17 (hp_in_vp hb_2) rfl rfl) ?_
    refine xs_step (fun K HC => xr_bipush HC.1 11 19 (n := (-3)) (-3 : Int32) rfl rfl rfl) ?_
    refine xs_ite (fun K HC a b => xr_icmp_ne HC.1 12 34 22 rfl (by decide) rfl b a) ?_ ?_
    · refine xs_step (fun K HC => xr_aload_n HC.1 13 23 (n := 0) (ix := 0) (j := 0) (c := 2) (x := v0) rfl rfl rfl rfl) ?_
      refine xs_bind (fun q_3 eq_3 => ?_)
      refine xs_step (fun K HC => xr_getr HC.1 14 26 2 0 13 eq_3 rfl rfl wf_Fa_11 (by decide) fb_2_0 fc_2_0 fd_2_0) ?_
      refine xs_step (fun K HC => xr_iload_n HC.1 15 27 (n := 2) (ix := 2) (j := 2) (x := v2) rfl rfl rfl rfl) ?_
      refine xs_step (fun K HC => xr_aload_n HC.1 16 28 (n := 0) (ix := 0) (j := 0) (c := 2) (x := v0) rfl rfl rfl rfl) ?_
      refine xs_step (fun K HC => xr_aload_n HC.1 17 29 (n := 1) (ix := 1) (j := 1) (c := 9) (x := v1) rfl rfl rfl rfl) ?_
      refine xs_step (fun K HC => xr_iload_n HC.1 18 30 (n := 2) (ix := 2) (j := 2) (x := v2) rfl rfl rfl rfl) ?_
      refine xs_calli (s_Fa_lookThrough v0 v1 v2 h) (fun K HC x9 hM hmo hb => xr_callV HC.1 19 33 (av := [av_R 9 (some v1), av_I v2]) (st := [av_I v2, av_R 13 (some q_3)]) (hM (kg K) (cx_l (kx K))) hmo hb rfl rfl wm_Fa_31 wi_Fa_lookThrough ws_Fa_lookThrough wc_Fa_lookThrough rfl wh_Fa_lookThrough (by decide) (by decide) (by decide) (Nat.le_of_ble_eq_true rfl) rfl) (fun x_4 => ?_)
      refine xs_chk (fun hb_5 => ?_)
      refine xs_heap (hp_mo_si _ _ _ _) (fun K HC => xr_iast HC.1 20 34 (hp_in_vp hb_5) rfl rfl) (fun h_6 => ?_)
      refine xs_step (fun K HC => xr_aload_n HC.1 21 35 (n := 0) (ix := 0) (j := 0) (c := 2) (x := v0) rfl rfl rfl rfl) ?_
      refine xs_bind (fun q_7 eq_7 => ?_)
      refine xs_step (fun K HC => xr_getr HC.1 22 38 2 0 13 eq_7 rfl rfl wf_Fa_11 (by decide) fb_2_0 fc_2_0 fd_2_0) ?_
      refine xs_step (fun K HC => xr_iload_n HC.1 23 39 (n := 2) (ix := 2) (j := 2) (x := v2) rfl rfl rfl rfl) ?_
      refine xs_chk (fun hb_8 => ?_)
      refine xs_step (fun K HC => xr_iald HC.1 24 40 (hp_in_vp hb_8) rfl rfl) ?_
      exact xs_reti 25 rfl rfl (fun K q => q) (fun ty ht => by cases ht; rfl)
    refine xs_step (fun K HC => xr_aload_n HC.1 21 35 (n := 0) (ix := 0) (j := 0) (c := 2) (x := v0) rfl rfl rfl rfl) ?_
    refine xs_bind (fun q_9 eq_9 => ?_)
    refine xs_step (fun K HC => xr_getr HC.1 22 38 2 0 13 eq_9 rfl rfl wf_Fa_11 (by decide) fb_2_0 fc_2_0 fd_2_0) ?_
    refine xs_step (fun K HC => xr_iload_n HC.1 23 39 (n := 2) (ix := 2) (j := 2) (x := v2) rfl rfl rfl rfl) ?_
    refine xs_chk (fun hb_10 => ?_)
    refine xs_step (fun K HC => xr_iald HC.1 24 40 (hp_in_vp hb_10) rfl rfl) ?_
    exact xs_reti 25 rfl rfl (fun K q => q) (fun ty ht => by cases ht; rfl)
  refine xs_step (fun K HC => xr_iconst HC.1 5 10 (n := (-1)) (-1 : Int32) rfl rfl rfl) ?_
  exact xs_reti 6 rfl rfl (fun K q => q) (fun ty ht => by cases ht; rfl)
theorem s_Fa_borne (v0 : Nat) (v1 : Nat) (v2 : Int32) (h : HP) : ∀ x, f_Fa_borne v0 v1 v2 h = some x → hp_mo h x.2 ∧ ∀ g l, xx_M g l y_Fa_borne prog_4_method_3_code 3 (some .int) 7 [av_R 2 (some v0), av_R 9 (some v1), av_I v2] h (some (av_I x.1)) x.2 :=
  xM_i (tb := tb_Fa_borne) (b := false) (by decide +kernel) dt_Fa_borne (fun _ => trivial) (Nat.le_of_ble_eq_true rfl) (fun hb => by cases hb) (t_Fa_borne v0 v1 v2 h)
def tb_X_bears : TBL := [(0, .iload_n 1, 1), (1, .ifCond .lt 8, 3), (4, .iload_n 1, 1), (5, .iconst 3, 1), (6, .if_icmp .lt 5, 3), (9, .iconst (-1), 1), (10, .ireturn, 1), (11, .aload_n 0, 1), (12, .invokevirtual 130, 3), (15, .astore_n 2, 1), (16, .aload_n 2, 1), (17, .getfield 134, 3), (20, .ifCond .eq 6, 3), (23, .bipush (-2), 2), (25, .ireturn, 1), (26, .aload_n 0, 1), (27, .getfield 178, 3), (30, .ifnonnull 14, 3), (33, .aload_n 0, 1), (34, .new 176, 3), (37, .dup, 1), (38, .invokespecial 182, 3), (41, .putfield 178, 3), (44, .aload_n 0, 1), (45, .getfield 178, 3), (48, .aload_n 2, 1), (49, .iload_n 1, 1), (50, .invokevirtual 183, 3), (53, .ireturn, 1)]
theorem dt_X_bears : ∀ q ∈ tb_X_bears, decode prog_1_method_20_code q.1 = .ok (q.2.1, q.2.2) := by decide +kernel
set_option maxHeartbeats 4000000 in
set_option maxRecDepth 100000 in
theorem t_X_bears_44 (v0 : Nat) (v1 : Int32) (v2 : Nat) (h : HP) : xx_S (xx_D "LampYard" tb_X_bears 3 8 (some .int) false) xz_i (fun K => xL_i K) 44 [(0, av_R 10 (some v0)), (1, av_I v1), (2, av_R 9 (some v2))] [] h (f_X_bears_44 v0 v1 v2 h) := by
  unfold f_X_bears_44
  refine xs_step (fun K HC => xr_aload_n HC.1 23 45 (n := 0) (ix := 0) (j := 0) (c := 10) (x := v0) rfl rfl rfl rfl) ?_
  refine xs_bind (fun q_6 eq_6 => ?_)
  refine xs_step (fun K HC => xr_getr HC.1 24 48 10 9 2 eq_6 rfl rfl wf_X_178 (by decide) fb_10_9 fc_10_9 fd_10_9) ?_
  refine xs_step (fun K HC => xr_aload_n HC.1 25 49 (n := 2) (ix := 2) (j := 2) (c := 9) (x := v2) rfl rfl rfl rfl) ?_
  refine xs_step (fun K HC => xr_iload_n HC.1 26 50 (n := 1) (ix := 1) (j := 1) (x := v1) rfl rfl rfl rfl) ?_
  refine xs_calli (s_Fa_borne q_6 v2 v1 h) (fun K HC x9 hM hmo hb => xr_callV HC.1 27 53 (av := [av_R 9 (some v2), av_I v1]) (st := []) (hM (kg K) (cx_l (kx K))) hmo hb rfl rfl wm_X_183 wi_Fa_borne ws_Fa_borne wc_Fa_borne rfl wh_Fa_borne (by decide) (by decide) (by decide) (Nat.le_of_ble_eq_true rfl) rfl) (fun x_7 => ?_)
  exact xs_reti 28 rfl rfl (fun K q => q) (fun ty ht => by cases ht; rfl)
set_option maxHeartbeats 4000000 in
set_option maxRecDepth 100000 in
theorem t_X_bears (v0 : Nat) (v1 : Int32) (h : HP) : xx_S (xx_D "LampYard" tb_X_bears 3 8 (some .int) false) xz_i (fun K => xL_i K) 0 [(0, av_R 10 (some v0)), (1, av_I v1)] [] h (f_X_bears v0 v1 h) := by
  unfold f_X_bears
  refine xs_step (fun K HC => xr_iload_n HC.1 0 1 (n := 1) (ix := 1) (j := 1) (x := v1) rfl rfl rfl rfl) ?_
  refine xs_ite (fun K HC => xr_if_lt HC.1 1 9 4 rfl (by decide) rfl) ?_ ?_
  · refine xs_step (fun K HC => xr_iconst HC.1 5 10 (n := (-1)) (-1 : Int32) rfl rfl rfl) ?_
    exact xs_reti 6 rfl rfl (fun K q => q) (fun ty ht => by cases ht; rfl)
  refine xs_step (fun K HC => xr_iload_n HC.1 2 5 (n := 1) (ix := 1) (j := 1) (x := v1) rfl rfl rfl rfl) ?_
  refine xs_step (fun K HC => xr_iconst HC.1 3 6 (n := (3)) (3 : Int32) rfl rfl rfl) ?_
  refine xs_ite (fun K HC => xr_icmp_lt HC.1 4 11 9 rfl (by decide) rfl) ?_ ?_
  · refine xs_step (fun K HC => xr_aload_n HC.1 7 12 (n := 0) (ix := 0) (j := 0) (c := 10) (x := v0) rfl rfl rfl rfl) ?_
    refine xs_callr 9 (s_X_surveyOfPlan v0 h) (fun K HC x9 hM hmo hb => xr_callV HC.1 8 15 (av := []) (st := []) (hM (kg K) (cx_l (kx K))) hmo hb rfl rfl wm_X_130 wi_X_surveyOfPlan ws_X_surveyOfPlan wc_X_surveyOfPlan rfl wh_X_surveyOfPlan (by decide) (by decide) (by decide) (Nat.le_of_ble_eq_true rfl) rfl) (fun x_1 => ?_)
    refine xs_step (fun K HC => xr_astore_n HC.1 9 16 (n := 2) (ix := 2) (lv' := [(0, av_R 10 (some v0)), (1, av_I v1), (2, av_R 9 (some x_1.1))]) rfl rfl rfl (by decide) rfl) ?_
    refine xs_step (fun K HC => xr_aload_n HC.1 10 17 (n := 2) (ix := 2) (j := 2) (c := 9) (x := x_1.1) rfl rfl rfl rfl) ?_
    refine xs_step (fun K HC => xr_geti HC.1 11 20 9 5 rfl rfl wf_X_134 (by decide) fb_9_5 fc_9_5) ?_
    refine xs_ite (fun K HC => xr_if_eq HC.1 12 26 23 rfl (by decide) rfl) ?_ ?_
    · refine xs_step (fun K HC => xr_aload_n HC.1 15 27 (n := 0) (ix := 0) (j := 0) (c := 10) (x := v0) rfl rfl rfl rfl) ?_
      refine xs_step (fun K HC => xr_getq HC.1 16 30 10 9 2 rfl rfl wf_X_178 (by decide) fb_10_9 fc_10_9 fd_10_9) ?_
      refine xs_ite (fun K HC a b => xr_ifnonnull HC.1 17 44 33 rfl (by decide) rfl b a) ?_ ?_
      · refine xs_step (fun K HC => xr_aload_n HC.1 18 34 (n := 0) (ix := 0) (j := 0) (c := 10) (x := v0) rfl rfl rfl rfl) ?_
        refine xs_new (fun K HC hb => xr_new HC.1 19 37 2 hb rfl rfl wc_X_176 (by decide)) (fun q_2 h_3 => ?_)
        refine xs_step (fun K HC => xr_dup HC.1 20 38 rfl rfl rfl) ?_
        refine xs_callv (s_Fa_new q_2 h_3) (fun K HC x9 hM hmo hb => xr_callI HC.1 21 41 (av := []) (st := [av_R 2 (some q_2), av_R 10 (some v0)]) (hM (kg K) (cx_l (kx K))) hmo hb rfl rfl wm_X_182 wi_Fa_new wn_Fa_new wc_Fa_new rfl wh_Fa_new (by decide) (by decide) (Nat.le_of_ble_eq_true rfl) rfl) (fun x_4 => ?_)
        refine xs_heap (hp_mo_sr _ _ _ _) (fun K HC => xr_putr HC.1 22 44 10 9 2 rfl rfl wf_X_178 (by decide) fb_10_9 (Or.inl fn_10_9) fc_10_9 fd_10_9 (by decide)) (fun h_5 => ?_)
        exact t_X_bears_44 v0 v1 x_1.1 h_5
      exact t_X_bears_44 v0 v1 x_1.1 x_1.2
    refine xs_step (fun K HC => xr_bipush HC.1 13 25 (n := (-2)) (-2 : Int32) rfl rfl rfl) ?_
    exact xs_reti 14 rfl rfl (fun K q => q) (fun ty ht => by cases ht; rfl)
  refine xs_step (fun K HC => xr_iconst HC.1 5 10 (n := (-1)) (-1 : Int32) rfl rfl rfl) ?_
  exact xs_reti 6 rfl rfl (fun K q => q) (fun ty ht => by cases ht; rfl)
theorem s_X_bears (v0 : Nat) (v1 : Int32) (h : HP) : ∀ x, f_X_bears v0 v1 h = some x → hp_mo h x.2 ∧ ∀ g l, xx_M g l y_X_bears prog_1_method_20_code 3 (some .int) 8 [av_R 10 (some v0), av_I v1] h (some (av_I x.1)) x.2 :=
  xM_i (tb := tb_X_bears) (b := false) (by decide +kernel) dt_X_bears (fun _ => trivial) (Nat.le_of_ble_eq_true rfl) (fun hb => by cases hb) (t_X_bears v0 v1 h)
def tb_Ch_new : TBL := [(0, .aload_n 0, 1), (1, .invokespecial 5, 3), (4, .aload_n 0, 1), (5, .iconst 4, 1), (6, .newarray .boolean, 2), (8, .putfield 11, 3), (11, .aload_n 0, 1), (12, .bipush 52, 2), (14, .newarray .long, 2), (16, .putfield 15, 3), (19, .aload_n 0, 1), (20, .bipush 52, 2), (22, .newarray .long, 2), (24, .putfield 19, 3), (27, .aload_n 0, 1), (28, .sipush 5000, 3), (31, .newarray .long, 2), (33, .putfield 22, 3), (36, .aload_n 0, 1), (37, .sipush 5000, 3), (40, .newarray .long, 2), (42, .putfield 25, 3), (45, .return_, 1)]
theorem dt_Ch_new : ∀ q ∈ tb_Ch_new, decode prog_2_method_1_code q.1 = .ok (q.2.1, q.2.2) := by decide +kernel
set_option maxHeartbeats 4000000 in
set_option maxRecDepth 100000 in
theorem t_Ch_new (v0 : Nat) (h : HP) : xx_S (xx_D "LampYard$Chance" tb_Ch_new 1 1 none true) xz_v (fun K => xL_v K) 0 [(0, av_R 0 (some v0))] [] h (f_Ch_new v0 h) := by
  unfold f_Ch_new
  refine xs_step (fun K HC => xr_aload_n HC.1 0 1 (n := 0) (ix := 0) (j := 0) (c := 0) (x := v0) rfl rfl rfl rfl) ?_
  refine xs_step (fun K HC => xr_obj HC.1 1 4 rfl rfl wm_Ch_5 (by decide) (Nat.le_of_ble_eq_true rfl)) ?_
  refine xs_step (fun K HC => xr_aload_n HC.1 2 5 (n := 0) (ix := 0) (j := 0) (c := 0) (x := v0) rfl rfl rfl rfl) ?_
  refine xs_step (fun K HC => xr_iconst HC.1 3 6 (n := (4)) (4 : Int32) rfl rfl rfl) ?_
  refine xs_new (fun K HC hb => xr_newZ HC.1 4 8 4 hb rfl rfl (by decide) rfl (Nat.le_of_ble_eq_true rfl)) (fun q_1 h_2 => ?_)
  refine xs_heap (hp_mo_sr _ _ _ _) (fun K HC => xr_putr HC.1 5 11 0 0 15 rfl rfl wf_Ch_11 (by decide) fb_0_0 (Or.inr ⟨fn_0_0, HC.2 rfl, rfl⟩) fc_0_0 fd_0_0 (by decide)) (fun h_3 => ?_)
  refine xs_step (fun K HC => xr_aload_n HC.1 6 12 (n := 0) (ix := 0) (j := 0) (c := 0) (x := v0) rfl rfl rfl rfl) ?_
  refine xs_step (fun K HC => xr_bipush HC.1 7 14 (n := (52)) (52 : Int32) rfl rfl rfl) ?_
  refine xs_new (fun K HC hb => xr_newL HC.1 8 16 52 hb rfl rfl (by decide) rfl (Nat.le_of_ble_eq_true rfl)) (fun q_4 h_5 => ?_)
  refine xs_heap (hp_mo_sr _ _ _ _) (fun K HC => xr_putr HC.1 9 19 0 1 14 rfl rfl wf_Ch_15 (by decide) fb_0_1 (Or.inr ⟨fn_0_1, HC.2 rfl, rfl⟩) fc_0_1 fd_0_1 (by decide)) (fun h_6 => ?_)
  refine xs_step (fun K HC => xr_aload_n HC.1 10 20 (n := 0) (ix := 0) (j := 0) (c := 0) (x := v0) rfl rfl rfl rfl) ?_
  refine xs_step (fun K HC => xr_bipush HC.1 11 22 (n := (52)) (52 : Int32) rfl rfl rfl) ?_
  refine xs_new (fun K HC hb => xr_newL HC.1 12 24 52 hb rfl rfl (by decide) rfl (Nat.le_of_ble_eq_true rfl)) (fun q_7 h_8 => ?_)
  refine xs_heap (hp_mo_sr _ _ _ _) (fun K HC => xr_putr HC.1 13 27 0 2 14 rfl rfl wf_Ch_19 (by decide) fb_0_2 (Or.inr ⟨fn_0_2, HC.2 rfl, rfl⟩) fc_0_2 fd_0_2 (by decide)) (fun h_9 => ?_)
  refine xs_step (fun K HC => xr_aload_n HC.1 14 28 (n := 0) (ix := 0) (j := 0) (c := 0) (x := v0) rfl rfl rfl rfl) ?_
  refine xs_step (fun K HC => xr_sipush HC.1 15 31 (n := (5000)) (5000 : Int32) rfl rfl rfl) ?_
  refine xs_new (fun K HC hb => xr_newL HC.1 16 33 5000 hb rfl rfl (by decide) rfl (Nat.le_of_ble_eq_true rfl)) (fun q_10 h_11 => ?_)
  refine xs_heap (hp_mo_sr _ _ _ _) (fun K HC => xr_putr HC.1 17 36 0 3 14 rfl rfl wf_Ch_22 (by decide) fb_0_3 (Or.inl fn_0_3) fc_0_3 fd_0_3 (by decide)) (fun h_12 => ?_)
  refine xs_step (fun K HC => xr_aload_n HC.1 18 37 (n := 0) (ix := 0) (j := 0) (c := 0) (x := v0) rfl rfl rfl rfl) ?_
  refine xs_step (fun K HC => xr_sipush HC.1 19 40 (n := (5000)) (5000 : Int32) rfl rfl rfl) ?_
  refine xs_new (fun K HC hb => xr_newL HC.1 20 42 5000 hb rfl rfl (by decide) rfl (Nat.le_of_ble_eq_true rfl)) (fun q_13 h_14 => ?_)
  refine xs_heap (hp_mo_sr _ _ _ _) (fun K HC => xr_putr HC.1 21 45 0 4 14 rfl rfl wf_Ch_25 (by decide) fb_0_4 (Or.inl fn_0_4) fc_0_4 fd_0_4 (by decide)) (fun h_15 => ?_)
  exact xs_ret 22 rfl rfl (fun K q => q)
theorem s_Ch_new (v0 : Nat) (h : HP) : ∀ x, f_Ch_new v0 h = some x → hp_mo h x ∧ ∀ g l, xx_M g l y_Ch_new prog_2_method_1_code 1 none 1 [av_R 0 (some v0)] h none x :=
  xM_v (tb := tb_Ch_new) (b := true) (by decide +kernel) dt_Ch_new trivial (Nat.le_of_ble_eq_true rfl) (fun hb => rfl) (t_Ch_new v0 h)
def tb_Ar_fillJ : TBL := [(0, .iconst 0, 1), (1, .istore_n 3, 1), (2, .aload_n 0, 1), (3, .arraylength, 1), (4, .istore 4, 2), (6, .iload_n 3, 1), (7, .iload 4, 2), (9, .if_icmp .ge 13, 3), (12, .aload_n 0, 1), (13, .iload_n 3, 1), (14, .lload_n 1, 1), (15, .lastore, 1), (16, .iinc 3 1, 3), (19, .goto (-13), 3), (22, .return_, 1)]
theorem dt_Ar_fillJ : ∀ q ∈ tb_Ar_fillJ, decode prog_21_method_101_code q.1 = .ok (q.2.1, q.2.2) := by decide +kernel
set_option maxHeartbeats 4000000 in
set_option maxRecDepth 100000 in
theorem t_Ar_fillJ_6b (v0 : Nat) (v1 : Int64) (v4 : Int32) (v3 : Int32) (h : HP) : xx_S (xx_D "java/util/Arrays" tb_Ar_fillJ 5 1 none false) (xx_z2 (fun s : (Int32 × HP) => s.2) xz_v) (fun K => xx_L2 (fun s : (Int32 × HP) => xx_X K 6 [(0, av_R 14 (some v0)), (1, av_L v1), (3, av_I s.1), (4, av_I v4)] [] (s.2)) (xL_v K)) 6 [(0, av_R 14 (some v0)), (1, av_L v1), (3, av_I v3), (4, av_I v4)] [] h (f_Ar_fillJ_6b v0 v1 v4 v3 h) := by
  unfold f_Ar_fillJ_6b
  refine xs_step (fun K HC => xr_iload_n HC.1 5 7 (n := 3) (ix := 3) (j := 2) (x := v3) rfl rfl rfl rfl) ?_
  refine xs_step (fun K HC => xr_iload HC.1 6 9 (ix := 4) (j := 3) (x := v4) rfl rfl rfl) ?_
  refine xs_ite (fun K HC => xr_icmp_ge HC.1 7 22 12 rfl (by decide) rfl) ?_ ?_
  · exact xs_ret 14 rfl rfl (fun K q => q)
  refine xs_step (fun K HC => xr_aload_n HC.1 8 13 (n := 0) (ix := 0) (j := 0) (c := 14) (x := v0) rfl rfl rfl rfl) ?_
  refine xs_step (fun K HC => xr_iload_n HC.1 9 14 (n := 3) (ix := 3) (j := 2) (x := v3) rfl rfl rfl rfl) ?_
  refine xs_step (fun K HC => xr_lload_n HC.1 10 15 (n := 1) (ix := 1) (j := 1) (x := v1) rfl rfl rfl rfl) ?_
  refine xs_chk (fun hb_2 => ?_)
  refine xs_heap (hp_mo_sl _ _ _ _) (fun K HC => xr_last HC.1 11 16 (hp_in_vp hb_2) rfl rfl) (fun h_3 => ?_)
  refine xs_gen (fun v3_4 ev3_4 => ?_)
  refine xs_step (fun K HC => xr_iinc HC.1 12 19 (ix := 3) (j := 2) (n := (1)) (x := v3) v3_4 (lv' := [(0, av_R 14 (some v0)), (1, av_L v1), (3, av_I v3_4), (4, av_I v4)]) rfl (by rw [ev3_4]; rfl) rfl rfl (by decide) rfl) ?_
  refine xs_step (fun K HC => xr_goto HC.1 13 6 rfl (by decide)) ?_
  exact xs_back rfl (fun K q => q)
theorem t_Ar_fillJ_6 (v0 : Nat) (v1 : Int64) (v4 : Int32) (v3 : Int32) (h : HP) : xx_S (xx_D "java/util/Arrays" tb_Ar_fillJ 5 1 none false) xz_v (fun K => xL_v K) 6 [(0, av_R 14 (some v0)), (1, av_L v1), (3, av_I v3), (4, av_I v4)] [] h (f_Ar_fillJ_6 v0 v1 v4 v3 h) :=
  xs_loop (zf := xz_v) (L := (fun K => xL_v K)) (fun s : (Int32 × HP) => [(0, av_R 14 (some v0)), (1, av_L v1), (3, av_I s.1), (4, av_I v4)]) (fun s : (Int32 × HP) => s.2) (fun s => t_Ar_fillJ_6b v0 v1 v4 s.1 s.2) (v3, h)
set_option maxHeartbeats 4000000 in
set_option maxRecDepth 100000 in
theorem t_Ar_fillJ (v0 : Nat) (v1 : Int64) (h : HP) : xx_S (xx_D "java/util/Arrays" tb_Ar_fillJ 5 1 none false) xz_v (fun K => xL_v K) 0 [(0, av_R 14 (some v0)), (1, av_L v1)] [] h (f_Ar_fillJ v0 v1 h) := by
  unfold f_Ar_fillJ
  refine xs_step (fun K HC => xr_iconst HC.1 0 1 (n := (0)) (0 : Int32) rfl rfl rfl) ?_
  refine xs_step (fun K HC => xr_istore_n HC.1 1 2 (n := 3) (ix := 3) (lv' := [(0, av_R 14 (some v0)), (1, av_L v1), (3, av_I (0 : Int32))]) rfl rfl rfl (by decide) rfl) ?_
  refine xs_step (fun K HC => xr_aload_n HC.1 2 3 (n := 0) (ix := 0) (j := 0) (c := 14) (x := v0) rfl rfl rfl rfl) ?_
  refine xs_step (fun K HC => xr_alen HC.1 3 4 (c := 14) (by decide) (by decide) rfl rfl) ?_
  refine xs_topi (fun v4_1 => ?_)
  refine xs_step (fun K HC => xr_istore HC.1 4 6 (ix := 4) (lv' := [(0, av_R 14 (some v0)), (1, av_L v1), (3, av_I (0 : Int32)), (4, av_I v4_1)]) rfl rfl (by decide) rfl) ?_
  exact t_Ar_fillJ_6 v0 v1 v4_1 (0 : Int32) h
theorem s_Ar_fillJ (v0 : Nat) (v1 : Int64) (h : HP) : ∀ x, f_Ar_fillJ v0 v1 h = some x → hp_mo h x ∧ ∀ g l, xx_M g l y_Ar_fillJ prog_21_method_101_code 5 none 1 [av_R 14 (some v0), av_L v1] h none x :=
  xM_v (tb := tb_Ar_fillJ) (b := false) (by decide +kernel) dt_Ar_fillJ trivial (Nat.le_of_ble_eq_true rfl) (fun hb => by cases hb) (t_Ar_fillJ v0 v1 h)
def tb_Ch_goOneDay : TBL := [(0, .iconst 0, 1), (1, .istore_n 3, 1), (2, .iload_n 3, 1), (3, .aload_n 1, 1), (4, .getfield 38, 3), (7, .getfield 67, 3), (10, .if_icmp .ge 114, 3), (13, .aload_n 0, 1), (14, .getfield 22, 3), (17, .iload_n 3, 1), (18, .laload, 1), (19, .lstore 4, 2), (21, .aload_n 0, 1), (22, .getfield 22, 3), (25, .iload_n 3, 1), (26, .lconst 0, 1), (27, .lastore, 1), (28, .iconst 0, 1), (29, .istore 6, 2), (31, .lload 4, 2), (33, .lconst 0, 1), (34, .lcmp, 1), (35, .ifCond .eq 83, 3), (38, .iload 6, 2), (40, .aload_n 1, 1), (41, .getfield 44, 3), (44, .getfield 60, 3), (47, .if_icmp .ge 71, 3), (50, .aload_n 1, 1), (51, .iload_n 3, 1), (52, .iload 6, 2), (54, .invokevirtual 70, 3), (57, .istore 7, 2), (59, .iload 7, 2), (61, .ifCond .lt 18, 3), (64, .aload_n 0, 1), (65, .getfield 25, 3), (68, .iload 7, 2), (70, .dup2, 1), (71, .laload, 1), (72, .lload 4, 2), (74, .ladd, 1), (75, .lastore, 1), (76, .goto 36, 3), (79, .aload_n 0, 1), (80, .getfield 15, 3), (83, .iload_n 2, 1), (84, .dup2, 1), (85, .laload, 1), (86, .lload 4, 2), (88, .ladd, 1), (89, .lastore, 1), (90, .aload_n 0, 1), (91, .getfield 19, 3), (94, .iload_n 2, 1), (95, .dup2, 1), (96, .laload, 1), (97, .iload 7, 2), (99, .bipush (-2), 2), (101, .if_icmp .ne 8, 3), (104, .lload 4, 2), (106, .goto 4, 3), (109, .lconst 0, 1), (110, .ladd, 1), (111, .lastore, 1), (112, .iinc 6 1, 3), (115, .goto (-84), 3), (118, .iinc 3 1, 3), (121, .goto (-119), 3), (124, .return_, 1)]
theorem dt_Ch_goOneDay : ∀ q ∈ tb_Ch_goOneDay, decode prog_2_method_5_code q.1 = .ok (q.2.1, q.2.2) := by decide +kernel
set_option maxHeartbeats 4000000 in
set_option maxRecDepth 100000 in
theorem t_Ch_goOneDay_118 (v0 : Nat) (v1 : Nat) (v2 : Int32) (v3 : Int32) (h : HP) : xx_S (xx_D "LampYard$Chance" tb_Ch_goOneDay 8 2 none false) (xx_z2 (fun s : (Int32 × HP) => s.2) xz_v) (fun K => xx_L2 (fun s : (Int32 × HP) => xx_X K 2 [(0, av_R 0 (some v0)), (1, av_R 9 (some v1)), (2, av_I v2), (3, av_I s.1)] [] (s.2)) (xL_v K)) 118 [(0, av_R 0 (some v0)), (1, av_R 9 (some v1)), (2, av_I v2), (3, av_I v3)] [] h (f_Ch_goOneDay_118 v0 v1 v2 v3 h) := by
  unfold f_Ch_goOneDay_118
  refine xs_gen (fun v3_8 ev3_8 => ?_)
  refine xs_step (fun K HC => xr_iinc HC.1 67 121 (ix := 3) (j := 3) (n := (1)) (x := v3) v3_8 (lv' := [(0, av_R 0 (some v0)), (1, av_R 9 (some v1)), (2, av_I v2), (3, av_I v3_8)]) rfl (by rw [ev3_8]; rfl) rfl rfl (by decide) rfl) ?_
  refine xs_step (fun K HC => xr_goto HC.1 68 2 rfl (by decide)) ?_
  exact xs_back rfl (fun K q => q)
set_option maxHeartbeats 4000000 in
set_option maxRecDepth 100000 in
theorem t_Ch_goOneDay_112 (v0 : Nat) (v1 : Nat) (v2 : Int32) (v3 : Int32) (v4 : Int64) (v6 : Int32) (h : HP) : xx_S (xx_D "LampYard$Chance" tb_Ch_goOneDay 8 2 none false) (xx_z2 (fun s : (Int32 × HP) => s.2) (xx_z2 (fun s : (Int32 × HP) => s.2) xz_v)) (fun K => xx_L2 (fun s : (Int32 × HP) => xx_X K 31 [(0, av_R 0 (some v0)), (1, av_R 9 (some v1)), (2, av_I v2), (3, av_I v3), (4, av_L v4), (6, av_I s.1)] [] (s.2)) (xx_L2 (fun s : (Int32 × HP) => xx_X K 2 [(0, av_R 0 (some v0)), (1, av_R 9 (some v1)), (2, av_I v2), (3, av_I s.1)] [] (s.2)) (xL_v K))) 112 [(0, av_R 0 (some v0)), (1, av_R 9 (some v1)), (2, av_I v2), (3, av_I v3), (4, av_L v4), (6, av_I v6)] [] h (f_Ch_goOneDay_112 v0 v1 v2 v3 v4 v6 h) := by
  unfold f_Ch_goOneDay_112
  refine xs_gen (fun v6_19 ev6_19 => ?_)
  refine xs_step (fun K HC => xr_iinc HC.1 65 115 (ix := 6) (j := 5) (n := (1)) (x := v6) v6_19 (lv' := [(0, av_R 0 (some v0)), (1, av_R 9 (some v1)), (2, av_I v2), (3, av_I v3), (4, av_L v4), (6, av_I v6_19)]) rfl (by rw [ev6_19]; rfl) rfl rfl (by decide) rfl) ?_
  refine xs_step (fun K HC => xr_goto HC.1 66 31 rfl (by decide)) ?_
  exact xs_back rfl (fun K q => q)
set_option maxHeartbeats 4000000 in
set_option maxRecDepth 100000 in
theorem t_Ch_goOneDay_110 (v0 : Nat) (v1 : Nat) (v2 : Int32) (v3 : Int32) (v4 : Int64) (v6 : Int32) (s0 : Int64) (s1 : Int64) (s2 : Int32) (s3 : Nat) (h : HP) : xx_S (xx_D "LampYard$Chance" tb_Ch_goOneDay 8 2 none false) (xx_z2 (fun s : (Int32 × HP) => s.2) (xx_z2 (fun s : (Int32 × HP) => s.2) xz_v)) (fun K => xx_L2 (fun s : (Int32 × HP) => xx_X K 31 [(0, av_R 0 (some v0)), (1, av_R 9 (some v1)), (2, av_I v2), (3, av_I v3), (4, av_L v4), (6, av_I s.1)] [] (s.2)) (xx_L2 (fun s : (Int32 × HP) => xx_X K 2 [(0, av_R 0 (some v0)), (1, av_R 9 (some v1)), (2, av_I v2), (3, av_I s.1)] [] (s.2)) (xL_v K))) 110 [(0, av_R 0 (some v0)), (1, av_R 9 (some v1)), (2, av_I v2), (3, av_I v3), (4, av_L v4), (6, av_I v6)] [av_L s0, av_L s1, av_I s2, av_R 14 (some s3)] h (f_Ch_goOneDay_110 v0 v1 v2 v3 v4 v6 s0 s1 s2 s3 h) := by
  unfold f_Ch_goOneDay_110
  refine xs_step (fun K HC => xr_ladd HC.1 63 111 rfl rfl) ?_
  refine xs_chk (fun hb_17 => ?_)
  refine xs_heap (hp_mo_sl _ _ _ _) (fun K HC => xr_last HC.1 64 112 (hp_in_vp hb_17) rfl rfl) (fun h_18 => ?_)
  exact t_Ch_goOneDay_112 v0 v1 v2 v3 v4 v6 h_18
set_option maxHeartbeats 4000000 in
set_option maxRecDepth 100000 in
theorem t_Ch_goOneDay_31b (v0 : Nat) (v1 : Nat) (v2 : Int32) (v3 : Int32) (v4 : Int64) (v6 : Int32) (h : HP) : xx_S (xx_D "LampYard$Chance" tb_Ch_goOneDay 8 2 none false) (xx_z2 (fun s : (Int32 × HP) => s.2) (xx_z2 (fun s : (Int32 × HP) => s.2) xz_v)) (fun K => xx_L2 (fun s : (Int32 × HP) => xx_X K 31 [(0, av_R 0 (some v0)), (1, av_R 9 (some v1)), (2, av_I v2), (3, av_I v3), (4, av_L v4), (6, av_I s.1)] [] (s.2)) (xx_L2 (fun s : (Int32 × HP) => xx_X K 2 [(0, av_R 0 (some v0)), (1, av_R 9 (some v1)), (2, av_I v2), (3, av_I s.1)] [] (s.2)) (xL_v K))) 31 [(0, av_R 0 (some v0)), (1, av_R 9 (some v1)), (2, av_I v2), (3, av_I v3), (4, av_L v4), (6, av_I v6)] [] h (f_Ch_goOneDay_31b v0 v1 v2 v3 v4 v6 h) := by
  unfold f_Ch_goOneDay_31b
  refine xs_step (fun K HC => xr_lload HC.1 19 33 (ix := 4) (j := 4) (x := v4) rfl rfl rfl) ?_
  refine xs_step (fun K HC => xr_lconst HC.1 20 34 (n := 0) (0 : Int64) rfl rfl rfl) ?_
  refine xs_step (fun K HC => xr_lcmp HC.1 21 35 rfl rfl) ?_
  refine xs_ite (fun K HC => xr_if_eq HC.1 22 118 38 rfl (by decide) rfl) ?_ ?_
  · refine xs_step (fun K HC => xr_sub (lv' := [(0, av_R 0 (some v0)), (1, av_R 9 (some v1)), (2, av_I v2), (3, av_I v3)]) [0, 1, 2, 3] rfl) ?_
    exact xs_map (fun _ => rfl) (fun _ _ q => q) (t_Ch_goOneDay_118 v0 v1 v2 v3 h)
  refine xs_step (fun K HC => xr_iload HC.1 23 40 (ix := 6) (j := 5) (x := v6) rfl rfl rfl) ?_
  refine xs_step (fun K HC => xr_aload_n HC.1 24 41 (n := 1) (ix := 1) (j := 1) (c := 9) (x := v1) rfl rfl rfl rfl) ?_
  refine xs_bind (fun q_9 eq_9 => ?_)
  refine xs_step (fun K HC => xr_getr HC.1 25 44 9 4 4 eq_9 rfl rfl wf_Ch_44 (by decide) fb_9_4 fc_9_4 fd_9_4) ?_
  refine xs_step (fun K HC => xr_geti HC.1 26 47 4 5 rfl rfl wf_Ch_60 (by decide) fb_4_5 fc_4_5) ?_
  refine xs_ite (fun K HC => xr_icmp_ge HC.1 27 118 50 rfl (by decide) rfl) ?_ ?_
  · refine xs_step (fun K HC => xr_sub (lv' := [(0, av_R 0 (some v0)), (1, av_R 9 (some v1)), (2, av_I v2), (3, av_I v3)]) [0, 1, 2, 3] rfl) ?_
    exact xs_map (fun _ => rfl) (fun _ _ q => q) (t_Ch_goOneDay_118 v0 v1 v2 v3 h)
  refine xs_step (fun K HC => xr_aload_n HC.1 28 51 (n := 1) (ix := 1) (j := 1) (c := 9) (x := v1) rfl rfl rfl rfl) ?_
  refine xs_step (fun K HC => xr_iload_n HC.1 29 52 (n := 3) (ix := 3) (j := 3) (x := v3) rfl rfl rfl rfl) ?_
  refine xs_step (fun K HC => xr_iload HC.1 30 54 (ix := 6) (j := 5) (x := v6) rfl rfl rfl) ?_
  refine xs_calli (s_Sv_nextOf v1 v3 v6 h) (fun K HC x9 hM hmo hb => xr_callV HC.1 31 57 (av := [av_I v3, av_I v6]) (st := []) (hM (kg K) (cx_l (kx K))) hmo hb rfl rfl wm_Ch_70 wi_Sv_nextOf ws_Sv_nextOf wc_Sv_nextOf rfl wh_Sv_nextOf (by decide) (by decide) (by decide) (Nat.le_of_ble_eq_true rfl) rfl) (fun x_10 => ?_)
  refine xs_step (fun K HC => xr_istore HC.1 32 59 (ix := 7) (lv' := [(0, av_R 0 (some v0)), (1, av_R 9 (some v1)), (2, av_I v2), (3, av_I v3), (4, av_L v4), (6, av_I v6), (7, av_I x_10.1)]) rfl rfl (by decide) rfl) ?_
  refine xs_step (fun K HC => xr_iload HC.1 33 61 (ix := 7) (j := 6) (x := x_10.1) rfl rfl rfl) ?_
  refine xs_ite (fun K HC => xr_if_lt HC.1 34 79 64 rfl (by decide) rfl) ?_ ?_
  · refine xs_step (fun K HC => xr_aload_n HC.1 44 80 (n := 0) (ix := 0) (j := 0) (c := 0) (x := v0) rfl rfl rfl rfl) ?_
    refine xs_bind (fun q_11 eq_11 => ?_)
    refine xs_step (fun K HC => xr_getr HC.1 45 83 0 1 14 eq_11 rfl rfl wf_Ch_15 (by decide) fb_0_1 fc_0_1 fd_0_1) ?_
    refine xs_step (fun K HC => xr_iload_n HC.1 46 84 (n := 2) (ix := 2) (j := 2) (x := v2) rfl rfl rfl rfl) ?_
    refine xs_step (fun K HC => xr_dup2 HC.1 47 85 rfl rfl rfl rfl) ?_
    refine xs_chk (fun hb_12 => ?_)
    refine xs_step (fun K HC => xr_lald HC.1 48 86 (hp_in_vp hb_12) rfl rfl) ?_
    refine xs_step (fun K HC => xr_lload HC.1 49 88 (ix := 4) (j := 4) (x := v4) rfl rfl rfl) ?_
    refine xs_step (fun K HC => xr_ladd HC.1 50 89 rfl rfl) ?_
    refine xs_chk (fun hb_13 => ?_)
    refine xs_heap (hp_mo_sl _ _ _ _) (fun K HC => xr_last HC.1 51 90 (hp_in_vp hb_13) rfl rfl) (fun h_14 => ?_)
    refine xs_step (fun K HC => xr_aload_n HC.1 52 91 (n := 0) (ix := 0) (j := 0) (c := 0) (x := v0) rfl rfl rfl rfl) ?_
    refine xs_bind (fun q_15 eq_15 => ?_)
    refine xs_step (fun K HC => xr_getr HC.1 53 94 0 2 14 eq_15 rfl rfl wf_Ch_19 (by decide) fb_0_2 fc_0_2 fd_0_2) ?_
    refine xs_step (fun K HC => xr_iload_n HC.1 54 95 (n := 2) (ix := 2) (j := 2) (x := v2) rfl rfl rfl rfl) ?_
    refine xs_step (fun K HC => xr_dup2 HC.1 55 96 rfl rfl rfl rfl) ?_
    refine xs_chk (fun hb_16 => ?_)
    refine xs_step (fun K HC => xr_lald HC.1 56 97 (hp_in_vp hb_16) rfl rfl) ?_
    refine xs_step (fun K HC => xr_iload HC.1 57 99 (ix := 7) (j := 6) (x := x_10.1) rfl rfl rfl) ?_
    refine xs_step (fun K HC => xr_bipush HC.1 58 101 (n := (-2)) (-2 : Int32) rfl rfl rfl) ?_
    refine xs_ite (fun K HC a b => xr_icmp_ne HC.1 59 109 104 rfl (by decide) rfl b a) ?_ ?_
    · refine xs_step (fun K HC => xr_lload HC.1 60 106 (ix := 4) (j := 4) (x := v4) rfl rfl rfl) ?_
      refine xs_step (fun K HC => xr_goto HC.1 61 110 rfl (by decide)) ?_
      refine xs_step (fun K HC => xr_sub (lv' := [(0, av_R 0 (some v0)), (1, av_R 9 (some v1)), (2, av_I v2), (3, av_I v3), (4, av_L v4), (6, av_I v6)]) [0, 1, 2, 3, 4, 5] rfl) ?_
      exact t_Ch_goOneDay_110 v0 v1 v2 v3 v4 v6 v4 (hp_l h_14 q_15 (v2).toNatClampNeg) v2 q_15 h_14
    refine xs_step (fun K HC => xr_lconst HC.1 62 110 (n := 0) (0 : Int64) rfl rfl rfl) ?_
    refine xs_step (fun K HC => xr_sub (lv' := [(0, av_R 0 (some v0)), (1, av_R 9 (some v1)), (2, av_I v2), (3, av_I v3), (4, av_L v4), (6, av_I v6)]) [0, 1, 2, 3, 4, 5] rfl) ?_
    exact t_Ch_goOneDay_110 v0 v1 v2 v3 v4 v6 (0 : Int64) (hp_l h_14 q_15 (v2).toNatClampNeg) v2 q_15 h_14
  refine xs_step (fun K HC => xr_aload_n HC.1 35 65 (n := 0) (ix := 0) (j := 0) (c := 0) (x := v0) rfl rfl rfl rfl) ?_
  refine xs_bind (fun q_20 eq_20 => ?_)
  refine xs_step (fun K HC => xr_getr HC.1 36 68 0 4 14 eq_20 rfl rfl wf_Ch_25 (by decide) fb_0_4 fc_0_4 fd_0_4) ?_
  refine xs_step (fun K HC => xr_iload HC.1 37 70 (ix := 7) (j := 6) (x := x_10.1) rfl rfl rfl) ?_
  refine xs_step (fun K HC => xr_dup2 HC.1 38 71 rfl rfl rfl rfl) ?_
  refine xs_chk (fun hb_21 => ?_)
  refine xs_step (fun K HC => xr_lald HC.1 39 72 (hp_in_vp hb_21) rfl rfl) ?_
  refine xs_step (fun K HC => xr_lload HC.1 40 74 (ix := 4) (j := 4) (x := v4) rfl rfl rfl) ?_
  refine xs_step (fun K HC => xr_ladd HC.1 41 75 rfl rfl) ?_
  refine xs_chk (fun hb_22 => ?_)
  refine xs_heap (hp_mo_sl _ _ _ _) (fun K HC => xr_last HC.1 42 76 (hp_in_vp hb_22) rfl rfl) (fun h_23 => ?_)
  refine xs_step (fun K HC => xr_goto HC.1 43 112 rfl (by decide)) ?_
  refine xs_step (fun K HC => xr_sub (lv' := [(0, av_R 0 (some v0)), (1, av_R 9 (some v1)), (2, av_I v2), (3, av_I v3), (4, av_L v4), (6, av_I v6)]) [0, 1, 2, 3, 4, 5] rfl) ?_
  exact t_Ch_goOneDay_112 v0 v1 v2 v3 v4 v6 h_23
theorem t_Ch_goOneDay_31 (v0 : Nat) (v1 : Nat) (v2 : Int32) (v3 : Int32) (v4 : Int64) (v6 : Int32) (h : HP) : xx_S (xx_D "LampYard$Chance" tb_Ch_goOneDay 8 2 none false) (xx_z2 (fun s : (Int32 × HP) => s.2) xz_v) (fun K => xx_L2 (fun s : (Int32 × HP) => xx_X K 2 [(0, av_R 0 (some v0)), (1, av_R 9 (some v1)), (2, av_I v2), (3, av_I s.1)] [] (s.2)) (xL_v K)) 31 [(0, av_R 0 (some v0)), (1, av_R 9 (some v1)), (2, av_I v2), (3, av_I v3), (4, av_L v4), (6, av_I v6)] [] h (f_Ch_goOneDay_31 v0 v1 v2 v3 v4 v6 h) :=
  xs_loop (zf := (xx_z2 (fun s : (Int32 × HP) => s.2) xz_v)) (L := (fun K => xx_L2 (fun s : (Int32 × HP) => xx_X K 2 [(0, av_R 0 (some v0)), (1, av_R 9 (some v1)), (2, av_I v2), (3, av_I s.1)] [] (s.2)) (xL_v K))) (fun s : (Int32 × HP) => [(0, av_R 0 (some v0)), (1, av_R 9 (some v1)), (2, av_I v2), (3, av_I v3), (4, av_L v4), (6, av_I s.1)]) (fun s : (Int32 × HP) => s.2) (fun s => t_Ch_goOneDay_31b v0 v1 v2 v3 v4 s.1 s.2) (v6, h)
set_option maxHeartbeats 4000000 in
set_option maxRecDepth 100000 in
theorem t_Ch_goOneDay_2b (v0 : Nat) (v1 : Nat) (v2 : Int32) (v3 : Int32) (h : HP) : xx_S (xx_D "LampYard$Chance" tb_Ch_goOneDay 8 2 none false) (xx_z2 (fun s : (Int32 × HP) => s.2) xz_v) (fun K => xx_L2 (fun s : (Int32 × HP) => xx_X K 2 [(0, av_R 0 (some v0)), (1, av_R 9 (some v1)), (2, av_I v2), (3, av_I s.1)] [] (s.2)) (xL_v K)) 2 [(0, av_R 0 (some v0)), (1, av_R 9 (some v1)), (2, av_I v2), (3, av_I v3)] [] h (f_Ch_goOneDay_2b v0 v1 v2 v3 h) := by
  unfold f_Ch_goOneDay_2b
  refine xs_step (fun K HC => xr_iload_n HC.1 2 3 (n := 3) (ix := 3) (j := 3) (x := v3) rfl rfl rfl rfl) ?_
  refine xs_step (fun K HC => xr_aload_n HC.1 3 4 (n := 1) (ix := 1) (j := 1) (c := 9) (x := v1) rfl rfl rfl rfl) ?_
  refine xs_bind (fun q_1 eq_1 => ?_)
  refine xs_step (fun K HC => xr_getr HC.1 4 7 9 1 7 eq_1 rfl rfl wf_Ch_38 (by decide) fb_9_1 fc_9_1 fd_9_1) ?_
  refine xs_step (fun K HC => xr_geti HC.1 5 10 7 0 rfl rfl wf_Ch_67 (by decide) fb_7_0 fc_7_0) ?_
  refine xs_ite (fun K HC => xr_icmp_ge HC.1 6 124 13 rfl (by decide) rfl) ?_ ?_
  · exact xs_ret 69 rfl rfl (fun K q => q)
  refine xs_step (fun K HC => xr_aload_n HC.1 7 14 (n := 0) (ix := 0) (j := 0) (c := 0) (x := v0) rfl rfl rfl rfl) ?_
  refine xs_bind (fun q_2 eq_2 => ?_)
  refine xs_step (fun K HC => xr_getr HC.1 8 17 0 3 14 eq_2 rfl rfl wf_Ch_22 (by decide) fb_0_3 fc_0_3 fd_0_3) ?_
  refine xs_step (fun K HC => xr_iload_n HC.1 9 18 (n := 3) (ix := 3) (j := 3) (x := v3) rfl rfl rfl rfl) ?_
  refine xs_chk (fun hb_3 => ?_)
  refine xs_step (fun K HC => xr_lald HC.1 10 19 (hp_in_vp hb_3) rfl rfl) ?_
  refine xs_topl (fun v4_4 => ?_)
  refine xs_step (fun K HC => xr_lstore HC.1 11 21 (ix := 4) (lv' := [(0, av_R 0 (some v0)), (1, av_R 9 (some v1)), (2, av_I v2), (3, av_I v3), (4, av_L v4_4)]) rfl rfl (by decide) rfl) ?_
  refine xs_step (fun K HC => xr_aload_n HC.1 12 22 (n := 0) (ix := 0) (j := 0) (c := 0) (x := v0) rfl rfl rfl rfl) ?_
  refine xs_bind (fun q_5 eq_5 => ?_)
  refine xs_step (fun K HC => xr_getr HC.1 13 25 0 3 14 eq_5 rfl rfl wf_Ch_22 (by decide) fb_0_3 fc_0_3 fd_0_3) ?_
  refine xs_step (fun K HC => xr_iload_n HC.1 14 26 (n := 3) (ix := 3) (j := 3) (x := v3) rfl rfl rfl rfl) ?_
  refine xs_step (fun K HC => xr_lconst HC.1 15 27 (n := 0) (0 : Int64) rfl rfl rfl) ?_
  refine xs_chk (fun hb_6 => ?_)
  refine xs_heap (hp_mo_sl _ _ _ _) (fun K HC => xr_last HC.1 16 28 (hp_in_vp hb_6) rfl rfl) (fun h_7 => ?_)
  refine xs_step (fun K HC => xr_iconst HC.1 17 29 (n := (0)) (0 : Int32) rfl rfl rfl) ?_
  refine xs_step (fun K HC => xr_istore HC.1 18 31 (ix := 6) (lv' := [(0, av_R 0 (some v0)), (1, av_R 9 (some v1)), (2, av_I v2), (3, av_I v3), (4, av_L v4_4), (6, av_I (0 : Int32))]) rfl rfl (by decide) rfl) ?_
  exact t_Ch_goOneDay_31 v0 v1 v2 v3 v4_4 (0 : Int32) h_7
theorem t_Ch_goOneDay_2 (v0 : Nat) (v1 : Nat) (v2 : Int32) (v3 : Int32) (h : HP) : xx_S (xx_D "LampYard$Chance" tb_Ch_goOneDay 8 2 none false) xz_v (fun K => xL_v K) 2 [(0, av_R 0 (some v0)), (1, av_R 9 (some v1)), (2, av_I v2), (3, av_I v3)] [] h (f_Ch_goOneDay_2 v0 v1 v2 v3 h) :=
  xs_loop (zf := xz_v) (L := (fun K => xL_v K)) (fun s : (Int32 × HP) => [(0, av_R 0 (some v0)), (1, av_R 9 (some v1)), (2, av_I v2), (3, av_I s.1)]) (fun s : (Int32 × HP) => s.2) (fun s => t_Ch_goOneDay_2b v0 v1 v2 s.1 s.2) (v3, h)
set_option maxHeartbeats 4000000 in
set_option maxRecDepth 100000 in
theorem t_Ch_goOneDay (v0 : Nat) (v1 : Nat) (v2 : Int32) (h : HP) : xx_S (xx_D "LampYard$Chance" tb_Ch_goOneDay 8 2 none false) xz_v (fun K => xL_v K) 0 [(0, av_R 0 (some v0)), (1, av_R 9 (some v1)), (2, av_I v2)] [] h (f_Ch_goOneDay v0 v1 v2 h) := by
  unfold f_Ch_goOneDay
  refine xs_step (fun K HC => xr_iconst HC.1 0 1 (n := (0)) (0 : Int32) rfl rfl rfl) ?_
  refine xs_step (fun K HC => xr_istore_n HC.1 1 2 (n := 3) (ix := 3) (lv' := [(0, av_R 0 (some v0)), (1, av_R 9 (some v1)), (2, av_I v2), (3, av_I (0 : Int32))]) rfl rfl rfl (by decide) rfl) ?_
  exact t_Ch_goOneDay_2 v0 v1 v2 (0 : Int32) h
theorem s_Ch_goOneDay (v0 : Nat) (v1 : Nat) (v2 : Int32) (h : HP) : ∀ x, f_Ch_goOneDay v0 v1 v2 h = some x → hp_mo h x ∧ ∀ g l, xx_M g l y_Ch_goOneDay prog_2_method_5_code 8 none 2 [av_R 0 (some v0), av_R 9 (some v1), av_I v2] h none x :=
  xM_v (tb := tb_Ch_goOneDay) (b := false) (by decide +kernel) dt_Ch_goOneDay trivial (Nat.le_of_ble_eq_true rfl) (fun hb => by cases hb) (t_Ch_goOneDay v0 v1 v2 h)
