def tb_M_unpack : TBL := [(0, .aload_n 0, 1), (1, .lload_n 1, 1), (2, .ldc2_w 474, 3), (5, .land, 1), (6, .l2i, 1), (7, .putfield 413, 3), (10, .aload_n 0, 1), (11, .lload_n 1, 1), (12, .iconst 2, 1), (13, .lshr, 1), (14, .ldc2_w 476, 3), (17, .land, 1), (18, .l2i, 1), (19, .putfield 416, 3), (22, .aload_n 0, 1), (23, .lload_n 1, 1), (24, .ldc2_w 472, 3), (27, .land, 1), (28, .lconst 0, 1), (29, .lcmp, 1), (30, .ifCond .eq 7, 3), (33, .iconst 1, 1), (34, .goto 4, 3), (37, .iconst 0, 1), (38, .putfield 469, 3), (41, .iconst 0, 1), (42, .istore_n 3, 1), (43, .iload_n 3, 1), (44, .bipush 6, 2), (46, .if_icmp .ge 67, 3), (49, .lload_n 1, 1), (50, .bipush 7, 2), (52, .bipush 8, 2), (54, .iload_n 3, 1), (55, .imul, 1), (56, .iadd, 1), (57, .lshr, 1), (58, .ldc2_w 478, 3), (61, .land, 1), (62, .l2i, 1), (63, .istore 4, 2), (65, .aload_n 0, 1), (66, .getfield 73, 3), (69, .iload_n 3, 1), (70, .iload 4, 2), (72, .bipush 31, 2), (74, .iand, 1), (75, .iastore, 1), (76, .aload_n 0, 1), (77, .getfield 76, 3), (80, .iload_n 3, 1), (81, .iload 4, 2), (83, .iconst 5, 1), (84, .ishr, 1), (85, .iconst 3, 1), (86, .iand, 1), (87, .iastore, 1), (88, .aload_n 0, 1), (89, .getfield 82, 3), (92, .iload_n 3, 1), (93, .iload 4, 2), (95, .sipush 128, 3), (98, .if_icmp .lt 7, 3), (101, .iconst 1, 1), (102, .goto 4, 3), (105, .iconst 0, 1), (106, .bastore, 1), (107, .iinc 3 1, 3), (110, .goto (-67), 3), (113, .return_, 1)]
theorem dt_M_unpack : ∀ q ∈ tb_M_unpack, decode prog_14_method_57_code q.1 = .ok (q.2.1, q.2.2) := by decide +kernel
set_option maxHeartbeats 4000000 in
set_option maxRecDepth 100000 in
theorem t_M_unpack_106 (v0 : Nat) (v1 : Int64) (v3 : Int32) (s0 : Int32) (s1 : Int32) (s2 : Nat) (h : HP) : xx_S (xx_D "LampYardModel" tb_M_unpack 5 1 none false) (xx_z2 (fun s : (Int32 × HP) => s.2) xz_v) (fun K => xx_L2 (fun s : (Int32 × HP) => xx_X K 43 [(0, av_R 11 (some v0)), (1, av_L v1), (3, av_I s.1)] [] (s.2)) (xL_v K)) 106 [(0, av_R 11 (some v0)), (1, av_L v1), (3, av_I v3)] [av_I s0, av_I s1, av_R 15 (some s2)] h (f_M_unpack_106 v0 v1 v3 s0 s1 s2 h) := by
  unfold f_M_unpack_106
  refine xs_chk (fun hb_13 => ?_)
  refine xs_heap (hp_mo_si _ _ _ _) (fun K HC => xr_zast HC.1 66 107 (hp_in_vp hb_13) rfl rfl) (fun h_14 => ?_)
  refine xs_gen (fun v3_15 ev3_15 => ?_)
  refine xs_step (fun K HC => xr_iinc HC.1 67 110 (ix := 3) (j := 2) (n := (1)) (x := v3) v3_15 (lv' := [(0, av_R 11 (some v0)), (1, av_L v1), (3, av_I v3_15)]) rfl (by rw [ev3_15]; rfl) rfl rfl (by decide) rfl) ?_
  refine xs_step (fun K HC => xr_goto HC.1 68 43 rfl (by decide)) ?_
  exact xs_back rfl (fun K q => q)
set_option maxHeartbeats 4000000 in
set_option maxRecDepth 100000 in
theorem t_M_unpack_43b (v0 : Nat) (v1 : Int64) (v3 : Int32) (h : HP) : xx_S (xx_D "LampYardModel" tb_M_unpack 5 1 none false) (xx_z2 (fun s : (Int32 × HP) => s.2) xz_v) (fun K => xx_L2 (fun s : (Int32 × HP) => xx_X K 43 [(0, av_R 11 (some v0)), (1, av_L v1), (3, av_I s.1)] [] (s.2)) (xL_v K)) 43 [(0, av_R 11 (some v0)), (1, av_L v1), (3, av_I v3)] [] h (f_M_unpack_43b v0 v1 v3 h) := by
  unfold f_M_unpack_43b
  refine xs_step (fun K HC => xr_iload_n HC.1 27 44 (n := 3) (ix := 3) (j := 2) (x := v3) rfl rfl rfl rfl) ?_
  refine xs_step (fun K HC => xr_bipush HC.1 28 46 (n := (6)) (6 : Int32) rfl rfl rfl) ?_
  refine xs_ite (fun K HC => xr_icmp_ge HC.1 29 113 49 rfl (by decide) rfl) ?_ ?_
  · exact xs_ret 69 rfl rfl (fun K q => q)
  refine xs_step (fun K HC => xr_lload_n HC.1 30 50 (n := 1) (ix := 1) (j := 1) (x := v1) rfl rfl rfl rfl) ?_
  refine xs_step (fun K HC => xr_bipush HC.1 31 52 (n := (7)) (7 : Int32) rfl rfl rfl) ?_
  refine xs_step (fun K HC => xr_bipush HC.1 32 54 (n := (8)) (8 : Int32) rfl rfl rfl) ?_
  refine xs_step (fun K HC => xr_iload_n HC.1 33 55 (n := 3) (ix := 3) (j := 2) (x := v3) rfl rfl rfl rfl) ?_
  refine xs_step (fun K HC => xr_imul HC.1 34 56 rfl rfl) ?_
  refine xs_step (fun K HC => xr_iadd HC.1 35 57 rfl rfl) ?_
  refine xs_step (fun K HC => xr_lshr HC.1 36 58 rfl rfl) ?_
  refine xs_step (fun K HC => xr_ldc2 HC.1 37 61 wk_M_478 rfl rfl) ?_
  refine xs_step (fun K HC => xr_land HC.1 38 62 rfl rfl) ?_
  refine xs_step (fun K HC => xr_l2i HC.1 39 63 rfl rfl) ?_
  refine xs_topi (fun v4_5 => ?_)
  refine xs_step (fun K HC => xr_istore HC.1 40 65 (ix := 4) (lv' := [(0, av_R 11 (some v0)), (1, av_L v1), (3, av_I v3), (4, av_I v4_5)]) rfl rfl (by decide) rfl) ?_
  refine xs_step (fun K HC => xr_aload_n HC.1 41 66 (n := 0) (ix := 0) (j := 0) (c := 11) (x := v0) rfl rfl rfl rfl) ?_
  refine xs_bind (fun q_6 eq_6 => ?_)
  refine xs_step (fun K HC => xr_getr HC.1 42 69 11 47 13 eq_6 rfl rfl wf_M_73 (by decide) fb_11_47 fc_11_47 fd_11_47) ?_
  refine xs_step (fun K HC => xr_iload_n HC.1 43 70 (n := 3) (ix := 3) (j := 2) (x := v3) rfl rfl rfl rfl) ?_
  refine xs_step (fun K HC => xr_iload HC.1 44 72 (ix := 4) (j := 3) (x := v4_5) rfl rfl rfl) ?_
  refine xs_step (fun K HC => xr_bipush HC.1 45 74 (n := (31)) (31 : Int32) rfl rfl rfl) ?_
  refine xs_step (fun K HC => xr_iand HC.1 46 75 rfl rfl) ?_
  refine xs_chk (fun hb_7 => ?_)
  refine xs_heap (hp_mo_si _ _ _ _) (fun K HC => xr_iast HC.1 47 76 (hp_in_vp hb_7) rfl rfl) (fun h_8 => ?_)
  refine xs_step (fun K HC => xr_aload_n HC.1 48 77 (n := 0) (ix := 0) (j := 0) (c := 11) (x := v0) rfl rfl rfl rfl) ?_
  refine xs_bind (fun q_9 eq_9 => ?_)
  refine xs_step (fun K HC => xr_getr HC.1 49 80 11 48 13 eq_9 rfl rfl wf_M_76 (by decide) fb_11_48 fc_11_48 fd_11_48) ?_
  refine xs_step (fun K HC => xr_iload_n HC.1 50 81 (n := 3) (ix := 3) (j := 2) (x := v3) rfl rfl rfl rfl) ?_
  refine xs_step (fun K HC => xr_iload HC.1 51 83 (ix := 4) (j := 3) (x := v4_5) rfl rfl rfl) ?_
  refine xs_step (fun K HC => xr_iconst HC.1 52 84 (n := (5)) (5 : Int32) rfl rfl rfl) ?_
  refine xs_step (fun K HC => xr_ishr HC.1 53 85 rfl rfl) ?_
  refine xs_step (fun K HC => xr_iconst HC.1 54 86 (n := (3)) (3 : Int32) rfl rfl rfl) ?_
  refine xs_step (fun K HC => xr_iand HC.1 55 87 rfl rfl) ?_
  refine xs_chk (fun hb_10 => ?_)
  refine xs_heap (hp_mo_si _ _ _ _) (fun K HC => xr_iast HC.1 56 88 (hp_in_vp hb_10) rfl rfl) (fun h_11 => ?_)
  refine xs_step (fun K HC => xr_aload_n HC.1 57 89 (n := 0) (ix := 0) (j := 0) (c := 11) (x := v0) rfl rfl rfl rfl) ?_
  refine xs_bind (fun q_12 eq_12 => ?_)
  refine xs_step (fun K HC => xr_getr HC.1 58 92 11 50 15 eq_12 rfl rfl wf_M_82 (by decide) fb_11_50 fc_11_50 fd_11_50) ?_
  refine xs_step (fun K HC => xr_iload_n HC.1 59 93 (n := 3) (ix := 3) (j := 2) (x := v3) rfl rfl rfl rfl) ?_
  refine xs_step (fun K HC => xr_iload HC.1 60 95 (ix := 4) (j := 3) (x := v4_5) rfl rfl rfl) ?_
  refine xs_step (fun K HC => xr_sipush HC.1 61 98 (n := (128)) (128 : Int32) rfl rfl rfl) ?_
  refine xs_ite (fun K HC => xr_icmp_lt HC.1 62 105 101 rfl (by decide) rfl) ?_ ?_
  · refine xs_step (fun K HC => xr_iconst HC.1 65 106 (n := (0)) (0 : Int32) rfl rfl rfl) ?_
    refine xs_step (fun K HC => xr_sub (lv' := [(0, av_R 11 (some v0)), (1, av_L v1), (3, av_I v3)]) [0, 1, 2] rfl) ?_
    exact t_M_unpack_106 v0 v1 v3 (0 : Int32) v3 q_12 h_11
  refine xs_step (fun K HC => xr_iconst HC.1 63 102 (n := (1)) (1 : Int32) rfl rfl rfl) ?_
  refine xs_step (fun K HC => xr_goto HC.1 64 106 rfl (by decide)) ?_
  refine xs_step (fun K HC => xr_sub (lv' := [(0, av_R 11 (some v0)), (1, av_L v1), (3, av_I v3)]) [0, 1, 2] rfl) ?_
  exact t_M_unpack_106 v0 v1 v3 (1 : Int32) v3 q_12 h_11
theorem t_M_unpack_43 (v0 : Nat) (v1 : Int64) (v3 : Int32) (h : HP) : xx_S (xx_D "LampYardModel" tb_M_unpack 5 1 none false) xz_v (fun K => xL_v K) 43 [(0, av_R 11 (some v0)), (1, av_L v1), (3, av_I v3)] [] h (f_M_unpack_43 v0 v1 v3 h) :=
  xs_loop (zf := xz_v) (L := (fun K => xL_v K)) (fun s : (Int32 × HP) => [(0, av_R 11 (some v0)), (1, av_L v1), (3, av_I s.1)]) (fun s : (Int32 × HP) => s.2) (fun s => t_M_unpack_43b v0 v1 s.1 s.2) (v3, h)
set_option maxHeartbeats 4000000 in
set_option maxRecDepth 100000 in
theorem t_M_unpack_38 (v0 : Nat) (v1 : Int64) (s0 : Int32) (s1 : Nat) (h : HP) : xx_S (xx_D "LampYardModel" tb_M_unpack 5 1 none false) xz_v (fun K => xL_v K) 38 [(0, av_R 11 (some v0)), (1, av_L v1)] [av_I s0, av_R 11 (some s1)] h (f_M_unpack_38 v0 v1 s0 s1 h) := by
  unfold f_M_unpack_38
  refine xs_chk (fun hz_4 => ?_)
  refine xs_heap (hp_mo_si _ _ _ _) (fun K HC => xr_putz HC.1 24 41 11 67 (hp_z01_or hz_4) rfl rfl wf_M_469 (by decide) fb_11_67 fn_11_67 fy_11_67) (fun h_3 => ?_)
  refine xs_step (fun K HC => xr_iconst HC.1 25 42 (n := (0)) (0 : Int32) rfl rfl rfl) ?_
  refine xs_step (fun K HC => xr_istore_n HC.1 26 43 (n := 3) (ix := 3) (lv' := [(0, av_R 11 (some v0)), (1, av_L v1), (3, av_I (0 : Int32))]) rfl rfl rfl (by decide) rfl) ?_
  exact t_M_unpack_43 v0 v1 (0 : Int32) h_3
set_option maxHeartbeats 4000000 in
set_option maxRecDepth 100000 in
theorem t_M_unpack (v0 : Nat) (v1 : Int64) (h : HP) : xx_S (xx_D "LampYardModel" tb_M_unpack 5 1 none false) xz_v (fun K => xL_v K) 0 [(0, av_R 11 (some v0)), (1, av_L v1)] [] h (f_M_unpack v0 v1 h) := by
  unfold f_M_unpack
  refine xs_step (fun K HC => xr_aload_n HC.1 0 1 (n := 0) (ix := 0) (j := 0) (c := 11) (x := v0) rfl rfl rfl rfl) ?_
  refine xs_step (fun K HC => xr_lload_n HC.1 1 2 (n := 1) (ix := 1) (j := 1) (x := v1) rfl rfl rfl rfl) ?_
  refine xs_step (fun K HC => xr_ldc2 HC.1 2 5 wk_M_474 rfl rfl) ?_
  refine xs_step (fun K HC => xr_land HC.1 3 6 rfl rfl) ?_
  refine xs_step (fun K HC => xr_l2i HC.1 4 7 rfl rfl) ?_
  refine xs_heap (hp_mo_si _ _ _ _) (fun K HC => xr_puti HC.1 5 10 11 51 rfl rfl wf_M_413 (by decide) fb_11_51 fn_11_51 fy_11_51) (fun h_1 => ?_)
  refine xs_step (fun K HC => xr_aload_n HC.1 6 11 (n := 0) (ix := 0) (j := 0) (c := 11) (x := v0) rfl rfl rfl rfl) ?_
  refine xs_step (fun K HC => xr_lload_n HC.1 7 12 (n := 1) (ix := 1) (j := 1) (x := v1) rfl rfl rfl rfl) ?_
  refine xs_step (fun K HC => xr_iconst HC.1 8 13 (n := (2)) (2 : Int32) rfl rfl rfl) ?_
  refine xs_step (fun K HC => xr_lshr HC.1 9 14 rfl rfl) ?_
  refine xs_step (fun K HC => xr_ldc2 HC.1 10 17 wk_M_476 rfl rfl) ?_
  refine xs_step (fun K HC => xr_land HC.1 11 18 rfl rfl) ?_
  refine xs_step (fun K HC => xr_l2i HC.1 12 19 rfl rfl) ?_
  refine xs_heap (hp_mo_si _ _ _ _) (fun K HC => xr_puti HC.1 13 22 11 52 rfl rfl wf_M_416 (by decide) fb_11_52 fn_11_52 fy_11_52) (fun h_2 => ?_)
  refine xs_step (fun K HC => xr_aload_n HC.1 14 23 (n := 0) (ix := 0) (j := 0) (c := 11) (x := v0) rfl rfl rfl rfl) ?_
  refine xs_step (fun K HC => xr_lload_n HC.1 15 24 (n := 1) (ix := 1) (j := 1) (x := v1) rfl rfl rfl rfl) ?_
  refine xs_step (fun K HC => xr_ldc2 HC.1 16 27 wk_M_472 rfl rfl) ?_
  refine xs_step (fun K HC => xr_land HC.1 17 28 rfl rfl) ?_
  refine xs_step (fun K HC => xr_lconst HC.1 18 29 (n := 0) (0 : Int64) rfl rfl rfl) ?_
  refine xs_step (fun K HC => xr_lcmp HC.1 19 30 rfl rfl) ?_
  refine xs_ite (fun K HC => xr_if_eq HC.1 20 37 33 rfl (by decide) rfl) ?_ ?_
  · refine xs_step (fun K HC => xr_iconst HC.1 23 38 (n := (0)) (0 : Int32) rfl rfl rfl) ?_
    exact t_M_unpack_38 v0 v1 (0 : Int32) v0 h_2
  refine xs_step (fun K HC => xr_iconst HC.1 21 34 (n := (1)) (1 : Int32) rfl rfl rfl) ?_
  refine xs_step (fun K HC => xr_goto HC.1 22 38 rfl (by decide)) ?_
  exact t_M_unpack_38 v0 v1 (1 : Int32) v0 h_2
theorem s_M_unpack (v0 : Nat) (v1 : Int64) (h : HP) : ∀ x, f_M_unpack v0 v1 h = some x → hp_mo h x ∧ ∀ g l, xx_M g l y_M_unpack prog_14_method_57_code 5 none 1 [av_R 11 (some v0), av_L v1] h none x :=
  xM_v (tb := tb_M_unpack) (b := false) (by decide +kernel) dt_M_unpack trivial (Nat.le_of_ble_eq_true rfl) (fun hb => by cases hb) (t_M_unpack v0 v1 h)
def tb_M_slotOf : TBL := [(0, .lload_n 0, 1), (1, .ldc2_w 480, 3), (4, .lmul, 1), (5, .lstore_n 2, 1), (6, .lload_n 2, 1), (7, .bipush 50, 2), (9, .lushr, 1), (10, .l2i, 1), (11, .sipush 16384, 3), (14, .irem, 1), (15, .ireturn, 1)]
theorem dt_M_slotOf : ∀ q ∈ tb_M_slotOf, decode prog_14_method_58_code q.1 = .ok (q.2.1, q.2.2) := by decide +kernel
set_option maxHeartbeats 4000000 in
set_option maxRecDepth 100000 in
theorem t_M_slotOf (v0 : Int64) (h : HP) : xx_S (xx_D "LampYardModel" tb_M_slotOf 4 1 (some .int) false) xz_i (fun K => xL_i K) 0 [(0, av_L v0)] [] h (f_M_slotOf v0 h) := by
  unfold f_M_slotOf
  refine xs_step (fun K HC => xr_lload_n HC.1 0 1 (n := 0) (ix := 0) (j := 0) (x := v0) rfl rfl rfl rfl) ?_
  refine xs_step (fun K HC => xr_ldc2 HC.1 1 4 wk_M_480 rfl rfl) ?_
  refine xs_step (fun K HC => xr_lmul HC.1 2 5 rfl rfl) ?_
  refine xs_topl (fun v2_1 => ?_)
  refine xs_step (fun K HC => xr_lstore_n HC.1 3 6 (n := 2) (ix := 2) (lv' := [(0, av_L v0), (2, av_L v2_1)]) rfl rfl rfl (by decide) rfl) ?_
  refine xs_step (fun K HC => xr_lload_n HC.1 4 7 (n := 2) (ix := 2) (j := 1) (x := v2_1) rfl rfl rfl rfl) ?_
  refine xs_step (fun K HC => xr_bipush HC.1 5 9 (n := (50)) (50 : Int32) rfl rfl rfl) ?_
  refine xs_step (fun K HC => xr_lushr HC.1 6 10 rfl rfl) ?_
  refine xs_step (fun K HC => xr_l2i HC.1 7 11 rfl rfl) ?_
  refine xs_step (fun K HC => xr_sipush HC.1 8 14 (n := (16384)) (16384 : Int32) rfl rfl rfl) ?_
  refine xs_step (fun K HC => xr_irem HC.1 9 15 (by decide) rfl rfl) ?_
  exact xs_reti 10 rfl rfl (fun K q => q) (fun ty ht => by cases ht; rfl)
theorem s_M_slotOf (v0 : Int64) (h : HP) : ∀ x, f_M_slotOf v0 h = some x → hp_mo h x.2 ∧ ∀ g l, xx_M g l y_M_slotOf prog_14_method_58_code 4 (some .int) 1 [av_L v0] h (some (av_I x.1)) x.2 :=
  xM_i (tb := tb_M_slotOf) (b := false) (by decide +kernel) dt_M_slotOf (fun _ => trivial) (Nat.le_of_ble_eq_true rfl) (fun hb => by cases hb) (t_M_slotOf v0 h)
def tb_M_number : TBL := [(0, .aload_n 0, 1), (1, .invokevirtual 482, 3), (4, .lstore_n 1, 1), (5, .lload_n 1, 1), (6, .invokestatic 486, 3), (9, .istore_n 3, 1), (10, .aload_n 0, 1), (11, .getfield 97, 3), (14, .iload_n 3, 1), (15, .iaload, 1), (16, .ifCond .le 32, 3), (19, .aload_n 0, 1), (20, .getfield 94, 3), (23, .aload_n 0, 1), (24, .getfield 97, 3), (27, .iload_n 3, 1), (28, .iaload, 1), (29, .iconst 1, 1), (30, .isub, 1), (31, .laload, 1), (32, .lload_n 1, 1), (33, .lcmp, 1), (34, .ifCond .eq 14, 3), (37, .iload_n 3, 1), (38, .iconst 1, 1), (39, .iadd, 1), (40, .sipush 16384, 3), (43, .irem, 1), (44, .istore_n 3, 1), (45, .goto (-35), 3), (48, .aload_n 0, 1), (49, .getfield 97, 3), (52, .iload_n 3, 1), (53, .iaload, 1), (54, .ifCond .le 12, 3), (57, .aload_n 0, 1), (58, .getfield 97, 3), (61, .iload_n 3, 1), (62, .iaload, 1), (63, .iconst 1, 1), (64, .isub, 1), (65, .ireturn, 1), (66, .aload_n 0, 1), (67, .getfield 489, 3), (70, .sipush 5000, 3), (73, .if_icmp .ne 10, 3), (76, .aload_n 0, 1), (77, .iconst 1, 1), (78, .putfield 492, 3), (81, .iconst (-1), 1), (82, .ireturn, 1), (83, .aload_n 0, 1), (84, .getfield 94, 3), (87, .aload_n 0, 1), (88, .getfield 489, 3), (91, .lload_n 1, 1), (92, .lastore, 1), (93, .aload_n 0, 1), (94, .dup, 1), (95, .getfield 489, 3), (98, .iconst 1, 1), (99, .iadd, 1), (100, .putfield 489, 3), (103, .aload_n 0, 1), (104, .getfield 97, 3), (107, .iload_n 3, 1), (108, .aload_n 0, 1), (109, .getfield 489, 3), (112, .iastore, 1), (113, .aload_n 0, 1), (114, .getfield 489, 3), (117, .iconst 1, 1), (118, .isub, 1), (119, .ireturn, 1)]
theorem dt_M_number : ∀ q ∈ tb_M_number, decode prog_14_method_59_code q.1 = .ok (q.2.1, q.2.2) := by decide +kernel
set_option maxHeartbeats 4000000 in
set_option maxRecDepth 100000 in
theorem t_M_number_48 (v0 : Nat) (v1 : Int64) (v3 : Int32) (h : HP) : xx_S (xx_D "LampYardModel" tb_M_number 4 2 (some .int) false) xz_i (fun K => xL_i K) 48 [(0, av_R 11 (some v0)), (1, av_L v1), (3, av_I v3)] [] h (f_M_number_48 v0 v1 v3 h) := by
  unfold f_M_number_48
  refine xs_step (fun K HC => xr_aload_n HC.1 30 49 (n := 0) (ix := 0) (j := 0) (c := 11) (x := v0) rfl rfl rfl rfl) ?_
  refine xs_bind (fun q_5 eq_5 => ?_)
  refine xs_step (fun K HC => xr_getr HC.1 31 52 11 63 13 eq_5 rfl rfl wf_M_97 (by decide) fb_11_63 fc_11_63 fd_11_63) ?_
  refine xs_step (fun K HC => xr_iload_n HC.1 32 53 (n := 3) (ix := 3) (j := 2) (x := v3) rfl rfl rfl rfl) ?_
  refine xs_chk (fun hb_6 => ?_)
  refine xs_step (fun K HC => xr_iald HC.1 33 54 (hp_in_vp hb_6) rfl rfl) ?_
  refine xs_ite (fun K HC => xr_if_le HC.1 34 66 57 rfl (by decide) rfl) ?_ ?_
  · refine xs_step (fun K HC => xr_aload_n HC.1 42 67 (n := 0) (ix := 0) (j := 0) (c := 11) (x := v0) rfl rfl rfl rfl) ?_
    refine xs_step (fun K HC => xr_geti HC.1 43 70 11 65 rfl rfl wf_M_489 (by decide) fb_11_65 fc_11_65) ?_
    refine xs_step (fun K HC => xr_sipush HC.1 44 73 (n := (5000)) (5000 : Int32) rfl rfl rfl) ?_
    refine xs_ite (fun K HC a b => xr_icmp_ne HC.1 45 83 76 rfl (by decide) rfl b a) ?_ ?_
    · refine xs_step (fun K HC => xr_aload_n HC.1 46 77 (n := 0) (ix := 0) (j := 0) (c := 11) (x := v0) rfl rfl rfl rfl) ?_
      refine xs_step (fun K HC => xr_iconst HC.1 47 78 (n := (1)) (1 : Int32) rfl rfl rfl) ?_
      refine xs_heap (hp_mo_si _ _ _ _) (fun K HC => xr_putz HC.1 48 81 11 66 (Or.inr rfl) rfl rfl wf_M_492 (by decide) fb_11_66 fn_11_66 fy_11_66) (fun h_7 => ?_)
      refine xs_step (fun K HC => xr_iconst HC.1 49 82 (n := (-1)) (-1 : Int32) rfl rfl rfl) ?_
      exact xs_reti 50 rfl rfl (fun K q => q) (fun ty ht => by cases ht; rfl)
    refine xs_step (fun K HC => xr_aload_n HC.1 51 84 (n := 0) (ix := 0) (j := 0) (c := 11) (x := v0) rfl rfl rfl rfl) ?_
    refine xs_bind (fun q_8 eq_8 => ?_)
    refine xs_step (fun K HC => xr_getr HC.1 52 87 11 62 14 eq_8 rfl rfl wf_M_94 (by decide) fb_11_62 fc_11_62 fd_11_62) ?_
    refine xs_step (fun K HC => xr_aload_n HC.1 53 88 (n := 0) (ix := 0) (j := 0) (c := 11) (x := v0) rfl rfl rfl rfl) ?_
    refine xs_step (fun K HC => xr_geti HC.1 54 91 11 65 rfl rfl wf_M_489 (by decide) fb_11_65 fc_11_65) ?_
    refine xs_step (fun K HC => xr_lload_n HC.1 55 92 (n := 1) (ix := 1) (j := 1) (x := v1) rfl rfl rfl rfl) ?_
    refine xs_chk (fun hb_9 => ?_)
    refine xs_heap (hp_mo_sl _ _ _ _) (fun K HC => xr_last HC.1 56 93 (hp_in_vp hb_9) rfl rfl) (fun h_10 => ?_)
    refine xs_step (fun K HC => xr_aload_n HC.1 57 94 (n := 0) (ix := 0) (j := 0) (c := 11) (x := v0) rfl rfl rfl rfl) ?_
    refine xs_step (fun K HC => xr_dup HC.1 58 95 rfl rfl rfl) ?_
    refine xs_step (fun K HC => xr_geti HC.1 59 98 11 65 rfl rfl wf_M_489 (by decide) fb_11_65 fc_11_65) ?_
    refine xs_step (fun K HC => xr_iconst HC.1 60 99 (n := (1)) (1 : Int32) rfl rfl rfl) ?_
    refine xs_step (fun K HC => xr_iadd HC.1 61 100 rfl rfl) ?_
    refine xs_heap (hp_mo_si _ _ _ _) (fun K HC => xr_puti HC.1 62 103 11 65 rfl rfl wf_M_489 (by decide) fb_11_65 fn_11_65 fy_11_65) (fun h_11 => ?_)
    refine xs_step (fun K HC => xr_aload_n HC.1 63 104 (n := 0) (ix := 0) (j := 0) (c := 11) (x := v0) rfl rfl rfl rfl) ?_
    refine xs_bind (fun q_12 eq_12 => ?_)
    refine xs_step (fun K HC => xr_getr HC.1 64 107 11 63 13 eq_12 rfl rfl wf_M_97 (by decide) fb_11_63 fc_11_63 fd_11_63) ?_
    refine xs_step (fun K HC => xr_iload_n HC.1 65 108 (n := 3) (ix := 3) (j := 2) (x := v3) rfl rfl rfl rfl) ?_
    refine xs_step (fun K HC => xr_aload_n HC.1 66 109 (n := 0) (ix := 0) (j := 0) (c := 11) (x := v0) rfl rfl rfl rfl) ?_
    refine xs_step (fun K HC => xr_geti HC.1 67 112 11 65 rfl rfl wf_M_489 (by decide) fb_11_65 fc_11_65) ?_
    refine xs_chk (fun hb_13 => ?_)
    refine xs_heap (hp_mo_si _ _ _ _) (fun K HC => xr_iast HC.1 68 113 (hp_in_vp hb_13) rfl rfl) (fun h_14 => ?_)
    refine xs_step (fun K HC => xr_aload_n HC.1 69 114 (n := 0) (ix := 0) (j := 0) (c := 11) (x := v0) rfl rfl rfl rfl) ?_
    refine xs_step (fun K HC => xr_geti HC.1 70 117 11 65 rfl rfl wf_M_489 (by decide) fb_11_65 fc_11_65) ?_
    refine xs_step (fun K HC => xr_iconst HC.1 71 118 (n := (1)) (1 : Int32) rfl rfl rfl) ?_
    refine xs_step (fun K HC => xr_isub HC.1 72 119 rfl rfl) ?_
    exact xs_reti 73 rfl rfl (fun K q => q) (fun ty ht => by cases ht; rfl)
  refine xs_step (fun K HC => xr_aload_n HC.1 35 58 (n := 0) (ix := 0) (j := 0) (c := 11) (x := v0) rfl rfl rfl rfl) ?_
  refine xs_bind (fun q_15 eq_15 => ?_)
  refine xs_step (fun K HC => xr_getr HC.1 36 61 11 63 13 eq_15 rfl rfl wf_M_97 (by decide) fb_11_63 fc_11_63 fd_11_63) ?_
  refine xs_step (fun K HC => xr_iload_n HC.1 37 62 (n := 3) (ix := 3) (j := 2) (x := v3) rfl rfl rfl rfl) ?_
  refine xs_chk (fun hb_16 => ?_)
  refine xs_step (fun K HC => xr_iald HC.1 38 63 (hp_in_vp hb_16) rfl rfl) ?_
  refine xs_step (fun K HC => xr_iconst HC.1 39 64 (n := (1)) (1 : Int32) rfl rfl rfl) ?_
  refine xs_step (fun K HC => xr_isub HC.1 40 65 rfl rfl) ?_
  exact xs_reti 41 rfl rfl (fun K q => q) (fun ty ht => by cases ht; rfl)
set_option maxHeartbeats 4000000 in
set_option maxRecDepth 100000 in
theorem t_M_number_10b (v0 : Nat) (v1 : Int64) (v3 : Int32) (h : HP) : xx_S (xx_D "LampYardModel" tb_M_number 4 2 (some .int) false) (xx_z2 (fun s : (Int32 × HP) => s.2) xz_i) (fun K => xx_L2 (fun s : (Int32 × HP) => xx_X K 10 [(0, av_R 11 (some v0)), (1, av_L v1), (3, av_I s.1)] [] (s.2)) (xL_i K)) 10 [(0, av_R 11 (some v0)), (1, av_L v1), (3, av_I v3)] [] h (f_M_number_10b v0 v1 v3 h) := by
  unfold f_M_number_10b
  refine xs_step (fun K HC => xr_aload_n HC.1 6 11 (n := 0) (ix := 0) (j := 0) (c := 11) (x := v0) rfl rfl rfl rfl) ?_
  refine xs_bind (fun q_3 eq_3 => ?_)
  refine xs_step (fun K HC => xr_getr HC.1 7 14 11 63 13 eq_3 rfl rfl wf_M_97 (by decide) fb_11_63 fc_11_63 fd_11_63) ?_
  refine xs_step (fun K HC => xr_iload_n HC.1 8 15 (n := 3) (ix := 3) (j := 2) (x := v3) rfl rfl rfl rfl) ?_
  refine xs_chk (fun hb_4 => ?_)
  refine xs_step (fun K HC => xr_iald HC.1 9 16 (hp_in_vp hb_4) rfl rfl) ?_
  refine xs_ite (fun K HC => xr_if_le HC.1 10 48 19 rfl (by decide) rfl) ?_ ?_
  · exact xs_map (fun _ => rfl) (fun _ _ q => q) (t_M_number_48 v0 v1 v3 h)
  refine xs_step (fun K HC => xr_aload_n HC.1 11 20 (n := 0) (ix := 0) (j := 0) (c := 11) (x := v0) rfl rfl rfl rfl) ?_
  refine xs_bind (fun q_17 eq_17 => ?_)
  refine xs_step (fun K HC => xr_getr HC.1 12 23 11 62 14 eq_17 rfl rfl wf_M_94 (by decide) fb_11_62 fc_11_62 fd_11_62) ?_
  refine xs_step (fun K HC => xr_aload_n HC.1 13 24 (n := 0) (ix := 0) (j := 0) (c := 11) (x := v0) rfl rfl rfl rfl) ?_
  refine xs_bind (fun q_18 eq_18 => ?_)
  refine xs_step (fun K HC => xr_getr HC.1 14 27 11 63 13 eq_18 rfl rfl wf_M_97 (by decide) fb_11_63 fc_11_63 fd_11_63) ?_
  refine xs_step (fun K HC => xr_iload_n HC.1 15 28 (n := 3) (ix := 3) (j := 2) (x := v3) rfl rfl rfl rfl) ?_
  refine xs_chk (fun hb_19 => ?_)
  refine xs_step (fun K HC => xr_iald HC.1 16 29 (hp_in_vp hb_19) rfl rfl) ?_
  refine xs_step (fun K HC => xr_iconst HC.1 17 30 (n := (1)) (1 : Int32) rfl rfl rfl) ?_
  refine xs_step (fun K HC => xr_isub HC.1 18 31 rfl rfl) ?_
  refine xs_chk (fun hb_20 => ?_)
  refine xs_step (fun K HC => xr_lald HC.1 19 32 (hp_in_vp hb_20) rfl rfl) ?_
  refine xs_step (fun K HC => xr_lload_n HC.1 20 33 (n := 1) (ix := 1) (j := 1) (x := v1) rfl rfl rfl rfl) ?_
  refine xs_step (fun K HC => xr_lcmp HC.1 21 34 rfl rfl) ?_
  refine xs_ite (fun K HC => xr_if_eq HC.1 22 48 37 rfl (by decide) rfl) ?_ ?_
  · exact xs_map (fun _ => rfl) (fun _ _ q => q) (t_M_number_48 v0 v1 v3 h)
  refine xs_step (fun K HC => xr_iload_n HC.1 23 38 (n := 3) (ix := 3) (j := 2) (x := v3) rfl rfl rfl rfl) ?_
  refine xs_step (fun K HC => xr_iconst HC.1 24 39 (n := (1)) (1 : Int32) rfl rfl rfl) ?_
  refine xs_step (fun K HC => xr_iadd HC.1 25 40 rfl rfl) ?_
  refine xs_step (fun K HC => xr_sipush HC.1 26 43 (n := (16384)) (16384 : Int32) rfl rfl rfl) ?_
  refine xs_step (fun K HC => xr_irem HC.1 27 44 (by decide) rfl rfl) ?_
  refine xs_topi (fun v3_21 => ?_)
  refine xs_step (fun K HC => xr_istore_n HC.1 28 45 (n := 3) (ix := 3) (lv' := [(0, av_R 11 (some v0)), (1, av_L v1), (3, av_I v3_21)]) rfl rfl rfl (by decide) rfl) ?_
  refine xs_step (fun K HC => xr_goto HC.1 29 10 rfl (by decide)) ?_
  exact xs_back rfl (fun K q => q)
theorem t_M_number_10 (v0 : Nat) (v1 : Int64) (v3 : Int32) (h : HP) : xx_S (xx_D "LampYardModel" tb_M_number 4 2 (some .int) false) xz_i (fun K => xL_i K) 10 [(0, av_R 11 (some v0)), (1, av_L v1), (3, av_I v3)] [] h (f_M_number_10 v0 v1 v3 h) :=
  xs_loop (zf := xz_i) (L := (fun K => xL_i K)) (fun s : (Int32 × HP) => [(0, av_R 11 (some v0)), (1, av_L v1), (3, av_I s.1)]) (fun s : (Int32 × HP) => s.2) (fun s => t_M_number_10b v0 v1 s.1 s.2) (v3, h)
set_option maxHeartbeats 4000000 in
set_option maxRecDepth 100000 in
theorem t_M_number (v0 : Nat) (h : HP) : xx_S (xx_D "LampYardModel" tb_M_number 4 2 (some .int) false) xz_i (fun K => xL_i K) 0 [(0, av_R 11 (some v0))] [] h (f_M_number v0 h) := by
  unfold f_M_number
  refine xs_step (fun K HC => xr_aload_n HC.1 0 1 (n := 0) (ix := 0) (j := 0) (c := 11) (x := v0) rfl rfl rfl rfl) ?_
  refine xs_calll (s_M_packed v0 h) (fun K HC x9 hM hmo hb => xr_callV HC.1 1 4 (av := []) (st := []) (hM (kg K) (cx_l (kx K))) hmo hb rfl rfl wm_M_482 wi_M_packed ws_M_packed wc_M_packed rfl wh_M_packed (by decide) (by decide) (by decide) (Nat.le_of_ble_eq_true rfl) rfl) (fun x_1 => ?_)
  refine xs_step (fun K HC => xr_lstore_n HC.1 2 5 (n := 1) (ix := 1) (lv' := [(0, av_R 11 (some v0)), (1, av_L x_1.1)]) rfl rfl rfl (by decide) rfl) ?_
  refine xs_step (fun K HC => xr_lload_n HC.1 3 6 (n := 1) (ix := 1) (j := 1) (x := x_1.1) rfl rfl rfl rfl) ?_
  refine xs_calli (s_M_slotOf x_1.1 x_1.2) (fun K HC x9 hM hmo hb => xr_callS HC.1 4 9 (av := [av_L x_1.1]) (st := []) (hM (kg K) (cx_l (kx K))) hmo hb rfl rfl wm_M_486 wt_M_slotOf wn_M_slotOf wc_M_slotOf wh_M_slotOf (by decide) (by decide) (Nat.le_of_ble_eq_true rfl) rfl) (fun x_2 => ?_)
  refine xs_step (fun K HC => xr_istore_n HC.1 5 10 (n := 3) (ix := 3) (lv' := [(0, av_R 11 (some v0)), (1, av_L x_1.1), (3, av_I x_2.1)]) rfl rfl rfl (by decide) rfl) ?_
  exact t_M_number_10 v0 x_1.1 x_2.1 x_2.2
theorem s_M_number (v0 : Nat) (h : HP) : ∀ x, f_M_number v0 h = some x → hp_mo h x.2 ∧ ∀ g l, xx_M g l y_M_number prog_14_method_59_code 4 (some .int) 2 [av_R 11 (some v0)] h (some (av_I x.1)) x.2 :=
  xM_i (tb := tb_M_number) (b := false) (by decide +kernel) dt_M_number (fun _ => trivial) (Nat.le_of_ble_eq_true rfl) (fun hb => by cases hb) (t_M_number v0 h)
def tb_M_isStart : TBL := [(0, .iload_n 1, 1), (1, .aload_n 0, 1), (2, .invokevirtual 495, 3), (5, .if_icmp .gt 39, 3), (8, .iload_n 1, 1), (9, .ifCond .lt 35, 3), (12, .aload_n 0, 1), (13, .getfield 392, 3), (16, .iconst 2, 1), (17, .if_icmp .eq 23, 3), (20, .iload_n 1, 1), (21, .aload_n 0, 1), (22, .getfield 392, 3), (25, .iconst 1, 1), (26, .if_icmp .ne 10, 3), (29, .aload_n 0, 1), (30, .invokevirtual 495, 3), (33, .goto 4, 3), (36, .iconst 0, 1), (37, .if_icmp .ne 7, 3), (40, .iconst 1, 1), (41, .goto 4, 3), (44, .iconst 0, 1), (45, .ireturn, 1)]
theorem dt_M_isStart : ∀ q ∈ tb_M_isStart, decode prog_14_method_60_code q.1 = .ok (q.2.1, q.2.2) := by decide +kernel
set_option maxHeartbeats 4000000 in
set_option maxRecDepth 100000 in
theorem t_M_isStart_37 (s0 : Int32) (s1 : Int32) (h : HP) : xx_S (xx_D "LampYardModel" tb_M_isStart 2 2 (some .boolean) false) xz_i (fun K => xL_i K) 37 [] [av_I s0, av_I s1] h (f_M_isStart_37 s0 s1 h) := by
  unfold f_M_isStart_37
  refine xs_ite (fun K HC a b => xr_icmp_ne HC.1 19 44 40 rfl (by decide) rfl b a) ?_ ?_
  · refine xs_step (fun K HC => xr_iconst HC.1 20 41 (n := (1)) (1 : Int32) rfl rfl rfl) ?_
    refine xs_step (fun K HC => xr_goto HC.1 21 45 rfl (by decide)) ?_
    exact xs_reti 23 rfl rfl (fun K q => q) (fun ty ht => by cases ht; rfl)
  refine xs_step (fun K HC => xr_iconst HC.1 22 45 (n := (0)) (0 : Int32) rfl rfl rfl) ?_
  exact xs_reti 23 rfl rfl (fun K q => q) (fun ty ht => by cases ht; rfl)
set_option maxHeartbeats 4000000 in
set_option maxRecDepth 100000 in
theorem t_M_isStart (v0 : Nat) (v1 : Int32) (h : HP) : xx_S (xx_D "LampYardModel" tb_M_isStart 2 2 (some .boolean) false) xz_i (fun K => xL_i K) 0 [(0, av_R 11 (some v0)), (1, av_I v1)] [] h (f_M_isStart v0 v1 h) := by
  unfold f_M_isStart
  refine xs_step (fun K HC => xr_iload_n HC.1 0 1 (n := 1) (ix := 1) (j := 1) (x := v1) rfl rfl rfl rfl) ?_
  refine xs_step (fun K HC => xr_aload_n HC.1 1 2 (n := 0) (ix := 0) (j := 0) (c := 11) (x := v0) rfl rfl rfl rfl) ?_
  refine xs_calli (s_M_full v0 h) (fun K HC x9 hM hmo hb => xr_callV HC.1 2 5 (av := []) (st := [av_I v1]) (hM (kg K) (cx_l (kx K))) hmo hb rfl rfl wm_M_495 wi_M_full ws_M_full wc_M_full rfl wh_M_full (by decide) (by decide) (by decide) (Nat.le_of_ble_eq_true rfl) rfl) (fun x_1 => ?_)
  refine xs_ite (fun K HC => xr_icmp_gt HC.1 3 44 8 rfl (by decide) rfl) ?_ ?_
  · refine xs_step (fun K HC => xr_iconst HC.1 22 45 (n := (0)) (0 : Int32) rfl rfl rfl) ?_
    exact xs_reti 23 rfl rfl (fun K q => q) (fun ty ht => by cases ht; rfl)
  refine xs_step (fun K HC => xr_iload_n HC.1 4 9 (n := 1) (ix := 1) (j := 1) (x := v1) rfl rfl rfl rfl) ?_
  refine xs_ite (fun K HC => xr_if_lt HC.1 5 44 12 rfl (by decide) rfl) ?_ ?_
  · refine xs_step (fun K HC => xr_iconst HC.1 22 45 (n := (0)) (0 : Int32) rfl rfl rfl) ?_
    exact xs_reti 23 rfl rfl (fun K q => q) (fun ty ht => by cases ht; rfl)
  refine xs_step (fun K HC => xr_aload_n HC.1 6 13 (n := 0) (ix := 0) (j := 0) (c := 11) (x := v0) rfl rfl rfl rfl) ?_
  refine xs_step (fun K HC => xr_geti HC.1 7 16 11 31 rfl rfl wf_M_392 (by decide) fb_11_31 fc_11_31) ?_
  refine xs_step (fun K HC => xr_iconst HC.1 8 17 (n := (2)) (2 : Int32) rfl rfl rfl) ?_
  refine xs_ite (fun K HC => xr_icmp_eq HC.1 9 40 20 rfl (by decide) rfl) ?_ ?_
  · refine xs_step (fun K HC => xr_iconst HC.1 20 41 (n := (1)) (1 : Int32) rfl rfl rfl) ?_
    refine xs_step (fun K HC => xr_goto HC.1 21 45 rfl (by decide)) ?_
    exact xs_reti 23 rfl rfl (fun K q => q) (fun ty ht => by cases ht; rfl)
  refine xs_step (fun K HC => xr_iload_n HC.1 10 21 (n := 1) (ix := 1) (j := 1) (x := v1) rfl rfl rfl rfl) ?_
  refine xs_step (fun K HC => xr_aload_n HC.1 11 22 (n := 0) (ix := 0) (j := 0) (c := 11) (x := v0) rfl rfl rfl rfl) ?_
  refine xs_step (fun K HC => xr_geti HC.1 12 25 11 31 rfl rfl wf_M_392 (by decide) fb_11_31 fc_11_31) ?_
  refine xs_step (fun K HC => xr_iconst HC.1 13 26 (n := (1)) (1 : Int32) rfl rfl rfl) ?_
  refine xs_ite (fun K HC a b => xr_icmp_ne HC.1 14 36 29 rfl (by decide) rfl b a) ?_ ?_
  · refine xs_step (fun K HC => xr_aload_n HC.1 15 30 (n := 0) (ix := 0) (j := 0) (c := 11) (x := v0) rfl rfl rfl rfl) ?_
    refine xs_calli (s_M_full v0 x_1.2) (fun K HC x9 hM hmo hb => xr_callV HC.1 16 33 (av := []) (st := [av_I v1]) (hM (kg K) (cx_l (kx K))) hmo hb rfl rfl wm_M_495 wi_M_full ws_M_full wc_M_full rfl wh_M_full (by decide) (by decide) (by decide) (Nat.le_of_ble_eq_true rfl) rfl) (fun x_2 => ?_)
    refine xs_step (fun K HC => xr_goto HC.1 17 37 rfl (by decide)) ?_
    refine xs_step (fun K HC => xr_sub (lv' := []) [] rfl) ?_
    exact t_M_isStart_37 x_2.1 v1 x_2.2
  refine xs_step (fun K HC => xr_iconst HC.1 18 37 (n := (0)) (0 : Int32) rfl rfl rfl) ?_
  refine xs_step (fun K HC => xr_sub (lv' := []) [] rfl) ?_
  exact t_M_isStart_37 (0 : Int32) v1 x_1.2
theorem s_M_isStart (v0 : Nat) (v1 : Int32) (h : HP) : ∀ x, f_M_isStart v0 v1 h = some x → hp_mo h x.2 ∧ ∀ g l, xx_M g l y_M_isStart prog_14_method_60_code 2 (some .boolean) 2 [av_R 11 (some v0), av_I v1] h (some (av_I x.1)) x.2 :=
  xM_i (tb := tb_M_isStart) (b := false) (by decide +kernel) dt_M_isStart (fun _ => trivial) (Nat.le_of_ble_eq_true rfl) (fun hb => by cases hb) (t_M_isStart v0 v1 h)
def tb_M_doFault : TBL := [(0, .aload_n 0, 1), (1, .iconst 1, 1), (2, .putfield 469, 3), (5, .iload_n 1, 1), (6, .ifCond .ne 11, 3), (9, .aload_n 0, 1), (10, .iload_n 2, 1), (11, .invokevirtual 466, 3), (14, .goto 26, 3), (17, .iload_n 1, 1), (18, .iconst 1, 1), (19, .if_icmp .ne 11, 3), (22, .aload_n 0, 1), (23, .iconst 0, 1), (24, .putfield 413, 3), (27, .goto 13, 3), (30, .aload_n 0, 1), (31, .dup, 1), (32, .getfield 413, 3), (35, .iconst 1, 1), (36, .ixor, 1), (37, .putfield 413, 3), (40, .return_, 1)]
theorem dt_M_doFault : ∀ q ∈ tb_M_doFault, decode prog_14_method_61_code q.1 = .ok (q.2.1, q.2.2) := by decide +kernel
set_option maxHeartbeats 4000000 in
set_option maxRecDepth 100000 in
theorem t_M_doFault (v0 : Nat) (v1 : Int32) (v2 : Int32) (h : HP) : xx_S (xx_D "LampYardModel" tb_M_doFault 3 2 none false) xz_v (fun K => xL_v K) 0 [(0, av_R 11 (some v0)), (1, av_I v1), (2, av_I v2)] [] h (f_M_doFault v0 v1 v2 h) := by
  unfold f_M_doFault
  refine xs_step (fun K HC => xr_aload_n HC.1 0 1 (n := 0) (ix := 0) (j := 0) (c := 11) (x := v0) rfl rfl rfl rfl) ?_
  refine xs_step (fun K HC => xr_iconst HC.1 1 2 (n := (1)) (1 : Int32) rfl rfl rfl) ?_
  refine xs_heap (hp_mo_si _ _ _ _) (fun K HC => xr_putz HC.1 2 5 11 67 (Or.inr rfl) rfl rfl wf_M_469 (by decide) fb_11_67 fn_11_67 fy_11_67) (fun h_1 => ?_)
  refine xs_step (fun K HC => xr_iload_n HC.1 3 6 (n := 1) (ix := 1) (j := 1) (x := v1) rfl rfl rfl rfl) ?_
  refine xs_ite (fun K HC a b => xr_if_ne HC.1 4 17 9 rfl (by decide) rfl b a) ?_ ?_
  · refine xs_step (fun K HC => xr_aload_n HC.1 5 10 (n := 0) (ix := 0) (j := 0) (c := 11) (x := v0) rfl rfl rfl rfl) ?_
    refine xs_step (fun K HC => xr_iload_n HC.1 6 11 (n := 2) (ix := 2) (j := 2) (x := v2) rfl rfl rfl rfl) ?_
    refine xs_callv (s_M_forgetAt v0 v2 h_1) (fun K HC x9 hM hmo hb => xr_callV HC.1 7 14 (av := [av_I v2]) (st := []) (hM (kg K) (cx_l (kx K))) hmo hb rfl rfl wm_M_466 wi_M_forgetAt ws_M_forgetAt wc_M_forgetAt rfl wh_M_forgetAt (by decide) (by decide) (by decide) (Nat.le_of_ble_eq_true rfl) rfl) (fun x_2 => ?_)
    refine xs_step (fun K HC => xr_goto HC.1 8 40 rfl (by decide)) ?_
    exact xs_ret 22 rfl rfl (fun K q => q)
  refine xs_step (fun K HC => xr_iload_n HC.1 9 18 (n := 1) (ix := 1) (j := 1) (x := v1) rfl rfl rfl rfl) ?_
  refine xs_step (fun K HC => xr_iconst HC.1 10 19 (n := (1)) (1 : Int32) rfl rfl rfl) ?_
  refine xs_ite (fun K HC a b => xr_icmp_ne HC.1 11 30 22 rfl (by decide) rfl b a) ?_ ?_
  · refine xs_step (fun K HC => xr_aload_n HC.1 12 23 (n := 0) (ix := 0) (j := 0) (c := 11) (x := v0) rfl rfl rfl rfl) ?_
    refine xs_step (fun K HC => xr_iconst HC.1 13 24 (n := (0)) (0 : Int32) rfl rfl rfl) ?_
    refine xs_heap (hp_mo_si _ _ _ _) (fun K HC => xr_puti HC.1 14 27 11 51 rfl rfl wf_M_413 (by decide) fb_11_51 fn_11_51 fy_11_51) (fun h_3 => ?_)
    refine xs_step (fun K HC => xr_goto HC.1 15 40 rfl (by decide)) ?_
    exact xs_ret 22 rfl rfl (fun K q => q)
  refine xs_step (fun K HC => xr_aload_n HC.1 16 31 (n := 0) (ix := 0) (j := 0) (c := 11) (x := v0) rfl rfl rfl rfl) ?_
  refine xs_step (fun K HC => xr_dup HC.1 17 32 rfl rfl rfl) ?_
  refine xs_step (fun K HC => xr_geti HC.1 18 35 11 51 rfl rfl wf_M_413 (by decide) fb_11_51 fc_11_51) ?_
  refine xs_step (fun K HC => xr_iconst HC.1 19 36 (n := (1)) (1 : Int32) rfl rfl rfl) ?_
  refine xs_step (fun K HC => xr_ixor HC.1 20 37 rfl rfl) ?_
  refine xs_heap (hp_mo_si _ _ _ _) (fun K HC => xr_puti HC.1 21 40 11 51 rfl rfl wf_M_413 (by decide) fb_11_51 fn_11_51 fy_11_51) (fun h_4 => ?_)
  exact xs_ret 22 rfl rfl (fun K q => q)
theorem s_M_doFault (v0 : Nat) (v1 : Int32) (v2 : Int32) (h : HP) : ∀ x, f_M_doFault v0 v1 v2 h = some x → hp_mo h x ∧ ∀ g l, xx_M g l y_M_doFault prog_14_method_61_code 3 none 2 [av_R 11 (some v0), av_I v1, av_I v2] h none x :=
  xM_v (tb := tb_M_doFault) (b := false) (by decide +kernel) dt_M_doFault trivial (Nat.le_of_ble_eq_true rfl) (fun hb => by cases hb) (t_M_doFault v0 v1 v2 h)
def tb_M_follow : TBL := [(0, .aload_n 0, 1), (1, .getfield 94, 3), (4, .iload_n 1, 1), (5, .laload, 1), (6, .lstore_n 3, 1), (7, .iconst 0, 1), (8, .istore 5, 2), (10, .iload 5, 2), (12, .aload_n 0, 1), (13, .getfield 401, 3), (16, .if_icmp .ge 67, 3), (19, .aload_n 0, 1), (20, .getfield 492, 3), (23, .ifCond .ne 60, 3), (26, .aload_n 0, 1), (27, .lload_n 3, 1), (28, .invokevirtual 498, 3), (31, .aload_n 0, 1), (32, .iload 5, 2), (34, .invokevirtual 463, 3), (37, .istore 6, 2), (39, .aload_n 0, 1), (40, .getfield 100, 3), (43, .bipush 6, 2), (45, .iload_n 1, 1), (46, .imul, 1), (47, .iload 5, 2), (49, .iadd, 1), (50, .iload 6, 2), (52, .iconst 1, 1), (53, .if_icmp .ne 8, 3), (56, .bipush (-2), 2), (58, .goto 18, 3), (61, .iload 6, 2), (63, .iconst 2, 1), (64, .if_icmp .ne 8, 3), (67, .bipush (-3), 2), (69, .goto 7, 3), (72, .aload_n 0, 1), (73, .invokevirtual 501, 3), (76, .iastore, 1), (77, .iinc 5 1, 3), (80, .goto (-70), 3), (83, .aload_n 0, 1), (84, .lload_n 3, 1), (85, .invokevirtual 498, 3), (88, .iload_n 2, 1), (89, .iconst (-1), 1), (90, .if_icmp .eq 10, 3), (93, .aload_n 0, 1), (94, .getfield 469, 3), (97, .ifCond .eq 4, 3), (100, .return_, 1), (101, .iconst 0, 1), (102, .istore 5, 2), (104, .iload_n 2, 1), (105, .ifCond .ne 10, 3), (108, .aload_n 0, 1), (109, .getfield 401, 3), (112, .goto 4, 3), (115, .iconst 1, 1), (116, .istore 6, 2), (118, .iconst 0, 1), (119, .istore 7, 2), (121, .iload 7, 2), (123, .iload 6, 2), (125, .if_icmp .ge 34, 3), (128, .aload_n 0, 1), (129, .getfield 492, 3), (132, .ifCond .ne 27, 3), (135, .aload_n 0, 1), (136, .lload_n 3, 1), (137, .invokevirtual 498, 3), (140, .aload_n 0, 1), (141, .iload_n 2, 1), (142, .iload 7, 2), (144, .invokevirtual 503, 3), (147, .aload_n 0, 1), (148, .invokevirtual 501, 3), (151, .istore 5, 2), (153, .iinc 7 1, 3), (156, .goto (-35), 3), (159, .return_, 1)]
theorem dt_M_follow : ∀ q ∈ tb_M_follow, decode prog_14_method_62_code q.1 = .ok (q.2.1, q.2.2) := by decide +kernel
set_option maxHeartbeats 4000000 in
set_option maxRecDepth 100000 in
theorem t_M_follow_121b (v0 : Nat) (v2 : Int32) (v3 : Int64) (v6 : Int32) (v7 : Int32) (h : HP) : xx_S (xx_D "LampYardModel" tb_M_follow 8 5 none false) (xx_z2 (fun s : (Int32 × HP) => s.2) xz_v) (fun K => xx_L2 (fun s : (Int32 × HP) => xx_X K 121 [(0, av_R 11 (some v0)), (2, av_I v2), (3, av_L v3), (6, av_I v6), (7, av_I s.1)] [] (s.2)) (xL_v K)) 121 [(0, av_R 11 (some v0)), (2, av_I v2), (3, av_L v3), (6, av_I v6), (7, av_I v7)] [] h (f_M_follow_121b v0 v2 v3 v6 v7 h) := by
  unfold f_M_follow_121b
  refine xs_step (fun K HC => xr_iload HC.1 64 123 (ix := 7) (j := 4) (x := v7) rfl rfl rfl) ?_
  refine xs_step (fun K HC => xr_iload HC.1 65 125 (ix := 6) (j := 3) (x := v6) rfl rfl rfl) ?_
  refine xs_ite (fun K HC => xr_icmp_ge HC.1 66 159 128 rfl (by decide) rfl) ?_ ?_
  · exact xs_ret 82 rfl rfl (fun K q => q)
  refine xs_step (fun K HC => xr_aload_n HC.1 67 129 (n := 0) (ix := 0) (j := 0) (c := 11) (x := v0) rfl rfl rfl rfl) ?_
  refine xs_step (fun K HC => xr_geti HC.1 68 132 11 66 rfl rfl wf_M_492 (by decide) fb_11_66 fc_11_66) ?_
  refine xs_ite (fun K HC a b => xr_if_ne HC.1 69 159 135 rfl (by decide) rfl b a) ?_ ?_
  · refine xs_step (fun K HC => xr_aload_n HC.1 70 136 (n := 0) (ix := 0) (j := 0) (c := 11) (x := v0) rfl rfl rfl rfl) ?_
    refine xs_step (fun K HC => xr_lload_n HC.1 71 137 (n := 3) (ix := 3) (j := 2) (x := v3) rfl rfl rfl rfl) ?_
    refine xs_callv (s_M_unpack v0 v3 h) (fun K HC x9 hM hmo hb => xr_callV HC.1 72 140 (av := [av_L v3]) (st := []) (hM (kg K) (cx_l (kx K))) hmo hb rfl rfl wm_M_498 wi_M_unpack ws_M_unpack wc_M_unpack rfl wh_M_unpack (by decide) (by decide) (by decide) (Nat.le_of_ble_eq_true rfl) rfl) (fun x_5 => ?_)
    refine xs_step (fun K HC => xr_aload_n HC.1 73 141 (n := 0) (ix := 0) (j := 0) (c := 11) (x := v0) rfl rfl rfl rfl) ?_
    refine xs_step (fun K HC => xr_iload_n HC.1 74 142 (n := 2) (ix := 2) (j := 1) (x := v2) rfl rfl rfl rfl) ?_
    refine xs_step (fun K HC => xr_iload HC.1 75 144 (ix := 7) (j := 4) (x := v7) rfl rfl rfl) ?_
    refine xs_callv (s_M_doFault v0 v2 v7 x_5) (fun K HC x9 hM hmo hb => xr_callV HC.1 76 147 (av := [av_I v2, av_I v7]) (st := []) (hM (kg K) (cx_l (kx K))) hmo hb rfl rfl wm_M_503 wi_M_doFault ws_M_doFault wc_M_doFault rfl wh_M_doFault (by decide) (by decide) (by decide) (Nat.le_of_ble_eq_true rfl) rfl) (fun x_6 => ?_)
    refine xs_step (fun K HC => xr_aload_n HC.1 77 148 (n := 0) (ix := 0) (j := 0) (c := 11) (x := v0) rfl rfl rfl rfl) ?_
    refine xs_calli (s_M_number v0 x_6) (fun K HC x9 hM hmo hb => xr_callV HC.1 78 151 (av := []) (st := []) (hM (kg K) (cx_l (kx K))) hmo hb rfl rfl wm_M_501 wi_M_number ws_M_number wc_M_number rfl wh_M_number (by decide) (by decide) (by decide) (Nat.le_of_ble_eq_true rfl) rfl) (fun x_7 => ?_)
    refine xs_step (fun K HC => xr_istore HC.1 79 153 (ix := 5) (lv' := [(0, av_R 11 (some v0)), (2, av_I v2), (3, av_L v3), (5, av_I x_7.1), (6, av_I v6), (7, av_I v7)]) rfl rfl (by decide) rfl) ?_
    refine xs_gen (fun v7_8 ev7_8 => ?_)
    refine xs_step (fun K HC => xr_iinc HC.1 80 156 (ix := 7) (j := 5) (n := (1)) (x := v7) v7_8 (lv' := [(0, av_R 11 (some v0)), (2, av_I v2), (3, av_L v3), (5, av_I x_7.1), (6, av_I v6), (7, av_I v7_8)]) rfl (by rw [ev7_8]; rfl) rfl rfl (by decide) rfl) ?_
    refine xs_step (fun K HC => xr_goto HC.1 81 121 rfl (by decide)) ?_
    refine xs_step (fun K HC => xr_sub (lv' := [(0, av_R 11 (some v0)), (2, av_I v2), (3, av_L v3), (6, av_I v6), (7, av_I v7_8)]) [0, 1, 2, 4, 5] rfl) ?_
    exact xs_back rfl (fun K q => q)
  exact xs_ret 82 rfl rfl (fun K q => q)
theorem t_M_follow_121 (v0 : Nat) (v2 : Int32) (v3 : Int64) (v6 : Int32) (v7 : Int32) (h : HP) : xx_S (xx_D "LampYardModel" tb_M_follow 8 5 none false) xz_v (fun K => xL_v K) 121 [(0, av_R 11 (some v0)), (2, av_I v2), (3, av_L v3), (6, av_I v6), (7, av_I v7)] [] h (f_M_follow_121 v0 v2 v3 v6 v7 h) :=
  xs_loop (zf := xz_v) (L := (fun K => xL_v K)) (fun s : (Int32 × HP) => [(0, av_R 11 (some v0)), (2, av_I v2), (3, av_L v3), (6, av_I v6), (7, av_I s.1)]) (fun s : (Int32 × HP) => s.2) (fun s => t_M_follow_121b v0 v2 v3 v6 s.1 s.2) (v7, h)
set_option maxHeartbeats 4000000 in
set_option maxRecDepth 100000 in
theorem t_M_follow_116 (v0 : Nat) (v2 : Int32) (v3 : Int64) (s0 : Int32) (h : HP) : xx_S (xx_D "LampYardModel" tb_M_follow 8 5 none false) xz_v (fun K => xL_v K) 116 [(0, av_R 11 (some v0)), (2, av_I v2), (3, av_L v3)] [av_I s0] h (f_M_follow_116 v0 v2 v3 s0 h) := by
  unfold f_M_follow_116
  refine xs_step (fun K HC => xr_istore HC.1 61 118 (ix := 6) (lv' := [(0, av_R 11 (some v0)), (2, av_I v2), (3, av_L v3), (6, av_I s0)]) rfl rfl (by decide) rfl) ?_
  refine xs_step (fun K HC => xr_iconst HC.1 62 119 (n := (0)) (0 : Int32) rfl rfl rfl) ?_
  refine xs_step (fun K HC => xr_istore HC.1 63 121 (ix := 7) (lv' := [(0, av_R 11 (some v0)), (2, av_I v2), (3, av_L v3), (6, av_I s0), (7, av_I (0 : Int32))]) rfl rfl (by decide) rfl) ?_
  exact t_M_follow_121 v0 v2 v3 s0 (0 : Int32) h
set_option maxHeartbeats 4000000 in
set_option maxRecDepth 100000 in
theorem t_M_follow_83 (v0 : Nat) (v2 : Int32) (v3 : Int64) (h : HP) : xx_S (xx_D "LampYardModel" tb_M_follow 8 5 none false) xz_v (fun K => xL_v K) 83 [(0, av_R 11 (some v0)), (2, av_I v2), (3, av_L v3)] [] h (f_M_follow_83 v0 v2 v3 h) := by
  unfold f_M_follow_83
  refine xs_step (fun K HC => xr_aload_n HC.1 43 84 (n := 0) (ix := 0) (j := 0) (c := 11) (x := v0) rfl rfl rfl rfl) ?_
  refine xs_step (fun K HC => xr_lload_n HC.1 44 85 (n := 3) (ix := 3) (j := 2) (x := v3) rfl rfl rfl rfl) ?_
  refine xs_callv (s_M_unpack v0 v3 h) (fun K HC x9 hM hmo hb => xr_callV HC.1 45 88 (av := [av_L v3]) (st := []) (hM (kg K) (cx_l (kx K))) hmo hb rfl rfl wm_M_498 wi_M_unpack ws_M_unpack wc_M_unpack rfl wh_M_unpack (by decide) (by decide) (by decide) (Nat.le_of_ble_eq_true rfl) rfl) (fun x_4 => ?_)
  refine xs_step (fun K HC => xr_iload_n HC.1 46 89 (n := 2) (ix := 2) (j := 1) (x := v2) rfl rfl rfl rfl) ?_
  refine xs_step (fun K HC => xr_iconst HC.1 47 90 (n := (-1)) (-1 : Int32) rfl rfl rfl) ?_
  refine xs_ite (fun K HC => xr_icmp_eq HC.1 48 100 93 rfl (by decide) rfl) ?_ ?_
  · exact xs_ret 52 rfl rfl (fun K q => q)
  refine xs_step (fun K HC => xr_aload_n HC.1 49 94 (n := 0) (ix := 0) (j := 0) (c := 11) (x := v0) rfl rfl rfl rfl) ?_
  refine xs_step (fun K HC => xr_geti HC.1 50 97 11 67 rfl rfl wf_M_469 (by decide) fb_11_67 fc_11_67) ?_
  refine xs_ite (fun K HC => xr_if_eq HC.1 51 101 100 rfl (by decide) rfl) ?_ ?_
  · refine xs_step (fun K HC => xr_iconst HC.1 53 102 (n := (0)) (0 : Int32) rfl rfl rfl) ?_
    refine xs_step (fun K HC => xr_istore HC.1 54 104 (ix := 5) (lv' := [(0, av_R 11 (some v0)), (2, av_I v2), (3, av_L v3), (5, av_I (0 : Int32))]) rfl rfl (by decide) rfl) ?_
    refine xs_step (fun K HC => xr_iload_n HC.1 55 105 (n := 2) (ix := 2) (j := 1) (x := v2) rfl rfl rfl rfl) ?_
    refine xs_ite (fun K HC a b => xr_if_ne HC.1 56 115 108 rfl (by decide) rfl b a) ?_ ?_
    · refine xs_step (fun K HC => xr_aload_n HC.1 57 109 (n := 0) (ix := 0) (j := 0) (c := 11) (x := v0) rfl rfl rfl rfl) ?_
      refine xs_step (fun K HC => xr_geti HC.1 58 112 11 33 rfl rfl wf_M_401 (by decide) fb_11_33 fc_11_33) ?_
      refine xs_step (fun K HC => xr_goto HC.1 59 116 rfl (by decide)) ?_
      refine xs_step (fun K HC => xr_sub (lv' := [(0, av_R 11 (some v0)), (2, av_I v2), (3, av_L v3)]) [0, 1, 2] rfl) ?_
      exact t_M_follow_116 v0 v2 v3 (hp_i x_4 v0 33) x_4
    refine xs_step (fun K HC => xr_iconst HC.1 60 116 (n := (1)) (1 : Int32) rfl rfl rfl) ?_
    refine xs_step (fun K HC => xr_sub (lv' := [(0, av_R 11 (some v0)), (2, av_I v2), (3, av_L v3)]) [0, 1, 2] rfl) ?_
    exact t_M_follow_116 v0 v2 v3 (1 : Int32) x_4
  exact xs_ret 52 rfl rfl (fun K q => q)
set_option maxHeartbeats 4000000 in
set_option maxRecDepth 100000 in
theorem t_M_follow_76 (v0 : Nat) (v1 : Int32) (v2 : Int32) (v3 : Int64) (v5 : Int32) (s0 : Int32) (s1 : Int32) (s2 : Nat) (h : HP) : xx_S (xx_D "LampYardModel" tb_M_follow 8 5 none false) (xx_z2 (fun s : (Int32 × HP) => s.2) xz_v) (fun K => xx_L2 (fun s : (Int32 × HP) => xx_X K 10 [(0, av_R 11 (some v0)), (1, av_I v1), (2, av_I v2), (3, av_L v3), (5, av_I s.1)] [] (s.2)) (xL_v K)) 76 [(0, av_R 11 (some v0)), (1, av_I v1), (2, av_I v2), (3, av_L v3), (5, av_I v5)] [av_I s0, av_I s1, av_R 13 (some s2)] h (f_M_follow_76 v0 v1 v2 v3 v5 s0 s1 s2 h) := by
  unfold f_M_follow_76
  refine xs_chk (fun hb_12 => ?_)
  refine xs_heap (hp_mo_si _ _ _ _) (fun K HC => xr_iast HC.1 40 77 (hp_in_vp hb_12) rfl rfl) (fun h_13 => ?_)
  refine xs_gen (fun v5_14 ev5_14 => ?_)
  refine xs_step (fun K HC => xr_iinc HC.1 41 80 (ix := 5) (j := 4) (n := (1)) (x := v5) v5_14 (lv' := [(0, av_R 11 (some v0)), (1, av_I v1), (2, av_I v2), (3, av_L v3), (5, av_I v5_14)]) rfl (by rw [ev5_14]; rfl) rfl rfl (by decide) rfl) ?_
  refine xs_step (fun K HC => xr_goto HC.1 42 10 rfl (by decide)) ?_
  exact xs_back rfl (fun K q => q)
set_option maxHeartbeats 4000000 in
set_option maxRecDepth 100000 in
theorem t_M_follow_10b (v0 : Nat) (v1 : Int32) (v2 : Int32) (v3 : Int64) (v5 : Int32) (h : HP) : xx_S (xx_D "LampYardModel" tb_M_follow 8 5 none false) (xx_z2 (fun s : (Int32 × HP) => s.2) xz_v) (fun K => xx_L2 (fun s : (Int32 × HP) => xx_X K 10 [(0, av_R 11 (some v0)), (1, av_I v1), (2, av_I v2), (3, av_L v3), (5, av_I s.1)] [] (s.2)) (xL_v K)) 10 [(0, av_R 11 (some v0)), (1, av_I v1), (2, av_I v2), (3, av_L v3), (5, av_I v5)] [] h (f_M_follow_10b v0 v1 v2 v3 v5 h) := by
  unfold f_M_follow_10b
  refine xs_step (fun K HC => xr_iload HC.1 7 12 (ix := 5) (j := 4) (x := v5) rfl rfl rfl) ?_
  refine xs_step (fun K HC => xr_aload_n HC.1 8 13 (n := 0) (ix := 0) (j := 0) (c := 11) (x := v0) rfl rfl rfl rfl) ?_
  refine xs_step (fun K HC => xr_geti HC.1 9 16 11 33 rfl rfl wf_M_401 (by decide) fb_11_33 fc_11_33) ?_
  refine xs_ite (fun K HC => xr_icmp_ge HC.1 10 83 19 rfl (by decide) rfl) ?_ ?_
  · refine xs_step (fun K HC => xr_sub (lv' := [(0, av_R 11 (some v0)), (2, av_I v2), (3, av_L v3)]) [0, 2, 3] rfl) ?_
    exact xs_map (fun _ => rfl) (fun _ _ q => q) (t_M_follow_83 v0 v2 v3 h)
  refine xs_step (fun K HC => xr_aload_n HC.1 11 20 (n := 0) (ix := 0) (j := 0) (c := 11) (x := v0) rfl rfl rfl rfl) ?_
  refine xs_step (fun K HC => xr_geti HC.1 12 23 11 66 rfl rfl wf_M_492 (by decide) fb_11_66 fc_11_66) ?_
  refine xs_ite (fun K HC a b => xr_if_ne HC.1 13 83 26 rfl (by decide) rfl b a) ?_ ?_
  · refine xs_step (fun K HC => xr_aload_n HC.1 14 27 (n := 0) (ix := 0) (j := 0) (c := 11) (x := v0) rfl rfl rfl rfl) ?_
    refine xs_step (fun K HC => xr_lload_n HC.1 15 28 (n := 3) (ix := 3) (j := 3) (x := v3) rfl rfl rfl rfl) ?_
    refine xs_callv (s_M_unpack v0 v3 h) (fun K HC x9 hM hmo hb => xr_callV HC.1 16 31 (av := [av_L v3]) (st := []) (hM (kg K) (cx_l (kx K))) hmo hb rfl rfl wm_M_498 wi_M_unpack ws_M_unpack wc_M_unpack rfl wh_M_unpack (by decide) (by decide) (by decide) (Nat.le_of_ble_eq_true rfl) rfl) (fun x_9 => ?_)
    refine xs_step (fun K HC => xr_aload_n HC.1 17 32 (n := 0) (ix := 0) (j := 0) (c := 11) (x := v0) rfl rfl rfl rfl) ?_
    refine xs_step (fun K HC => xr_iload HC.1 18 34 (ix := 5) (j := 4) (x := v5) rfl rfl rfl) ?_
    refine xs_calli (s_M_go v0 v5 x_9) (fun K HC x9 hM hmo hb => xr_callV HC.1 19 37 (av := [av_I v5]) (st := []) (hM (kg K) (cx_l (kx K))) hmo hb rfl rfl wm_M_463 wi_M_go ws_M_go wc_M_go rfl wh_M_go (by decide) (by decide) (by decide) (Nat.le_of_ble_eq_true rfl) rfl) (fun x_10 => ?_)
    refine xs_step (fun K HC => xr_istore HC.1 20 39 (ix := 6) (lv' := [(0, av_R 11 (some v0)), (1, av_I v1), (2, av_I v2), (3, av_L v3), (5, av_I v5), (6, av_I x_10.1)]) rfl rfl (by decide) rfl) ?_
    refine xs_step (fun K HC => xr_aload_n HC.1 21 40 (n := 0) (ix := 0) (j := 0) (c := 11) (x := v0) rfl rfl rfl rfl) ?_
    refine xs_bind (fun q_11 eq_11 => ?_)
    refine xs_step (fun K HC => xr_getr HC.1 22 43 11 64 13 eq_11 rfl rfl wf_M_100 (by decide) fb_11_64 fc_11_64 fd_11_64) ?_
    refine xs_step (fun K HC => xr_bipush HC.1 23 45 (n := (6)) (6 : Int32) rfl rfl rfl) ?_
    refine xs_step (fun K HC => xr_iload_n HC.1 24 46 (n := 1) (ix := 1) (j := 1) (x := v1) rfl rfl rfl rfl) ?_
    refine xs_step (fun K HC => xr_imul HC.1 25 47 rfl rfl) ?_
    refine xs_step (fun K HC => xr_iload HC.1 26 49 (ix := 5) (j := 4) (x := v5) rfl rfl rfl) ?_
    refine xs_step (fun K HC => xr_iadd HC.1 27 50 rfl rfl) ?_
    refine xs_step (fun K HC => xr_iload HC.1 28 52 (ix := 6) (j := 5) (x := x_10.1) rfl rfl rfl) ?_
    refine xs_step (fun K HC => xr_iconst HC.1 29 53 (n := (1)) (1 : Int32) rfl rfl rfl) ?_
    refine xs_ite (fun K HC a b => xr_icmp_ne HC.1 30 61 56 rfl (by decide) rfl b a) ?_ ?_
    · refine xs_step (fun K HC => xr_bipush HC.1 31 58 (n := (-2)) (-2 : Int32) rfl rfl rfl) ?_
      refine xs_step (fun K HC => xr_goto HC.1 32 76 rfl (by decide)) ?_
      refine xs_step (fun K HC => xr_sub (lv' := [(0, av_R 11 (some v0)), (1, av_I v1), (2, av_I v2), (3, av_L v3), (5, av_I v5)]) [0, 1, 2, 3, 4] rfl) ?_
      exact t_M_follow_76 v0 v1 v2 v3 v5 (-2 : Int32) (((6 : Int32) * v1) + v5) q_11 x_10.2
    refine xs_step (fun K HC => xr_iload HC.1 33 63 (ix := 6) (j := 5) (x := x_10.1) rfl rfl rfl) ?_
    refine xs_step (fun K HC => xr_iconst HC.1 34 64 (n := (2)) (2 : Int32) rfl rfl rfl) ?_
    refine xs_ite (fun K HC a b => xr_icmp_ne HC.1 35 72 67 rfl (by decide) rfl b a) ?_ ?_
    · refine xs_step (fun K HC => xr_bipush HC.1 36 69 (n := (-3)) (-3 : Int32) rfl rfl rfl) ?_
      refine xs_step (fun K HC => xr_goto HC.1 37 76 rfl (by decide)) ?_
      refine xs_step (fun K HC => xr_sub (lv' := [(0, av_R 11 (some v0)), (1, av_I v1), (2, av_I v2), (3, av_L v3), (5, av_I v5)]) [0, 1, 2, 3, 4] rfl) ?_
      exact t_M_follow_76 v0 v1 v2 v3 v5 (-3 : Int32) (((6 : Int32) * v1) + v5) q_11 x_10.2
    refine xs_step (fun K HC => xr_aload_n HC.1 38 73 (n := 0) (ix := 0) (j := 0) (c := 11) (x := v0) rfl rfl rfl rfl) ?_
    refine xs_calli (s_M_number v0 x_10.2) (fun K HC x9 hM hmo hb => xr_callV HC.1 39 76 (av := []) (st := [av_I (((6 : Int32) * v1) + v5), av_R 13 (some q_11)]) (hM (kg K) (cx_l (kx K))) hmo hb rfl rfl wm_M_501 wi_M_number ws_M_number wc_M_number rfl wh_M_number (by decide) (by decide) (by decide) (Nat.le_of_ble_eq_true rfl) rfl) (fun x_15 => ?_)
    refine xs_step (fun K HC => xr_sub (lv' := [(0, av_R 11 (some v0)), (1, av_I v1), (2, av_I v2), (3, av_L v3), (5, av_I v5)]) [0, 1, 2, 3, 4] rfl) ?_
    exact t_M_follow_76 v0 v1 v2 v3 v5 x_15.1 (((6 : Int32) * v1) + v5) q_11 x_15.2
  refine xs_step (fun K HC => xr_sub (lv' := [(0, av_R 11 (some v0)), (2, av_I v2), (3, av_L v3)]) [0, 2, 3] rfl) ?_
  exact xs_map (fun _ => rfl) (fun _ _ q => q) (t_M_follow_83 v0 v2 v3 h)
theorem t_M_follow_10 (v0 : Nat) (v1 : Int32) (v2 : Int32) (v3 : Int64) (v5 : Int32) (h : HP) : xx_S (xx_D "LampYardModel" tb_M_follow 8 5 none false) xz_v (fun K => xL_v K) 10 [(0, av_R 11 (some v0)), (1, av_I v1), (2, av_I v2), (3, av_L v3), (5, av_I v5)] [] h (f_M_follow_10 v0 v1 v2 v3 v5 h) :=
  xs_loop (zf := xz_v) (L := (fun K => xL_v K)) (fun s : (Int32 × HP) => [(0, av_R 11 (some v0)), (1, av_I v1), (2, av_I v2), (3, av_L v3), (5, av_I s.1)]) (fun s : (Int32 × HP) => s.2) (fun s => t_M_follow_10b v0 v1 v2 v3 s.1 s.2) (v5, h)
set_option maxHeartbeats 4000000 in
set_option maxRecDepth 100000 in
theorem t_M_follow (v0 : Nat) (v1 : Int32) (v2 : Int32) (h : HP) : xx_S (xx_D "LampYardModel" tb_M_follow 8 5 none false) xz_v (fun K => xL_v K) 0 [(0, av_R 11 (some v0)), (1, av_I v1), (2, av_I v2)] [] h (f_M_follow v0 v1 v2 h) := by
  unfold f_M_follow
  refine xs_step (fun K HC => xr_aload_n HC.1 0 1 (n := 0) (ix := 0) (j := 0) (c := 11) (x := v0) rfl rfl rfl rfl) ?_
  refine xs_bind (fun q_1 eq_1 => ?_)
  refine xs_step (fun K HC => xr_getr HC.1 1 4 11 62 14 eq_1 rfl rfl wf_M_94 (by decide) fb_11_62 fc_11_62 fd_11_62) ?_
  refine xs_step (fun K HC => xr_iload_n HC.1 2 5 (n := 1) (ix := 1) (j := 1) (x := v1) rfl rfl rfl rfl) ?_
  refine xs_chk (fun hb_2 => ?_)
  refine xs_step (fun K HC => xr_lald HC.1 3 6 (hp_in_vp hb_2) rfl rfl) ?_
  refine xs_topl (fun v3_3 => ?_)
  refine xs_step (fun K HC => xr_lstore_n HC.1 4 7 (n := 3) (ix := 3) (lv' := [(0, av_R 11 (some v0)), (1, av_I v1), (2, av_I v2), (3, av_L v3_3)]) rfl rfl rfl (by decide) rfl) ?_
  refine xs_step (fun K HC => xr_iconst HC.1 5 8 (n := (0)) (0 : Int32) rfl rfl rfl) ?_
  refine xs_step (fun K HC => xr_istore HC.1 6 10 (ix := 5) (lv' := [(0, av_R 11 (some v0)), (1, av_I v1), (2, av_I v2), (3, av_L v3_3), (5, av_I (0 : Int32))]) rfl rfl (by decide) rfl) ?_
  exact t_M_follow_10 v0 v1 v2 v3_3 (0 : Int32) h
theorem s_M_follow (v0 : Nat) (v1 : Int32) (v2 : Int32) (h : HP) : ∀ x, f_M_follow v0 v1 v2 h = some x → hp_mo h x ∧ ∀ g l, xx_M g l y_M_follow prog_14_method_62_code 8 none 5 [av_R 11 (some v0), av_I v1, av_I v2] h none x :=
  xM_v (tb := tb_M_follow) (b := false) (by decide +kernel) dt_M_follow trivial (Nat.le_of_ble_eq_true rfl) (fun hb => by cases hb) (t_M_follow v0 v1 v2 h)
def tb_M_layStates : TBL := [(0, .aload_n 0, 1), (1, .iconst 0, 1), (2, .putfield 489, 3), (5, .aload_n 0, 1), (6, .iconst 0, 1), (7, .putfield 492, 3), (10, .iconst 0, 1), (11, .istore_n 2, 1), (12, .iload_n 2, 1), (13, .sipush 16384, 3), (16, .if_icmp .ge 16, 3), (19, .aload_n 0, 1), (20, .getfield 97, 3), (23, .iload_n 2, 1), (24, .iconst 0, 1), (25, .iastore, 1), (26, .iinc 2 1, 3), (29, .goto (-17), 3), (32, .aload_n 0, 1), (33, .iconst 0, 1), (34, .putfield 469, 3), (37, .iconst 0, 1), (38, .istore_n 2, 1), (39, .iconst 0, 1), (40, .istore_n 3, 1), (41, .iload_n 3, 1), (42, .aload_n 0, 1), (43, .invokevirtual 495, 3), (46, .if_icmp .gt 27, 3), (49, .aload_n 0, 1), (50, .iload_n 3, 1), (51, .invokevirtual 448, 3), (54, .aload_n 0, 1), (55, .iload_n 3, 1), (56, .invokevirtual 506, 3), (59, .ifCond .eq 8, 3), (62, .aload_n 0, 1), (63, .invokevirtual 501, 3), (66, .istore_n 2, 1), (67, .iinc 3 1, 3), (70, .goto (-29), 3), (73, .iconst 0, 1), (74, .istore_n 3, 1), (75, .iload_n 3, 1), (76, .aload_n 0, 1), (77, .getfield 489, 3), (80, .if_icmp .ge 22, 3), (83, .aload_n 0, 1), (84, .getfield 492, 3), (87, .ifCond .ne 15, 3), (90, .aload_n 0, 1), (91, .iload_n 3, 1), (92, .iload_n 1, 1), (93, .invokevirtual 509, 3), (96, .iinc 3 1, 3), (99, .goto (-24), 3), (102, .aload_n 0, 1), (103, .iconst 0, 1), (104, .putfield 469, 3), (107, .aload_n 0, 1), (108, .getfield 492, 3), (111, .ifCond .ne 7, 3), (114, .iconst 1, 1), (115, .goto 4, 3), (118, .iconst 0, 1), (119, .ireturn, 1)]
theorem dt_M_layStates : ∀ q ∈ tb_M_layStates, decode prog_14_method_63_code q.1 = .ok (q.2.1, q.2.2) := by decide +kernel
set_option maxHeartbeats 4000000 in
set_option maxRecDepth 100000 in
theorem t_M_layStates_102 (v0 : Nat) (h : HP) : xx_S (xx_D "LampYardModel" tb_M_layStates 4 6 (some .boolean) false) xz_i (fun K => xL_i K) 102 [(0, av_R 11 (some v0))] [] h (f_M_layStates_102 v0 h) := by
  unfold f_M_layStates_102
  refine xs_step (fun K HC => xr_aload_n HC.1 56 103 (n := 0) (ix := 0) (j := 0) (c := 11) (x := v0) rfl rfl rfl rfl) ?_
  refine xs_step (fun K HC => xr_iconst HC.1 57 104 (n := (0)) (0 : Int32) rfl rfl rfl) ?_
  refine xs_heap (hp_mo_si _ _ _ _) (fun K HC => xr_putz HC.1 58 107 11 67 (Or.inl rfl) rfl rfl wf_M_469 (by decide) fb_11_67 fn_11_67 fy_11_67) (fun h_5 => ?_)
  refine xs_step (fun K HC => xr_aload_n HC.1 59 108 (n := 0) (ix := 0) (j := 0) (c := 11) (x := v0) rfl rfl rfl rfl) ?_
  refine xs_step (fun K HC => xr_geti HC.1 60 111 11 66 rfl rfl wf_M_492 (by decide) fb_11_66 fc_11_66) ?_
  refine xs_ite (fun K HC a b => xr_if_ne HC.1 61 118 114 rfl (by decide) rfl b a) ?_ ?_
  · refine xs_step (fun K HC => xr_iconst HC.1 62 115 (n := (1)) (1 : Int32) rfl rfl rfl) ?_
    refine xs_step (fun K HC => xr_goto HC.1 63 119 rfl (by decide)) ?_
    exact xs_reti 65 rfl rfl (fun K q => q) (fun ty ht => by cases ht; rfl)
  refine xs_step (fun K HC => xr_iconst HC.1 64 119 (n := (0)) (0 : Int32) rfl rfl rfl) ?_
  exact xs_reti 65 rfl rfl (fun K q => q) (fun ty ht => by cases ht; rfl)
set_option maxHeartbeats 4000000 in
set_option maxRecDepth 100000 in
theorem t_M_layStates_75b (v0 : Nat) (v1 : Int32) (v3 : Int32) (h : HP) : xx_S (xx_D "LampYardModel" tb_M_layStates 4 6 (some .boolean) false) (xx_z2 (fun s : (Int32 × HP) => s.2) xz_i) (fun K => xx_L2 (fun s : (Int32 × HP) => xx_X K 75 [(0, av_R 11 (some v0)), (1, av_I v1), (3, av_I s.1)] [] (s.2)) (xL_i K)) 75 [(0, av_R 11 (some v0)), (1, av_I v1), (3, av_I v3)] [] h (f_M_layStates_75b v0 v1 v3 h) := by
  unfold f_M_layStates_75b
  refine xs_step (fun K HC => xr_iload_n HC.1 43 76 (n := 3) (ix := 3) (j := 2) (x := v3) rfl rfl rfl rfl) ?_
  refine xs_step (fun K HC => xr_aload_n HC.1 44 77 (n := 0) (ix := 0) (j := 0) (c := 11) (x := v0) rfl rfl rfl rfl) ?_
  refine xs_step (fun K HC => xr_geti HC.1 45 80 11 65 rfl rfl wf_M_489 (by decide) fb_11_65 fc_11_65) ?_
  refine xs_ite (fun K HC => xr_icmp_ge HC.1 46 102 83 rfl (by decide) rfl) ?_ ?_
  · refine xs_step (fun K HC => xr_sub (lv' := [(0, av_R 11 (some v0))]) [0] rfl) ?_
    exact xs_map (fun _ => rfl) (fun _ _ q => q) (t_M_layStates_102 v0 h)
  refine xs_step (fun K HC => xr_aload_n HC.1 47 84 (n := 0) (ix := 0) (j := 0) (c := 11) (x := v0) rfl rfl rfl rfl) ?_
  refine xs_step (fun K HC => xr_geti HC.1 48 87 11 66 rfl rfl wf_M_492 (by decide) fb_11_66 fc_11_66) ?_
  refine xs_ite (fun K HC a b => xr_if_ne HC.1 49 102 90 rfl (by decide) rfl b a) ?_ ?_
  · refine xs_step (fun K HC => xr_aload_n HC.1 50 91 (n := 0) (ix := 0) (j := 0) (c := 11) (x := v0) rfl rfl rfl rfl) ?_
    refine xs_step (fun K HC => xr_iload_n HC.1 51 92 (n := 3) (ix := 3) (j := 2) (x := v3) rfl rfl rfl rfl) ?_
    refine xs_step (fun K HC => xr_iload_n HC.1 52 93 (n := 1) (ix := 1) (j := 1) (x := v1) rfl rfl rfl rfl) ?_
    refine xs_callv (s_M_follow v0 v3 v1 h) (fun K HC x9 hM hmo hb => xr_callV HC.1 53 96 (av := [av_I v3, av_I v1]) (st := []) (hM (kg K) (cx_l (kx K))) hmo hb rfl rfl wm_M_509 wi_M_follow ws_M_follow wc_M_follow rfl wh_M_follow (by decide) (by decide) (by decide) (Nat.le_of_ble_eq_true rfl) rfl) (fun x_6 => ?_)
    refine xs_gen (fun v3_7 ev3_7 => ?_)
    refine xs_step (fun K HC => xr_iinc HC.1 54 99 (ix := 3) (j := 2) (n := (1)) (x := v3) v3_7 (lv' := [(0, av_R 11 (some v0)), (1, av_I v1), (3, av_I v3_7)]) rfl (by rw [ev3_7]; rfl) rfl rfl (by decide) rfl) ?_
    refine xs_step (fun K HC => xr_goto HC.1 55 75 rfl (by decide)) ?_
    exact xs_back rfl (fun K q => q)
  refine xs_step (fun K HC => xr_sub (lv' := [(0, av_R 11 (some v0))]) [0] rfl) ?_
  exact xs_map (fun _ => rfl) (fun _ _ q => q) (t_M_layStates_102 v0 h)
theorem t_M_layStates_75 (v0 : Nat) (v1 : Int32) (v3 : Int32) (h : HP) : xx_S (xx_D "LampYardModel" tb_M_layStates 4 6 (some .boolean) false) xz_i (fun K => xL_i K) 75 [(0, av_R 11 (some v0)), (1, av_I v1), (3, av_I v3)] [] h (f_M_layStates_75 v0 v1 v3 h) :=
  xs_loop (zf := xz_i) (L := (fun K => xL_i K)) (fun s : (Int32 × HP) => [(0, av_R 11 (some v0)), (1, av_I v1), (3, av_I s.1)]) (fun s : (Int32 × HP) => s.2) (fun s => t_M_layStates_75b v0 v1 s.1 s.2) (v3, h)
set_option maxHeartbeats 4000000 in
set_option maxRecDepth 100000 in
theorem t_M_layStates_73 (v0 : Nat) (v1 : Int32) (h : HP) : xx_S (xx_D "LampYardModel" tb_M_layStates 4 6 (some .boolean) false) xz_i (fun K => xL_i K) 73 [(0, av_R 11 (some v0)), (1, av_I v1)] [] h (f_M_layStates_73 v0 v1 h) := by
  unfold f_M_layStates_73
  refine xs_step (fun K HC => xr_iconst HC.1 41 74 (n := (0)) (0 : Int32) rfl rfl rfl) ?_
  refine xs_step (fun K HC => xr_istore_n HC.1 42 75 (n := 3) (ix := 3) (lv' := [(0, av_R 11 (some v0)), (1, av_I v1), (3, av_I (0 : Int32))]) rfl rfl rfl (by decide) rfl) ?_
  exact t_M_layStates_75 v0 v1 (0 : Int32) h
set_option maxHeartbeats 4000000 in
set_option maxRecDepth 100000 in
theorem t_M_layStates_67 (v0 : Nat) (v1 : Int32) (v3 : Int32) (h : HP) : xx_S (xx_D "LampYardModel" tb_M_layStates 4 6 (some .boolean) false) (xx_z2 (fun s : (Int32 × HP) => s.2) xz_i) (fun K => xx_L2 (fun s : (Int32 × HP) => xx_X K 41 [(0, av_R 11 (some v0)), (1, av_I v1), (3, av_I s.1)] [] (s.2)) (xL_i K)) 67 [(0, av_R 11 (some v0)), (1, av_I v1), (3, av_I v3)] [] h (f_M_layStates_67 v0 v1 v3 h) := by
  unfold f_M_layStates_67
  refine xs_gen (fun v3_10 ev3_10 => ?_)
  refine xs_step (fun K HC => xr_iinc HC.1 39 70 (ix := 3) (j := 2) (n := (1)) (x := v3) v3_10 (lv' := [(0, av_R 11 (some v0)), (1, av_I v1), (3, av_I v3_10)]) rfl (by rw [ev3_10]; rfl) rfl rfl (by decide) rfl) ?_
  refine xs_step (fun K HC => xr_goto HC.1 40 41 rfl (by decide)) ?_
  exact xs_back rfl (fun K q => q)
set_option maxHeartbeats 4000000 in
set_option maxRecDepth 100000 in
theorem t_M_layStates_41b (v0 : Nat) (v1 : Int32) (v3 : Int32) (h : HP) : xx_S (xx_D "LampYardModel" tb_M_layStates 4 6 (some .boolean) false) (xx_z2 (fun s : (Int32 × HP) => s.2) xz_i) (fun K => xx_L2 (fun s : (Int32 × HP) => xx_X K 41 [(0, av_R 11 (some v0)), (1, av_I v1), (3, av_I s.1)] [] (s.2)) (xL_i K)) 41 [(0, av_R 11 (some v0)), (1, av_I v1), (3, av_I v3)] [] h (f_M_layStates_41b v0 v1 v3 h) := by
  unfold f_M_layStates_41b
  refine xs_step (fun K HC => xr_iload_n HC.1 25 42 (n := 3) (ix := 3) (j := 2) (x := v3) rfl rfl rfl rfl) ?_
  refine xs_step (fun K HC => xr_aload_n HC.1 26 43 (n := 0) (ix := 0) (j := 0) (c := 11) (x := v0) rfl rfl rfl rfl) ?_
  refine xs_calli (s_M_full v0 h) (fun K HC x9 hM hmo hb => xr_callV HC.1 27 46 (av := []) (st := [av_I v3]) (hM (kg K) (cx_l (kx K))) hmo hb rfl rfl wm_M_495 wi_M_full ws_M_full wc_M_full rfl wh_M_full (by decide) (by decide) (by decide) (Nat.le_of_ble_eq_true rfl) rfl) (fun x_4 => ?_)
  refine xs_ite (fun K HC => xr_icmp_gt HC.1 28 73 49 rfl (by decide) rfl) ?_ ?_
  · refine xs_step (fun K HC => xr_sub (lv' := [(0, av_R 11 (some v0)), (1, av_I v1)]) [0, 1] rfl) ?_
    exact xs_map (fun _ => rfl) (fun _ _ q => q) (t_M_layStates_73 v0 v1 x_4.2)
  refine xs_step (fun K HC => xr_aload_n HC.1 29 50 (n := 0) (ix := 0) (j := 0) (c := 11) (x := v0) rfl rfl rfl rfl) ?_
  refine xs_step (fun K HC => xr_iload_n HC.1 30 51 (n := 3) (ix := 3) (j := 2) (x := v3) rfl rfl rfl rfl) ?_
  refine xs_callv (s_M_fresh v0 v3 x_4.2) (fun K HC x9 hM hmo hb => xr_callV HC.1 31 54 (av := [av_I v3]) (st := []) (hM (kg K) (cx_l (kx K))) hmo hb rfl rfl wm_M_448 wi_M_fresh ws_M_fresh wc_M_fresh rfl wh_M_fresh (by decide) (by decide) (by decide) (Nat.le_of_ble_eq_true rfl) rfl) (fun x_8 => ?_)
  refine xs_step (fun K HC => xr_aload_n HC.1 32 55 (n := 0) (ix := 0) (j := 0) (c := 11) (x := v0) rfl rfl rfl rfl) ?_
  refine xs_step (fun K HC => xr_iload_n HC.1 33 56 (n := 3) (ix := 3) (j := 2) (x := v3) rfl rfl rfl rfl) ?_
  refine xs_calli (s_M_isStart v0 v3 x_8) (fun K HC x9 hM hmo hb => xr_callV HC.1 34 59 (av := [av_I v3]) (st := []) (hM (kg K) (cx_l (kx K))) hmo hb rfl rfl wm_M_506 wi_M_isStart ws_M_isStart wc_M_isStart rfl wh_M_isStart (by decide) (by decide) (by decide) (Nat.le_of_ble_eq_true rfl) rfl) (fun x_9 => ?_)
  refine xs_ite (fun K HC => xr_if_eq HC.1 35 67 62 rfl (by decide) rfl) ?_ ?_
  · exact t_M_layStates_67 v0 v1 v3 x_9.2
  refine xs_step (fun K HC => xr_aload_n HC.1 36 63 (n := 0) (ix := 0) (j := 0) (c := 11) (x := v0) rfl rfl rfl rfl) ?_
  refine xs_calli (s_M_number v0 x_9.2) (fun K HC x9 hM hmo hb => xr_callV HC.1 37 66 (av := []) (st := []) (hM (kg K) (cx_l (kx K))) hmo hb rfl rfl wm_M_501 wi_M_number ws_M_number wc_M_number rfl wh_M_number (by decide) (by decide) (by decide) (Nat.le_of_ble_eq_true rfl) rfl) (fun x_11 => ?_)
  refine xs_step (fun K HC => xr_istore_n HC.1 38 67 (n := 2) (ix := 2) (lv' := [(0, av_R 11 (some v0)), (1, av_I v1), (2, av_I x_11.1), (3, av_I v3)]) rfl rfl rfl (by decide) rfl) ?_
  refine xs_step (fun K HC => xr_sub (lv' := [(0, av_R 11 (some v0)), (1, av_I v1), (3, av_I v3)]) [0, 1, 3] rfl) ?_
  exact t_M_layStates_67 v0 v1 v3 x_11.2
theorem t_M_layStates_41 (v0 : Nat) (v1 : Int32) (v3 : Int32) (h : HP) : xx_S (xx_D "LampYardModel" tb_M_layStates 4 6 (some .boolean) false) xz_i (fun K => xL_i K) 41 [(0, av_R 11 (some v0)), (1, av_I v1), (3, av_I v3)] [] h (f_M_layStates_41 v0 v1 v3 h) :=
  xs_loop (zf := xz_i) (L := (fun K => xL_i K)) (fun s : (Int32 × HP) => [(0, av_R 11 (some v0)), (1, av_I v1), (3, av_I s.1)]) (fun s : (Int32 × HP) => s.2) (fun s => t_M_layStates_41b v0 v1 s.1 s.2) (v3, h)
set_option maxHeartbeats 4000000 in
set_option maxRecDepth 100000 in
theorem t_M_layStates_32 (v0 : Nat) (v1 : Int32) (h : HP) : xx_S (xx_D "LampYardModel" tb_M_layStates 4 6 (some .boolean) false) xz_i (fun K => xL_i K) 32 [(0, av_R 11 (some v0)), (1, av_I v1)] [] h (f_M_layStates_32 v0 v1 h) := by
  unfold f_M_layStates_32
  refine xs_step (fun K HC => xr_aload_n HC.1 18 33 (n := 0) (ix := 0) (j := 0) (c := 11) (x := v0) rfl rfl rfl rfl) ?_
  refine xs_step (fun K HC => xr_iconst HC.1 19 34 (n := (0)) (0 : Int32) rfl rfl rfl) ?_
  refine xs_heap (hp_mo_si _ _ _ _) (fun K HC => xr_putz HC.1 20 37 11 67 (Or.inl rfl) rfl rfl wf_M_469 (by decide) fb_11_67 fn_11_67 fy_11_67) (fun h_3 => ?_)
  refine xs_step (fun K HC => xr_iconst HC.1 21 38 (n := (0)) (0 : Int32) rfl rfl rfl) ?_
  refine xs_step (fun K HC => xr_istore_n HC.1 22 39 (n := 2) (ix := 2) (lv' := [(0, av_R 11 (some v0)), (1, av_I v1), (2, av_I (0 : Int32))]) rfl rfl rfl (by decide) rfl) ?_
  refine xs_step (fun K HC => xr_iconst HC.1 23 40 (n := (0)) (0 : Int32) rfl rfl rfl) ?_
  refine xs_step (fun K HC => xr_istore_n HC.1 24 41 (n := 3) (ix := 3) (lv' := [(0, av_R 11 (some v0)), (1, av_I v1), (2, av_I (0 : Int32)), (3, av_I (0 : Int32))]) rfl rfl rfl (by decide) rfl) ?_
  refine xs_step (fun K HC => xr_sub (lv' := [(0, av_R 11 (some v0)), (1, av_I v1), (3, av_I (0 : Int32))]) [0, 1, 3] rfl) ?_
  exact t_M_layStates_41 v0 v1 (0 : Int32) h_3
set_option maxHeartbeats 4000000 in
set_option maxRecDepth 100000 in
theorem t_M_layStates_12b (v0 : Nat) (v1 : Int32) (v2 : Int32) (h : HP) : xx_S (xx_D "LampYardModel" tb_M_layStates 4 6 (some .boolean) false) (xx_z2 (fun s : (Int32 × HP) => s.2) xz_i) (fun K => xx_L2 (fun s : (Int32 × HP) => xx_X K 12 [(0, av_R 11 (some v0)), (1, av_I v1), (2, av_I s.1)] [] (s.2)) (xL_i K)) 12 [(0, av_R 11 (some v0)), (1, av_I v1), (2, av_I v2)] [] h (f_M_layStates_12b v0 v1 v2 h) := by
  unfold f_M_layStates_12b
  refine xs_step (fun K HC => xr_iload_n HC.1 8 13 (n := 2) (ix := 2) (j := 2) (x := v2) rfl rfl rfl rfl) ?_
  refine xs_step (fun K HC => xr_sipush HC.1 9 16 (n := (16384)) (16384 : Int32) rfl rfl rfl) ?_
  refine xs_ite (fun K HC => xr_icmp_ge HC.1 10 32 19 rfl (by decide) rfl) ?_ ?_
  · refine xs_step (fun K HC => xr_sub (lv' := [(0, av_R 11 (some v0)), (1, av_I v1)]) [0, 1] rfl) ?_
    exact xs_map (fun _ => rfl) (fun _ _ q => q) (t_M_layStates_32 v0 v1 h)
  refine xs_step (fun K HC => xr_aload_n HC.1 11 20 (n := 0) (ix := 0) (j := 0) (c := 11) (x := v0) rfl rfl rfl rfl) ?_
  refine xs_bind (fun q_12 eq_12 => ?_)
  refine xs_step (fun K HC => xr_getr HC.1 12 23 11 63 13 eq_12 rfl rfl wf_M_97 (by decide) fb_11_63 fc_11_63 fd_11_63) ?_
  refine xs_step (fun K HC => xr_iload_n HC.1 13 24 (n := 2) (ix := 2) (j := 2) (x := v2) rfl rfl rfl rfl) ?_
  refine xs_step (fun K HC => xr_iconst HC.1 14 25 (n := (0)) (0 : Int32) rfl rfl rfl) ?_
  refine xs_chk (fun hb_13 => ?_)
  refine xs_heap (hp_mo_si _ _ _ _) (fun K HC => xr_iast HC.1 15 26 (hp_in_vp hb_13) rfl rfl) (fun h_14 => ?_)
  refine xs_gen (fun v2_15 ev2_15 => ?_)
  refine xs_step (fun K HC => xr_iinc HC.1 16 29 (ix := 2) (j := 2) (n := (1)) (x := v2) v2_15 (lv' := [(0, av_R 11 (some v0)), (1, av_I v1), (2, av_I v2_15)]) rfl (by rw [ev2_15]; rfl) rfl rfl (by decide) rfl) ?_
  refine xs_step (fun K HC => xr_goto HC.1 17 12 rfl (by decide)) ?_
  exact xs_back rfl (fun K q => q)
theorem t_M_layStates_12 (v0 : Nat) (v1 : Int32) (v2 : Int32) (h : HP) : xx_S (xx_D "LampYardModel" tb_M_layStates 4 6 (some .boolean) false) xz_i (fun K => xL_i K) 12 [(0, av_R 11 (some v0)), (1, av_I v1), (2, av_I v2)] [] h (f_M_layStates_12 v0 v1 v2 h) :=
  xs_loop (zf := xz_i) (L := (fun K => xL_i K)) (fun s : (Int32 × HP) => [(0, av_R 11 (some v0)), (1, av_I v1), (2, av_I s.1)]) (fun s : (Int32 × HP) => s.2) (fun s => t_M_layStates_12b v0 v1 s.1 s.2) (v2, h)
set_option maxHeartbeats 4000000 in
set_option maxRecDepth 100000 in
theorem t_M_layStates (v0 : Nat) (v1 : Int32) (h : HP) : xx_S (xx_D "LampYardModel" tb_M_layStates 4 6 (some .boolean) false) xz_i (fun K => xL_i K) 0 [(0, av_R 11 (some v0)), (1, av_I v1)] [] h (f_M_layStates v0 v1 h) := by
  unfold f_M_layStates
  refine xs_step (fun K HC => xr_aload_n HC.1 0 1 (n := 0) (ix := 0) (j := 0) (c := 11) (x := v0) rfl rfl rfl rfl) ?_
  refine xs_step (fun K HC => xr_iconst HC.1 1 2 (n := (0)) (0 : Int32) rfl rfl rfl) ?_
  refine xs_heap (hp_mo_si _ _ _ _) (fun K HC => xr_puti HC.1 2 5 11 65 rfl rfl wf_M_489 (by decide) fb_11_65 fn_11_65 fy_11_65) (fun h_1 => ?_)
  refine xs_step (fun K HC => xr_aload_n HC.1 3 6 (n := 0) (ix := 0) (j := 0) (c := 11) (x := v0) rfl rfl rfl rfl) ?_
  refine xs_step (fun K HC => xr_iconst HC.1 4 7 (n := (0)) (0 : Int32) rfl rfl rfl) ?_
  refine xs_heap (hp_mo_si _ _ _ _) (fun K HC => xr_putz HC.1 5 10 11 66 (Or.inl rfl) rfl rfl wf_M_492 (by decide) fb_11_66 fn_11_66 fy_11_66) (fun h_2 => ?_)
  refine xs_step (fun K HC => xr_iconst HC.1 6 11 (n := (0)) (0 : Int32) rfl rfl rfl) ?_
  refine xs_step (fun K HC => xr_istore_n HC.1 7 12 (n := 2) (ix := 2) (lv' := [(0, av_R 11 (some v0)), (1, av_I v1), (2, av_I (0 : Int32))]) rfl rfl rfl (by decide) rfl) ?_
  exact t_M_layStates_12 v0 v1 (0 : Int32) h_2
theorem s_M_layStates (v0 : Nat) (v1 : Int32) (h : HP) : ∀ x, f_M_layStates v0 v1 h = some x → hp_mo h x.2 ∧ ∀ g l, xx_M g l y_M_layStates prog_14_method_63_code 4 (some .boolean) 6 [av_R 11 (some v0), av_I v1] h (some (av_I x.1)) x.2 :=
  xM_i (tb := tb_M_layStates) (b := false) (by decide +kernel) dt_M_layStates (fun _ => trivial) (Nat.le_of_ble_eq_true rfl) (fun hb => by cases hb) (t_M_layStates v0 v1 h)
def tb_M_layPlan : TBL := [(0, .aload_n 0, 1), (1, .invokevirtual 512, 3), (4, .aload_n 0, 1), (5, .iload_n 1, 1), (6, .invokevirtual 515, 3), (9, .istore_n 2, 1), (10, .aload_n 0, 1), (11, .invokevirtual 518, 3), (14, .iload_n 2, 1), (15, .ireturn, 1)]
theorem dt_M_layPlan : ∀ q ∈ tb_M_layPlan, decode prog_14_method_64_code q.1 = .ok (q.2.1, q.2.2) := by decide +kernel
set_option maxHeartbeats 4000000 in
set_option maxRecDepth 100000 in
theorem t_M_layPlan (v0 : Nat) (v1 : Int32) (h : HP) : xx_S (xx_D "LampYardModel" tb_M_layPlan 3 7 (some .boolean) false) xz_i (fun K => xL_i K) 0 [(0, av_R 11 (some v0)), (1, av_I v1)] [] h (f_M_layPlan v0 v1 h) := by
  unfold f_M_layPlan
  refine xs_step (fun K HC => xr_aload_n HC.1 0 1 (n := 0) (ix := 0) (j := 0) (c := 11) (x := v0) rfl rfl rfl rfl) ?_
  refine xs_callv (s_M_put v0 h) (fun K HC x9 hM hmo hb => xr_callV HC.1 1 4 (av := []) (st := []) (hM (kg K) (cx_l (kx K))) hmo hb rfl rfl wm_M_512 wi_M_put ws_M_put wc_M_put rfl wh_M_put (by decide) (by decide) (by decide) (Nat.le_of_ble_eq_true rfl) rfl) (fun x_1 => ?_)
  refine xs_step (fun K HC => xr_aload_n HC.1 2 5 (n := 0) (ix := 0) (j := 0) (c := 11) (x := v0) rfl rfl rfl rfl) ?_
  refine xs_step (fun K HC => xr_iload_n HC.1 3 6 (n := 1) (ix := 1) (j := 1) (x := v1) rfl rfl rfl rfl) ?_
  refine xs_calli (s_M_layStates v0 v1 x_1) (fun K HC x9 hM hmo hb => xr_callV HC.1 4 9 (av := [av_I v1]) (st := []) (hM (kg K) (cx_l (kx K))) hmo hb rfl rfl wm_M_515 wi_M_layStates ws_M_layStates wc_M_layStates rfl wh_M_layStates (by decide) (by decide) (by decide) (Nat.le_of_ble_eq_true rfl) rfl) (fun x_2 => ?_)
  refine xs_step (fun K HC => xr_istore_n HC.1 5 10 (n := 2) (ix := 2) (lv' := [(0, av_R 11 (some v0)), (1, av_I v1), (2, av_I x_2.1)]) rfl rfl rfl (by decide) rfl) ?_
  refine xs_step (fun K HC => xr_aload_n HC.1 6 11 (n := 0) (ix := 0) (j := 0) (c := 11) (x := v0) rfl rfl rfl rfl) ?_
  refine xs_callv (s_M_bring v0 x_2.2) (fun K HC x9 hM hmo hb => xr_callV HC.1 7 14 (av := []) (st := []) (hM (kg K) (cx_l (kx K))) hmo hb rfl rfl wm_M_518 wi_M_bring ws_M_bring wc_M_bring rfl wh_M_bring (by decide) (by decide) (by decide) (Nat.le_of_ble_eq_true rfl) rfl) (fun x_3 => ?_)
  refine xs_step (fun K HC => xr_iload_n HC.1 8 15 (n := 2) (ix := 2) (j := 2) (x := x_2.1) rfl rfl rfl rfl) ?_
  refine xs_chk (fun hz_4 => ?_)
  exact xs_reti 9 rfl rfl (fun K q => q) (fun ty ht => by cases ht; rcases hp_z01_or hz_4 with e9 | e9 <;> rw [e9] <;> rfl)
theorem s_M_layPlan (v0 : Nat) (v1 : Int32) (h : HP) : ∀ x, f_M_layPlan v0 v1 h = some x → hp_mo h x.2 ∧ ∀ g l, xx_M g l y_M_layPlan prog_14_method_64_code 3 (some .boolean) 7 [av_R 11 (some v0), av_I v1] h (some (av_I x.1)) x.2 :=
  xM_i (tb := tb_M_layPlan) (b := false) (by decide +kernel) dt_M_layPlan (fun _ => trivial) (Nat.le_of_ble_eq_true rfl) (fun hb => by cases hb) (t_M_layPlan v0 v1 h)
def tb_M_leads : TBL := [(0, .iconst 0, 1), (1, .istore_n 2, 1), (2, .iconst 0, 1), (3, .istore_n 3, 1), (4, .iload_n 3, 1), (5, .aload_n 0, 1), (6, .getfield 489, 3), (9, .if_icmp .ge 51, 3), (12, .iconst 0, 1), (13, .istore 4, 2), (15, .iload 4, 2), (17, .aload_n 0, 1), (18, .getfield 401, 3), (21, .if_icmp .ge 33, 3), (24, .iload_n 2, 1), (25, .aload_n 0, 1), (26, .getfield 100, 3), (29, .bipush 6, 2), (31, .iload_n 3, 1), (32, .imul, 1), (33, .iload 4, 2), (35, .iadd, 1), (36, .iaload, 1), (37, .iload_n 1, 1), (38, .if_icmp .ne 7, 3), (41, .iconst 1, 1), (42, .goto 4, 3), (45, .iconst 0, 1), (46, .iadd, 1), (47, .istore_n 2, 1), (48, .iinc 4 1, 3), (51, .goto (-36), 3), (54, .iinc 3 1, 3), (57, .goto (-53), 3), (60, .iload_n 2, 1), (61, .ireturn, 1)]
theorem dt_M_leads : ∀ q ∈ tb_M_leads, decode prog_14_method_65_code q.1 = .ok (q.2.1, q.2.2) := by decide +kernel
set_option maxHeartbeats 4000000 in
set_option maxRecDepth 100000 in
theorem t_M_leads_54 (v0 : Nat) (v1 : Int32) (v2 : Int32) (v3 : Int32) (h : HP) : xx_S (xx_D "LampYardModel" tb_M_leads 5 1 (some .int) false) (xx_z2 (fun s : (Int32 × Int32 × HP) => s.2.2) xz_i) (fun K => xx_L2 (fun s : (Int32 × Int32 × HP) => xx_X K 4 [(0, av_R 11 (some v0)), (1, av_I v1), (2, av_I s.1), (3, av_I s.2.1)] [] (s.2.2)) (xL_i K)) 54 [(0, av_R 11 (some v0)), (1, av_I v1), (2, av_I v2), (3, av_I v3)] [] h (f_M_leads_54 v0 v1 v2 v3 h) := by
  unfold f_M_leads_54
  refine xs_gen (fun v3_1 ev3_1 => ?_)
  refine xs_step (fun K HC => xr_iinc HC.1 32 57 (ix := 3) (j := 3) (n := (1)) (x := v3) v3_1 (lv' := [(0, av_R 11 (some v0)), (1, av_I v1), (2, av_I v2), (3, av_I v3_1)]) rfl (by rw [ev3_1]; rfl) rfl rfl (by decide) rfl) ?_
  refine xs_step (fun K HC => xr_goto HC.1 33 4 rfl (by decide)) ?_
  exact xs_back rfl (fun K q => q)
set_option maxHeartbeats 4000000 in
set_option maxRecDepth 100000 in
theorem t_M_leads_46 (v0 : Nat) (v1 : Int32) (v3 : Int32) (v4 : Int32) (s0 : Int32) (s1 : Int32) (h : HP) : xx_S (xx_D "LampYardModel" tb_M_leads 5 1 (some .int) false) (xx_z2 (fun s : (Int32 × Int32 × HP) => s.2.2) (xx_z2 (fun s : (Int32 × Int32 × HP) => s.2.2) xz_i)) (fun K => xx_L2 (fun s : (Int32 × Int32 × HP) => xx_X K 15 [(0, av_R 11 (some v0)), (1, av_I v1), (2, av_I s.1), (3, av_I v3), (4, av_I s.2.1)] [] (s.2.2)) (xx_L2 (fun s : (Int32 × Int32 × HP) => xx_X K 4 [(0, av_R 11 (some v0)), (1, av_I v1), (2, av_I s.1), (3, av_I s.2.1)] [] (s.2.2)) (xL_i K))) 46 [(0, av_R 11 (some v0)), (1, av_I v1), (3, av_I v3), (4, av_I v4)] [av_I s0, av_I s1] h (f_M_leads_46 v0 v1 v3 v4 s0 s1 h) := by
  unfold f_M_leads_46
  refine xs_step (fun K HC => xr_iadd HC.1 28 47 rfl rfl) ?_
  refine xs_topi (fun v2_4 => ?_)
  refine xs_step (fun K HC => xr_istore_n HC.1 29 48 (n := 2) (ix := 2) (lv' := [(0, av_R 11 (some v0)), (1, av_I v1), (2, av_I v2_4), (3, av_I v3), (4, av_I v4)]) rfl rfl rfl (by decide) rfl) ?_
  refine xs_gen (fun v4_5 ev4_5 => ?_)
  refine xs_step (fun K HC => xr_iinc HC.1 30 51 (ix := 4) (j := 4) (n := (1)) (x := v4) v4_5 (lv' := [(0, av_R 11 (some v0)), (1, av_I v1), (2, av_I v2_4), (3, av_I v3), (4, av_I v4_5)]) rfl (by rw [ev4_5]; rfl) rfl rfl (by decide) rfl) ?_
  refine xs_step (fun K HC => xr_goto HC.1 31 15 rfl (by decide)) ?_
  exact xs_back rfl (fun K q => q)
set_option maxHeartbeats 4000000 in
set_option maxRecDepth 100000 in
theorem t_M_leads_15b (v0 : Nat) (v1 : Int32) (v3 : Int32) (v2 : Int32) (v4 : Int32) (h : HP) : xx_S (xx_D "LampYardModel" tb_M_leads 5 1 (some .int) false) (xx_z2 (fun s : (Int32 × Int32 × HP) => s.2.2) (xx_z2 (fun s : (Int32 × Int32 × HP) => s.2.2) xz_i)) (fun K => xx_L2 (fun s : (Int32 × Int32 × HP) => xx_X K 15 [(0, av_R 11 (some v0)), (1, av_I v1), (2, av_I s.1), (3, av_I v3), (4, av_I s.2.1)] [] (s.2.2)) (xx_L2 (fun s : (Int32 × Int32 × HP) => xx_X K 4 [(0, av_R 11 (some v0)), (1, av_I v1), (2, av_I s.1), (3, av_I s.2.1)] [] (s.2.2)) (xL_i K))) 15 [(0, av_R 11 (some v0)), (1, av_I v1), (2, av_I v2), (3, av_I v3), (4, av_I v4)] [] h (f_M_leads_15b v0 v1 v3 v2 v4 h) := by
  unfold f_M_leads_15b
  refine xs_step (fun K HC => xr_iload HC.1 10 17 (ix := 4) (j := 4) (x := v4) rfl rfl rfl) ?_
  refine xs_step (fun K HC => xr_aload_n HC.1 11 18 (n := 0) (ix := 0) (j := 0) (c := 11) (x := v0) rfl rfl rfl rfl) ?_
  refine xs_step (fun K HC => xr_geti HC.1 12 21 11 33 rfl rfl wf_M_401 (by decide) fb_11_33 fc_11_33) ?_
  refine xs_ite (fun K HC => xr_icmp_ge HC.1 13 54 24 rfl (by decide) rfl) ?_ ?_
  · refine xs_step (fun K HC => xr_sub (lv' := [(0, av_R 11 (some v0)), (1, av_I v1), (2, av_I v2), (3, av_I v3)]) [0, 1, 2, 3] rfl) ?_
    exact xs_map (fun _ => rfl) (fun _ _ q => q) (t_M_leads_54 v0 v1 v2 v3 h)
  refine xs_step (fun K HC => xr_iload_n HC.1 14 25 (n := 2) (ix := 2) (j := 2) (x := v2) rfl rfl rfl rfl) ?_
  refine xs_step (fun K HC => xr_aload_n HC.1 15 26 (n := 0) (ix := 0) (j := 0) (c := 11) (x := v0) rfl rfl rfl rfl) ?_
  refine xs_bind (fun q_2 eq_2 => ?_)
  refine xs_step (fun K HC => xr_getr HC.1 16 29 11 64 13 eq_2 rfl rfl wf_M_100 (by decide) fb_11_64 fc_11_64 fd_11_64) ?_
  refine xs_step (fun K HC => xr_bipush HC.1 17 31 (n := (6)) (6 : Int32) rfl rfl rfl) ?_
  refine xs_step (fun K HC => xr_iload_n HC.1 18 32 (n := 3) (ix := 3) (j := 3) (x := v3) rfl rfl rfl rfl) ?_
  refine xs_step (fun K HC => xr_imul HC.1 19 33 rfl rfl) ?_
  refine xs_step (fun K HC => xr_iload HC.1 20 35 (ix := 4) (j := 4) (x := v4) rfl rfl rfl) ?_
  refine xs_step (fun K HC => xr_iadd HC.1 21 36 rfl rfl) ?_
  refine xs_chk (fun hb_3 => ?_)
  refine xs_step (fun K HC => xr_iald HC.1 22 37 (hp_in_vp hb_3) rfl rfl) ?_
  refine xs_step (fun K HC => xr_iload_n HC.1 23 38 (n := 1) (ix := 1) (j := 1) (x := v1) rfl rfl rfl rfl) ?_
  refine xs_ite (fun K HC a b => xr_icmp_ne HC.1 24 45 41 rfl (by decide) rfl b a) ?_ ?_
  · refine xs_step (fun K HC => xr_iconst HC.1 25 42 (n := (1)) (1 : Int32) rfl rfl rfl) ?_
    refine xs_step (fun K HC => xr_goto HC.1 26 46 rfl (by decide)) ?_
    refine xs_step (fun K HC => xr_sub (lv' := [(0, av_R 11 (some v0)), (1, av_I v1), (3, av_I v3), (4, av_I v4)]) [0, 1, 3, 4] rfl) ?_
    exact t_M_leads_46 v0 v1 v3 v4 (1 : Int32) v2 h
  refine xs_step (fun K HC => xr_iconst HC.1 27 46 (n := (0)) (0 : Int32) rfl rfl rfl) ?_
  refine xs_step (fun K HC => xr_sub (lv' := [(0, av_R 11 (some v0)), (1, av_I v1), (3, av_I v3), (4, av_I v4)]) [0, 1, 3, 4] rfl) ?_
  exact t_M_leads_46 v0 v1 v3 v4 (0 : Int32) v2 h
theorem t_M_leads_15 (v0 : Nat) (v1 : Int32) (v3 : Int32) (v2 : Int32) (v4 : Int32) (h : HP) : xx_S (xx_D "LampYardModel" tb_M_leads 5 1 (some .int) false) (xx_z2 (fun s : (Int32 × Int32 × HP) => s.2.2) xz_i) (fun K => xx_L2 (fun s : (Int32 × Int32 × HP) => xx_X K 4 [(0, av_R 11 (some v0)), (1, av_I v1), (2, av_I s.1), (3, av_I s.2.1)] [] (s.2.2)) (xL_i K)) 15 [(0, av_R 11 (some v0)), (1, av_I v1), (2, av_I v2), (3, av_I v3), (4, av_I v4)] [] h (f_M_leads_15 v0 v1 v3 v2 v4 h) :=
  xs_loop (zf := (xx_z2 (fun s : (Int32 × Int32 × HP) => s.2.2) xz_i)) (L := (fun K => xx_L2 (fun s : (Int32 × Int32 × HP) => xx_X K 4 [(0, av_R 11 (some v0)), (1, av_I v1), (2, av_I s.1), (3, av_I s.2.1)] [] (s.2.2)) (xL_i K))) (fun s : (Int32 × Int32 × HP) => [(0, av_R 11 (some v0)), (1, av_I v1), (2, av_I s.1), (3, av_I v3), (4, av_I s.2.1)]) (fun s : (Int32 × Int32 × HP) => s.2.2) (fun s => t_M_leads_15b v0 v1 v3 s.1 s.2.1 s.2.2) (v2, v4, h)
set_option maxHeartbeats 4000000 in
set_option maxRecDepth 100000 in
theorem t_M_leads_4b (v0 : Nat) (v1 : Int32) (v2 : Int32) (v3 : Int32) (h : HP) : xx_S (xx_D "LampYardModel" tb_M_leads 5 1 (some .int) false) (xx_z2 (fun s : (Int32 × Int32 × HP) => s.2.2) xz_i) (fun K => xx_L2 (fun s : (Int32 × Int32 × HP) => xx_X K 4 [(0, av_R 11 (some v0)), (1, av_I v1), (2, av_I s.1), (3, av_I s.2.1)] [] (s.2.2)) (xL_i K)) 4 [(0, av_R 11 (some v0)), (1, av_I v1), (2, av_I v2), (3, av_I v3)] [] h (f_M_leads_4b v0 v1 v2 v3 h) := by
  unfold f_M_leads_4b
  refine xs_step (fun K HC => xr_iload_n HC.1 4 5 (n := 3) (ix := 3) (j := 3) (x := v3) rfl rfl rfl rfl) ?_
  refine xs_step (fun K HC => xr_aload_n HC.1 5 6 (n := 0) (ix := 0) (j := 0) (c := 11) (x := v0) rfl rfl rfl rfl) ?_
  refine xs_step (fun K HC => xr_geti HC.1 6 9 11 65 rfl rfl wf_M_489 (by decide) fb_11_65 fc_11_65) ?_
  refine xs_ite (fun K HC => xr_icmp_ge HC.1 7 60 12 rfl (by decide) rfl) ?_ ?_
  · refine xs_step (fun K HC => xr_iload_n HC.1 34 61 (n := 2) (ix := 2) (j := 2) (x := v2) rfl rfl rfl rfl) ?_
    exact xs_reti 35 rfl rfl (fun K q => q) (fun ty ht => by cases ht; rfl)
  refine xs_step (fun K HC => xr_iconst HC.1 8 13 (n := (0)) (0 : Int32) rfl rfl rfl) ?_
  refine xs_step (fun K HC => xr_istore HC.1 9 15 (ix := 4) (lv' := [(0, av_R 11 (some v0)), (1, av_I v1), (2, av_I v2), (3, av_I v3), (4, av_I (0 : Int32))]) rfl rfl (by decide) rfl) ?_
  exact t_M_leads_15 v0 v1 v3 v2 (0 : Int32) h
theorem t_M_leads_4 (v0 : Nat) (v1 : Int32) (v2 : Int32) (v3 : Int32) (h : HP) : xx_S (xx_D "LampYardModel" tb_M_leads 5 1 (some .int) false) xz_i (fun K => xL_i K) 4 [(0, av_R 11 (some v0)), (1, av_I v1), (2, av_I v2), (3, av_I v3)] [] h (f_M_leads_4 v0 v1 v2 v3 h) :=
  xs_loop (zf := xz_i) (L := (fun K => xL_i K)) (fun s : (Int32 × Int32 × HP) => [(0, av_R 11 (some v0)), (1, av_I v1), (2, av_I s.1), (3, av_I s.2.1)]) (fun s : (Int32 × Int32 × HP) => s.2.2) (fun s => t_M_leads_4b v0 v1 s.1 s.2.1 s.2.2) (v2, v3, h)
set_option maxHeartbeats 4000000 in
set_option maxRecDepth 100000 in
theorem t_M_leads (v0 : Nat) (v1 : Int32) (h : HP) : xx_S (xx_D "LampYardModel" tb_M_leads 5 1 (some .int) false) xz_i (fun K => xL_i K) 0 [(0, av_R 11 (some v0)), (1, av_I v1)] [] h (f_M_leads v0 v1 h) := by
  unfold f_M_leads
  refine xs_step (fun K HC => xr_iconst HC.1 0 1 (n := (0)) (0 : Int32) rfl rfl rfl) ?_
  refine xs_step (fun K HC => xr_istore_n HC.1 1 2 (n := 2) (ix := 2) (lv' := [(0, av_R 11 (some v0)), (1, av_I v1), (2, av_I (0 : Int32))]) rfl rfl rfl (by decide) rfl) ?_
  refine xs_step (fun K HC => xr_iconst HC.1 2 3 (n := (0)) (0 : Int32) rfl rfl rfl) ?_
  refine xs_step (fun K HC => xr_istore_n HC.1 3 4 (n := 3) (ix := 3) (lv' := [(0, av_R 11 (some v0)), (1, av_I v1), (2, av_I (0 : Int32)), (3, av_I (0 : Int32))]) rfl rfl rfl (by decide) rfl) ?_
  exact t_M_leads_4 v0 v1 (0 : Int32) (0 : Int32) h
theorem s_M_leads (v0 : Nat) (v1 : Int32) (h : HP) : ∀ x, f_M_leads v0 v1 h = some x → hp_mo h x.2 ∧ ∀ g l, xx_M g l y_M_leads prog_14_method_65_code 5 (some .int) 1 [av_R 11 (some v0), av_I v1] h (some (av_I x.1)) x.2 :=
  xM_i (tb := tb_M_leads) (b := false) (by decide +kernel) dt_M_leads (fun _ => trivial) (Nat.le_of_ble_eq_true rfl) (fun hb => by cases hb) (t_M_leads v0 v1 h)
def tb_M_states : TBL := [(0, .iload_n 1, 1), (1, .ifCond .lt 8, 3), (4, .iload_n 1, 1), (5, .iconst 2, 1), (6, .if_icmp .le 5, 3), (9, .iconst (-1), 1), (10, .ireturn, 1), (11, .aload_n 0, 1), (12, .iconst (-1), 1), (13, .invokevirtual 521, 3), (16, .ifCond .ne 6, 3), (19, .bipush (-2), 2), (21, .ireturn, 1), (22, .iload_n 1, 1), (23, .ifCond .ne 10, 3), (26, .aload_n 0, 1), (27, .getfield 489, 3), (30, .goto 19, 3), (33, .aload_n 0, 1), (34, .iload_n 1, 1), (35, .iconst 1, 1), (36, .if_icmp .ne 8, 3), (39, .bipush (-2), 2), (41, .goto 5, 3), (44, .bipush (-3), 2), (46, .invokevirtual 524, 3), (49, .ireturn, 1)]
theorem dt_M_states : ∀ q ∈ tb_M_states, decode prog_14_method_66_code q.1 = .ok (q.2.1, q.2.2) := by decide +kernel
set_option maxHeartbeats 4000000 in
set_option maxRecDepth 100000 in
theorem t_M_states_46 (s0 : Int32) (s1 : Nat) (h : HP) : xx_S (xx_D "LampYardModel" tb_M_states 2 8 (some .int) false) xz_i (fun K => xL_i K) 46 [] [av_I s0, av_R 11 (some s1)] h (f_M_states_46 s0 s1 h) := by
  unfold f_M_states_46
  refine xs_calli (s_M_leads s1 s0 h) (fun K HC x9 hM hmo hb => xr_callV HC.1 25 49 (av := [av_I s0]) (st := []) (hM (kg K) (cx_l (kx K))) hmo hb rfl rfl wm_M_524 wi_M_leads ws_M_leads wc_M_leads rfl wh_M_leads (by decide) (by decide) (by decide) (Nat.le_of_ble_eq_true rfl) rfl) (fun x_2 => ?_)
  exact xs_reti 26 rfl rfl (fun K q => q) (fun ty ht => by cases ht; rfl)
set_option maxHeartbeats 4000000 in
set_option maxRecDepth 100000 in
theorem t_M_states (v0 : Nat) (v1 : Int32) (h : HP) : xx_S (xx_D "LampYardModel" tb_M_states 2 8 (some .int) false) xz_i (fun K => xL_i K) 0 [(0, av_R 11 (some v0)), (1, av_I v1)] [] h (f_M_states v0 v1 h) := by
  unfold f_M_states
  refine xs_step (fun K HC => xr_iload_n HC.1 0 1 (n := 1) (ix := 1) (j := 1) (x := v1) rfl rfl rfl rfl) ?_
  refine xs_ite (fun K HC => xr_if_lt HC.1 1 9 4 rfl (by decide) rfl) ?_ ?_
  · refine xs_step (fun K HC => xr_iconst HC.1 5 10 (n := (-1)) (-1 : Int32) rfl rfl rfl) ?_
    exact xs_reti 6 rfl rfl (fun K q => q) (fun ty ht => by cases ht; rfl)
  refine xs_step (fun K HC => xr_iload_n HC.1 2 5 (n := 1) (ix := 1) (j := 1) (x := v1) rfl rfl rfl rfl) ?_
  refine xs_step (fun K HC => xr_iconst HC.1 3 6 (n := (2)) (2 : Int32) rfl rfl rfl) ?_
  refine xs_ite (fun K HC => xr_icmp_le HC.1 4 11 9 rfl (by decide) rfl) ?_ ?_
  · refine xs_step (fun K HC => xr_aload_n HC.1 7 12 (n := 0) (ix := 0) (j := 0) (c := 11) (x := v0) rfl rfl rfl rfl) ?_
    refine xs_step (fun K HC => xr_iconst HC.1 8 13 (n := (-1)) (-1 : Int32) rfl rfl rfl) ?_
    refine xs_calli (s_M_layPlan v0 (-1 : Int32) h) (fun K HC x9 hM hmo hb => xr_callV HC.1 9 16 (av := [av_I (-1 : Int32)]) (st := []) (hM (kg K) (cx_l (kx K))) hmo hb rfl rfl wm_M_521 wi_M_layPlan ws_M_layPlan wc_M_layPlan rfl wh_M_layPlan (by decide) (by decide) (by decide) (Nat.le_of_ble_eq_true rfl) rfl) (fun x_1 => ?_)
    refine xs_ite (fun K HC a b => xr_if_ne HC.1 10 22 19 rfl (by decide) rfl b a) ?_ ?_
    · refine xs_step (fun K HC => xr_bipush HC.1 11 21 (n := (-2)) (-2 : Int32) rfl rfl rfl) ?_
      exact xs_reti 12 rfl rfl (fun K q => q) (fun ty ht => by cases ht; rfl)
    refine xs_step (fun K HC => xr_iload_n HC.1 13 23 (n := 1) (ix := 1) (j := 1) (x := v1) rfl rfl rfl rfl) ?_
    refine xs_ite (fun K HC a b => xr_if_ne HC.1 14 33 26 rfl (by decide) rfl b a) ?_ ?_
    · refine xs_step (fun K HC => xr_aload_n HC.1 15 27 (n := 0) (ix := 0) (j := 0) (c := 11) (x := v0) rfl rfl rfl rfl) ?_
      refine xs_step (fun K HC => xr_geti HC.1 16 30 11 65 rfl rfl wf_M_489 (by decide) fb_11_65 fc_11_65) ?_
      refine xs_step (fun K HC => xr_goto HC.1 17 49 rfl (by decide)) ?_
      exact xs_reti 26 rfl rfl (fun K q => q) (fun ty ht => by cases ht; rfl)
    refine xs_step (fun K HC => xr_aload_n HC.1 18 34 (n := 0) (ix := 0) (j := 0) (c := 11) (x := v0) rfl rfl rfl rfl) ?_
    refine xs_step (fun K HC => xr_iload_n HC.1 19 35 (n := 1) (ix := 1) (j := 1) (x := v1) rfl rfl rfl rfl) ?_
    refine xs_step (fun K HC => xr_iconst HC.1 20 36 (n := (1)) (1 : Int32) rfl rfl rfl) ?_
    refine xs_ite (fun K HC a b => xr_icmp_ne HC.1 21 44 39 rfl (by decide) rfl b a) ?_ ?_
    · refine xs_step (fun K HC => xr_bipush HC.1 22 41 (n := (-2)) (-2 : Int32) rfl rfl rfl) ?_
      refine xs_step (fun K HC => xr_goto HC.1 23 46 rfl (by decide)) ?_
      refine xs_step (fun K HC => xr_sub (lv' := []) [] rfl) ?_
      exact t_M_states_46 (-2 : Int32) v0 x_1.2
    refine xs_step (fun K HC => xr_bipush HC.1 24 46 (n := (-3)) (-3 : Int32) rfl rfl rfl) ?_
    refine xs_step (fun K HC => xr_sub (lv' := []) [] rfl) ?_
    exact t_M_states_46 (-3 : Int32) v0 x_1.2
  refine xs_step (fun K HC => xr_iconst HC.1 5 10 (n := (-1)) (-1 : Int32) rfl rfl rfl) ?_
  exact xs_reti 6 rfl rfl (fun K q => q) (fun ty ht => by cases ht; rfl)
theorem s_M_states (v0 : Nat) (v1 : Int32) (h : HP) : ∀ x, f_M_states v0 v1 h = some x → hp_mo h x.2 ∧ ∀ g l, xx_M g l y_M_states prog_14_method_66_code 2 (some .int) 8 [av_R 11 (some v0), av_I v1] h (some (av_I x.1)) x.2 :=
  xM_i (tb := tb_M_states) (b := false) (by decide +kernel) dt_M_states (fun _ => trivial) (Nat.le_of_ble_eq_true rfl) (fun hb => by cases hb) (t_M_states v0 v1 h)
