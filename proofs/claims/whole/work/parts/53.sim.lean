def tb_M_counter : TBL := [(0, .iload_n 1, 1), (1, .iconst 2, 1), (2, .if_icmp .lt 38, 3), (5, .iload_n 1, 1), (6, .iconst 4, 1), (7, .if_icmp .gt 33, 3), (10, .iload_n 2, 1), (11, .iconst 1, 1), (12, .if_icmp .lt 28, 3), (15, .iload_n 2, 1), (16, .iconst 3, 1), (17, .if_icmp .gt 23, 3), (20, .iload_n 3, 1), (21, .ifCond .lt 19, 3), (24, .iload_n 3, 1), (25, .iconst 1, 1), (26, .if_icmp .gt 14, 3), (29, .iload 4, 2), (31, .ifCond .lt 9, 3), (34, .iload 4, 2), (36, .iconst 1, 1), (37, .if_icmp .le 5, 3), (40, .iconst (-1), 1), (41, .ireturn, 1), (42, .iload_n 1, 1), (43, .iconst 2, 1), (44, .isub, 1), (45, .iload_n 2, 1), (46, .imul, 1), (47, .iload_n 3, 1), (48, .iconst 1, 1), (49, .if_icmp .ne 7, 3), (52, .iconst 1, 1), (53, .goto 4, 3), (56, .iconst 2, 1), (57, .iadd, 1), (58, .istore 5, 2), (60, .iload 4, 2), (62, .ifCond .ne 8, 3), (65, .iload 5, 2), (67, .goto 18, 3), (70, .iload_n 1, 1), (71, .iconst 1, 1), (72, .isub, 1), (73, .iload_n 2, 1), (74, .imul, 1), (75, .iload 5, 2), (77, .if_icmp .lt 7, 3), (80, .iconst 1, 1), (81, .goto 4, 3), (84, .iconst 0, 1), (85, .ireturn, 1)]
theorem dt_M_counter : ∀ q ∈ tb_M_counter, decode prog_14_method_93_code q.1 = .ok (q.2.1, q.2.2) := by decide +kernel
set_option maxHeartbeats 4000000 in
set_option maxRecDepth 100000 in
theorem t_M_counter_57 (v1 : Int32) (v2 : Int32) (v4 : Int32) (s0 : Int32) (s1 : Int32) (h : HP) : xx_S (xx_D "LampYardModel" tb_M_counter 6 1 (some .int) false) xz_i (fun K => xL_i K) 57 [(1, av_I v1), (2, av_I v2), (4, av_I v4)] [av_I s0, av_I s1] h (f_M_counter_57 v1 v2 v4 s0 s1 h) := by
  unfold f_M_counter_57
  refine xs_step (fun K HC => xr_iadd HC.1 35 58 rfl rfl) ?_
  refine xs_topi (fun v5_1 => ?_)
  refine xs_step (fun K HC => xr_istore HC.1 36 60 (ix := 5) (lv' := [(1, av_I v1), (2, av_I v2), (4, av_I v4), (5, av_I v5_1)]) rfl rfl (by decide) rfl) ?_
  refine xs_step (fun K HC => xr_iload HC.1 37 62 (ix := 4) (j := 2) (x := v4) rfl rfl rfl) ?_
  refine xs_ite (fun K HC a b => xr_if_ne HC.1 38 70 65 rfl (by decide) rfl b a) ?_ ?_
  · refine xs_step (fun K HC => xr_iload HC.1 39 67 (ix := 5) (j := 3) (x := v5_1) rfl rfl rfl) ?_
    refine xs_step (fun K HC => xr_goto HC.1 40 85 rfl (by decide)) ?_
    exact xs_reti 51 rfl rfl (fun K q => q) (fun ty ht => by cases ht; rfl)
  refine xs_step (fun K HC => xr_iload_n HC.1 41 71 (n := 1) (ix := 1) (j := 0) (x := v1) rfl rfl rfl rfl) ?_
  refine xs_step (fun K HC => xr_iconst HC.1 42 72 (n := (1)) (1 : Int32) rfl rfl rfl) ?_
  refine xs_step (fun K HC => xr_isub HC.1 43 73 rfl rfl) ?_
  refine xs_step (fun K HC => xr_iload_n HC.1 44 74 (n := 2) (ix := 2) (j := 1) (x := v2) rfl rfl rfl rfl) ?_
  refine xs_step (fun K HC => xr_imul HC.1 45 75 rfl rfl) ?_
  refine xs_step (fun K HC => xr_iload HC.1 46 77 (ix := 5) (j := 3) (x := v5_1) rfl rfl rfl) ?_
  refine xs_ite (fun K HC => xr_icmp_lt HC.1 47 84 80 rfl (by decide) rfl) ?_ ?_
  · refine xs_step (fun K HC => xr_iconst HC.1 50 85 (n := (0)) (0 : Int32) rfl rfl rfl) ?_
    exact xs_reti 51 rfl rfl (fun K q => q) (fun ty ht => by cases ht; rfl)
  refine xs_step (fun K HC => xr_iconst HC.1 48 81 (n := (1)) (1 : Int32) rfl rfl rfl) ?_
  refine xs_step (fun K HC => xr_goto HC.1 49 85 rfl (by decide)) ?_
  exact xs_reti 51 rfl rfl (fun K q => q) (fun ty ht => by cases ht; rfl)
set_option maxHeartbeats 4000000 in
set_option maxRecDepth 100000 in
theorem t_M_counter (v0 : Nat) (v1 : Int32) (v2 : Int32) (v3 : Int32) (v4 : Int32) (h : HP) : xx_S (xx_D "LampYardModel" tb_M_counter 6 1 (some .int) false) xz_i (fun K => xL_i K) 0 [(0, av_R 11 (some v0)), (1, av_I v1), (2, av_I v2), (3, av_I v3), (4, av_I v4)] [] h (f_M_counter v0 v1 v2 v3 v4 h) := by
  unfold f_M_counter
  refine xs_step (fun K HC => xr_iload_n HC.1 0 1 (n := 1) (ix := 1) (j := 1) (x := v1) rfl rfl rfl rfl) ?_
  refine xs_step (fun K HC => xr_iconst HC.1 1 2 (n := (2)) (2 : Int32) rfl rfl rfl) ?_
  refine xs_ite (fun K HC => xr_icmp_lt HC.1 2 40 5 rfl (by decide) rfl) ?_ ?_
  · refine xs_step (fun K HC => xr_iconst HC.1 22 41 (n := (-1)) (-1 : Int32) rfl rfl rfl) ?_
    exact xs_reti 23 rfl rfl (fun K q => q) (fun ty ht => by cases ht; rfl)
  refine xs_step (fun K HC => xr_iload_n HC.1 3 6 (n := 1) (ix := 1) (j := 1) (x := v1) rfl rfl rfl rfl) ?_
  refine xs_step (fun K HC => xr_iconst HC.1 4 7 (n := (4)) (4 : Int32) rfl rfl rfl) ?_
  refine xs_ite (fun K HC => xr_icmp_gt HC.1 5 40 10 rfl (by decide) rfl) ?_ ?_
  · refine xs_step (fun K HC => xr_iconst HC.1 22 41 (n := (-1)) (-1 : Int32) rfl rfl rfl) ?_
    exact xs_reti 23 rfl rfl (fun K q => q) (fun ty ht => by cases ht; rfl)
  refine xs_step (fun K HC => xr_iload_n HC.1 6 11 (n := 2) (ix := 2) (j := 2) (x := v2) rfl rfl rfl rfl) ?_
  refine xs_step (fun K HC => xr_iconst HC.1 7 12 (n := (1)) (1 : Int32) rfl rfl rfl) ?_
  refine xs_ite (fun K HC => xr_icmp_lt HC.1 8 40 15 rfl (by decide) rfl) ?_ ?_
  · refine xs_step (fun K HC => xr_iconst HC.1 22 41 (n := (-1)) (-1 : Int32) rfl rfl rfl) ?_
    exact xs_reti 23 rfl rfl (fun K q => q) (fun ty ht => by cases ht; rfl)
  refine xs_step (fun K HC => xr_iload_n HC.1 9 16 (n := 2) (ix := 2) (j := 2) (x := v2) rfl rfl rfl rfl) ?_
  refine xs_step (fun K HC => xr_iconst HC.1 10 17 (n := (3)) (3 : Int32) rfl rfl rfl) ?_
  refine xs_ite (fun K HC => xr_icmp_gt HC.1 11 40 20 rfl (by decide) rfl) ?_ ?_
  · refine xs_step (fun K HC => xr_iconst HC.1 22 41 (n := (-1)) (-1 : Int32) rfl rfl rfl) ?_
    exact xs_reti 23 rfl rfl (fun K q => q) (fun ty ht => by cases ht; rfl)
  refine xs_step (fun K HC => xr_iload_n HC.1 12 21 (n := 3) (ix := 3) (j := 3) (x := v3) rfl rfl rfl rfl) ?_
  refine xs_ite (fun K HC => xr_if_lt HC.1 13 40 24 rfl (by decide) rfl) ?_ ?_
  · refine xs_step (fun K HC => xr_iconst HC.1 22 41 (n := (-1)) (-1 : Int32) rfl rfl rfl) ?_
    exact xs_reti 23 rfl rfl (fun K q => q) (fun ty ht => by cases ht; rfl)
  refine xs_step (fun K HC => xr_iload_n HC.1 14 25 (n := 3) (ix := 3) (j := 3) (x := v3) rfl rfl rfl rfl) ?_
  refine xs_step (fun K HC => xr_iconst HC.1 15 26 (n := (1)) (1 : Int32) rfl rfl rfl) ?_
  refine xs_ite (fun K HC => xr_icmp_gt HC.1 16 40 29 rfl (by decide) rfl) ?_ ?_
  · refine xs_step (fun K HC => xr_iconst HC.1 22 41 (n := (-1)) (-1 : Int32) rfl rfl rfl) ?_
    exact xs_reti 23 rfl rfl (fun K q => q) (fun ty ht => by cases ht; rfl)
  refine xs_step (fun K HC => xr_iload HC.1 17 31 (ix := 4) (j := 4) (x := v4) rfl rfl rfl) ?_
  refine xs_ite (fun K HC => xr_if_lt HC.1 18 40 34 rfl (by decide) rfl) ?_ ?_
  · refine xs_step (fun K HC => xr_iconst HC.1 22 41 (n := (-1)) (-1 : Int32) rfl rfl rfl) ?_
    exact xs_reti 23 rfl rfl (fun K q => q) (fun ty ht => by cases ht; rfl)
  refine xs_step (fun K HC => xr_iload HC.1 19 36 (ix := 4) (j := 4) (x := v4) rfl rfl rfl) ?_
  refine xs_step (fun K HC => xr_iconst HC.1 20 37 (n := (1)) (1 : Int32) rfl rfl rfl) ?_
  refine xs_ite (fun K HC => xr_icmp_le HC.1 21 42 40 rfl (by decide) rfl) ?_ ?_
  · refine xs_step (fun K HC => xr_iload_n HC.1 24 43 (n := 1) (ix := 1) (j := 1) (x := v1) rfl rfl rfl rfl) ?_
    refine xs_step (fun K HC => xr_iconst HC.1 25 44 (n := (2)) (2 : Int32) rfl rfl rfl) ?_
    refine xs_step (fun K HC => xr_isub HC.1 26 45 rfl rfl) ?_
    refine xs_step (fun K HC => xr_iload_n HC.1 27 46 (n := 2) (ix := 2) (j := 2) (x := v2) rfl rfl rfl rfl) ?_
    refine xs_step (fun K HC => xr_imul HC.1 28 47 rfl rfl) ?_
    refine xs_step (fun K HC => xr_iload_n HC.1 29 48 (n := 3) (ix := 3) (j := 3) (x := v3) rfl rfl rfl rfl) ?_
    refine xs_step (fun K HC => xr_iconst HC.1 30 49 (n := (1)) (1 : Int32) rfl rfl rfl) ?_
    refine xs_ite (fun K HC a b => xr_icmp_ne HC.1 31 56 52 rfl (by decide) rfl b a) ?_ ?_
    · refine xs_step (fun K HC => xr_iconst HC.1 32 53 (n := (1)) (1 : Int32) rfl rfl rfl) ?_
      refine xs_step (fun K HC => xr_goto HC.1 33 57 rfl (by decide)) ?_
      refine xs_step (fun K HC => xr_sub (lv' := [(1, av_I v1), (2, av_I v2), (4, av_I v4)]) [1, 2, 4] rfl) ?_
      exact t_M_counter_57 v1 v2 v4 (1 : Int32) ((v1 - (2 : Int32)) * v2) h
    refine xs_step (fun K HC => xr_iconst HC.1 34 57 (n := (2)) (2 : Int32) rfl rfl rfl) ?_
    refine xs_step (fun K HC => xr_sub (lv' := [(1, av_I v1), (2, av_I v2), (4, av_I v4)]) [1, 2, 4] rfl) ?_
    exact t_M_counter_57 v1 v2 v4 (2 : Int32) ((v1 - (2 : Int32)) * v2) h
  refine xs_step (fun K HC => xr_iconst HC.1 22 41 (n := (-1)) (-1 : Int32) rfl rfl rfl) ?_
  exact xs_reti 23 rfl rfl (fun K q => q) (fun ty ht => by cases ht; rfl)
theorem s_M_counter (v0 : Nat) (v1 : Int32) (v2 : Int32) (v3 : Int32) (v4 : Int32) (h : HP) : ∀ x, f_M_counter v0 v1 v2 v3 v4 h = some x → hp_mo h x.2 ∧ ∀ g l, xx_M g l y_M_counter prog_14_method_93_code 6 (some .int) 1 [av_R 11 (some v0), av_I v1, av_I v2, av_I v3, av_I v4] h (some (av_I x.1)) x.2 :=
  xM_i (tb := tb_M_counter) (b := false) (by decide +kernel) dt_M_counter (fun _ => trivial) (Nat.le_of_ble_eq_true rfl) (fun hb => by cases hb) (t_M_counter v0 v1 v2 v3 v4 h)
def tb_M_fair : TBL := [(0, .aload_n 0, 1), (1, .getfield 401, 3), (4, .ifCond .ne 5, 3), (7, .iconst (-1), 1), (8, .ireturn, 1), (9, .iconst 0, 1), (10, .istore_n 1, 1), (11, .aload_n 0, 1), (12, .getfield 79, 3), (15, .iconst 0, 1), (16, .iaload, 1), (17, .istore_n 2, 1), (18, .iconst 0, 1), (19, .istore_n 3, 1), (20, .iload_n 3, 1), (21, .aload_n 0, 1), (22, .getfield 401, 3), (25, .if_icmp .ge 51, 3), (28, .aload_n 0, 1), (29, .getfield 79, 3), (32, .iload_n 3, 1), (33, .iaload, 1), (34, .iload_n 1, 1), (35, .if_icmp .le 12, 3), (38, .aload_n 0, 1), (39, .getfield 79, 3), (42, .iload_n 3, 1), (43, .iaload, 1), (44, .goto 4, 3), (47, .iload_n 1, 1), (48, .istore_n 1, 1), (49, .aload_n 0, 1), (50, .getfield 79, 3), (53, .iload_n 3, 1), (54, .iaload, 1), (55, .iload_n 2, 1), (56, .if_icmp .ge 12, 3), (59, .aload_n 0, 1), (60, .getfield 79, 3), (63, .iload_n 3, 1), (64, .iaload, 1), (65, .goto 4, 3), (68, .iload_n 2, 1), (69, .istore_n 2, 1), (70, .iinc 3 1, 3), (73, .goto (-53), 3), (76, .iload_n 1, 1), (77, .iload_n 2, 1), (78, .isub, 1), (79, .ireturn, 1)]
theorem dt_M_fair : ∀ q ∈ tb_M_fair, decode prog_14_method_94_code q.1 = .ok (q.2.1, q.2.2) := by decide +kernel
set_option maxHeartbeats 4000000 in
set_option maxRecDepth 100000 in
theorem t_M_fair_69 (v0 : Nat) (v1 : Int32) (v3 : Int32) (s0 : Int32) (h : HP) : xx_S (xx_D "LampYardModel" tb_M_fair 4 1 (some .int) false) (xx_z2 (fun s : (Int32 × Int32 × Int32 × HP) => s.2.2.2) xz_i) (fun K => xx_L2 (fun s : (Int32 × Int32 × Int32 × HP) => xx_X K 20 [(0, av_R 11 (some v0)), (1, av_I s.1), (2, av_I s.2.1), (3, av_I s.2.2.1)] [] (s.2.2.2)) (xL_i K)) 69 [(0, av_R 11 (some v0)), (1, av_I v1), (3, av_I v3)] [av_I s0] h (f_M_fair_69 v0 v1 v3 s0 h) := by
  unfold f_M_fair_69
  refine xs_step (fun K HC => xr_istore_n HC.1 43 70 (n := 2) (ix := 2) (lv' := [(0, av_R 11 (some v0)), (1, av_I v1), (2, av_I s0), (3, av_I v3)]) rfl rfl rfl (by decide) rfl) ?_
  refine xs_gen (fun v3_8 ev3_8 => ?_)
  refine xs_step (fun K HC => xr_iinc HC.1 44 73 (ix := 3) (j := 3) (n := (1)) (x := v3) v3_8 (lv' := [(0, av_R 11 (some v0)), (1, av_I v1), (2, av_I s0), (3, av_I v3_8)]) rfl (by rw [ev3_8]; rfl) rfl rfl (by decide) rfl) ?_
  refine xs_step (fun K HC => xr_goto HC.1 45 20 rfl (by decide)) ?_
  exact xs_back rfl (fun K q => q)
set_option maxHeartbeats 4000000 in
set_option maxRecDepth 100000 in
theorem t_M_fair_48 (v0 : Nat) (v2 : Int32) (v3 : Int32) (s0 : Int32) (h : HP) : xx_S (xx_D "LampYardModel" tb_M_fair 4 1 (some .int) false) (xx_z2 (fun s : (Int32 × Int32 × Int32 × HP) => s.2.2.2) xz_i) (fun K => xx_L2 (fun s : (Int32 × Int32 × Int32 × HP) => xx_X K 20 [(0, av_R 11 (some v0)), (1, av_I s.1), (2, av_I s.2.1), (3, av_I s.2.2.1)] [] (s.2.2.2)) (xL_i K)) 48 [(0, av_R 11 (some v0)), (2, av_I v2), (3, av_I v3)] [av_I s0] h (f_M_fair_48 v0 v2 v3 s0 h) := by
  unfold f_M_fair_48
  refine xs_step (fun K HC => xr_istore_n HC.1 30 49 (n := 1) (ix := 1) (lv' := [(0, av_R 11 (some v0)), (1, av_I s0), (2, av_I v2), (3, av_I v3)]) rfl rfl rfl (by decide) rfl) ?_
  refine xs_step (fun K HC => xr_aload_n HC.1 31 50 (n := 0) (ix := 0) (j := 0) (c := 11) (x := v0) rfl rfl rfl rfl) ?_
  refine xs_bind (fun q_6 eq_6 => ?_)
  refine xs_step (fun K HC => xr_getr HC.1 32 53 11 49 13 eq_6 rfl rfl wf_M_79 (by decide) fb_11_49 fc_11_49 fd_11_49) ?_
  refine xs_step (fun K HC => xr_iload_n HC.1 33 54 (n := 3) (ix := 3) (j := 3) (x := v3) rfl rfl rfl rfl) ?_
  refine xs_chk (fun hb_7 => ?_)
  refine xs_step (fun K HC => xr_iald HC.1 34 55 (hp_in_vp hb_7) rfl rfl) ?_
  refine xs_step (fun K HC => xr_iload_n HC.1 35 56 (n := 2) (ix := 2) (j := 2) (x := v2) rfl rfl rfl rfl) ?_
  refine xs_ite (fun K HC => xr_icmp_ge HC.1 36 68 59 rfl (by decide) rfl) ?_ ?_
  · refine xs_step (fun K HC => xr_iload_n HC.1 42 69 (n := 2) (ix := 2) (j := 2) (x := v2) rfl rfl rfl rfl) ?_
    refine xs_step (fun K HC => xr_sub (lv' := [(0, av_R 11 (some v0)), (1, av_I s0), (3, av_I v3)]) [0, 1, 3] rfl) ?_
    exact t_M_fair_69 v0 s0 v3 v2 h
  refine xs_step (fun K HC => xr_aload_n HC.1 37 60 (n := 0) (ix := 0) (j := 0) (c := 11) (x := v0) rfl rfl rfl rfl) ?_
  refine xs_bind (fun q_9 eq_9 => ?_)
  refine xs_step (fun K HC => xr_getr HC.1 38 63 11 49 13 eq_9 rfl rfl wf_M_79 (by decide) fb_11_49 fc_11_49 fd_11_49) ?_
  refine xs_step (fun K HC => xr_iload_n HC.1 39 64 (n := 3) (ix := 3) (j := 3) (x := v3) rfl rfl rfl rfl) ?_
  refine xs_chk (fun hb_10 => ?_)
  refine xs_step (fun K HC => xr_iald HC.1 40 65 (hp_in_vp hb_10) rfl rfl) ?_
  refine xs_step (fun K HC => xr_goto HC.1 41 69 rfl (by decide)) ?_
  refine xs_step (fun K HC => xr_sub (lv' := [(0, av_R 11 (some v0)), (1, av_I s0), (3, av_I v3)]) [0, 1, 3] rfl) ?_
  exact t_M_fair_69 v0 s0 v3 (hp_i h q_9 (v3).toNatClampNeg) h
set_option maxHeartbeats 4000000 in
set_option maxRecDepth 100000 in
theorem t_M_fair_20b (v0 : Nat) (v1 : Int32) (v2 : Int32) (v3 : Int32) (h : HP) : xx_S (xx_D "LampYardModel" tb_M_fair 4 1 (some .int) false) (xx_z2 (fun s : (Int32 × Int32 × Int32 × HP) => s.2.2.2) xz_i) (fun K => xx_L2 (fun s : (Int32 × Int32 × Int32 × HP) => xx_X K 20 [(0, av_R 11 (some v0)), (1, av_I s.1), (2, av_I s.2.1), (3, av_I s.2.2.1)] [] (s.2.2.2)) (xL_i K)) 20 [(0, av_R 11 (some v0)), (1, av_I v1), (2, av_I v2), (3, av_I v3)] [] h (f_M_fair_20b v0 v1 v2 v3 h) := by
  unfold f_M_fair_20b
  refine xs_step (fun K HC => xr_iload_n HC.1 14 21 (n := 3) (ix := 3) (j := 3) (x := v3) rfl rfl rfl rfl) ?_
  refine xs_step (fun K HC => xr_aload_n HC.1 15 22 (n := 0) (ix := 0) (j := 0) (c := 11) (x := v0) rfl rfl rfl rfl) ?_
  refine xs_step (fun K HC => xr_geti HC.1 16 25 11 33 rfl rfl wf_M_401 (by decide) fb_11_33 fc_11_33) ?_
  refine xs_ite (fun K HC => xr_icmp_ge HC.1 17 76 28 rfl (by decide) rfl) ?_ ?_
  · refine xs_step (fun K HC => xr_iload_n HC.1 46 77 (n := 1) (ix := 1) (j := 1) (x := v1) rfl rfl rfl rfl) ?_
    refine xs_step (fun K HC => xr_iload_n HC.1 47 78 (n := 2) (ix := 2) (j := 2) (x := v2) rfl rfl rfl rfl) ?_
    refine xs_step (fun K HC => xr_isub HC.1 48 79 rfl rfl) ?_
    exact xs_reti 49 rfl rfl (fun K q => q) (fun ty ht => by cases ht; rfl)
  refine xs_step (fun K HC => xr_aload_n HC.1 18 29 (n := 0) (ix := 0) (j := 0) (c := 11) (x := v0) rfl rfl rfl rfl) ?_
  refine xs_bind (fun q_4 eq_4 => ?_)
  refine xs_step (fun K HC => xr_getr HC.1 19 32 11 49 13 eq_4 rfl rfl wf_M_79 (by decide) fb_11_49 fc_11_49 fd_11_49) ?_
  refine xs_step (fun K HC => xr_iload_n HC.1 20 33 (n := 3) (ix := 3) (j := 3) (x := v3) rfl rfl rfl rfl) ?_
  refine xs_chk (fun hb_5 => ?_)
  refine xs_step (fun K HC => xr_iald HC.1 21 34 (hp_in_vp hb_5) rfl rfl) ?_
  refine xs_step (fun K HC => xr_iload_n HC.1 22 35 (n := 1) (ix := 1) (j := 1) (x := v1) rfl rfl rfl rfl) ?_
  refine xs_ite (fun K HC => xr_icmp_le HC.1 23 47 38 rfl (by decide) rfl) ?_ ?_
  · refine xs_step (fun K HC => xr_iload_n HC.1 29 48 (n := 1) (ix := 1) (j := 1) (x := v1) rfl rfl rfl rfl) ?_
    refine xs_step (fun K HC => xr_sub (lv' := [(0, av_R 11 (some v0)), (2, av_I v2), (3, av_I v3)]) [0, 2, 3] rfl) ?_
    exact t_M_fair_48 v0 v2 v3 v1 h
  refine xs_step (fun K HC => xr_aload_n HC.1 24 39 (n := 0) (ix := 0) (j := 0) (c := 11) (x := v0) rfl rfl rfl rfl) ?_
  refine xs_bind (fun q_11 eq_11 => ?_)
  refine xs_step (fun K HC => xr_getr HC.1 25 42 11 49 13 eq_11 rfl rfl wf_M_79 (by decide) fb_11_49 fc_11_49 fd_11_49) ?_
  refine xs_step (fun K HC => xr_iload_n HC.1 26 43 (n := 3) (ix := 3) (j := 3) (x := v3) rfl rfl rfl rfl) ?_
  refine xs_chk (fun hb_12 => ?_)
  refine xs_step (fun K HC => xr_iald HC.1 27 44 (hp_in_vp hb_12) rfl rfl) ?_
  refine xs_step (fun K HC => xr_goto HC.1 28 48 rfl (by decide)) ?_
  refine xs_step (fun K HC => xr_sub (lv' := [(0, av_R 11 (some v0)), (2, av_I v2), (3, av_I v3)]) [0, 2, 3] rfl) ?_
  exact t_M_fair_48 v0 v2 v3 (hp_i h q_11 (v3).toNatClampNeg) h
theorem t_M_fair_20 (v0 : Nat) (v1 : Int32) (v2 : Int32) (v3 : Int32) (h : HP) : xx_S (xx_D "LampYardModel" tb_M_fair 4 1 (some .int) false) xz_i (fun K => xL_i K) 20 [(0, av_R 11 (some v0)), (1, av_I v1), (2, av_I v2), (3, av_I v3)] [] h (f_M_fair_20 v0 v1 v2 v3 h) :=
  xs_loop (zf := xz_i) (L := (fun K => xL_i K)) (fun s : (Int32 × Int32 × Int32 × HP) => [(0, av_R 11 (some v0)), (1, av_I s.1), (2, av_I s.2.1), (3, av_I s.2.2.1)]) (fun s : (Int32 × Int32 × Int32 × HP) => s.2.2.2) (fun s => t_M_fair_20b v0 s.1 s.2.1 s.2.2.1 s.2.2.2) (v1, v2, v3, h)
set_option maxHeartbeats 4000000 in
set_option maxRecDepth 100000 in
theorem t_M_fair (v0 : Nat) (h : HP) : xx_S (xx_D "LampYardModel" tb_M_fair 4 1 (some .int) false) xz_i (fun K => xL_i K) 0 [(0, av_R 11 (some v0))] [] h (f_M_fair v0 h) := by
  unfold f_M_fair
  refine xs_step (fun K HC => xr_aload_n HC.1 0 1 (n := 0) (ix := 0) (j := 0) (c := 11) (x := v0) rfl rfl rfl rfl) ?_
  refine xs_step (fun K HC => xr_geti HC.1 1 4 11 33 rfl rfl wf_M_401 (by decide) fb_11_33 fc_11_33) ?_
  refine xs_ite (fun K HC a b => xr_if_ne HC.1 2 9 7 rfl (by decide) rfl b a) ?_ ?_
  · refine xs_step (fun K HC => xr_iconst HC.1 3 8 (n := (-1)) (-1 : Int32) rfl rfl rfl) ?_
    exact xs_reti 4 rfl rfl (fun K q => q) (fun ty ht => by cases ht; rfl)
  refine xs_step (fun K HC => xr_iconst HC.1 5 10 (n := (0)) (0 : Int32) rfl rfl rfl) ?_
  refine xs_step (fun K HC => xr_istore_n HC.1 6 11 (n := 1) (ix := 1) (lv' := [(0, av_R 11 (some v0)), (1, av_I (0 : Int32))]) rfl rfl rfl (by decide) rfl) ?_
  refine xs_step (fun K HC => xr_aload_n HC.1 7 12 (n := 0) (ix := 0) (j := 0) (c := 11) (x := v0) rfl rfl rfl rfl) ?_
  refine xs_bind (fun q_1 eq_1 => ?_)
  refine xs_step (fun K HC => xr_getr HC.1 8 15 11 49 13 eq_1 rfl rfl wf_M_79 (by decide) fb_11_49 fc_11_49 fd_11_49) ?_
  refine xs_step (fun K HC => xr_iconst HC.1 9 16 (n := (0)) (0 : Int32) rfl rfl rfl) ?_
  refine xs_chk (fun hb_2 => ?_)
  refine xs_step (fun K HC => xr_iald HC.1 10 17 (hp_in_vp hb_2) rfl rfl) ?_
  refine xs_topi (fun v2_3 => ?_)
  refine xs_step (fun K HC => xr_istore_n HC.1 11 18 (n := 2) (ix := 2) (lv' := [(0, av_R 11 (some v0)), (1, av_I (0 : Int32)), (2, av_I v2_3)]) rfl rfl rfl (by decide) rfl) ?_
  refine xs_step (fun K HC => xr_iconst HC.1 12 19 (n := (0)) (0 : Int32) rfl rfl rfl) ?_
  refine xs_step (fun K HC => xr_istore_n HC.1 13 20 (n := 3) (ix := 3) (lv' := [(0, av_R 11 (some v0)), (1, av_I (0 : Int32)), (2, av_I v2_3), (3, av_I (0 : Int32))]) rfl rfl rfl (by decide) rfl) ?_
  exact t_M_fair_20 v0 (0 : Int32) v2_3 (0 : Int32) h
theorem s_M_fair (v0 : Nat) (h : HP) : ∀ x, f_M_fair v0 h = some x → hp_mo h x.2 ∧ ∀ g l, xx_M g l y_M_fair prog_14_method_94_code 4 (some .int) 1 [av_R 11 (some v0)] h (some (av_I x.1)) x.2 :=
  xM_i (tb := tb_M_fair) (b := false) (by decide +kernel) dt_M_fair (fun _ => trivial) (Nat.le_of_ble_eq_true rfl) (fun hb => by cases hb) (t_M_fair v0 h)
def tb_M_log : TBL := [(0, .iload_n 1, 1), (1, .ifCond .lt 26, 3), (4, .iload_n 1, 1), (5, .bipush 100, 2), (7, .if_icmp .ge 20, 3), (10, .aload_n 0, 1), (11, .iload_n 2, 1), (12, .invokevirtual 460, 3), (15, .ifCond .eq 12, 3), (18, .aload_n 0, 1), (19, .getfield 410, 3), (22, .bipush 60, 2), (24, .if_icmp .ne 5, 3), (27, .iconst (-1), 1), (28, .ireturn, 1), (29, .aload_n 0, 1), (30, .getfield 136, 3), (33, .aload_n 0, 1), (34, .getfield 410, 3), (37, .iload_n 1, 1), (38, .iastore, 1), (39, .aload_n 0, 1), (40, .getfield 139, 3), (43, .aload_n 0, 1), (44, .getfield 410, 3), (47, .iload_n 2, 1), (48, .iastore, 1), (49, .aload_n 0, 1), (50, .getfield 142, 3), (53, .aload_n 0, 1), (54, .getfield 410, 3), (57, .aload_n 0, 1), (58, .getfield 580, 3), (61, .iastore, 1), (62, .aload_n 0, 1), (63, .getfield 145, 3), (66, .aload_n 0, 1), (67, .getfield 410, 3), (70, .iconst (-1), 1), (71, .iastore, 1), (72, .aload_n 0, 1), (73, .dup, 1), (74, .getfield 410, 3), (77, .iconst 1, 1), (78, .iadd, 1), (79, .putfield 410, 3), (82, .aload_n 0, 1), (83, .getfield 410, 3), (86, .iconst 1, 1), (87, .isub, 1), (88, .ireturn, 1)]
theorem dt_M_log : ∀ q ∈ tb_M_log, decode prog_14_method_95_code q.1 = .ok (q.2.1, q.2.2) := by decide +kernel
set_option maxHeartbeats 4000000 in
set_option maxRecDepth 100000 in
theorem t_M_log (v0 : Nat) (v1 : Int32) (v2 : Int32) (h : HP) : xx_S (xx_D "LampYardModel" tb_M_log 3 2 (some .int) false) xz_i (fun K => xL_i K) 0 [(0, av_R 11 (some v0)), (1, av_I v1), (2, av_I v2)] [] h (f_M_log v0 v1 v2 h) := by
  unfold f_M_log
  refine xs_step (fun K HC => xr_iload_n HC.1 0 1 (n := 1) (ix := 1) (j := 1) (x := v1) rfl rfl rfl rfl) ?_
  refine xs_ite (fun K HC => xr_if_lt HC.1 1 27 4 rfl (by decide) rfl) ?_ ?_
  · refine xs_step (fun K HC => xr_iconst HC.1 13 28 (n := (-1)) (-1 : Int32) rfl rfl rfl) ?_
    exact xs_reti 14 rfl rfl (fun K q => q) (fun ty ht => by cases ht; rfl)
  refine xs_step (fun K HC => xr_iload_n HC.1 2 5 (n := 1) (ix := 1) (j := 1) (x := v1) rfl rfl rfl rfl) ?_
  refine xs_step (fun K HC => xr_bipush HC.1 3 7 (n := (100)) (100 : Int32) rfl rfl rfl) ?_
  refine xs_ite (fun K HC => xr_icmp_ge HC.1 4 27 10 rfl (by decide) rfl) ?_ ?_
  · refine xs_step (fun K HC => xr_iconst HC.1 13 28 (n := (-1)) (-1 : Int32) rfl rfl rfl) ?_
    exact xs_reti 14 rfl rfl (fun K q => q) (fun ty ht => by cases ht; rfl)
  refine xs_step (fun K HC => xr_aload_n HC.1 5 11 (n := 0) (ix := 0) (j := 0) (c := 11) (x := v0) rfl rfl rfl rfl) ?_
  refine xs_step (fun K HC => xr_iload_n HC.1 6 12 (n := 2) (ix := 2) (j := 2) (x := v2) rfl rfl rfl rfl) ?_
  refine xs_calli (s_M_isMan v0 v2 h) (fun K HC x9 hM hmo hb => xr_callV HC.1 7 15 (av := [av_I v2]) (st := []) (hM (kg K) (cx_l (kx K))) hmo hb rfl rfl wm_M_460 wi_M_isMan ws_M_isMan wc_M_isMan rfl wh_M_isMan (by decide) (by decide) (by decide) (Nat.le_of_ble_eq_true rfl) rfl) (fun x_1 => ?_)
  refine xs_ite (fun K HC => xr_if_eq HC.1 8 27 18 rfl (by decide) rfl) ?_ ?_
  · refine xs_step (fun K HC => xr_iconst HC.1 13 28 (n := (-1)) (-1 : Int32) rfl rfl rfl) ?_
    exact xs_reti 14 rfl rfl (fun K q => q) (fun ty ht => by cases ht; rfl)
  refine xs_step (fun K HC => xr_aload_n HC.1 9 19 (n := 0) (ix := 0) (j := 0) (c := 11) (x := v0) rfl rfl rfl rfl) ?_
  refine xs_step (fun K HC => xr_geti HC.1 10 22 11 85 rfl rfl wf_M_410 (by decide) fb_11_85 fc_11_85) ?_
  refine xs_step (fun K HC => xr_bipush HC.1 11 24 (n := (60)) (60 : Int32) rfl rfl rfl) ?_
  refine xs_ite (fun K HC a b => xr_icmp_ne HC.1 12 29 27 rfl (by decide) rfl b a) ?_ ?_
  · refine xs_step (fun K HC => xr_iconst HC.1 13 28 (n := (-1)) (-1 : Int32) rfl rfl rfl) ?_
    exact xs_reti 14 rfl rfl (fun K q => q) (fun ty ht => by cases ht; rfl)
  refine xs_step (fun K HC => xr_aload_n HC.1 15 30 (n := 0) (ix := 0) (j := 0) (c := 11) (x := v0) rfl rfl rfl rfl) ?_
  refine xs_bind (fun q_2 eq_2 => ?_)
  refine xs_step (fun K HC => xr_getr HC.1 16 33 11 79 13 eq_2 rfl rfl wf_M_136 (by decide) fb_11_79 fc_11_79 fd_11_79) ?_
  refine xs_step (fun K HC => xr_aload_n HC.1 17 34 (n := 0) (ix := 0) (j := 0) (c := 11) (x := v0) rfl rfl rfl rfl) ?_
  refine xs_step (fun K HC => xr_geti HC.1 18 37 11 85 rfl rfl wf_M_410 (by decide) fb_11_85 fc_11_85) ?_
  refine xs_step (fun K HC => xr_iload_n HC.1 19 38 (n := 1) (ix := 1) (j := 1) (x := v1) rfl rfl rfl rfl) ?_
  refine xs_chk (fun hb_3 => ?_)
  refine xs_heap (hp_mo_si _ _ _ _) (fun K HC => xr_iast HC.1 20 39 (hp_in_vp hb_3) rfl rfl) (fun h_4 => ?_)
  refine xs_step (fun K HC => xr_aload_n HC.1 21 40 (n := 0) (ix := 0) (j := 0) (c := 11) (x := v0) rfl rfl rfl rfl) ?_
  refine xs_bind (fun q_5 eq_5 => ?_)
  refine xs_step (fun K HC => xr_getr HC.1 22 43 11 80 13 eq_5 rfl rfl wf_M_139 (by decide) fb_11_80 fc_11_80 fd_11_80) ?_
  refine xs_step (fun K HC => xr_aload_n HC.1 23 44 (n := 0) (ix := 0) (j := 0) (c := 11) (x := v0) rfl rfl rfl rfl) ?_
  refine xs_step (fun K HC => xr_geti HC.1 24 47 11 85 rfl rfl wf_M_410 (by decide) fb_11_85 fc_11_85) ?_
  refine xs_step (fun K HC => xr_iload_n HC.1 25 48 (n := 2) (ix := 2) (j := 2) (x := v2) rfl rfl rfl rfl) ?_
  refine xs_chk (fun hb_6 => ?_)
  refine xs_heap (hp_mo_si _ _ _ _) (fun K HC => xr_iast HC.1 26 49 (hp_in_vp hb_6) rfl rfl) (fun h_7 => ?_)
  refine xs_step (fun K HC => xr_aload_n HC.1 27 50 (n := 0) (ix := 0) (j := 0) (c := 11) (x := v0) rfl rfl rfl rfl) ?_
  refine xs_bind (fun q_8 eq_8 => ?_)
  refine xs_step (fun K HC => xr_getr HC.1 28 53 11 81 13 eq_8 rfl rfl wf_M_142 (by decide) fb_11_81 fc_11_81 fd_11_81) ?_
  refine xs_step (fun K HC => xr_aload_n HC.1 29 54 (n := 0) (ix := 0) (j := 0) (c := 11) (x := v0) rfl rfl rfl rfl) ?_
  refine xs_step (fun K HC => xr_geti HC.1 30 57 11 85 rfl rfl wf_M_410 (by decide) fb_11_85 fc_11_85) ?_
  refine xs_step (fun K HC => xr_aload_n HC.1 31 58 (n := 0) (ix := 0) (j := 0) (c := 11) (x := v0) rfl rfl rfl rfl) ?_
  refine xs_step (fun K HC => xr_geti HC.1 32 61 11 86 rfl rfl wf_M_580 (by decide) fb_11_86 fc_11_86) ?_
  refine xs_chk (fun hb_9 => ?_)
  refine xs_heap (hp_mo_si _ _ _ _) (fun K HC => xr_iast HC.1 33 62 (hp_in_vp hb_9) rfl rfl) (fun h_10 => ?_)
  refine xs_step (fun K HC => xr_aload_n HC.1 34 63 (n := 0) (ix := 0) (j := 0) (c := 11) (x := v0) rfl rfl rfl rfl) ?_
  refine xs_bind (fun q_11 eq_11 => ?_)
  refine xs_step (fun K HC => xr_getr HC.1 35 66 11 82 13 eq_11 rfl rfl wf_M_145 (by decide) fb_11_82 fc_11_82 fd_11_82) ?_
  refine xs_step (fun K HC => xr_aload_n HC.1 36 67 (n := 0) (ix := 0) (j := 0) (c := 11) (x := v0) rfl rfl rfl rfl) ?_
  refine xs_step (fun K HC => xr_geti HC.1 37 70 11 85 rfl rfl wf_M_410 (by decide) fb_11_85 fc_11_85) ?_
  refine xs_step (fun K HC => xr_iconst HC.1 38 71 (n := (-1)) (-1 : Int32) rfl rfl rfl) ?_
  refine xs_chk (fun hb_12 => ?_)
  refine xs_heap (hp_mo_si _ _ _ _) (fun K HC => xr_iast HC.1 39 72 (hp_in_vp hb_12) rfl rfl) (fun h_13 => ?_)
  refine xs_step (fun K HC => xr_aload_n HC.1 40 73 (n := 0) (ix := 0) (j := 0) (c := 11) (x := v0) rfl rfl rfl rfl) ?_
  refine xs_step (fun K HC => xr_dup HC.1 41 74 rfl rfl rfl) ?_
  refine xs_step (fun K HC => xr_geti HC.1 42 77 11 85 rfl rfl wf_M_410 (by decide) fb_11_85 fc_11_85) ?_
  refine xs_step (fun K HC => xr_iconst HC.1 43 78 (n := (1)) (1 : Int32) rfl rfl rfl) ?_
  refine xs_step (fun K HC => xr_iadd HC.1 44 79 rfl rfl) ?_
  refine xs_heap (hp_mo_si _ _ _ _) (fun K HC => xr_puti HC.1 45 82 11 85 rfl rfl wf_M_410 (by decide) fb_11_85 fn_11_85 fy_11_85) (fun h_14 => ?_)
  refine xs_step (fun K HC => xr_aload_n HC.1 46 83 (n := 0) (ix := 0) (j := 0) (c := 11) (x := v0) rfl rfl rfl rfl) ?_
  refine xs_step (fun K HC => xr_geti HC.1 47 86 11 85 rfl rfl wf_M_410 (by decide) fb_11_85 fc_11_85) ?_
  refine xs_step (fun K HC => xr_iconst HC.1 48 87 (n := (1)) (1 : Int32) rfl rfl rfl) ?_
  refine xs_step (fun K HC => xr_isub HC.1 49 88 rfl rfl) ?_
  exact xs_reti 50 rfl rfl (fun K q => q) (fun ty ht => by cases ht; rfl)
theorem s_M_log (v0 : Nat) (v1 : Int32) (v2 : Int32) (h : HP) : ∀ x, f_M_log v0 v1 v2 h = some x → hp_mo h x.2 ∧ ∀ g l, xx_M g l y_M_log prog_14_method_95_code 3 (some .int) 2 [av_R 11 (some v0), av_I v1, av_I v2] h (some (av_I x.1)) x.2 :=
  xM_i (tb := tb_M_log) (b := false) (by decide +kernel) dt_M_log (fun _ => trivial) (Nat.le_of_ble_eq_true rfl) (fun hb => by cases hb) (t_M_log v0 v1 v2 h)
def tb_M_untell : TBL := [(0, .iload_n 1, 1), (1, .ifCond .lt 20, 3), (4, .iload_n 1, 1), (5, .aload_n 0, 1), (6, .getfield 410, 3), (9, .if_icmp .ge 12, 3), (12, .aload_n 0, 1), (13, .getfield 145, 3), (16, .iload_n 1, 1), (17, .iaload, 1), (18, .ifCond .lt 5, 3), (21, .iconst 0, 1), (22, .ireturn, 1), (23, .aload_n 0, 1), (24, .getfield 145, 3), (27, .iload_n 1, 1), (28, .aload_n 0, 1), (29, .getfield 580, 3), (32, .iastore, 1), (33, .iconst 1, 1), (34, .ireturn, 1)]
theorem dt_M_untell : ∀ q ∈ tb_M_untell, decode prog_14_method_96_code q.1 = .ok (q.2.1, q.2.2) := by decide +kernel
set_option maxHeartbeats 4000000 in
set_option maxRecDepth 100000 in
theorem t_M_untell (v0 : Nat) (v1 : Int32) (h : HP) : xx_S (xx_D "LampYardModel" tb_M_untell 2 1 (some .boolean) false) xz_i (fun K => xL_i K) 0 [(0, av_R 11 (some v0)), (1, av_I v1)] [] h (f_M_untell v0 v1 h) := by
  unfold f_M_untell
  refine xs_step (fun K HC => xr_iload_n HC.1 0 1 (n := 1) (ix := 1) (j := 1) (x := v1) rfl rfl rfl rfl) ?_
  refine xs_ite (fun K HC => xr_if_lt HC.1 1 21 4 rfl (by decide) rfl) ?_ ?_
  · refine xs_step (fun K HC => xr_iconst HC.1 11 22 (n := (0)) (0 : Int32) rfl rfl rfl) ?_
    exact xs_reti 12 rfl rfl (fun K q => q) (fun ty ht => by cases ht; rfl)
  refine xs_step (fun K HC => xr_iload_n HC.1 2 5 (n := 1) (ix := 1) (j := 1) (x := v1) rfl rfl rfl rfl) ?_
  refine xs_step (fun K HC => xr_aload_n HC.1 3 6 (n := 0) (ix := 0) (j := 0) (c := 11) (x := v0) rfl rfl rfl rfl) ?_
  refine xs_step (fun K HC => xr_geti HC.1 4 9 11 85 rfl rfl wf_M_410 (by decide) fb_11_85 fc_11_85) ?_
  refine xs_ite (fun K HC => xr_icmp_ge HC.1 5 21 12 rfl (by decide) rfl) ?_ ?_
  · refine xs_step (fun K HC => xr_iconst HC.1 11 22 (n := (0)) (0 : Int32) rfl rfl rfl) ?_
    exact xs_reti 12 rfl rfl (fun K q => q) (fun ty ht => by cases ht; rfl)
  refine xs_step (fun K HC => xr_aload_n HC.1 6 13 (n := 0) (ix := 0) (j := 0) (c := 11) (x := v0) rfl rfl rfl rfl) ?_
  refine xs_bind (fun q_1 eq_1 => ?_)
  refine xs_step (fun K HC => xr_getr HC.1 7 16 11 82 13 eq_1 rfl rfl wf_M_145 (by decide) fb_11_82 fc_11_82 fd_11_82) ?_
  refine xs_step (fun K HC => xr_iload_n HC.1 8 17 (n := 1) (ix := 1) (j := 1) (x := v1) rfl rfl rfl rfl) ?_
  refine xs_chk (fun hb_2 => ?_)
  refine xs_step (fun K HC => xr_iald HC.1 9 18 (hp_in_vp hb_2) rfl rfl) ?_
  refine xs_ite (fun K HC => xr_if_lt HC.1 10 23 21 rfl (by decide) rfl) ?_ ?_
  · refine xs_step (fun K HC => xr_aload_n HC.1 13 24 (n := 0) (ix := 0) (j := 0) (c := 11) (x := v0) rfl rfl rfl rfl) ?_
    refine xs_bind (fun q_3 eq_3 => ?_)
    refine xs_step (fun K HC => xr_getr HC.1 14 27 11 82 13 eq_3 rfl rfl wf_M_145 (by decide) fb_11_82 fc_11_82 fd_11_82) ?_
    refine xs_step (fun K HC => xr_iload_n HC.1 15 28 (n := 1) (ix := 1) (j := 1) (x := v1) rfl rfl rfl rfl) ?_
    refine xs_step (fun K HC => xr_aload_n HC.1 16 29 (n := 0) (ix := 0) (j := 0) (c := 11) (x := v0) rfl rfl rfl rfl) ?_
    refine xs_step (fun K HC => xr_geti HC.1 17 32 11 86 rfl rfl wf_M_580 (by decide) fb_11_86 fc_11_86) ?_
    refine xs_chk (fun hb_4 => ?_)
    refine xs_heap (hp_mo_si _ _ _ _) (fun K HC => xr_iast HC.1 18 33 (hp_in_vp hb_4) rfl rfl) (fun h_5 => ?_)
    refine xs_step (fun K HC => xr_iconst HC.1 19 34 (n := (1)) (1 : Int32) rfl rfl rfl) ?_
    exact xs_reti 20 rfl rfl (fun K q => q) (fun ty ht => by cases ht; rfl)
  refine xs_step (fun K HC => xr_iconst HC.1 11 22 (n := (0)) (0 : Int32) rfl rfl rfl) ?_
  exact xs_reti 12 rfl rfl (fun K q => q) (fun ty ht => by cases ht; rfl)
theorem s_M_untell (v0 : Nat) (v1 : Int32) (h : HP) : ∀ x, f_M_untell v0 v1 h = some x → hp_mo h x.2 ∧ ∀ g l, xx_M g l y_M_untell prog_14_method_96_code 2 (some .boolean) 1 [av_R 11 (some v0), av_I v1] h (some (av_I x.1)) x.2 :=
  xM_i (tb := tb_M_untell) (b := false) (by decide +kernel) dt_M_untell (fun _ => trivial) (Nat.le_of_ble_eq_true rfl) (fun hb => by cases hb) (t_M_untell v0 v1 h)
def tb_M_later : TBL := [(0, .iload_n 1, 1), (1, .ifCond .lt 22, 3), (4, .iload_n 1, 1), (5, .sipush 1000, 3), (8, .if_icmp .gt 15, 3), (11, .aload_n 0, 1), (12, .getfield 580, 3), (15, .iload_n 1, 1), (16, .iadd, 1), (17, .ldc_w 583, 3), (20, .if_icmp .le 5, 3), (23, .iconst (-1), 1), (24, .ireturn, 1), (25, .aload_n 0, 1), (26, .dup, 1), (27, .getfield 580, 3), (30, .iload_n 1, 1), (31, .iadd, 1), (32, .putfield 580, 3), (35, .aload_n 0, 1), (36, .getfield 580, 3), (39, .ireturn, 1)]
theorem dt_M_later : ∀ q ∈ tb_M_later, decode prog_14_method_97_code q.1 = .ok (q.2.1, q.2.2) := by decide +kernel
set_option maxHeartbeats 4000000 in
set_option maxRecDepth 100000 in
theorem t_M_later (v0 : Nat) (v1 : Int32) (h : HP) : xx_S (xx_D "LampYardModel" tb_M_later 2 1 (some .int) false) xz_i (fun K => xL_i K) 0 [(0, av_R 11 (some v0)), (1, av_I v1)] [] h (f_M_later v0 v1 h) := by
  unfold f_M_later
  refine xs_step (fun K HC => xr_iload_n HC.1 0 1 (n := 1) (ix := 1) (j := 1) (x := v1) rfl rfl rfl rfl) ?_
  refine xs_ite (fun K HC => xr_if_lt HC.1 1 23 4 rfl (by decide) rfl) ?_ ?_
  · refine xs_step (fun K HC => xr_iconst HC.1 11 24 (n := (-1)) (-1 : Int32) rfl rfl rfl) ?_
    exact xs_reti 12 rfl rfl (fun K q => q) (fun ty ht => by cases ht; rfl)
  refine xs_step (fun K HC => xr_iload_n HC.1 2 5 (n := 1) (ix := 1) (j := 1) (x := v1) rfl rfl rfl rfl) ?_
  refine xs_step (fun K HC => xr_sipush HC.1 3 8 (n := (1000)) (1000 : Int32) rfl rfl rfl) ?_
  refine xs_ite (fun K HC => xr_icmp_gt HC.1 4 23 11 rfl (by decide) rfl) ?_ ?_
  · refine xs_step (fun K HC => xr_iconst HC.1 11 24 (n := (-1)) (-1 : Int32) rfl rfl rfl) ?_
    exact xs_reti 12 rfl rfl (fun K q => q) (fun ty ht => by cases ht; rfl)
  refine xs_step (fun K HC => xr_aload_n HC.1 5 12 (n := 0) (ix := 0) (j := 0) (c := 11) (x := v0) rfl rfl rfl rfl) ?_
  refine xs_step (fun K HC => xr_geti HC.1 6 15 11 86 rfl rfl wf_M_580 (by decide) fb_11_86 fc_11_86) ?_
  refine xs_step (fun K HC => xr_iload_n HC.1 7 16 (n := 1) (ix := 1) (j := 1) (x := v1) rfl rfl rfl rfl) ?_
  refine xs_step (fun K HC => xr_iadd HC.1 8 17 rfl rfl) ?_
  refine xs_step (fun K HC => xr_ldcw HC.1 9 20 wk_M_583 rfl rfl) ?_
  refine xs_ite (fun K HC => xr_icmp_le HC.1 10 25 23 rfl (by decide) rfl) ?_ ?_
  · refine xs_step (fun K HC => xr_aload_n HC.1 13 26 (n := 0) (ix := 0) (j := 0) (c := 11) (x := v0) rfl rfl rfl rfl) ?_
    refine xs_step (fun K HC => xr_dup HC.1 14 27 rfl rfl rfl) ?_
    refine xs_step (fun K HC => xr_geti HC.1 15 30 11 86 rfl rfl wf_M_580 (by decide) fb_11_86 fc_11_86) ?_
    refine xs_step (fun K HC => xr_iload_n HC.1 16 31 (n := 1) (ix := 1) (j := 1) (x := v1) rfl rfl rfl rfl) ?_
    refine xs_step (fun K HC => xr_iadd HC.1 17 32 rfl rfl) ?_
    refine xs_heap (hp_mo_si _ _ _ _) (fun K HC => xr_puti HC.1 18 35 11 86 rfl rfl wf_M_580 (by decide) fb_11_86 fn_11_86 fy_11_86) (fun h_1 => ?_)
    refine xs_step (fun K HC => xr_aload_n HC.1 19 36 (n := 0) (ix := 0) (j := 0) (c := 11) (x := v0) rfl rfl rfl rfl) ?_
    refine xs_step (fun K HC => xr_geti HC.1 20 39 11 86 rfl rfl wf_M_580 (by decide) fb_11_86 fc_11_86) ?_
    exact xs_reti 21 rfl rfl (fun K q => q) (fun ty ht => by cases ht; rfl)
  refine xs_step (fun K HC => xr_iconst HC.1 11 24 (n := (-1)) (-1 : Int32) rfl rfl rfl) ?_
  exact xs_reti 12 rfl rfl (fun K q => q) (fun ty ht => by cases ht; rfl)
theorem s_M_later (v0 : Nat) (v1 : Int32) (h : HP) : ∀ x, f_M_later v0 v1 h = some x → hp_mo h x.2 ∧ ∀ g l, xx_M g l y_M_later prog_14_method_97_code 2 (some .int) 1 [av_R 11 (some v0), av_I v1] h (some (av_I x.1)) x.2 :=
  xM_i (tb := tb_M_later) (b := false) (by decide +kernel) dt_M_later (fun _ => trivial) (Nat.le_of_ble_eq_true rfl) (fun hb => by cases hb) (t_M_later v0 v1 h)
def tb_M_layLogs : TBL := [(0, .iconst 0, 1), (1, .istore_n 2, 1), (2, .iload_n 2, 1), (3, .bipush 100, 2), (5, .if_icmp .ge 23, 3), (8, .aload_n 0, 1), (9, .getfield 148, 3), (12, .iload_n 2, 1), (13, .iconst (-1), 1), (14, .iastore, 1), (15, .aload_n 0, 1), (16, .getfield 151, 3), (19, .iload_n 2, 1), (20, .iconst 0, 1), (21, .bastore, 1), (22, .iinc 2 1, 3), (25, .goto (-23), 3), (28, .iconst 0, 1), (29, .istore_n 2, 1), (30, .iload_n 2, 1), (31, .aload_n 0, 1), (32, .getfield 410, 3), (35, .if_icmp .ge 104, 3), (38, .aload_n 0, 1), (39, .getfield 142, 3), (42, .iload_n 2, 1), (43, .iaload, 1), (44, .iload_n 1, 1), (45, .if_icmp .gt 88, 3), (48, .aload_n 0, 1), (49, .getfield 145, 3), (52, .iload_n 2, 1), (53, .iaload, 1), (54, .ifCond .lt 16, 3), (57, .aload_n 0, 1), (58, .getfield 145, 3), (61, .iload_n 2, 1), (62, .iaload, 1), (63, .iload_n 1, 1), (64, .if_icmp .gt 6, 3), (67, .goto 66, 3), (70, .aload_n 0, 1), (71, .getfield 136, 3), (74, .iload_n 2, 1), (75, .iaload, 1), (76, .istore_n 3, 1), (77, .aload_n 0, 1), (78, .getfield 151, 3), (81, .iload_n 3, 1), (82, .aload_n 0, 1), (83, .getfield 151, 3), (86, .iload_n 3, 1), (87, .baload, 1), (88, .ifCond .ne 27, 3), (91, .aload_n 0, 1), (92, .getfield 148, 3), (95, .iload_n 3, 1), (96, .iaload, 1), (97, .ifCond .lt 22, 3), (100, .aload_n 0, 1), (101, .getfield 148, 3), (104, .iload_n 3, 1), (105, .iaload, 1), (106, .aload_n 0, 1), (107, .getfield 139, 3), (110, .iload_n 2, 1), (111, .iaload, 1), (112, .if_icmp .eq 7, 3), (115, .iconst 1, 1), (116, .goto 4, 3), (119, .iconst 0, 1), (120, .bastore, 1), (121, .aload_n 0, 1), (122, .getfield 148, 3), (125, .iload_n 3, 1), (126, .aload_n 0, 1), (127, .getfield 139, 3), (130, .iload_n 2, 1), (131, .iaload, 1), (132, .iastore, 1), (133, .iinc 2 1, 3), (136, .goto (-106), 3), (139, .iconst 0, 1), (140, .istore_n 2, 1), (141, .iconst 0, 1), (142, .istore_n 3, 1), (143, .iload_n 3, 1), (144, .bipush 100, 2), (146, .if_icmp .ge 26, 3), (149, .iload_n 2, 1), (150, .aload_n 0, 1), (151, .getfield 151, 3), (154, .iload_n 3, 1), (155, .baload, 1), (156, .ifCond .eq 7, 3), (159, .iconst 1, 1), (160, .goto 4, 3), (163, .iconst 0, 1), (164, .iadd, 1), (165, .istore_n 2, 1), (166, .iinc 3 1, 3), (169, .goto (-26), 3), (172, .iload_n 2, 1), (173, .ireturn, 1)]
theorem dt_M_layLogs : ∀ q ∈ tb_M_layLogs, decode prog_14_method_98_code q.1 = .ok (q.2.1, q.2.2) := by decide +kernel
set_option maxHeartbeats 4000000 in
set_option maxRecDepth 100000 in
theorem t_M_layLogs_164 (v0 : Nat) (v3 : Int32) (s0 : Int32) (s1 : Int32) (h : HP) : xx_S (xx_D "LampYardModel" tb_M_layLogs 4 1 (some .int) false) (xx_z2 (fun s : (Int32 × Int32 × HP) => s.2.2) xz_i) (fun K => xx_L2 (fun s : (Int32 × Int32 × HP) => xx_X K 143 [(0, av_R 11 (some v0)), (2, av_I s.1), (3, av_I s.2.1)] [] (s.2.2)) (xL_i K)) 164 [(0, av_R 11 (some v0)), (3, av_I v3)] [av_I s0, av_I s1] h (f_M_layLogs_164 v0 v3 s0 s1 h) := by
  unfold f_M_layLogs_164
  refine xs_step (fun K HC => xr_iadd HC.1 98 165 rfl rfl) ?_
  refine xs_topi (fun v2_3 => ?_)
  refine xs_step (fun K HC => xr_istore_n HC.1 99 166 (n := 2) (ix := 2) (lv' := [(0, av_R 11 (some v0)), (2, av_I v2_3), (3, av_I v3)]) rfl rfl rfl (by decide) rfl) ?_
  refine xs_gen (fun v3_4 ev3_4 => ?_)
  refine xs_step (fun K HC => xr_iinc HC.1 100 169 (ix := 3) (j := 2) (n := (1)) (x := v3) v3_4 (lv' := [(0, av_R 11 (some v0)), (2, av_I v2_3), (3, av_I v3_4)]) rfl (by rw [ev3_4]; rfl) rfl rfl (by decide) rfl) ?_
  refine xs_step (fun K HC => xr_goto HC.1 101 143 rfl (by decide)) ?_
  exact xs_back rfl (fun K q => q)
set_option maxHeartbeats 4000000 in
set_option maxRecDepth 100000 in
theorem t_M_layLogs_143b (v0 : Nat) (v2 : Int32) (v3 : Int32) (h : HP) : xx_S (xx_D "LampYardModel" tb_M_layLogs 4 1 (some .int) false) (xx_z2 (fun s : (Int32 × Int32 × HP) => s.2.2) xz_i) (fun K => xx_L2 (fun s : (Int32 × Int32 × HP) => xx_X K 143 [(0, av_R 11 (some v0)), (2, av_I s.1), (3, av_I s.2.1)] [] (s.2.2)) (xL_i K)) 143 [(0, av_R 11 (some v0)), (2, av_I v2), (3, av_I v3)] [] h (f_M_layLogs_143b v0 v2 v3 h) := by
  unfold f_M_layLogs_143b
  refine xs_step (fun K HC => xr_iload_n HC.1 86 144 (n := 3) (ix := 3) (j := 2) (x := v3) rfl rfl rfl rfl) ?_
  refine xs_step (fun K HC => xr_bipush HC.1 87 146 (n := (100)) (100 : Int32) rfl rfl rfl) ?_
  refine xs_ite (fun K HC => xr_icmp_ge HC.1 88 172 149 rfl (by decide) rfl) ?_ ?_
  · refine xs_step (fun K HC => xr_iload_n HC.1 102 173 (n := 2) (ix := 2) (j := 1) (x := v2) rfl rfl rfl rfl) ?_
    exact xs_reti 103 rfl rfl (fun K q => q) (fun ty ht => by cases ht; rfl)
  refine xs_step (fun K HC => xr_iload_n HC.1 89 150 (n := 2) (ix := 2) (j := 1) (x := v2) rfl rfl rfl rfl) ?_
  refine xs_step (fun K HC => xr_aload_n HC.1 90 151 (n := 0) (ix := 0) (j := 0) (c := 11) (x := v0) rfl rfl rfl rfl) ?_
  refine xs_bind (fun q_1 eq_1 => ?_)
  refine xs_step (fun K HC => xr_getr HC.1 91 154 11 84 15 eq_1 rfl rfl wf_M_151 (by decide) fb_11_84 fc_11_84 fd_11_84) ?_
  refine xs_step (fun K HC => xr_iload_n HC.1 92 155 (n := 3) (ix := 3) (j := 2) (x := v3) rfl rfl rfl rfl) ?_
  refine xs_chk (fun hb_2 => ?_)
  refine xs_step (fun K HC => xr_zald HC.1 93 156 (hp_in_vp hb_2) rfl rfl) ?_
  refine xs_ite (fun K HC => xr_if_eq HC.1 94 163 159 rfl (by decide) rfl) ?_ ?_
  · refine xs_step (fun K HC => xr_iconst HC.1 97 164 (n := (0)) (0 : Int32) rfl rfl rfl) ?_
    refine xs_step (fun K HC => xr_sub (lv' := [(0, av_R 11 (some v0)), (3, av_I v3)]) [0, 2] rfl) ?_
    exact t_M_layLogs_164 v0 v3 (0 : Int32) v2 h
  refine xs_step (fun K HC => xr_iconst HC.1 95 160 (n := (1)) (1 : Int32) rfl rfl rfl) ?_
  refine xs_step (fun K HC => xr_goto HC.1 96 164 rfl (by decide)) ?_
  refine xs_step (fun K HC => xr_sub (lv' := [(0, av_R 11 (some v0)), (3, av_I v3)]) [0, 2] rfl) ?_
  exact t_M_layLogs_164 v0 v3 (1 : Int32) v2 h
theorem t_M_layLogs_143 (v0 : Nat) (v2 : Int32) (v3 : Int32) (h : HP) : xx_S (xx_D "LampYardModel" tb_M_layLogs 4 1 (some .int) false) xz_i (fun K => xL_i K) 143 [(0, av_R 11 (some v0)), (2, av_I v2), (3, av_I v3)] [] h (f_M_layLogs_143 v0 v2 v3 h) :=
  xs_loop (zf := xz_i) (L := (fun K => xL_i K)) (fun s : (Int32 × Int32 × HP) => [(0, av_R 11 (some v0)), (2, av_I s.1), (3, av_I s.2.1)]) (fun s : (Int32 × Int32 × HP) => s.2.2) (fun s => t_M_layLogs_143b v0 s.1 s.2.1 s.2.2) (v2, v3, h)
set_option maxHeartbeats 4000000 in
set_option maxRecDepth 100000 in
theorem t_M_layLogs_139 (v0 : Nat) (h : HP) : xx_S (xx_D "LampYardModel" tb_M_layLogs 4 1 (some .int) false) xz_i (fun K => xL_i K) 139 [(0, av_R 11 (some v0))] [] h (f_M_layLogs_139 v0 h) := by
  unfold f_M_layLogs_139
  refine xs_step (fun K HC => xr_iconst HC.1 82 140 (n := (0)) (0 : Int32) rfl rfl rfl) ?_
  refine xs_step (fun K HC => xr_istore_n HC.1 83 141 (n := 2) (ix := 2) (lv' := [(0, av_R 11 (some v0)), (2, av_I (0 : Int32))]) rfl rfl rfl (by decide) rfl) ?_
  refine xs_step (fun K HC => xr_iconst HC.1 84 142 (n := (0)) (0 : Int32) rfl rfl rfl) ?_
  refine xs_step (fun K HC => xr_istore_n HC.1 85 143 (n := 3) (ix := 3) (lv' := [(0, av_R 11 (some v0)), (2, av_I (0 : Int32)), (3, av_I (0 : Int32))]) rfl rfl rfl (by decide) rfl) ?_
  exact t_M_layLogs_143 v0 (0 : Int32) (0 : Int32) h
set_option maxHeartbeats 4000000 in
set_option maxRecDepth 100000 in
theorem t_M_layLogs_133 (v0 : Nat) (v1 : Int32) (v2 : Int32) (h : HP) : xx_S (xx_D "LampYardModel" tb_M_layLogs 4 1 (some .int) false) (xx_z2 (fun s : (Int32 × HP) => s.2) xz_i) (fun K => xx_L2 (fun s : (Int32 × HP) => xx_X K 30 [(0, av_R 11 (some v0)), (1, av_I v1), (2, av_I s.1)] [] (s.2)) (xL_i K)) 133 [(0, av_R 11 (some v0)), (1, av_I v1), (2, av_I v2)] [] h (f_M_layLogs_133 v0 v1 v2 h) := by
  unfold f_M_layLogs_133
  refine xs_gen (fun v2_7 ev2_7 => ?_)
  refine xs_step (fun K HC => xr_iinc HC.1 80 136 (ix := 2) (j := 2) (n := (1)) (x := v2) v2_7 (lv' := [(0, av_R 11 (some v0)), (1, av_I v1), (2, av_I v2_7)]) rfl (by rw [ev2_7]; rfl) rfl rfl (by decide) rfl) ?_
  refine xs_step (fun K HC => xr_goto HC.1 81 30 rfl (by decide)) ?_
  exact xs_back rfl (fun K q => q)
set_option maxHeartbeats 4000000 in
set_option maxRecDepth 100000 in
theorem t_M_layLogs_120 (v0 : Nat) (v1 : Int32) (v2 : Int32) (v3 : Int32) (s0 : Int32) (s1 : Int32) (s2 : Nat) (h : HP) : xx_S (xx_D "LampYardModel" tb_M_layLogs 4 1 (some .int) false) (xx_z2 (fun s : (Int32 × HP) => s.2) xz_i) (fun K => xx_L2 (fun s : (Int32 × HP) => xx_X K 30 [(0, av_R 11 (some v0)), (1, av_I v1), (2, av_I s.1)] [] (s.2)) (xL_i K)) 120 [(0, av_R 11 (some v0)), (1, av_I v1), (2, av_I v2), (3, av_I v3)] [av_I s0, av_I s1, av_R 15 (some s2)] h (f_M_layLogs_120 v0 v1 v2 v3 s0 s1 s2 h) := by
  unfold f_M_layLogs_120
  refine xs_chk (fun hb_18 => ?_)
  refine xs_heap (hp_mo_si _ _ _ _) (fun K HC => xr_zast HC.1 71 121 (hp_in_vp hb_18) rfl rfl) (fun h_19 => ?_)
  refine xs_step (fun K HC => xr_aload_n HC.1 72 122 (n := 0) (ix := 0) (j := 0) (c := 11) (x := v0) rfl rfl rfl rfl) ?_
  refine xs_bind (fun q_20 eq_20 => ?_)
  refine xs_step (fun K HC => xr_getr HC.1 73 125 11 83 13 eq_20 rfl rfl wf_M_148 (by decide) fb_11_83 fc_11_83 fd_11_83) ?_
  refine xs_step (fun K HC => xr_iload_n HC.1 74 126 (n := 3) (ix := 3) (j := 3) (x := v3) rfl rfl rfl rfl) ?_
  refine xs_step (fun K HC => xr_aload_n HC.1 75 127 (n := 0) (ix := 0) (j := 0) (c := 11) (x := v0) rfl rfl rfl rfl) ?_
  refine xs_bind (fun q_21 eq_21 => ?_)
  refine xs_step (fun K HC => xr_getr HC.1 76 130 11 80 13 eq_21 rfl rfl wf_M_139 (by decide) fb_11_80 fc_11_80 fd_11_80) ?_
  refine xs_step (fun K HC => xr_iload_n HC.1 77 131 (n := 2) (ix := 2) (j := 2) (x := v2) rfl rfl rfl rfl) ?_
  refine xs_chk (fun hb_22 => ?_)
  refine xs_step (fun K HC => xr_iald HC.1 78 132 (hp_in_vp hb_22) rfl rfl) ?_
  refine xs_chk (fun hb_23 => ?_)
  refine xs_heap (hp_mo_si _ _ _ _) (fun K HC => xr_iast HC.1 79 133 (hp_in_vp hb_23) rfl rfl) (fun h_24 => ?_)
  refine xs_step (fun K HC => xr_sub (lv' := [(0, av_R 11 (some v0)), (1, av_I v1), (2, av_I v2)]) [0, 1, 2] rfl) ?_
  exact t_M_layLogs_133 v0 v1 v2 h_24
set_option maxHeartbeats 4000000 in
set_option maxRecDepth 100000 in
theorem t_M_layLogs_119 (v0 : Nat) (v1 : Int32) (v2 : Int32) (v3 : Int32) (s0 : Int32) (s1 : Nat) (h : HP) : xx_S (xx_D "LampYardModel" tb_M_layLogs 4 1 (some .int) false) (xx_z2 (fun s : (Int32 × HP) => s.2) xz_i) (fun K => xx_L2 (fun s : (Int32 × HP) => xx_X K 30 [(0, av_R 11 (some v0)), (1, av_I v1), (2, av_I s.1)] [] (s.2)) (xL_i K)) 119 [(0, av_R 11 (some v0)), (1, av_I v1), (2, av_I v2), (3, av_I v3)] [av_I s0, av_R 15 (some s1)] h (f_M_layLogs_119 v0 v1 v2 v3 s0 s1 h) := by
  unfold f_M_layLogs_119
  refine xs_step (fun K HC => xr_iconst HC.1 70 120 (n := (0)) (0 : Int32) rfl rfl rfl) ?_
  exact t_M_layLogs_120 v0 v1 v2 v3 (0 : Int32) s0 s1 h
set_option maxHeartbeats 4000000 in
set_option maxRecDepth 100000 in
theorem t_M_layLogs_115 (v0 : Nat) (v1 : Int32) (v2 : Int32) (v3 : Int32) (s0 : Int32) (s1 : Nat) (h : HP) : xx_S (xx_D "LampYardModel" tb_M_layLogs 4 1 (some .int) false) (xx_z2 (fun s : (Int32 × HP) => s.2) xz_i) (fun K => xx_L2 (fun s : (Int32 × HP) => xx_X K 30 [(0, av_R 11 (some v0)), (1, av_I v1), (2, av_I s.1)] [] (s.2)) (xL_i K)) 115 [(0, av_R 11 (some v0)), (1, av_I v1), (2, av_I v2), (3, av_I v3)] [av_I s0, av_R 15 (some s1)] h (f_M_layLogs_115 v0 v1 v2 v3 s0 s1 h) := by
  unfold f_M_layLogs_115
  refine xs_step (fun K HC => xr_iconst HC.1 68 116 (n := (1)) (1 : Int32) rfl rfl rfl) ?_
  refine xs_step (fun K HC => xr_goto HC.1 69 120 rfl (by decide)) ?_
  exact t_M_layLogs_120 v0 v1 v2 v3 (1 : Int32) s0 s1 h
set_option maxHeartbeats 4000000 in
set_option maxRecDepth 100000 in
theorem t_M_layLogs_70 (v0 : Nat) (v1 : Int32) (v2 : Int32) (h : HP) : xx_S (xx_D "LampYardModel" tb_M_layLogs 4 1 (some .int) false) (xx_z2 (fun s : (Int32 × HP) => s.2) xz_i) (fun K => xx_L2 (fun s : (Int32 × HP) => xx_X K 30 [(0, av_R 11 (some v0)), (1, av_I v1), (2, av_I s.1)] [] (s.2)) (xL_i K)) 70 [(0, av_R 11 (some v0)), (1, av_I v1), (2, av_I v2)] [] h (f_M_layLogs_70 v0 v1 v2 h) := by
  unfold f_M_layLogs_70
  refine xs_step (fun K HC => xr_aload_n HC.1 41 71 (n := 0) (ix := 0) (j := 0) (c := 11) (x := v0) rfl rfl rfl rfl) ?_
  refine xs_bind (fun q_10 eq_10 => ?_)
  refine xs_step (fun K HC => xr_getr HC.1 42 74 11 79 13 eq_10 rfl rfl wf_M_136 (by decide) fb_11_79 fc_11_79 fd_11_79) ?_
  refine xs_step (fun K HC => xr_iload_n HC.1 43 75 (n := 2) (ix := 2) (j := 2) (x := v2) rfl rfl rfl rfl) ?_
  refine xs_chk (fun hb_11 => ?_)
  refine xs_step (fun K HC => xr_iald HC.1 44 76 (hp_in_vp hb_11) rfl rfl) ?_
  refine xs_topi (fun v3_12 => ?_)
  refine xs_step (fun K HC => xr_istore_n HC.1 45 77 (n := 3) (ix := 3) (lv' := [(0, av_R 11 (some v0)), (1, av_I v1), (2, av_I v2), (3, av_I v3_12)]) rfl rfl rfl (by decide) rfl) ?_
  refine xs_step (fun K HC => xr_aload_n HC.1 46 78 (n := 0) (ix := 0) (j := 0) (c := 11) (x := v0) rfl rfl rfl rfl) ?_
  refine xs_bind (fun q_13 eq_13 => ?_)
  refine xs_step (fun K HC => xr_getr HC.1 47 81 11 84 15 eq_13 rfl rfl wf_M_151 (by decide) fb_11_84 fc_11_84 fd_11_84) ?_
  refine xs_step (fun K HC => xr_iload_n HC.1 48 82 (n := 3) (ix := 3) (j := 3) (x := v3_12) rfl rfl rfl rfl) ?_
  refine xs_step (fun K HC => xr_aload_n HC.1 49 83 (n := 0) (ix := 0) (j := 0) (c := 11) (x := v0) rfl rfl rfl rfl) ?_
  refine xs_bind (fun q_14 eq_14 => ?_)
  refine xs_step (fun K HC => xr_getr HC.1 50 86 11 84 15 eq_14 rfl rfl wf_M_151 (by decide) fb_11_84 fc_11_84 fd_11_84) ?_
  refine xs_step (fun K HC => xr_iload_n HC.1 51 87 (n := 3) (ix := 3) (j := 3) (x := v3_12) rfl rfl rfl rfl) ?_
  refine xs_chk (fun hb_15 => ?_)
  refine xs_step (fun K HC => xr_zald HC.1 52 88 (hp_in_vp hb_15) rfl rfl) ?_
  refine xs_ite (fun K HC a b => xr_if_ne HC.1 53 115 91 rfl (by decide) rfl b a) ?_ ?_
  · refine xs_step (fun K HC => xr_aload_n HC.1 54 92 (n := 0) (ix := 0) (j := 0) (c := 11) (x := v0) rfl rfl rfl rfl) ?_
    refine xs_bind (fun q_16 eq_16 => ?_)
    refine xs_step (fun K HC => xr_getr HC.1 55 95 11 83 13 eq_16 rfl rfl wf_M_148 (by decide) fb_11_83 fc_11_83 fd_11_83) ?_
    refine xs_step (fun K HC => xr_iload_n HC.1 56 96 (n := 3) (ix := 3) (j := 3) (x := v3_12) rfl rfl rfl rfl) ?_
    refine xs_chk (fun hb_17 => ?_)
    refine xs_step (fun K HC => xr_iald HC.1 57 97 (hp_in_vp hb_17) rfl rfl) ?_
    refine xs_ite (fun K HC => xr_if_lt HC.1 58 119 100 rfl (by decide) rfl) ?_ ?_
    · exact t_M_layLogs_119 v0 v1 v2 v3_12 v3_12 q_13 h
    refine xs_step (fun K HC => xr_aload_n HC.1 59 101 (n := 0) (ix := 0) (j := 0) (c := 11) (x := v0) rfl rfl rfl rfl) ?_
    refine xs_bind (fun q_25 eq_25 => ?_)
    refine xs_step (fun K HC => xr_getr HC.1 60 104 11 83 13 eq_25 rfl rfl wf_M_148 (by decide) fb_11_83 fc_11_83 fd_11_83) ?_
    refine xs_step (fun K HC => xr_iload_n HC.1 61 105 (n := 3) (ix := 3) (j := 3) (x := v3_12) rfl rfl rfl rfl) ?_
    refine xs_chk (fun hb_26 => ?_)
    refine xs_step (fun K HC => xr_iald HC.1 62 106 (hp_in_vp hb_26) rfl rfl) ?_
    refine xs_step (fun K HC => xr_aload_n HC.1 63 107 (n := 0) (ix := 0) (j := 0) (c := 11) (x := v0) rfl rfl rfl rfl) ?_
    refine xs_bind (fun q_27 eq_27 => ?_)
    refine xs_step (fun K HC => xr_getr HC.1 64 110 11 80 13 eq_27 rfl rfl wf_M_139 (by decide) fb_11_80 fc_11_80 fd_11_80) ?_
    refine xs_step (fun K HC => xr_iload_n HC.1 65 111 (n := 2) (ix := 2) (j := 2) (x := v2) rfl rfl rfl rfl) ?_
    refine xs_chk (fun hb_28 => ?_)
    refine xs_step (fun K HC => xr_iald HC.1 66 112 (hp_in_vp hb_28) rfl rfl) ?_
    refine xs_ite (fun K HC => xr_icmp_eq HC.1 67 119 115 rfl (by decide) rfl) ?_ ?_
    · exact t_M_layLogs_119 v0 v1 v2 v3_12 v3_12 q_13 h
    exact t_M_layLogs_115 v0 v1 v2 v3_12 v3_12 q_13 h
  exact t_M_layLogs_115 v0 v1 v2 v3_12 v3_12 q_13 h
set_option maxHeartbeats 4000000 in
set_option maxRecDepth 100000 in
theorem t_M_layLogs_30b (v0 : Nat) (v1 : Int32) (v2 : Int32) (h : HP) : xx_S (xx_D "LampYardModel" tb_M_layLogs 4 1 (some .int) false) (xx_z2 (fun s : (Int32 × HP) => s.2) xz_i) (fun K => xx_L2 (fun s : (Int32 × HP) => xx_X K 30 [(0, av_R 11 (some v0)), (1, av_I v1), (2, av_I s.1)] [] (s.2)) (xL_i K)) 30 [(0, av_R 11 (some v0)), (1, av_I v1), (2, av_I v2)] [] h (f_M_layLogs_30b v0 v1 v2 h) := by
  unfold f_M_layLogs_30b
  refine xs_step (fun K HC => xr_iload_n HC.1 19 31 (n := 2) (ix := 2) (j := 2) (x := v2) rfl rfl rfl rfl) ?_
  refine xs_step (fun K HC => xr_aload_n HC.1 20 32 (n := 0) (ix := 0) (j := 0) (c := 11) (x := v0) rfl rfl rfl rfl) ?_
  refine xs_step (fun K HC => xr_geti HC.1 21 35 11 85 rfl rfl wf_M_410 (by decide) fb_11_85 fc_11_85) ?_
  refine xs_ite (fun K HC => xr_icmp_ge HC.1 22 139 38 rfl (by decide) rfl) ?_ ?_
  · refine xs_step (fun K HC => xr_sub (lv' := [(0, av_R 11 (some v0))]) [0] rfl) ?_
    exact xs_map (fun _ => rfl) (fun _ _ q => q) (t_M_layLogs_139 v0 h)
  refine xs_step (fun K HC => xr_aload_n HC.1 23 39 (n := 0) (ix := 0) (j := 0) (c := 11) (x := v0) rfl rfl rfl rfl) ?_
  refine xs_bind (fun q_5 eq_5 => ?_)
  refine xs_step (fun K HC => xr_getr HC.1 24 42 11 81 13 eq_5 rfl rfl wf_M_142 (by decide) fb_11_81 fc_11_81 fd_11_81) ?_
  refine xs_step (fun K HC => xr_iload_n HC.1 25 43 (n := 2) (ix := 2) (j := 2) (x := v2) rfl rfl rfl rfl) ?_
  refine xs_chk (fun hb_6 => ?_)
  refine xs_step (fun K HC => xr_iald HC.1 26 44 (hp_in_vp hb_6) rfl rfl) ?_
  refine xs_step (fun K HC => xr_iload_n HC.1 27 45 (n := 1) (ix := 1) (j := 1) (x := v1) rfl rfl rfl rfl) ?_
  refine xs_ite (fun K HC => xr_icmp_gt HC.1 28 133 48 rfl (by decide) rfl) ?_ ?_
  · exact t_M_layLogs_133 v0 v1 v2 h
  refine xs_step (fun K HC => xr_aload_n HC.1 29 49 (n := 0) (ix := 0) (j := 0) (c := 11) (x := v0) rfl rfl rfl rfl) ?_
  refine xs_bind (fun q_8 eq_8 => ?_)
  refine xs_step (fun K HC => xr_getr HC.1 30 52 11 82 13 eq_8 rfl rfl wf_M_145 (by decide) fb_11_82 fc_11_82 fd_11_82) ?_
  refine xs_step (fun K HC => xr_iload_n HC.1 31 53 (n := 2) (ix := 2) (j := 2) (x := v2) rfl rfl rfl rfl) ?_
  refine xs_chk (fun hb_9 => ?_)
  refine xs_step (fun K HC => xr_iald HC.1 32 54 (hp_in_vp hb_9) rfl rfl) ?_
  refine xs_ite (fun K HC => xr_if_lt HC.1 33 70 57 rfl (by decide) rfl) ?_ ?_
  · exact t_M_layLogs_70 v0 v1 v2 h
  refine xs_step (fun K HC => xr_aload_n HC.1 34 58 (n := 0) (ix := 0) (j := 0) (c := 11) (x := v0) rfl rfl rfl rfl) ?_
  refine xs_bind (fun q_29 eq_29 => ?_)
  refine xs_step (fun K HC => xr_getr HC.1 35 61 11 82 13 eq_29 rfl rfl wf_M_145 (by decide) fb_11_82 fc_11_82 fd_11_82) ?_
  refine xs_step (fun K HC => xr_iload_n HC.1 36 62 (n := 2) (ix := 2) (j := 2) (x := v2) rfl rfl rfl rfl) ?_
  refine xs_chk (fun hb_30 => ?_)
  refine xs_step (fun K HC => xr_iald HC.1 37 63 (hp_in_vp hb_30) rfl rfl) ?_
  refine xs_step (fun K HC => xr_iload_n HC.1 38 64 (n := 1) (ix := 1) (j := 1) (x := v1) rfl rfl rfl rfl) ?_
  refine xs_ite (fun K HC => xr_icmp_gt HC.1 39 70 67 rfl (by decide) rfl) ?_ ?_
  · exact t_M_layLogs_70 v0 v1 v2 h
  refine xs_step (fun K HC => xr_goto HC.1 40 133 rfl (by decide)) ?_
  exact t_M_layLogs_133 v0 v1 v2 h
theorem t_M_layLogs_30 (v0 : Nat) (v1 : Int32) (v2 : Int32) (h : HP) : xx_S (xx_D "LampYardModel" tb_M_layLogs 4 1 (some .int) false) xz_i (fun K => xL_i K) 30 [(0, av_R 11 (some v0)), (1, av_I v1), (2, av_I v2)] [] h (f_M_layLogs_30 v0 v1 v2 h) :=
  xs_loop (zf := xz_i) (L := (fun K => xL_i K)) (fun s : (Int32 × HP) => [(0, av_R 11 (some v0)), (1, av_I v1), (2, av_I s.1)]) (fun s : (Int32 × HP) => s.2) (fun s => t_M_layLogs_30b v0 v1 s.1 s.2) (v2, h)
set_option maxHeartbeats 4000000 in
set_option maxRecDepth 100000 in
theorem t_M_layLogs_28 (v0 : Nat) (v1 : Int32) (h : HP) : xx_S (xx_D "LampYardModel" tb_M_layLogs 4 1 (some .int) false) xz_i (fun K => xL_i K) 28 [(0, av_R 11 (some v0)), (1, av_I v1)] [] h (f_M_layLogs_28 v0 v1 h) := by
  unfold f_M_layLogs_28
  refine xs_step (fun K HC => xr_iconst HC.1 17 29 (n := (0)) (0 : Int32) rfl rfl rfl) ?_
  refine xs_step (fun K HC => xr_istore_n HC.1 18 30 (n := 2) (ix := 2) (lv' := [(0, av_R 11 (some v0)), (1, av_I v1), (2, av_I (0 : Int32))]) rfl rfl rfl (by decide) rfl) ?_
  exact t_M_layLogs_30 v0 v1 (0 : Int32) h
set_option maxHeartbeats 4000000 in
set_option maxRecDepth 100000 in
theorem t_M_layLogs_2b (v0 : Nat) (v1 : Int32) (v2 : Int32) (h : HP) : xx_S (xx_D "LampYardModel" tb_M_layLogs 4 1 (some .int) false) (xx_z2 (fun s : (Int32 × HP) => s.2) xz_i) (fun K => xx_L2 (fun s : (Int32 × HP) => xx_X K 2 [(0, av_R 11 (some v0)), (1, av_I v1), (2, av_I s.1)] [] (s.2)) (xL_i K)) 2 [(0, av_R 11 (some v0)), (1, av_I v1), (2, av_I v2)] [] h (f_M_layLogs_2b v0 v1 v2 h) := by
  unfold f_M_layLogs_2b
  refine xs_step (fun K HC => xr_iload_n HC.1 2 3 (n := 2) (ix := 2) (j := 2) (x := v2) rfl rfl rfl rfl) ?_
  refine xs_step (fun K HC => xr_bipush HC.1 3 5 (n := (100)) (100 : Int32) rfl rfl rfl) ?_
  refine xs_ite (fun K HC => xr_icmp_ge HC.1 4 28 8 rfl (by decide) rfl) ?_ ?_
  · refine xs_step (fun K HC => xr_sub (lv' := [(0, av_R 11 (some v0)), (1, av_I v1)]) [0, 1] rfl) ?_
    exact xs_map (fun _ => rfl) (fun _ _ q => q) (t_M_layLogs_28 v0 v1 h)
  refine xs_step (fun K HC => xr_aload_n HC.1 5 9 (n := 0) (ix := 0) (j := 0) (c := 11) (x := v0) rfl rfl rfl rfl) ?_
  refine xs_bind (fun q_31 eq_31 => ?_)
  refine xs_step (fun K HC => xr_getr HC.1 6 12 11 83 13 eq_31 rfl rfl wf_M_148 (by decide) fb_11_83 fc_11_83 fd_11_83) ?_
  refine xs_step (fun K HC => xr_iload_n HC.1 7 13 (n := 2) (ix := 2) (j := 2) (x := v2) rfl rfl rfl rfl) ?_
  refine xs_step (fun K HC => xr_iconst HC.1 8 14 (n := (-1)) (-1 : Int32) rfl rfl rfl) ?_
  refine xs_chk (fun hb_32 => ?_)
  refine xs_heap (hp_mo_si _ _ _ _) (fun K HC => xr_iast HC.1 9 15 (hp_in_vp hb_32) rfl rfl) (fun h_33 => ?_)
  refine xs_step (fun K HC => xr_aload_n HC.1 10 16 (n := 0) (ix := 0) (j := 0) (c := 11) (x := v0) rfl rfl rfl rfl) ?_
  refine xs_bind (fun q_34 eq_34 => ?_)
  refine xs_step (fun K HC => xr_getr HC.1 11 19 11 84 15 eq_34 rfl rfl wf_M_151 (by decide) fb_11_84 fc_11_84 fd_11_84) ?_
  refine xs_step (fun K HC => xr_iload_n HC.1 12 20 (n := 2) (ix := 2) (j := 2) (x := v2) rfl rfl rfl rfl) ?_
  refine xs_step (fun K HC => xr_iconst HC.1 13 21 (n := (0)) (0 : Int32) rfl rfl rfl) ?_
  refine xs_chk (fun hb_35 => ?_)
  refine xs_heap (hp_mo_si _ _ _ _) (fun K HC => xr_zast HC.1 14 22 (hp_in_vp hb_35) rfl rfl) (fun h_36 => ?_)
  refine xs_gen (fun v2_37 ev2_37 => ?_)
  refine xs_step (fun K HC => xr_iinc HC.1 15 25 (ix := 2) (j := 2) (n := (1)) (x := v2) v2_37 (lv' := [(0, av_R 11 (some v0)), (1, av_I v1), (2, av_I v2_37)]) rfl (by rw [ev2_37]; rfl) rfl rfl (by decide) rfl) ?_
  refine xs_step (fun K HC => xr_goto HC.1 16 2 rfl (by decide)) ?_
  exact xs_back rfl (fun K q => q)
theorem t_M_layLogs_2 (v0 : Nat) (v1 : Int32) (v2 : Int32) (h : HP) : xx_S (xx_D "LampYardModel" tb_M_layLogs 4 1 (some .int) false) xz_i (fun K => xL_i K) 2 [(0, av_R 11 (some v0)), (1, av_I v1), (2, av_I v2)] [] h (f_M_layLogs_2 v0 v1 v2 h) :=
  xs_loop (zf := xz_i) (L := (fun K => xL_i K)) (fun s : (Int32 × HP) => [(0, av_R 11 (some v0)), (1, av_I v1), (2, av_I s.1)]) (fun s : (Int32 × HP) => s.2) (fun s => t_M_layLogs_2b v0 v1 s.1 s.2) (v2, h)
set_option maxHeartbeats 4000000 in
set_option maxRecDepth 100000 in
theorem t_M_layLogs (v0 : Nat) (v1 : Int32) (h : HP) : xx_S (xx_D "LampYardModel" tb_M_layLogs 4 1 (some .int) false) xz_i (fun K => xL_i K) 0 [(0, av_R 11 (some v0)), (1, av_I v1)] [] h (f_M_layLogs v0 v1 h) := by
  unfold f_M_layLogs
  refine xs_step (fun K HC => xr_iconst HC.1 0 1 (n := (0)) (0 : Int32) rfl rfl rfl) ?_
  refine xs_step (fun K HC => xr_istore_n HC.1 1 2 (n := 2) (ix := 2) (lv' := [(0, av_R 11 (some v0)), (1, av_I v1), (2, av_I (0 : Int32))]) rfl rfl rfl (by decide) rfl) ?_
  exact t_M_layLogs_2 v0 v1 (0 : Int32) h
theorem s_M_layLogs (v0 : Nat) (v1 : Int32) (h : HP) : ∀ x, f_M_layLogs v0 v1 h = some x → hp_mo h x.2 ∧ ∀ g l, xx_M g l y_M_layLogs prog_14_method_98_code 4 (some .int) 1 [av_R 11 (some v0), av_I v1] h (some (av_I x.1)) x.2 :=
  xM_i (tb := tb_M_layLogs) (b := false) (by decide +kernel) dt_M_layLogs (fun _ => trivial) (Nat.le_of_ble_eq_true rfl) (fun hb => by cases hb) (t_M_layLogs v0 v1 h)
def tb_M_logged : TBL := [(0, .iload_n 1, 1), (1, .ifCond .lt 8, 3), (4, .iload_n 1, 1), (5, .iconst 1, 1), (6, .if_icmp .le 5, 3), (9, .iconst (-1), 1), (10, .ireturn, 1), (11, .aload_n 0, 1), (12, .iload_n 2, 1), (13, .invokevirtual 584, 3), (16, .istore_n 3, 1), (17, .iload_n 1, 1), (18, .iconst 1, 1), (19, .if_icmp .ne 5, 3), (22, .iload_n 3, 1), (23, .ireturn, 1), (24, .iconst 0, 1), (25, .istore 4, 2), (27, .iconst 0, 1), (28, .istore 5, 2), (30, .iload 5, 2), (32, .bipush 100, 2), (34, .if_icmp .ge 60, 3), (37, .aload_n 0, 1), (38, .getfield 401, 3), (41, .ifCond .le 53, 3), (44, .iload 4, 2), (46, .aload_n 0, 1), (47, .getfield 148, 3), (50, .iload 5, 2), (52, .iaload, 1), (53, .ifCond .lt 15, 3), (56, .iconst 1, 1), (57, .aload_n 0, 1), (58, .getfield 148, 3), (61, .iload 5, 2), (63, .iaload, 1), (64, .ishl, 1), (65, .goto 4, 3), (68, .iconst 0, 1), (69, .ior, 1), (70, .istore 4, 2), (72, .iload 4, 2), (74, .iconst 1, 1), (75, .aload_n 0, 1), (76, .getfield 401, 3), (79, .ishl, 1), (80, .iconst 1, 1), (81, .isub, 1), (82, .if_icmp .ne 6, 3), (85, .iload 5, 2), (87, .ireturn, 1), (88, .iinc 5 1, 3), (91, .goto (-61), 3), (94, .iconst (-1), 1), (95, .ireturn, 1)]
theorem dt_M_logged : ∀ q ∈ tb_M_logged, decode prog_14_method_99_code q.1 = .ok (q.2.1, q.2.2) := by decide +kernel
set_option maxHeartbeats 4000000 in
set_option maxRecDepth 100000 in
theorem t_M_logged_69 (v0 : Nat) (v5 : Int32) (s0 : Int32) (s1 : Int32) (h : HP) : xx_S (xx_D "LampYardModel" tb_M_logged 6 2 (some .int) false) (xx_z2 (fun s : (Int32 × Int32 × HP) => s.2.2) xz_i) (fun K => xx_L2 (fun s : (Int32 × Int32 × HP) => xx_X K 30 [(0, av_R 11 (some v0)), (4, av_I s.1), (5, av_I s.2.1)] [] (s.2.2)) (xL_i K)) 69 [(0, av_R 11 (some v0)), (5, av_I v5)] [av_I s0, av_I s1] h (f_M_logged_69 v0 v5 s0 s1 h) := by
  unfold f_M_logged_69
  refine xs_step (fun K HC => xr_ior HC.1 40 70 rfl rfl) ?_
  refine xs_topi (fun v4_4 => ?_)
  refine xs_step (fun K HC => xr_istore HC.1 41 72 (ix := 4) (lv' := [(0, av_R 11 (some v0)), (4, av_I v4_4), (5, av_I v5)]) rfl rfl (by decide) rfl) ?_
  refine xs_step (fun K HC => xr_iload HC.1 42 74 (ix := 4) (j := 1) (x := v4_4) rfl rfl rfl) ?_
  refine xs_step (fun K HC => xr_iconst HC.1 43 75 (n := (1)) (1 : Int32) rfl rfl rfl) ?_
  refine xs_step (fun K HC => xr_aload_n HC.1 44 76 (n := 0) (ix := 0) (j := 0) (c := 11) (x := v0) rfl rfl rfl rfl) ?_
  refine xs_step (fun K HC => xr_geti HC.1 45 79 11 33 rfl rfl wf_M_401 (by decide) fb_11_33 fc_11_33) ?_
  refine xs_step (fun K HC => xr_ishl HC.1 46 80 rfl rfl) ?_
  refine xs_step (fun K HC => xr_iconst HC.1 47 81 (n := (1)) (1 : Int32) rfl rfl rfl) ?_
  refine xs_step (fun K HC => xr_isub HC.1 48 82 rfl rfl) ?_
  refine xs_ite (fun K HC a b => xr_icmp_ne HC.1 49 88 85 rfl (by decide) rfl b a) ?_ ?_
  · refine xs_step (fun K HC => xr_iload HC.1 50 87 (ix := 5) (j := 2) (x := v5) rfl rfl rfl) ?_
    exact xs_reti 51 rfl rfl (fun K q => q) (fun ty ht => by cases ht; rfl)
  refine xs_gen (fun v5_5 ev5_5 => ?_)
  refine xs_step (fun K HC => xr_iinc HC.1 52 91 (ix := 5) (j := 2) (n := (1)) (x := v5) v5_5 (lv' := [(0, av_R 11 (some v0)), (4, av_I v4_4), (5, av_I v5_5)]) rfl (by rw [ev5_5]; rfl) rfl rfl (by decide) rfl) ?_
  refine xs_step (fun K HC => xr_goto HC.1 53 30 rfl (by decide)) ?_
  exact xs_back rfl (fun K q => q)
set_option maxHeartbeats 4000000 in
set_option maxRecDepth 100000 in
theorem t_M_logged_30b (v0 : Nat) (v4 : Int32) (v5 : Int32) (h : HP) : xx_S (xx_D "LampYardModel" tb_M_logged 6 2 (some .int) false) (xx_z2 (fun s : (Int32 × Int32 × HP) => s.2.2) xz_i) (fun K => xx_L2 (fun s : (Int32 × Int32 × HP) => xx_X K 30 [(0, av_R 11 (some v0)), (4, av_I s.1), (5, av_I s.2.1)] [] (s.2.2)) (xL_i K)) 30 [(0, av_R 11 (some v0)), (4, av_I v4), (5, av_I v5)] [] h (f_M_logged_30b v0 v4 v5 h) := by
  unfold f_M_logged_30b
  refine xs_step (fun K HC => xr_iload HC.1 20 32 (ix := 5) (j := 2) (x := v5) rfl rfl rfl) ?_
  refine xs_step (fun K HC => xr_bipush HC.1 21 34 (n := (100)) (100 : Int32) rfl rfl rfl) ?_
  refine xs_ite (fun K HC => xr_icmp_ge HC.1 22 94 37 rfl (by decide) rfl) ?_ ?_
  · refine xs_step (fun K HC => xr_iconst HC.1 54 95 (n := (-1)) (-1 : Int32) rfl rfl rfl) ?_
    exact xs_reti 55 rfl rfl (fun K q => q) (fun ty ht => by cases ht; rfl)
  refine xs_step (fun K HC => xr_aload_n HC.1 23 38 (n := 0) (ix := 0) (j := 0) (c := 11) (x := v0) rfl rfl rfl rfl) ?_
  refine xs_step (fun K HC => xr_geti HC.1 24 41 11 33 rfl rfl wf_M_401 (by decide) fb_11_33 fc_11_33) ?_
  refine xs_ite (fun K HC => xr_if_le HC.1 25 94 44 rfl (by decide) rfl) ?_ ?_
  · refine xs_step (fun K HC => xr_iconst HC.1 54 95 (n := (-1)) (-1 : Int32) rfl rfl rfl) ?_
    exact xs_reti 55 rfl rfl (fun K q => q) (fun ty ht => by cases ht; rfl)
  refine xs_step (fun K HC => xr_iload HC.1 26 46 (ix := 4) (j := 1) (x := v4) rfl rfl rfl) ?_
  refine xs_step (fun K HC => xr_aload_n HC.1 27 47 (n := 0) (ix := 0) (j := 0) (c := 11) (x := v0) rfl rfl rfl rfl) ?_
  refine xs_bind (fun q_2 eq_2 => ?_)
  refine xs_step (fun K HC => xr_getr HC.1 28 50 11 83 13 eq_2 rfl rfl wf_M_148 (by decide) fb_11_83 fc_11_83 fd_11_83) ?_
  refine xs_step (fun K HC => xr_iload HC.1 29 52 (ix := 5) (j := 2) (x := v5) rfl rfl rfl) ?_
  refine xs_chk (fun hb_3 => ?_)
  refine xs_step (fun K HC => xr_iald HC.1 30 53 (hp_in_vp hb_3) rfl rfl) ?_
  refine xs_ite (fun K HC => xr_if_lt HC.1 31 68 56 rfl (by decide) rfl) ?_ ?_
  · refine xs_step (fun K HC => xr_iconst HC.1 39 69 (n := (0)) (0 : Int32) rfl rfl rfl) ?_
    refine xs_step (fun K HC => xr_sub (lv' := [(0, av_R 11 (some v0)), (5, av_I v5)]) [0, 2] rfl) ?_
    exact t_M_logged_69 v0 v5 (0 : Int32) v4 h
  refine xs_step (fun K HC => xr_iconst HC.1 32 57 (n := (1)) (1 : Int32) rfl rfl rfl) ?_
  refine xs_step (fun K HC => xr_aload_n HC.1 33 58 (n := 0) (ix := 0) (j := 0) (c := 11) (x := v0) rfl rfl rfl rfl) ?_
  refine xs_bind (fun q_6 eq_6 => ?_)
  refine xs_step (fun K HC => xr_getr HC.1 34 61 11 83 13 eq_6 rfl rfl wf_M_148 (by decide) fb_11_83 fc_11_83 fd_11_83) ?_
  refine xs_step (fun K HC => xr_iload HC.1 35 63 (ix := 5) (j := 2) (x := v5) rfl rfl rfl) ?_
  refine xs_chk (fun hb_7 => ?_)
  refine xs_step (fun K HC => xr_iald HC.1 36 64 (hp_in_vp hb_7) rfl rfl) ?_
  refine xs_step (fun K HC => xr_ishl HC.1 37 65 rfl rfl) ?_
  refine xs_step (fun K HC => xr_goto HC.1 38 69 rfl (by decide)) ?_
  refine xs_step (fun K HC => xr_sub (lv' := [(0, av_R 11 (some v0)), (5, av_I v5)]) [0, 2] rfl) ?_
  exact t_M_logged_69 v0 v5 ((1 : Int32) <<< ((hp_i h q_6 (v5).toNatClampNeg) &&& 31)) v4 h
theorem t_M_logged_30 (v0 : Nat) (v4 : Int32) (v5 : Int32) (h : HP) : xx_S (xx_D "LampYardModel" tb_M_logged 6 2 (some .int) false) xz_i (fun K => xL_i K) 30 [(0, av_R 11 (some v0)), (4, av_I v4), (5, av_I v5)] [] h (f_M_logged_30 v0 v4 v5 h) :=
  xs_loop (zf := xz_i) (L := (fun K => xL_i K)) (fun s : (Int32 × Int32 × HP) => [(0, av_R 11 (some v0)), (4, av_I s.1), (5, av_I s.2.1)]) (fun s : (Int32 × Int32 × HP) => s.2.2) (fun s => t_M_logged_30b v0 s.1 s.2.1 s.2.2) (v4, v5, h)
set_option maxHeartbeats 4000000 in
set_option maxRecDepth 100000 in
theorem t_M_logged (v0 : Nat) (v1 : Int32) (v2 : Int32) (h : HP) : xx_S (xx_D "LampYardModel" tb_M_logged 6 2 (some .int) false) xz_i (fun K => xL_i K) 0 [(0, av_R 11 (some v0)), (1, av_I v1), (2, av_I v2)] [] h (f_M_logged v0 v1 v2 h) := by
  unfold f_M_logged
  refine xs_step (fun K HC => xr_iload_n HC.1 0 1 (n := 1) (ix := 1) (j := 1) (x := v1) rfl rfl rfl rfl) ?_
  refine xs_ite (fun K HC => xr_if_lt HC.1 1 9 4 rfl (by decide) rfl) ?_ ?_
  · refine xs_step (fun K HC => xr_iconst HC.1 5 10 (n := (-1)) (-1 : Int32) rfl rfl rfl) ?_
    exact xs_reti 6 rfl rfl (fun K q => q) (fun ty ht => by cases ht; rfl)
  refine xs_step (fun K HC => xr_iload_n HC.1 2 5 (n := 1) (ix := 1) (j := 1) (x := v1) rfl rfl rfl rfl) ?_
  refine xs_step (fun K HC => xr_iconst HC.1 3 6 (n := (1)) (1 : Int32) rfl rfl rfl) ?_
  refine xs_ite (fun K HC => xr_icmp_le HC.1 4 11 9 rfl (by decide) rfl) ?_ ?_
  · refine xs_step (fun K HC => xr_aload_n HC.1 7 12 (n := 0) (ix := 0) (j := 0) (c := 11) (x := v0) rfl rfl rfl rfl) ?_
    refine xs_step (fun K HC => xr_iload_n HC.1 8 13 (n := 2) (ix := 2) (j := 2) (x := v2) rfl rfl rfl rfl) ?_
    refine xs_calli (s_M_layLogs v0 v2 h) (fun K HC x9 hM hmo hb => xr_callV HC.1 9 16 (av := [av_I v2]) (st := []) (hM (kg K) (cx_l (kx K))) hmo hb rfl rfl wm_M_584 wi_M_layLogs ws_M_layLogs wc_M_layLogs rfl wh_M_layLogs (by decide) (by decide) (by decide) (Nat.le_of_ble_eq_true rfl) rfl) (fun x_1 => ?_)
    refine xs_step (fun K HC => xr_istore_n HC.1 10 17 (n := 3) (ix := 3) (lv' := [(0, av_R 11 (some v0)), (1, av_I v1), (2, av_I v2), (3, av_I x_1.1)]) rfl rfl rfl (by decide) rfl) ?_
    refine xs_step (fun K HC => xr_iload_n HC.1 11 18 (n := 1) (ix := 1) (j := 1) (x := v1) rfl rfl rfl rfl) ?_
    refine xs_step (fun K HC => xr_iconst HC.1 12 19 (n := (1)) (1 : Int32) rfl rfl rfl) ?_
    refine xs_ite (fun K HC a b => xr_icmp_ne HC.1 13 24 22 rfl (by decide) rfl b a) ?_ ?_
    · refine xs_step (fun K HC => xr_iload_n HC.1 14 23 (n := 3) (ix := 3) (j := 3) (x := x_1.1) rfl rfl rfl rfl) ?_
      exact xs_reti 15 rfl rfl (fun K q => q) (fun ty ht => by cases ht; rfl)
    refine xs_step (fun K HC => xr_iconst HC.1 16 25 (n := (0)) (0 : Int32) rfl rfl rfl) ?_
    refine xs_step (fun K HC => xr_istore HC.1 17 27 (ix := 4) (lv' := [(0, av_R 11 (some v0)), (1, av_I v1), (2, av_I v2), (3, av_I x_1.1), (4, av_I (0 : Int32))]) rfl rfl (by decide) rfl) ?_
    refine xs_step (fun K HC => xr_iconst HC.1 18 28 (n := (0)) (0 : Int32) rfl rfl rfl) ?_
    refine xs_step (fun K HC => xr_istore HC.1 19 30 (ix := 5) (lv' := [(0, av_R 11 (some v0)), (1, av_I v1), (2, av_I v2), (3, av_I x_1.1), (4, av_I (0 : Int32)), (5, av_I (0 : Int32))]) rfl rfl (by decide) rfl) ?_
    refine xs_step (fun K HC => xr_sub (lv' := [(0, av_R 11 (some v0)), (4, av_I (0 : Int32)), (5, av_I (0 : Int32))]) [0, 4, 5] rfl) ?_
    exact t_M_logged_30 v0 (0 : Int32) (0 : Int32) x_1.2
  refine xs_step (fun K HC => xr_iconst HC.1 5 10 (n := (-1)) (-1 : Int32) rfl rfl rfl) ?_
  exact xs_reti 6 rfl rfl (fun K q => q) (fun ty ht => by cases ht; rfl)
theorem s_M_logged (v0 : Nat) (v1 : Int32) (v2 : Int32) (h : HP) : ∀ x, f_M_logged v0 v1 v2 h = some x → hp_mo h x.2 ∧ ∀ g l, xx_M g l y_M_logged prog_14_method_99_code 6 (some .int) 2 [av_R 11 (some v0), av_I v1, av_I v2] h (some (av_I x.1)) x.2 :=
  xM_i (tb := tb_M_logged) (b := false) (by decide +kernel) dt_M_logged (fun _ => trivial) (Nat.le_of_ble_eq_true rfl) (fun hb => by cases hb) (t_M_logged v0 v1 v2 h)
def tb_M_last : TBL := [(0, .aload_n 0, 1), (1, .iload_n 1, 1), (2, .invokevirtual 460, 3), (5, .ifCond .ne 5, 3), (8, .iconst (-1), 1), (9, .ireturn, 1), (10, .aload_n 0, 1), (11, .iload_n 2, 1), (12, .invokevirtual 584, 3), (15, .istore_n 3, 1), (16, .iconst (-1), 1), (17, .istore 4, 2), (19, .iconst 0, 1), (20, .istore 5, 2), (22, .iload 5, 2), (24, .bipush 100, 2), (26, .if_icmp .ge 29, 3), (29, .aload_n 0, 1), (30, .getfield 148, 3), (33, .iload 5, 2), (35, .iaload, 1), (36, .iload_n 1, 1), (37, .if_icmp .ne 8, 3), (40, .iload 5, 2), (42, .goto 5, 3), (45, .iload 4, 2), (47, .istore 4, 2), (49, .iinc 5 1, 3), (52, .goto (-30), 3), (55, .iload_n 3, 1), (56, .ifCond .ge 7, 3), (59, .iconst (-1), 1), (60, .goto 5, 3), (63, .iload 4, 2), (65, .ireturn, 1)]
theorem dt_M_last : ∀ q ∈ tb_M_last, decode prog_14_method_100_code q.1 = .ok (q.2.1, q.2.2) := by decide +kernel
set_option maxHeartbeats 4000000 in
set_option maxRecDepth 100000 in
theorem t_M_last_55 (v3 : Int32) (v4 : Int32) (h : HP) : xx_S (xx_D "LampYardModel" tb_M_last 6 2 (some .int) false) xz_i (fun K => xL_i K) 55 [(3, av_I v3), (4, av_I v4)] [] h (f_M_last_55 v3 v4 h) := by
  unfold f_M_last_55
  refine xs_step (fun K HC => xr_iload_n HC.1 29 56 (n := 3) (ix := 3) (j := 0) (x := v3) rfl rfl rfl rfl) ?_
  refine xs_ite (fun K HC => xr_if_ge HC.1 30 63 59 rfl (by decide) rfl) ?_ ?_
  · refine xs_step (fun K HC => xr_iload HC.1 33 65 (ix := 4) (j := 1) (x := v4) rfl rfl rfl) ?_
    exact xs_reti 34 rfl rfl (fun K q => q) (fun ty ht => by cases ht; rfl)
  refine xs_step (fun K HC => xr_iconst HC.1 31 60 (n := (-1)) (-1 : Int32) rfl rfl rfl) ?_
  refine xs_step (fun K HC => xr_goto HC.1 32 65 rfl (by decide)) ?_
  exact xs_reti 34 rfl rfl (fun K q => q) (fun ty ht => by cases ht; rfl)
set_option maxHeartbeats 4000000 in
set_option maxRecDepth 100000 in
theorem t_M_last_47 (v0 : Nat) (v1 : Int32) (v3 : Int32) (v5 : Int32) (s0 : Int32) (h : HP) : xx_S (xx_D "LampYardModel" tb_M_last 6 2 (some .int) false) (xx_z2 (fun s : (Int32 × Int32 × HP) => s.2.2) xz_i) (fun K => xx_L2 (fun s : (Int32 × Int32 × HP) => xx_X K 22 [(0, av_R 11 (some v0)), (1, av_I v1), (3, av_I v3), (4, av_I s.1), (5, av_I s.2.1)] [] (s.2.2)) (xL_i K)) 47 [(0, av_R 11 (some v0)), (1, av_I v1), (3, av_I v3), (5, av_I v5)] [av_I s0] h (f_M_last_47 v0 v1 v3 v5 s0 h) := by
  unfold f_M_last_47
  refine xs_step (fun K HC => xr_istore HC.1 26 49 (ix := 4) (lv' := [(0, av_R 11 (some v0)), (1, av_I v1), (3, av_I v3), (4, av_I s0), (5, av_I v5)]) rfl rfl (by decide) rfl) ?_
  refine xs_gen (fun v5_5 ev5_5 => ?_)
  refine xs_step (fun K HC => xr_iinc HC.1 27 52 (ix := 5) (j := 4) (n := (1)) (x := v5) v5_5 (lv' := [(0, av_R 11 (some v0)), (1, av_I v1), (3, av_I v3), (4, av_I s0), (5, av_I v5_5)]) rfl (by rw [ev5_5]; rfl) rfl rfl (by decide) rfl) ?_
  refine xs_step (fun K HC => xr_goto HC.1 28 22 rfl (by decide)) ?_
  exact xs_back rfl (fun K q => q)
set_option maxHeartbeats 4000000 in
set_option maxRecDepth 100000 in
theorem t_M_last_22b (v0 : Nat) (v1 : Int32) (v3 : Int32) (v4 : Int32) (v5 : Int32) (h : HP) : xx_S (xx_D "LampYardModel" tb_M_last 6 2 (some .int) false) (xx_z2 (fun s : (Int32 × Int32 × HP) => s.2.2) xz_i) (fun K => xx_L2 (fun s : (Int32 × Int32 × HP) => xx_X K 22 [(0, av_R 11 (some v0)), (1, av_I v1), (3, av_I v3), (4, av_I s.1), (5, av_I s.2.1)] [] (s.2.2)) (xL_i K)) 22 [(0, av_R 11 (some v0)), (1, av_I v1), (3, av_I v3), (4, av_I v4), (5, av_I v5)] [] h (f_M_last_22b v0 v1 v3 v4 v5 h) := by
  unfold f_M_last_22b
  refine xs_step (fun K HC => xr_iload HC.1 14 24 (ix := 5) (j := 4) (x := v5) rfl rfl rfl) ?_
  refine xs_step (fun K HC => xr_bipush HC.1 15 26 (n := (100)) (100 : Int32) rfl rfl rfl) ?_
  refine xs_ite (fun K HC => xr_icmp_ge HC.1 16 55 29 rfl (by decide) rfl) ?_ ?_
  · refine xs_step (fun K HC => xr_sub (lv' := [(3, av_I v3), (4, av_I v4)]) [2, 3] rfl) ?_
    exact xs_map (fun _ => rfl) (fun _ _ q => q) (t_M_last_55 v3 v4 h)
  refine xs_step (fun K HC => xr_aload_n HC.1 17 30 (n := 0) (ix := 0) (j := 0) (c := 11) (x := v0) rfl rfl rfl rfl) ?_
  refine xs_bind (fun q_3 eq_3 => ?_)
  refine xs_step (fun K HC => xr_getr HC.1 18 33 11 83 13 eq_3 rfl rfl wf_M_148 (by decide) fb_11_83 fc_11_83 fd_11_83) ?_
  refine xs_step (fun K HC => xr_iload HC.1 19 35 (ix := 5) (j := 4) (x := v5) rfl rfl rfl) ?_
  refine xs_chk (fun hb_4 => ?_)
  refine xs_step (fun K HC => xr_iald HC.1 20 36 (hp_in_vp hb_4) rfl rfl) ?_
  refine xs_step (fun K HC => xr_iload_n HC.1 21 37 (n := 1) (ix := 1) (j := 1) (x := v1) rfl rfl rfl rfl) ?_
  refine xs_ite (fun K HC a b => xr_icmp_ne HC.1 22 45 40 rfl (by decide) rfl b a) ?_ ?_
  · refine xs_step (fun K HC => xr_iload HC.1 23 42 (ix := 5) (j := 4) (x := v5) rfl rfl rfl) ?_
    refine xs_step (fun K HC => xr_goto HC.1 24 47 rfl (by decide)) ?_
    refine xs_step (fun K HC => xr_sub (lv' := [(0, av_R 11 (some v0)), (1, av_I v1), (3, av_I v3), (5, av_I v5)]) [0, 1, 2, 4] rfl) ?_
    exact t_M_last_47 v0 v1 v3 v5 v5 h
  refine xs_step (fun K HC => xr_iload HC.1 25 47 (ix := 4) (j := 3) (x := v4) rfl rfl rfl) ?_
  refine xs_step (fun K HC => xr_sub (lv' := [(0, av_R 11 (some v0)), (1, av_I v1), (3, av_I v3), (5, av_I v5)]) [0, 1, 2, 4] rfl) ?_
  exact t_M_last_47 v0 v1 v3 v5 v4 h
theorem t_M_last_22 (v0 : Nat) (v1 : Int32) (v3 : Int32) (v4 : Int32) (v5 : Int32) (h : HP) : xx_S (xx_D "LampYardModel" tb_M_last 6 2 (some .int) false) xz_i (fun K => xL_i K) 22 [(0, av_R 11 (some v0)), (1, av_I v1), (3, av_I v3), (4, av_I v4), (5, av_I v5)] [] h (f_M_last_22 v0 v1 v3 v4 v5 h) :=
  xs_loop (zf := xz_i) (L := (fun K => xL_i K)) (fun s : (Int32 × Int32 × HP) => [(0, av_R 11 (some v0)), (1, av_I v1), (3, av_I v3), (4, av_I s.1), (5, av_I s.2.1)]) (fun s : (Int32 × Int32 × HP) => s.2.2) (fun s => t_M_last_22b v0 v1 v3 s.1 s.2.1 s.2.2) (v4, v5, h)
set_option maxHeartbeats 4000000 in
set_option maxRecDepth 100000 in
theorem t_M_last (v0 : Nat) (v1 : Int32) (v2 : Int32) (h : HP) : xx_S (xx_D "LampYardModel" tb_M_last 6 2 (some .int) false) xz_i (fun K => xL_i K) 0 [(0, av_R 11 (some v0)), (1, av_I v1), (2, av_I v2)] [] h (f_M_last v0 v1 v2 h) := by
  unfold f_M_last
  refine xs_step (fun K HC => xr_aload_n HC.1 0 1 (n := 0) (ix := 0) (j := 0) (c := 11) (x := v0) rfl rfl rfl rfl) ?_
  refine xs_step (fun K HC => xr_iload_n HC.1 1 2 (n := 1) (ix := 1) (j := 1) (x := v1) rfl rfl rfl rfl) ?_
  refine xs_calli (s_M_isMan v0 v1 h) (fun K HC x9 hM hmo hb => xr_callV HC.1 2 5 (av := [av_I v1]) (st := []) (hM (kg K) (cx_l (kx K))) hmo hb rfl rfl wm_M_460 wi_M_isMan ws_M_isMan wc_M_isMan rfl wh_M_isMan (by decide) (by decide) (by decide) (Nat.le_of_ble_eq_true rfl) rfl) (fun x_1 => ?_)
  refine xs_ite (fun K HC a b => xr_if_ne HC.1 3 10 8 rfl (by decide) rfl b a) ?_ ?_
  · refine xs_step (fun K HC => xr_iconst HC.1 4 9 (n := (-1)) (-1 : Int32) rfl rfl rfl) ?_
    exact xs_reti 5 rfl rfl (fun K q => q) (fun ty ht => by cases ht; rfl)
  refine xs_step (fun K HC => xr_aload_n HC.1 6 11 (n := 0) (ix := 0) (j := 0) (c := 11) (x := v0) rfl rfl rfl rfl) ?_
  refine xs_step (fun K HC => xr_iload_n HC.1 7 12 (n := 2) (ix := 2) (j := 2) (x := v2) rfl rfl rfl rfl) ?_
  refine xs_calli (s_M_layLogs v0 v2 x_1.2) (fun K HC x9 hM hmo hb => xr_callV HC.1 8 15 (av := [av_I v2]) (st := []) (hM (kg K) (cx_l (kx K))) hmo hb rfl rfl wm_M_584 wi_M_layLogs ws_M_layLogs wc_M_layLogs rfl wh_M_layLogs (by decide) (by decide) (by decide) (Nat.le_of_ble_eq_true rfl) rfl) (fun x_2 => ?_)
  refine xs_step (fun K HC => xr_istore_n HC.1 9 16 (n := 3) (ix := 3) (lv' := [(0, av_R 11 (some v0)), (1, av_I v1), (2, av_I v2), (3, av_I x_2.1)]) rfl rfl rfl (by decide) rfl) ?_
  refine xs_step (fun K HC => xr_iconst HC.1 10 17 (n := (-1)) (-1 : Int32) rfl rfl rfl) ?_
  refine xs_step (fun K HC => xr_istore HC.1 11 19 (ix := 4) (lv' := [(0, av_R 11 (some v0)), (1, av_I v1), (2, av_I v2), (3, av_I x_2.1), (4, av_I (-1 : Int32))]) rfl rfl (by decide) rfl) ?_
  refine xs_step (fun K HC => xr_iconst HC.1 12 20 (n := (0)) (0 : Int32) rfl rfl rfl) ?_
  refine xs_step (fun K HC => xr_istore HC.1 13 22 (ix := 5) (lv' := [(0, av_R 11 (some v0)), (1, av_I v1), (2, av_I v2), (3, av_I x_2.1), (4, av_I (-1 : Int32)), (5, av_I (0 : Int32))]) rfl rfl (by decide) rfl) ?_
  refine xs_step (fun K HC => xr_sub (lv' := [(0, av_R 11 (some v0)), (1, av_I v1), (3, av_I x_2.1), (4, av_I (-1 : Int32)), (5, av_I (0 : Int32))]) [0, 1, 3, 4, 5] rfl) ?_
  exact t_M_last_22 v0 v1 x_2.1 (-1 : Int32) (0 : Int32) x_2.2
theorem s_M_last (v0 : Nat) (v1 : Int32) (v2 : Int32) (h : HP) : ∀ x, f_M_last v0 v1 v2 h = some x → hp_mo h x.2 ∧ ∀ g l, xx_M g l y_M_last prog_14_method_100_code 6 (some .int) 2 [av_R 11 (some v0), av_I v1, av_I v2] h (some (av_I x.1)) x.2 :=
  xM_i (tb := tb_M_last) (b := false) (by decide +kernel) dt_M_last (fun _ => trivial) (Nat.le_of_ble_eq_true rfl) (fun hb => by cases hb) (t_M_last v0 v1 v2 h)
