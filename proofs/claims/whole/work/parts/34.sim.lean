def tb_St_lampsOf : TBL := [(0, .lload_n 0, 1), (1, .l2i, 1), (2, .iconst 3, 1), (3, .iand, 1), (4, .ireturn, 1)]
theorem dt_St_lampsOf : ∀ q ∈ tb_St_lampsOf, decode prog_9_method_2_code q.1 = .ok (q.2.1, q.2.2) := by decide +kernel
set_option maxHeartbeats 4000000 in
set_option maxRecDepth 100000 in
theorem t_St_lampsOf (v0 : Int64) (h : HP) : xx_S (xx_D "LampYard$State" tb_St_lampsOf 2 1 (some .int) false) xz_i (fun K => xL_i K) 0 [(0, av_L v0)] [] h (f_St_lampsOf v0 h) := by
  unfold f_St_lampsOf
  refine xs_step (fun K HC => xr_lload_n HC.1 0 1 (n := 0) (ix := 0) (j := 0) (x := v0) rfl rfl rfl rfl) ?_
  refine xs_step (fun K HC => xr_l2i HC.1 1 2 rfl rfl) ?_
  refine xs_step (fun K HC => xr_iconst HC.1 2 3 (n := (3)) (3 : Int32) rfl rfl rfl) ?_
  refine xs_step (fun K HC => xr_iand HC.1 3 4 rfl rfl) ?_
  exact xs_reti 4 rfl rfl (fun K q => q) (fun ty ht => by cases ht; rfl)
theorem s_St_lampsOf (v0 : Int64) (h : HP) : ∀ x, f_St_lampsOf v0 h = some x → hp_mo h x.2 ∧ ∀ g l, xx_M g l y_St_lampsOf prog_9_method_2_code 2 (some .int) 1 [av_L v0] h (some (av_I x.1)) x.2 :=
  xM_i (tb := tb_St_lampsOf) (b := false) (by decide +kernel) dt_St_lampsOf (fun _ => trivial) (Nat.le_of_ble_eq_true rfl) (fun hb => by cases hb) (t_St_lampsOf v0 h)
def tb_St_heldBy : TBL := [(0, .lload_n 0, 1), (1, .bipush 6, 2), (3, .bipush 8, 2), (5, .iload_n 2, 1), (6, .imul, 1), (7, .iadd, 1), (8, .lushr, 1), (9, .l2i, 1), (10, .bipush 31, 2), (12, .iand, 1), (13, .ireturn, 1)]
theorem dt_St_heldBy : ∀ q ∈ tb_St_heldBy, decode prog_9_method_4_code q.1 = .ok (q.2.1, q.2.2) := by decide +kernel
set_option maxHeartbeats 4000000 in
set_option maxRecDepth 100000 in
theorem t_St_heldBy (v0 : Int64) (v2 : Int32) (h : HP) : xx_S (xx_D "LampYard$State" tb_St_heldBy 3 1 (some .int) false) xz_i (fun K => xL_i K) 0 [(0, av_L v0), (2, av_I v2)] [] h (f_St_heldBy v0 v2 h) := by
  unfold f_St_heldBy
  refine xs_step (fun K HC => xr_lload_n HC.1 0 1 (n := 0) (ix := 0) (j := 0) (x := v0) rfl rfl rfl rfl) ?_
  refine xs_step (fun K HC => xr_bipush HC.1 1 3 (n := (6)) (6 : Int32) rfl rfl rfl) ?_
  refine xs_step (fun K HC => xr_bipush HC.1 2 5 (n := (8)) (8 : Int32) rfl rfl rfl) ?_
  refine xs_step (fun K HC => xr_iload_n HC.1 3 6 (n := 2) (ix := 2) (j := 1) (x := v2) rfl rfl rfl rfl) ?_
  refine xs_step (fun K HC => xr_imul HC.1 4 7 rfl rfl) ?_
  refine xs_step (fun K HC => xr_iadd HC.1 5 8 rfl rfl) ?_
  refine xs_step (fun K HC => xr_lushr HC.1 6 9 rfl rfl) ?_
  refine xs_step (fun K HC => xr_l2i HC.1 7 10 rfl rfl) ?_
  refine xs_step (fun K HC => xr_bipush HC.1 8 12 (n := (31)) (31 : Int32) rfl rfl rfl) ?_
  refine xs_step (fun K HC => xr_iand HC.1 9 13 rfl rfl) ?_
  exact xs_reti 10 rfl rfl (fun K q => q) (fun ty ht => by cases ht; rfl)
theorem s_St_heldBy (v0 : Int64) (v2 : Int32) (h : HP) : ∀ x, f_St_heldBy v0 v2 h = some x → hp_mo h x.2 ∧ ∀ g l, xx_M g l y_St_heldBy prog_9_method_4_code 3 (some .int) 1 [av_L v0, av_I v2] h (some (av_I x.1)) x.2 :=
  xM_i (tb := tb_St_heldBy) (b := false) (by decide +kernel) dt_St_heldBy (fun _ => trivial) (Nat.le_of_ble_eq_true rfl) (fun hb => by cases hb) (t_St_heldBy v0 v2 h)
def tb_St_visitsOf : TBL := [(0, .lload_n 0, 1), (1, .bipush 6, 2), (3, .bipush 8, 2), (5, .iload_n 2, 1), (6, .imul, 1), (7, .iadd, 1), (8, .iconst 5, 1), (9, .iadd, 1), (10, .lushr, 1), (11, .l2i, 1), (12, .iconst 3, 1), (13, .iand, 1), (14, .ireturn, 1)]
theorem dt_St_visitsOf : ∀ q ∈ tb_St_visitsOf, decode prog_9_method_5_code q.1 = .ok (q.2.1, q.2.2) := by decide +kernel
set_option maxHeartbeats 4000000 in
set_option maxRecDepth 100000 in
theorem t_St_visitsOf (v0 : Int64) (v2 : Int32) (h : HP) : xx_S (xx_D "LampYard$State" tb_St_visitsOf 3 1 (some .int) false) xz_i (fun K => xL_i K) 0 [(0, av_L v0), (2, av_I v2)] [] h (f_St_visitsOf v0 v2 h) := by
  unfold f_St_visitsOf
  refine xs_step (fun K HC => xr_lload_n HC.1 0 1 (n := 0) (ix := 0) (j := 0) (x := v0) rfl rfl rfl rfl) ?_
  refine xs_step (fun K HC => xr_bipush HC.1 1 3 (n := (6)) (6 : Int32) rfl rfl rfl) ?_
  refine xs_step (fun K HC => xr_bipush HC.1 2 5 (n := (8)) (8 : Int32) rfl rfl rfl) ?_
  refine xs_step (fun K HC => xr_iload_n HC.1 3 6 (n := 2) (ix := 2) (j := 1) (x := v2) rfl rfl rfl rfl) ?_
  refine xs_step (fun K HC => xr_imul HC.1 4 7 rfl rfl) ?_
  refine xs_step (fun K HC => xr_iadd HC.1 5 8 rfl rfl) ?_
  refine xs_step (fun K HC => xr_iconst HC.1 6 9 (n := (5)) (5 : Int32) rfl rfl rfl) ?_
  refine xs_step (fun K HC => xr_iadd HC.1 7 10 rfl rfl) ?_
  refine xs_step (fun K HC => xr_lushr HC.1 8 11 rfl rfl) ?_
  refine xs_step (fun K HC => xr_l2i HC.1 9 12 rfl rfl) ?_
  refine xs_step (fun K HC => xr_iconst HC.1 10 13 (n := (3)) (3 : Int32) rfl rfl rfl) ?_
  refine xs_step (fun K HC => xr_iand HC.1 11 14 rfl rfl) ?_
  exact xs_reti 12 rfl rfl (fun K q => q) (fun ty ht => by cases ht; rfl)
theorem s_St_visitsOf (v0 : Int64) (v2 : Int32) (h : HP) : ∀ x, f_St_visitsOf v0 v2 h = some x → hp_mo h x.2 ∧ ∀ g l, xx_M g l y_St_visitsOf prog_9_method_5_code 3 (some .int) 1 [av_L v0, av_I v2] h (some (av_I x.1)) x.2 :=
  xM_i (tb := tb_St_visitsOf) (b := false) (by decide +kernel) dt_St_visitsOf (fun _ => trivial) (Nat.le_of_ble_eq_true rfl) (fun hb => by cases hb) (t_St_visitsOf v0 v2 h)
def tb_Pl_push : TBL := [(0, .iload_n 1, 1), (1, .bipush 60, 2), (3, .if_icmp .lt 5, 3), (6, .iload_n 1, 1), (7, .ireturn, 1), (8, .aload_n 0, 1), (9, .getfield 34, 3), (12, .iload_n 1, 1), (13, .iload_n 2, 1), (14, .iastore, 1), (15, .iload_n 1, 1), (16, .iconst 1, 1), (17, .iadd, 1), (18, .ireturn, 1)]
theorem dt_Pl_push : ∀ q ∈ tb_Pl_push, decode prog_6_method_18_code q.1 = .ok (q.2.1, q.2.2) := by decide +kernel
set_option maxHeartbeats 4000000 in
set_option maxRecDepth 100000 in
theorem t_Pl_push (v0 : Nat) (v1 : Int32) (v2 : Int32) (h : HP) : xx_S (xx_D "LampYard$Plan" tb_Pl_push 3 1 (some .int) false) xz_i (fun K => xL_i K) 0 [(0, av_R 4 (some v0)), (1, av_I v1), (2, av_I v2)] [] h (f_Pl_push v0 v1 v2 h) := by
  unfold f_Pl_push
  refine xs_step (fun K HC => xr_iload_n HC.1 0 1 (n := 1) (ix := 1) (j := 1) (x := v1) rfl rfl rfl rfl) ?_
  refine xs_step (fun K HC => xr_bipush HC.1 1 3 (n := (60)) (60 : Int32) rfl rfl rfl) ?_
  refine xs_ite (fun K HC => xr_icmp_lt HC.1 2 8 6 rfl (by decide) rfl) ?_ ?_
  · refine xs_step (fun K HC => xr_aload_n HC.1 5 9 (n := 0) (ix := 0) (j := 0) (c := 4) (x := v0) rfl rfl rfl rfl) ?_
    refine xs_bind (fun q_1 eq_1 => ?_)
    refine xs_step (fun K HC => xr_getr HC.1 6 12 4 16 13 eq_1 rfl rfl wf_Pl_34 (by decide) fb_4_16 fc_4_16 fd_4_16) ?_
    refine xs_step (fun K HC => xr_iload_n HC.1 7 13 (n := 1) (ix := 1) (j := 1) (x := v1) rfl rfl rfl rfl) ?_
    refine xs_step (fun K HC => xr_iload_n HC.1 8 14 (n := 2) (ix := 2) (j := 2) (x := v2) rfl rfl rfl rfl) ?_
    refine xs_chk (fun hb_2 => ?_)
    refine xs_heap (hp_mo_si _ _ _ _) (fun K HC => xr_iast HC.1 9 15 (hp_in_vp hb_2) rfl rfl) (fun h_3 => ?_)
    refine xs_step (fun K HC => xr_iload_n HC.1 10 16 (n := 1) (ix := 1) (j := 1) (x := v1) rfl rfl rfl rfl) ?_
    refine xs_step (fun K HC => xr_iconst HC.1 11 17 (n := (1)) (1 : Int32) rfl rfl rfl) ?_
    refine xs_step (fun K HC => xr_iadd HC.1 12 18 rfl rfl) ?_
    exact xs_reti 13 rfl rfl (fun K q => q) (fun ty ht => by cases ht; rfl)
  refine xs_step (fun K HC => xr_iload_n HC.1 3 7 (n := 1) (ix := 1) (j := 1) (x := v1) rfl rfl rfl rfl) ?_
  exact xs_reti 4 rfl rfl (fun K q => q) (fun ty ht => by cases ht; rfl)
theorem s_Pl_push (v0 : Nat) (v1 : Int32) (v2 : Int32) (h : HP) : ∀ x, f_Pl_push v0 v1 v2 h = some x → hp_mo h x.2 ∧ ∀ g l, xx_M g l y_Pl_push prog_6_method_18_code 3 (some .int) 1 [av_R 4 (some v0), av_I v1, av_I v2] h (some (av_I x.1)) x.2 :=
  xM_i (tb := tb_Pl_push) (b := false) (by decide +kernel) dt_Pl_push (fun _ => trivial) (Nat.le_of_ble_eq_true rfl) (fun hb => by cases hb) (t_Pl_push v0 v1 v2 h)
def tb_Pl_joined : TBL := [(0, .iload_n 0, 1), (1, .tableswitch 116 (-13) (-6) #[112, 108, 97, 86, 75, 116, 61, 47], 47), (48, .iload_n 1, 1), (49, .ifCond .ne 7, 3), (52, .iload_n 2, 1), (53, .ifCond .eq 7, 3), (56, .iconst 1, 1), (57, .goto 4, 3), (60, .iconst 0, 1), (61, .ireturn, 1), (62, .iload_n 1, 1), (63, .ifCond .eq 11, 3), (66, .iload_n 2, 1), (67, .ifCond .eq 7, 3), (70, .iconst 1, 1), (71, .goto 4, 3), (74, .iconst 0, 1), (75, .ireturn, 1), (76, .iload_n 1, 1), (77, .iload_n 2, 1), (78, .if_icmp .ge 7, 3), (81, .iconst 1, 1), (82, .goto 4, 3), (85, .iconst 0, 1), (86, .ireturn, 1), (87, .iload_n 1, 1), (88, .iload_n 2, 1), (89, .if_icmp .le 7, 3), (92, .iconst 1, 1), (93, .goto 4, 3), (96, .iconst 0, 1), (97, .ireturn, 1), (98, .iload_n 1, 1), (99, .iload_n 2, 1), (100, .if_icmp .ne 7, 3), (103, .iconst 1, 1), (104, .goto 4, 3), (107, .iconst 0, 1), (108, .ireturn, 1), (109, .iload_n 1, 1), (110, .iload_n 2, 1), (111, .iadd, 1), (112, .ireturn, 1), (113, .iload_n 1, 1), (114, .iload_n 2, 1), (115, .isub, 1), (116, .ireturn, 1), (117, .iload_n 1, 1), (118, .iload_n 2, 1), (119, .imul, 1), (120, .ireturn, 1)]
theorem dt_Pl_joined : ∀ q ∈ tb_Pl_joined, decode prog_6_method_19_code q.1 = .ok (q.2.1, q.2.2) := by decide +kernel
set_option maxHeartbeats 4000000 in
set_option maxRecDepth 100000 in
theorem t_Pl_joined (v0 : Int32) (v1 : Int32) (v2 : Int32) (h : HP) : xx_S (xx_D "LampYard$Plan" tb_Pl_joined 3 1 (some .int) false) xz_i (fun K => xL_i K) 0 [(0, av_I v0), (1, av_I v1), (2, av_I v2)] [] h (f_Pl_joined v0 v1 v2 h) := by
  unfold f_Pl_joined
  refine xs_step (fun K HC => xr_iload_n HC.1 0 1 (n := 0) (ix := 0) (j := 0) (x := v0) rfl rfl rfl rfl) ?_
  refine xs_if (fun hc_1 => ?_) (fun hc_1 => ?_)
  · refine xs_step (fun K HC => xr_tabI HC.1 1 113 (-13 : Int32) rfl hc_1 (by decide) (by decide) rfl (by decide)) ?_
    refine xs_step (fun K HC => xr_iload_n HC.1 43 114 (n := 1) (ix := 1) (j := 1) (x := v1) rfl rfl rfl rfl) ?_
    refine xs_step (fun K HC => xr_iload_n HC.1 44 115 (n := 2) (ix := 2) (j := 2) (x := v2) rfl rfl rfl rfl) ?_
    refine xs_step (fun K HC => xr_isub HC.1 45 116 rfl rfl) ?_
    exact xs_reti 46 rfl rfl (fun K q => q) (fun ty ht => by cases ht; rfl)
  refine xs_if (fun hc_2 => ?_) (fun hc_2 => ?_)
  · refine xs_step (fun K HC => xr_tabI HC.1 1 109 (-12 : Int32) rfl hc_2 (by decide) (by decide) rfl (by decide)) ?_
    refine xs_step (fun K HC => xr_iload_n HC.1 39 110 (n := 1) (ix := 1) (j := 1) (x := v1) rfl rfl rfl rfl) ?_
    refine xs_step (fun K HC => xr_iload_n HC.1 40 111 (n := 2) (ix := 2) (j := 2) (x := v2) rfl rfl rfl rfl) ?_
    refine xs_step (fun K HC => xr_iadd HC.1 41 112 rfl rfl) ?_
    exact xs_reti 42 rfl rfl (fun K q => q) (fun ty ht => by cases ht; rfl)
  refine xs_if (fun hc_3 => ?_) (fun hc_3 => ?_)
  · refine xs_step (fun K HC => xr_tabI HC.1 1 98 (-11 : Int32) rfl hc_3 (by decide) (by decide) rfl (by decide)) ?_
    refine xs_step (fun K HC => xr_iload_n HC.1 32 99 (n := 1) (ix := 1) (j := 1) (x := v1) rfl rfl rfl rfl) ?_
    refine xs_step (fun K HC => xr_iload_n HC.1 33 100 (n := 2) (ix := 2) (j := 2) (x := v2) rfl rfl rfl rfl) ?_
    refine xs_ite (fun K HC a b => xr_icmp_ne HC.1 34 107 103 rfl (by decide) rfl b a) ?_ ?_
    · refine xs_step (fun K HC => xr_iconst HC.1 35 104 (n := (1)) (1 : Int32) rfl rfl rfl) ?_
      refine xs_step (fun K HC => xr_goto HC.1 36 108 rfl (by decide)) ?_
      exact xs_reti 38 rfl rfl (fun K q => q) (fun ty ht => by cases ht; rfl)
    refine xs_step (fun K HC => xr_iconst HC.1 37 108 (n := (0)) (0 : Int32) rfl rfl rfl) ?_
    exact xs_reti 38 rfl rfl (fun K q => q) (fun ty ht => by cases ht; rfl)
  refine xs_if (fun hc_4 => ?_) (fun hc_4 => ?_)
  · refine xs_step (fun K HC => xr_tabI HC.1 1 87 (-10 : Int32) rfl hc_4 (by decide) (by decide) rfl (by decide)) ?_
    refine xs_step (fun K HC => xr_iload_n HC.1 25 88 (n := 1) (ix := 1) (j := 1) (x := v1) rfl rfl rfl rfl) ?_
    refine xs_step (fun K HC => xr_iload_n HC.1 26 89 (n := 2) (ix := 2) (j := 2) (x := v2) rfl rfl rfl rfl) ?_
    refine xs_ite (fun K HC => xr_icmp_le HC.1 27 96 92 rfl (by decide) rfl) ?_ ?_
    · refine xs_step (fun K HC => xr_iconst HC.1 30 97 (n := (0)) (0 : Int32) rfl rfl rfl) ?_
      exact xs_reti 31 rfl rfl (fun K q => q) (fun ty ht => by cases ht; rfl)
    refine xs_step (fun K HC => xr_iconst HC.1 28 93 (n := (1)) (1 : Int32) rfl rfl rfl) ?_
    refine xs_step (fun K HC => xr_goto HC.1 29 97 rfl (by decide)) ?_
    exact xs_reti 31 rfl rfl (fun K q => q) (fun ty ht => by cases ht; rfl)
  refine xs_if (fun hc_5 => ?_) (fun hc_5 => ?_)
  · refine xs_step (fun K HC => xr_tabI HC.1 1 76 (-9 : Int32) rfl hc_5 (by decide) (by decide) rfl (by decide)) ?_
    refine xs_step (fun K HC => xr_iload_n HC.1 18 77 (n := 1) (ix := 1) (j := 1) (x := v1) rfl rfl rfl rfl) ?_
    refine xs_step (fun K HC => xr_iload_n HC.1 19 78 (n := 2) (ix := 2) (j := 2) (x := v2) rfl rfl rfl rfl) ?_
    refine xs_ite (fun K HC => xr_icmp_ge HC.1 20 85 81 rfl (by decide) rfl) ?_ ?_
    · refine xs_step (fun K HC => xr_iconst HC.1 23 86 (n := (0)) (0 : Int32) rfl rfl rfl) ?_
      exact xs_reti 24 rfl rfl (fun K q => q) (fun ty ht => by cases ht; rfl)
    refine xs_step (fun K HC => xr_iconst HC.1 21 82 (n := (1)) (1 : Int32) rfl rfl rfl) ?_
    refine xs_step (fun K HC => xr_goto HC.1 22 86 rfl (by decide)) ?_
    exact xs_reti 24 rfl rfl (fun K q => q) (fun ty ht => by cases ht; rfl)
  refine xs_if (fun hc_6 => ?_) (fun hc_6 => ?_)
  · refine xs_step (fun K HC => xr_tabI HC.1 1 117 (-8 : Int32) rfl hc_6 (by decide) (by decide) rfl (by decide)) ?_
    refine xs_step (fun K HC => xr_iload_n HC.1 47 118 (n := 1) (ix := 1) (j := 1) (x := v1) rfl rfl rfl rfl) ?_
    refine xs_step (fun K HC => xr_iload_n HC.1 48 119 (n := 2) (ix := 2) (j := 2) (x := v2) rfl rfl rfl rfl) ?_
    refine xs_step (fun K HC => xr_imul HC.1 49 120 rfl rfl) ?_
    exact xs_reti 50 rfl rfl (fun K q => q) (fun ty ht => by cases ht; rfl)
  refine xs_if (fun hc_7 => ?_) (fun hc_7 => ?_)
  · refine xs_step (fun K HC => xr_tabI HC.1 1 62 (-7 : Int32) rfl hc_7 (by decide) (by decide) rfl (by decide)) ?_
    refine xs_step (fun K HC => xr_iload_n HC.1 10 63 (n := 1) (ix := 1) (j := 1) (x := v1) rfl rfl rfl rfl) ?_
    refine xs_ite (fun K HC => xr_if_eq HC.1 11 74 66 rfl (by decide) rfl) ?_ ?_
    · refine xs_step (fun K HC => xr_iconst HC.1 16 75 (n := (0)) (0 : Int32) rfl rfl rfl) ?_
      exact xs_reti 17 rfl rfl (fun K q => q) (fun ty ht => by cases ht; rfl)
    refine xs_step (fun K HC => xr_iload_n HC.1 12 67 (n := 2) (ix := 2) (j := 2) (x := v2) rfl rfl rfl rfl) ?_
    refine xs_ite (fun K HC => xr_if_eq HC.1 13 74 70 rfl (by decide) rfl) ?_ ?_
    · refine xs_step (fun K HC => xr_iconst HC.1 16 75 (n := (0)) (0 : Int32) rfl rfl rfl) ?_
      exact xs_reti 17 rfl rfl (fun K q => q) (fun ty ht => by cases ht; rfl)
    refine xs_step (fun K HC => xr_iconst HC.1 14 71 (n := (1)) (1 : Int32) rfl rfl rfl) ?_
    refine xs_step (fun K HC => xr_goto HC.1 15 75 rfl (by decide)) ?_
    exact xs_reti 17 rfl rfl (fun K q => q) (fun ty ht => by cases ht; rfl)
  refine xs_if (fun hc_8 => ?_) (fun hc_8 => ?_)
  · refine xs_step (fun K HC => xr_tabI HC.1 1 48 (-6 : Int32) rfl hc_8 (by decide) (by decide) rfl (by decide)) ?_
    refine xs_step (fun K HC => xr_iload_n HC.1 2 49 (n := 1) (ix := 1) (j := 1) (x := v1) rfl rfl rfl rfl) ?_
    refine xs_ite (fun K HC a b => xr_if_ne HC.1 3 56 52 rfl (by decide) rfl b a) ?_ ?_
    · refine xs_step (fun K HC => xr_iload_n HC.1 4 53 (n := 2) (ix := 2) (j := 2) (x := v2) rfl rfl rfl rfl) ?_
      refine xs_ite (fun K HC => xr_if_eq HC.1 5 60 56 rfl (by decide) rfl) ?_ ?_
      · refine xs_step (fun K HC => xr_iconst HC.1 8 61 (n := (0)) (0 : Int32) rfl rfl rfl) ?_
        exact xs_reti 9 rfl rfl (fun K q => q) (fun ty ht => by cases ht; rfl)
      refine xs_step (fun K HC => xr_iconst HC.1 6 57 (n := (1)) (1 : Int32) rfl rfl rfl) ?_
      refine xs_step (fun K HC => xr_goto HC.1 7 61 rfl (by decide)) ?_
      exact xs_reti 9 rfl rfl (fun K q => q) (fun ty ht => by cases ht; rfl)
    refine xs_step (fun K HC => xr_iconst HC.1 6 57 (n := (1)) (1 : Int32) rfl rfl rfl) ?_
    refine xs_step (fun K HC => xr_goto HC.1 7 61 rfl (by decide)) ?_
    exact xs_reti 9 rfl rfl (fun K q => q) (fun ty ht => by cases ht; rfl)
  refine xs_step (fun K HC => xr_tabO HC.1 1 117 [(-13 : Int32), (-12 : Int32), (-11 : Int32), (-10 : Int32), (-9 : Int32), (-8 : Int32), (-7 : Int32), (-6 : Int32)] rfl (by decide) (by simp only [List.forall_mem_cons]; exact ⟨hc_1, hc_2, hc_3, hc_4, hc_5, hc_6, hc_7, hc_8, fun _ h9 => absurd h9 List.not_mem_nil⟩) (by decide)) ?_
  refine xs_step (fun K HC => xr_iload_n HC.1 47 118 (n := 1) (ix := 1) (j := 1) (x := v1) rfl rfl rfl rfl) ?_
  refine xs_step (fun K HC => xr_iload_n HC.1 48 119 (n := 2) (ix := 2) (j := 2) (x := v2) rfl rfl rfl rfl) ?_
  refine xs_step (fun K HC => xr_imul HC.1 49 120 rfl rfl) ?_
  exact xs_reti 50 rfl rfl (fun K q => q) (fun ty ht => by cases ht; rfl)
theorem s_Pl_joined (v0 : Int32) (v1 : Int32) (v2 : Int32) (h : HP) : ∀ x, f_Pl_joined v0 v1 v2 h = some x → hp_mo h x.2 ∧ ∀ g l, xx_M g l y_Pl_joined prog_6_method_19_code 3 (some .int) 1 [av_I v0, av_I v1, av_I v2] h (some (av_I x.1)) x.2 :=
  xM_i (tb := tb_Pl_joined) (b := false) (by decide +kernel) dt_Pl_joined (fun _ => trivial) (Nat.le_of_ble_eq_true rfl) (fun hb => by cases hb) (t_Pl_joined v0 v1 v2 h)
def tb_Pl_valueOf : TBL := [(0, .iload_n 1, 1), (1, .iconst 3, 1), (2, .imul, 1), (3, .iload_n 2, 1), (4, .iadd, 1), (5, .istore_n 3, 1), (6, .iload_n 3, 1), (7, .ifCond .le 14, 3), (10, .aload_n 0, 1), (11, .getfield 25, 3), (14, .iload_n 3, 1), (15, .iconst 1, 1), (16, .isub, 1), (17, .iaload, 1), (18, .goto 4, 3), (21, .iconst 0, 1), (22, .istore 4, 2), (24, .iconst 0, 1), (25, .istore 5, 2), (27, .iload 4, 2), (29, .istore 6, 2), (31, .iload 6, 2), (33, .aload_n 0, 1), (34, .getfield 25, 3), (37, .iload_n 3, 1), (38, .iaload, 1), (39, .if_icmp .ge 135, 3), (42, .aload_n 0, 1), (43, .getfield 28, 3), (46, .iload 6, 2), (48, .iaload, 1), (49, .istore 7, 2), (51, .iload 7, 2), (53, .bipush (-5), 2), (55, .if_icmp .lt 33, 3), (58, .aload_n 0, 1), (59, .iload 5, 2), (61, .iload 7, 2), (63, .ifCond .lt 8, 3), (66, .iload 7, 2), (68, .goto 12, 3), (71, .aload_n 0, 1), (72, .getfield 31, 3), (75, .iconst (-1), 1), (76, .iload 7, 2), (78, .isub, 1), (79, .iaload, 1), (80, .invokevirtual 129, 3), (83, .istore 5, 2), (85, .goto 83, 3), (88, .iload 7, 2), (90, .bipush (-8), 2), (92, .if_icmp .ne 37, 3), (95, .iload 5, 2), (97, .ifCond .le 32, 3), (100, .aload_n 0, 1), (101, .getfield 34, 3), (104, .iload 5, 2), (106, .iconst 1, 1), (107, .isub, 1), (108, .aload_n 0, 1), (109, .getfield 34, 3), (112, .iload 5, 2), (114, .iconst 1, 1), (115, .isub, 1), (116, .iaload, 1), (117, .ifCond .ne 7, 3), (120, .iconst 1, 1), (121, .goto 4, 3), (124, .iconst 0, 1), (125, .iastore, 1), (126, .goto 42, 3), (129, .iload 5, 2), (131, .iconst 1, 1), (132, .if_icmp .le 36, 3), (135, .iinc 5 (-1), 3), (138, .aload_n 0, 1), (139, .getfield 34, 3), (142, .iload 5, 2), (144, .iconst 1, 1), (145, .isub, 1), (146, .iload 7, 2), (148, .aload_n 0, 1), (149, .getfield 34, 3), (152, .iload 5, 2), (154, .iconst 1, 1), (155, .isub, 1), (156, .iaload, 1), (157, .aload_n 0, 1), (158, .getfield 34, 3), (161, .iload 5, 2), (163, .iaload, 1), (164, .invokestatic 132, 3), (167, .iastore, 1), (168, .iinc 6 1, 3), (171, .goto (-140), 3), (174, .iload 5, 2), (176, .ifCond .le 15, 3), (179, .aload_n 0, 1), (180, .getfield 34, 3), (183, .iload 5, 2), (185, .iconst 1, 1), (186, .isub, 1), (187, .iaload, 1), (188, .goto 4, 3), (191, .iconst 0, 1), (192, .ireturn, 1)]
theorem dt_Pl_valueOf : ∀ q ∈ tb_Pl_valueOf, decode prog_6_method_17_code q.1 = .ok (q.2.1, q.2.2) := by decide +kernel
set_option maxHeartbeats 4000000 in
set_option maxRecDepth 100000 in
theorem t_Pl_valueOf_174 (v0 : Nat) (v5 : Int32) (h : HP) : xx_S (xx_D "LampYard$Plan" tb_Pl_valueOf 8 2 (some .int) false) xz_i (fun K => xL_i K) 174 [(0, av_R 4 (some v0)), (5, av_I v5)] [] h (f_Pl_valueOf_174 v0 v5 h) := by
  unfold f_Pl_valueOf_174
  refine xs_step (fun K HC => xr_iload HC.1 96 176 (ix := 5) (j := 1) (x := v5) rfl rfl rfl) ?_
  refine xs_ite (fun K HC => xr_if_le HC.1 97 191 179 rfl (by decide) rfl) ?_ ?_
  · refine xs_step (fun K HC => xr_iconst HC.1 105 192 (n := (0)) (0 : Int32) rfl rfl rfl) ?_
    exact xs_reti 106 rfl rfl (fun K q => q) (fun ty ht => by cases ht; rfl)
  refine xs_step (fun K HC => xr_aload_n HC.1 98 180 (n := 0) (ix := 0) (j := 0) (c := 4) (x := v0) rfl rfl rfl rfl) ?_
  refine xs_bind (fun q_4 eq_4 => ?_)
  refine xs_step (fun K HC => xr_getr HC.1 99 183 4 16 13 eq_4 rfl rfl wf_Pl_34 (by decide) fb_4_16 fc_4_16 fd_4_16) ?_
  refine xs_step (fun K HC => xr_iload HC.1 100 185 (ix := 5) (j := 1) (x := v5) rfl rfl rfl) ?_
  refine xs_step (fun K HC => xr_iconst HC.1 101 186 (n := (1)) (1 : Int32) rfl rfl rfl) ?_
  refine xs_step (fun K HC => xr_isub HC.1 102 187 rfl rfl) ?_
  refine xs_chk (fun hb_5 => ?_)
  refine xs_step (fun K HC => xr_iald HC.1 103 188 (hp_in_vp hb_5) rfl rfl) ?_
  refine xs_step (fun K HC => xr_goto HC.1 104 192 rfl (by decide)) ?_
  exact xs_reti 106 rfl rfl (fun K q => q) (fun ty ht => by cases ht; rfl)
set_option maxHeartbeats 4000000 in
set_option maxRecDepth 100000 in
theorem t_Pl_valueOf_168 (v0 : Nat) (v3 : Int32) (v5 : Int32) (v6 : Int32) (h : HP) : xx_S (xx_D "LampYard$Plan" tb_Pl_valueOf 8 2 (some .int) false) (xx_z2 (fun s : (Int32 × Int32 × HP) => s.2.2) xz_i) (fun K => xx_L2 (fun s : (Int32 × Int32 × HP) => xx_X K 31 [(0, av_R 4 (some v0)), (3, av_I v3), (5, av_I s.1), (6, av_I s.2.1)] [] (s.2.2)) (xL_i K)) 168 [(0, av_R 4 (some v0)), (3, av_I v3), (5, av_I v5), (6, av_I v6)] [] h (f_Pl_valueOf_168 v0 v3 v5 v6 h) := by
  unfold f_Pl_valueOf_168
  refine xs_gen (fun v6_9 ev6_9 => ?_)
  refine xs_step (fun K HC => xr_iinc HC.1 94 171 (ix := 6) (j := 3) (n := (1)) (x := v6) v6_9 (lv' := [(0, av_R 4 (some v0)), (3, av_I v3), (5, av_I v5), (6, av_I v6_9)]) rfl (by rw [ev6_9]; rfl) rfl rfl (by decide) rfl) ?_
  refine xs_step (fun K HC => xr_goto HC.1 95 31 rfl (by decide)) ?_
  exact xs_back rfl (fun K q => q)
set_option maxHeartbeats 4000000 in
set_option maxRecDepth 100000 in
theorem t_Pl_valueOf_129 (v0 : Nat) (v3 : Int32) (v5 : Int32) (v6 : Int32) (v7 : Int32) (h : HP) : xx_S (xx_D "LampYard$Plan" tb_Pl_valueOf 8 2 (some .int) false) (xx_z2 (fun s : (Int32 × Int32 × HP) => s.2.2) xz_i) (fun K => xx_L2 (fun s : (Int32 × Int32 × HP) => xx_X K 31 [(0, av_R 4 (some v0)), (3, av_I v3), (5, av_I s.1), (6, av_I s.2.1)] [] (s.2.2)) (xL_i K)) 129 [(0, av_R 4 (some v0)), (3, av_I v3), (5, av_I v5), (6, av_I v6), (7, av_I v7)] [] h (f_Pl_valueOf_129 v0 v3 v5 v6 v7 h) := by
  unfold f_Pl_valueOf_129
  refine xs_step (fun K HC => xr_iload HC.1 72 131 (ix := 5) (j := 2) (x := v5) rfl rfl rfl) ?_
  refine xs_step (fun K HC => xr_iconst HC.1 73 132 (n := (1)) (1 : Int32) rfl rfl rfl) ?_
  refine xs_ite (fun K HC => xr_icmp_le HC.1 74 168 135 rfl (by decide) rfl) ?_ ?_
  · refine xs_step (fun K HC => xr_sub (lv' := [(0, av_R 4 (some v0)), (3, av_I v3), (5, av_I v5), (6, av_I v6)]) [0, 1, 2, 3] rfl) ?_
    exact t_Pl_valueOf_168 v0 v3 v5 v6 h
  refine xs_gen (fun v5_10 ev5_10 => ?_)
  refine xs_step (fun K HC => xr_iinc HC.1 75 138 (ix := 5) (j := 2) (n := (-1)) (x := v5) v5_10 (lv' := [(0, av_R 4 (some v0)), (3, av_I v3), (5, av_I v5_10), (6, av_I v6), (7, av_I v7)]) rfl (by rw [ev5_10]; rfl) rfl rfl (by decide) rfl) ?_
  refine xs_step (fun K HC => xr_aload_n HC.1 76 139 (n := 0) (ix := 0) (j := 0) (c := 4) (x := v0) rfl rfl rfl rfl) ?_
  refine xs_bind (fun q_11 eq_11 => ?_)
  refine xs_step (fun K HC => xr_getr HC.1 77 142 4 16 13 eq_11 rfl rfl wf_Pl_34 (by decide) fb_4_16 fc_4_16 fd_4_16) ?_
  refine xs_step (fun K HC => xr_iload HC.1 78 144 (ix := 5) (j := 2) (x := v5_10) rfl rfl rfl) ?_
  refine xs_step (fun K HC => xr_iconst HC.1 79 145 (n := (1)) (1 : Int32) rfl rfl rfl) ?_
  refine xs_step (fun K HC => xr_isub HC.1 80 146 rfl rfl) ?_
  refine xs_step (fun K HC => xr_iload HC.1 81 148 (ix := 7) (j := 4) (x := v7) rfl rfl rfl) ?_
  refine xs_step (fun K HC => xr_aload_n HC.1 82 149 (n := 0) (ix := 0) (j := 0) (c := 4) (x := v0) rfl rfl rfl rfl) ?_
  refine xs_bind (fun q_12 eq_12 => ?_)
  refine xs_step (fun K HC => xr_getr HC.1 83 152 4 16 13 eq_12 rfl rfl wf_Pl_34 (by decide) fb_4_16 fc_4_16 fd_4_16) ?_
  refine xs_step (fun K HC => xr_iload HC.1 84 154 (ix := 5) (j := 2) (x := v5_10) rfl rfl rfl) ?_
  refine xs_step (fun K HC => xr_iconst HC.1 85 155 (n := (1)) (1 : Int32) rfl rfl rfl) ?_
  refine xs_step (fun K HC => xr_isub HC.1 86 156 rfl rfl) ?_
  refine xs_chk (fun hb_13 => ?_)
  refine xs_step (fun K HC => xr_iald HC.1 87 157 (hp_in_vp hb_13) rfl rfl) ?_
  refine xs_step (fun K HC => xr_aload_n HC.1 88 158 (n := 0) (ix := 0) (j := 0) (c := 4) (x := v0) rfl rfl rfl rfl) ?_
  refine xs_bind (fun q_14 eq_14 => ?_)
  refine xs_step (fun K HC => xr_getr HC.1 89 161 4 16 13 eq_14 rfl rfl wf_Pl_34 (by decide) fb_4_16 fc_4_16 fd_4_16) ?_
  refine xs_step (fun K HC => xr_iload HC.1 90 163 (ix := 5) (j := 2) (x := v5_10) rfl rfl rfl) ?_
  refine xs_chk (fun hb_15 => ?_)
  refine xs_step (fun K HC => xr_iald HC.1 91 164 (hp_in_vp hb_15) rfl rfl) ?_
  refine xs_calli (s_Pl_joined v7 (hp_i h q_12 ((v5_10 - (1 : Int32))).toNatClampNeg) (hp_i h q_14 (v5_10).toNatClampNeg) h) (fun K HC x9 hM hmo hb => xr_callS HC.1 92 167 (av := [av_I v7, av_I (hp_i h q_12 ((v5_10 - (1 : Int32))).toNatClampNeg), av_I (hp_i h q_14 (v5_10).toNatClampNeg)]) (st := [av_I (v5_10 - (1 : Int32)), av_R 13 (some q_11)]) (hM (kg K) (cx_l (kx K))) hmo hb rfl rfl wm_Pl_132 wt_Pl_joined wn_Pl_joined wc_Pl_joined wh_Pl_joined (by decide) (by decide) (Nat.le_of_ble_eq_true rfl) rfl) (fun x_16 => ?_)
  refine xs_chk (fun hb_17 => ?_)
  refine xs_heap (hp_mo_si _ _ _ _) (fun K HC => xr_iast HC.1 93 168 (hp_in_vp hb_17) rfl rfl) (fun h_18 => ?_)
  refine xs_step (fun K HC => xr_sub (lv' := [(0, av_R 4 (some v0)), (3, av_I v3), (5, av_I v5_10), (6, av_I v6)]) [0, 1, 2, 3] rfl) ?_
  exact t_Pl_valueOf_168 v0 v3 v5_10 v6 h_18
set_option maxHeartbeats 4000000 in
set_option maxRecDepth 100000 in
theorem t_Pl_valueOf_125 (v0 : Nat) (v3 : Int32) (v5 : Int32) (v6 : Int32) (s0 : Int32) (s1 : Int32) (s2 : Nat) (h : HP) : xx_S (xx_D "LampYard$Plan" tb_Pl_valueOf 8 2 (some .int) false) (xx_z2 (fun s : (Int32 × Int32 × HP) => s.2.2) xz_i) (fun K => xx_L2 (fun s : (Int32 × Int32 × HP) => xx_X K 31 [(0, av_R 4 (some v0)), (3, av_I v3), (5, av_I s.1), (6, av_I s.2.1)] [] (s.2.2)) (xL_i K)) 125 [(0, av_R 4 (some v0)), (3, av_I v3), (5, av_I v5), (6, av_I v6)] [av_I s0, av_I s1, av_R 13 (some s2)] h (f_Pl_valueOf_125 v0 v3 v5 v6 s0 s1 s2 h) := by
  unfold f_Pl_valueOf_125
  refine xs_chk (fun hb_22 => ?_)
  refine xs_heap (hp_mo_si _ _ _ _) (fun K HC => xr_iast HC.1 70 126 (hp_in_vp hb_22) rfl rfl) (fun h_23 => ?_)
  refine xs_step (fun K HC => xr_goto HC.1 71 168 rfl (by decide)) ?_
  exact t_Pl_valueOf_168 v0 v3 v5 v6 h_23
set_option maxHeartbeats 4000000 in
set_option maxRecDepth 100000 in
theorem t_Pl_valueOf_80 (v0 : Nat) (v3 : Int32) (v6 : Int32) (s0 : Int32) (s1 : Int32) (s2 : Nat) (h : HP) : xx_S (xx_D "LampYard$Plan" tb_Pl_valueOf 8 2 (some .int) false) (xx_z2 (fun s : (Int32 × Int32 × HP) => s.2.2) xz_i) (fun K => xx_L2 (fun s : (Int32 × Int32 × HP) => xx_X K 31 [(0, av_R 4 (some v0)), (3, av_I v3), (5, av_I s.1), (6, av_I s.2.1)] [] (s.2.2)) (xL_i K)) 80 [(0, av_R 4 (some v0)), (3, av_I v3), (6, av_I v6)] [av_I s0, av_I s1, av_R 4 (some s2)] h (f_Pl_valueOf_80 v0 v3 v6 s0 s1 s2 h) := by
  unfold f_Pl_valueOf_80
  refine xs_calli (s_Pl_push s2 s1 s0 h) (fun K HC x9 hM hmo hb => xr_callV HC.1 47 83 (av := [av_I s1, av_I s0]) (st := []) (hM (kg K) (cx_l (kx K))) hmo hb rfl rfl wm_Pl_129 wi_Pl_push ws_Pl_push wc_Pl_push rfl wh_Pl_push (by decide) (by decide) (by decide) (Nat.le_of_ble_eq_true rfl) rfl) (fun x_26 => ?_)
  refine xs_step (fun K HC => xr_istore HC.1 48 85 (ix := 5) (lv' := [(0, av_R 4 (some v0)), (3, av_I v3), (5, av_I x_26.1), (6, av_I v6)]) rfl rfl (by decide) rfl) ?_
  refine xs_step (fun K HC => xr_goto HC.1 49 168 rfl (by decide)) ?_
  exact t_Pl_valueOf_168 v0 v3 x_26.1 v6 x_26.2
set_option maxHeartbeats 4000000 in
set_option maxRecDepth 100000 in
theorem t_Pl_valueOf_31b (v0 : Nat) (v3 : Int32) (v5 : Int32) (v6 : Int32) (h : HP) : xx_S (xx_D "LampYard$Plan" tb_Pl_valueOf 8 2 (some .int) false) (xx_z2 (fun s : (Int32 × Int32 × HP) => s.2.2) xz_i) (fun K => xx_L2 (fun s : (Int32 × Int32 × HP) => xx_X K 31 [(0, av_R 4 (some v0)), (3, av_I v3), (5, av_I s.1), (6, av_I s.2.1)] [] (s.2.2)) (xL_i K)) 31 [(0, av_R 4 (some v0)), (3, av_I v3), (5, av_I v5), (6, av_I v6)] [] h (f_Pl_valueOf_31b v0 v3 v5 v6 h) := by
  unfold f_Pl_valueOf_31b
  refine xs_step (fun K HC => xr_iload HC.1 21 33 (ix := 6) (j := 3) (x := v6) rfl rfl rfl) ?_
  refine xs_step (fun K HC => xr_aload_n HC.1 22 34 (n := 0) (ix := 0) (j := 0) (c := 4) (x := v0) rfl rfl rfl rfl) ?_
  refine xs_bind (fun q_2 eq_2 => ?_)
  refine xs_step (fun K HC => xr_getr HC.1 23 37 4 12 13 eq_2 rfl rfl wf_Pl_25 (by decide) fb_4_12 fc_4_12 fd_4_12) ?_
  refine xs_step (fun K HC => xr_iload_n HC.1 24 38 (n := 3) (ix := 3) (j := 1) (x := v3) rfl rfl rfl rfl) ?_
  refine xs_chk (fun hb_3 => ?_)
  refine xs_step (fun K HC => xr_iald HC.1 25 39 (hp_in_vp hb_3) rfl rfl) ?_
  refine xs_ite (fun K HC => xr_icmp_ge HC.1 26 174 42 rfl (by decide) rfl) ?_ ?_
  · refine xs_step (fun K HC => xr_sub (lv' := [(0, av_R 4 (some v0)), (5, av_I v5)]) [0, 2] rfl) ?_
    exact xs_map (fun _ => rfl) (fun _ _ q => q) (t_Pl_valueOf_174 v0 v5 h)
  refine xs_step (fun K HC => xr_aload_n HC.1 27 43 (n := 0) (ix := 0) (j := 0) (c := 4) (x := v0) rfl rfl rfl rfl) ?_
  refine xs_bind (fun q_6 eq_6 => ?_)
  refine xs_step (fun K HC => xr_getr HC.1 28 46 4 13 13 eq_6 rfl rfl wf_Pl_28 (by decide) fb_4_13 fc_4_13 fd_4_13) ?_
  refine xs_step (fun K HC => xr_iload HC.1 29 48 (ix := 6) (j := 3) (x := v6) rfl rfl rfl) ?_
  refine xs_chk (fun hb_7 => ?_)
  refine xs_step (fun K HC => xr_iald HC.1 30 49 (hp_in_vp hb_7) rfl rfl) ?_
  refine xs_topi (fun v7_8 => ?_)
  refine xs_step (fun K HC => xr_istore HC.1 31 51 (ix := 7) (lv' := [(0, av_R 4 (some v0)), (3, av_I v3), (5, av_I v5), (6, av_I v6), (7, av_I v7_8)]) rfl rfl (by decide) rfl) ?_
  refine xs_step (fun K HC => xr_iload HC.1 32 53 (ix := 7) (j := 4) (x := v7_8) rfl rfl rfl) ?_
  refine xs_step (fun K HC => xr_bipush HC.1 33 55 (n := (-5)) (-5 : Int32) rfl rfl rfl) ?_
  refine xs_ite (fun K HC => xr_icmp_lt HC.1 34 88 58 rfl (by decide) rfl) ?_ ?_
  · refine xs_step (fun K HC => xr_iload HC.1 50 90 (ix := 7) (j := 4) (x := v7_8) rfl rfl rfl) ?_
    refine xs_step (fun K HC => xr_bipush HC.1 51 92 (n := (-8)) (-8 : Int32) rfl rfl rfl) ?_
    refine xs_ite (fun K HC a b => xr_icmp_ne HC.1 52 129 95 rfl (by decide) rfl b a) ?_ ?_
    · refine xs_step (fun K HC => xr_iload HC.1 53 97 (ix := 5) (j := 2) (x := v5) rfl rfl rfl) ?_
      refine xs_ite (fun K HC => xr_if_le HC.1 54 129 100 rfl (by decide) rfl) ?_ ?_
      · exact t_Pl_valueOf_129 v0 v3 v5 v6 v7_8 h
      refine xs_step (fun K HC => xr_aload_n HC.1 55 101 (n := 0) (ix := 0) (j := 0) (c := 4) (x := v0) rfl rfl rfl rfl) ?_
      refine xs_bind (fun q_19 eq_19 => ?_)
      refine xs_step (fun K HC => xr_getr HC.1 56 104 4 16 13 eq_19 rfl rfl wf_Pl_34 (by decide) fb_4_16 fc_4_16 fd_4_16) ?_
      refine xs_step (fun K HC => xr_iload HC.1 57 106 (ix := 5) (j := 2) (x := v5) rfl rfl rfl) ?_
      refine xs_step (fun K HC => xr_iconst HC.1 58 107 (n := (1)) (1 : Int32) rfl rfl rfl) ?_
      refine xs_step (fun K HC => xr_isub HC.1 59 108 rfl rfl) ?_
      refine xs_step (fun K HC => xr_aload_n HC.1 60 109 (n := 0) (ix := 0) (j := 0) (c := 4) (x := v0) rfl rfl rfl rfl) ?_
      refine xs_bind (fun q_20 eq_20 => ?_)
      refine xs_step (fun K HC => xr_getr HC.1 61 112 4 16 13 eq_20 rfl rfl wf_Pl_34 (by decide) fb_4_16 fc_4_16 fd_4_16) ?_
      refine xs_step (fun K HC => xr_iload HC.1 62 114 (ix := 5) (j := 2) (x := v5) rfl rfl rfl) ?_
      refine xs_step (fun K HC => xr_iconst HC.1 63 115 (n := (1)) (1 : Int32) rfl rfl rfl) ?_
      refine xs_step (fun K HC => xr_isub HC.1 64 116 rfl rfl) ?_
      refine xs_chk (fun hb_21 => ?_)
      refine xs_step (fun K HC => xr_iald HC.1 65 117 (hp_in_vp hb_21) rfl rfl) ?_
      refine xs_ite (fun K HC a b => xr_if_ne HC.1 66 124 120 rfl (by decide) rfl b a) ?_ ?_
      · refine xs_step (fun K HC => xr_iconst HC.1 67 121 (n := (1)) (1 : Int32) rfl rfl rfl) ?_
        refine xs_step (fun K HC => xr_goto HC.1 68 125 rfl (by decide)) ?_
        refine xs_step (fun K HC => xr_sub (lv' := [(0, av_R 4 (some v0)), (3, av_I v3), (5, av_I v5), (6, av_I v6)]) [0, 1, 2, 3] rfl) ?_
        exact t_Pl_valueOf_125 v0 v3 v5 v6 (1 : Int32) (v5 - (1 : Int32)) q_19 h
      refine xs_step (fun K HC => xr_iconst HC.1 69 125 (n := (0)) (0 : Int32) rfl rfl rfl) ?_
      refine xs_step (fun K HC => xr_sub (lv' := [(0, av_R 4 (some v0)), (3, av_I v3), (5, av_I v5), (6, av_I v6)]) [0, 1, 2, 3] rfl) ?_
      exact t_Pl_valueOf_125 v0 v3 v5 v6 (0 : Int32) (v5 - (1 : Int32)) q_19 h
    exact t_Pl_valueOf_129 v0 v3 v5 v6 v7_8 h
  refine xs_step (fun K HC => xr_aload_n HC.1 35 59 (n := 0) (ix := 0) (j := 0) (c := 4) (x := v0) rfl rfl rfl rfl) ?_
  refine xs_step (fun K HC => xr_iload HC.1 36 61 (ix := 5) (j := 2) (x := v5) rfl rfl rfl) ?_
  refine xs_step (fun K HC => xr_iload HC.1 37 63 (ix := 7) (j := 4) (x := v7_8) rfl rfl rfl) ?_
  refine xs_ite (fun K HC => xr_if_lt HC.1 38 71 66 rfl (by decide) rfl) ?_ ?_
  · refine xs_step (fun K HC => xr_aload_n HC.1 41 72 (n := 0) (ix := 0) (j := 0) (c := 4) (x := v0) rfl rfl rfl rfl) ?_
    refine xs_bind (fun q_24 eq_24 => ?_)
    refine xs_step (fun K HC => xr_getr HC.1 42 75 4 15 13 eq_24 rfl rfl wf_Pl_31 (by decide) fb_4_15 fc_4_15 fd_4_15) ?_
    refine xs_step (fun K HC => xr_iconst HC.1 43 76 (n := (-1)) (-1 : Int32) rfl rfl rfl) ?_
    refine xs_step (fun K HC => xr_iload HC.1 44 78 (ix := 7) (j := 4) (x := v7_8) rfl rfl rfl) ?_
    refine xs_step (fun K HC => xr_isub HC.1 45 79 rfl rfl) ?_
    refine xs_chk (fun hb_25 => ?_)
    refine xs_step (fun K HC => xr_iald HC.1 46 80 (hp_in_vp hb_25) rfl rfl) ?_
    refine xs_step (fun K HC => xr_sub (lv' := [(0, av_R 4 (some v0)), (3, av_I v3), (6, av_I v6)]) [0, 1, 3] rfl) ?_
    exact t_Pl_valueOf_80 v0 v3 v6 (hp_i h q_24 (((-1 : Int32) - v7_8)).toNatClampNeg) v5 v0 h
  refine xs_step (fun K HC => xr_iload HC.1 39 68 (ix := 7) (j := 4) (x := v7_8) rfl rfl rfl) ?_
  refine xs_step (fun K HC => xr_goto HC.1 40 80 rfl (by decide)) ?_
  refine xs_step (fun K HC => xr_sub (lv' := [(0, av_R 4 (some v0)), (3, av_I v3), (6, av_I v6)]) [0, 1, 3] rfl) ?_
  exact t_Pl_valueOf_80 v0 v3 v6 v7_8 v5 v0 h
theorem t_Pl_valueOf_31 (v0 : Nat) (v3 : Int32) (v5 : Int32) (v6 : Int32) (h : HP) : xx_S (xx_D "LampYard$Plan" tb_Pl_valueOf 8 2 (some .int) false) xz_i (fun K => xL_i K) 31 [(0, av_R 4 (some v0)), (3, av_I v3), (5, av_I v5), (6, av_I v6)] [] h (f_Pl_valueOf_31 v0 v3 v5 v6 h) :=
  xs_loop (zf := xz_i) (L := (fun K => xL_i K)) (fun s : (Int32 × Int32 × HP) => [(0, av_R 4 (some v0)), (3, av_I v3), (5, av_I s.1), (6, av_I s.2.1)]) (fun s : (Int32 × Int32 × HP) => s.2.2) (fun s => t_Pl_valueOf_31b v0 v3 s.1 s.2.1 s.2.2) (v5, v6, h)
set_option maxHeartbeats 4000000 in
set_option maxRecDepth 100000 in
theorem t_Pl_valueOf_22 (v0 : Nat) (v3 : Int32) (s0 : Int32) (h : HP) : xx_S (xx_D "LampYard$Plan" tb_Pl_valueOf 8 2 (some .int) false) xz_i (fun K => xL_i K) 22 [(0, av_R 4 (some v0)), (3, av_I v3)] [av_I s0] h (f_Pl_valueOf_22 v0 v3 s0 h) := by
  unfold f_Pl_valueOf_22
  refine xs_step (fun K HC => xr_istore HC.1 16 24 (ix := 4) (lv' := [(0, av_R 4 (some v0)), (3, av_I v3), (4, av_I s0)]) rfl rfl (by decide) rfl) ?_
  refine xs_step (fun K HC => xr_iconst HC.1 17 25 (n := (0)) (0 : Int32) rfl rfl rfl) ?_
  refine xs_step (fun K HC => xr_istore HC.1 18 27 (ix := 5) (lv' := [(0, av_R 4 (some v0)), (3, av_I v3), (4, av_I s0), (5, av_I (0 : Int32))]) rfl rfl (by decide) rfl) ?_
  refine xs_step (fun K HC => xr_iload HC.1 19 29 (ix := 4) (j := 2) (x := s0) rfl rfl rfl) ?_
  refine xs_step (fun K HC => xr_istore HC.1 20 31 (ix := 6) (lv' := [(0, av_R 4 (some v0)), (3, av_I v3), (4, av_I s0), (5, av_I (0 : Int32)), (6, av_I s0)]) rfl rfl (by decide) rfl) ?_
  refine xs_step (fun K HC => xr_sub (lv' := [(0, av_R 4 (some v0)), (3, av_I v3), (5, av_I (0 : Int32)), (6, av_I s0)]) [0, 1, 3, 4] rfl) ?_
  exact t_Pl_valueOf_31 v0 v3 (0 : Int32) s0 h
set_option maxHeartbeats 4000000 in
set_option maxRecDepth 100000 in
theorem t_Pl_valueOf (v0 : Nat) (v1 : Int32) (v2 : Int32) (h : HP) : xx_S (xx_D "LampYard$Plan" tb_Pl_valueOf 8 2 (some .int) false) xz_i (fun K => xL_i K) 0 [(0, av_R 4 (some v0)), (1, av_I v1), (2, av_I v2)] [] h (f_Pl_valueOf v0 v1 v2 h) := by
  unfold f_Pl_valueOf
  refine xs_step (fun K HC => xr_iload_n HC.1 0 1 (n := 1) (ix := 1) (j := 1) (x := v1) rfl rfl rfl rfl) ?_
  refine xs_step (fun K HC => xr_iconst HC.1 1 2 (n := (3)) (3 : Int32) rfl rfl rfl) ?_
  refine xs_step (fun K HC => xr_imul HC.1 2 3 rfl rfl) ?_
  refine xs_step (fun K HC => xr_iload_n HC.1 3 4 (n := 2) (ix := 2) (j := 2) (x := v2) rfl rfl rfl rfl) ?_
  refine xs_step (fun K HC => xr_iadd HC.1 4 5 rfl rfl) ?_
  refine xs_topi (fun v3_1 => ?_)
  refine xs_step (fun K HC => xr_istore_n HC.1 5 6 (n := 3) (ix := 3) (lv' := [(0, av_R 4 (some v0)), (1, av_I v1), (2, av_I v2), (3, av_I v3_1)]) rfl rfl rfl (by decide) rfl) ?_
  refine xs_step (fun K HC => xr_iload_n HC.1 6 7 (n := 3) (ix := 3) (j := 3) (x := v3_1) rfl rfl rfl rfl) ?_
  refine xs_ite (fun K HC => xr_if_le HC.1 7 21 10 rfl (by decide) rfl) ?_ ?_
  · refine xs_step (fun K HC => xr_iconst HC.1 15 22 (n := (0)) (0 : Int32) rfl rfl rfl) ?_
    refine xs_step (fun K HC => xr_sub (lv' := [(0, av_R 4 (some v0)), (3, av_I v3_1)]) [0, 3] rfl) ?_
    exact t_Pl_valueOf_22 v0 v3_1 (0 : Int32) h
  refine xs_step (fun K HC => xr_aload_n HC.1 8 11 (n := 0) (ix := 0) (j := 0) (c := 4) (x := v0) rfl rfl rfl rfl) ?_
  refine xs_bind (fun q_27 eq_27 => ?_)
  refine xs_step (fun K HC => xr_getr HC.1 9 14 4 12 13 eq_27 rfl rfl wf_Pl_25 (by decide) fb_4_12 fc_4_12 fd_4_12) ?_
  refine xs_step (fun K HC => xr_iload_n HC.1 10 15 (n := 3) (ix := 3) (j := 3) (x := v3_1) rfl rfl rfl rfl) ?_
  refine xs_step (fun K HC => xr_iconst HC.1 11 16 (n := (1)) (1 : Int32) rfl rfl rfl) ?_
  refine xs_step (fun K HC => xr_isub HC.1 12 17 rfl rfl) ?_
  refine xs_chk (fun hb_28 => ?_)
  refine xs_step (fun K HC => xr_iald HC.1 13 18 (hp_in_vp hb_28) rfl rfl) ?_
  refine xs_step (fun K HC => xr_goto HC.1 14 22 rfl (by decide)) ?_
  refine xs_step (fun K HC => xr_sub (lv' := [(0, av_R 4 (some v0)), (3, av_I v3_1)]) [0, 3] rfl) ?_
  exact t_Pl_valueOf_22 v0 v3_1 (hp_i h q_27 ((v3_1 - (1 : Int32))).toNatClampNeg) h
theorem s_Pl_valueOf (v0 : Nat) (v1 : Int32) (v2 : Int32) (h : HP) : ∀ x, f_Pl_valueOf v0 v1 v2 h = some x → hp_mo h x.2 ∧ ∀ g l, xx_M g l y_Pl_valueOf prog_6_method_17_code 8 (some .int) 2 [av_R 4 (some v0), av_I v1, av_I v2] h (some (av_I x.1)) x.2 :=
  xM_i (tb := tb_Pl_valueOf) (b := false) (by decide +kernel) dt_Pl_valueOf (fun _ => trivial) (Nat.le_of_ble_eq_true rfl) (fun hb => by cases hb) (t_Pl_valueOf v0 v1 v2 h)
def tb_Pl_outcome : TBL := [(0, .aload_n 0, 1), (1, .iload_n 3, 1), (2, .invokevirtual 85, 3), (5, .istore 4, 2), (7, .lload_n 1, 1), (8, .invokestatic 97, 3), (11, .istore 5, 2), (13, .iload 5, 2), (15, .aload_n 0, 1), (16, .getfield 47, 3), (19, .if_icmp .ne 7, 3), (22, .iconst 0, 1), (23, .goto 7, 3), (26, .lload_n 1, 1), (27, .invokestatic 101, 3), (30, .istore 6, 2), (32, .lload_n 1, 1), (33, .iload_n 3, 1), (34, .invokestatic 104, 3), (37, .istore 7, 2), (39, .aload_n 0, 1), (40, .getfield 31, 3), (43, .iconst 0, 1), (44, .iload 6, 2), (46, .iastore, 1), (47, .aload_n 0, 1), (48, .getfield 31, 3), (51, .iconst 1, 1), (52, .iload 7, 2), (54, .iastore, 1), (55, .aload_n 0, 1), (56, .getfield 31, 3), (59, .iconst 2, 1), (60, .iload 5, 2), (62, .iastore, 1), (63, .aload_n 0, 1), (64, .getfield 31, 3), (67, .iconst 3, 1), (68, .lload_n 1, 1), (69, .iload_n 3, 1), (70, .invokestatic 108, 3), (73, .iastore, 1), (74, .aload_n 0, 1), (75, .getfield 31, 3), (78, .iconst 4, 1), (79, .aload_n 0, 1), (80, .getfield 56, 3), (83, .iastore, 1), (84, .iconst 0, 1), (85, .istore 8, 2), (87, .iload 8, 2), (89, .aload_n 0, 1), (90, .getfield 59, 3), (93, .if_icmp .ge 119, 3), (96, .aload_n 0, 1), (97, .getfield 18, 3), (100, .iload 8, 2), (102, .iaload, 1), (103, .iload 4, 2), (105, .if_icmp .ne 101, 3), (108, .aload_n 0, 1), (109, .iload 8, 2), (111, .iconst 0, 1), (112, .invokevirtual 111, 3), (115, .ifCond .eq 91, 3), (118, .aload_n 0, 1), (119, .iload 8, 2), (121, .iconst 1, 1), (122, .invokevirtual 111, 3), (125, .aload_n 0, 1), (126, .invokevirtual 68, 3), (129, .iand, 1), (130, .istore 9, 2), (132, .iconst 0, 1), (133, .bipush 31, 2), (135, .aload_n 0, 1), (136, .iload 8, 2), (138, .iconst 2, 1), (139, .invokevirtual 111, 3), (142, .invokestatic 115, 3), (145, .invokestatic 120, 3), (148, .istore 10, 2), (150, .aload_n 0, 1), (151, .getfield 21, 3), (154, .iload 8, 2), (156, .baload, 1), (157, .ifCond .eq 9, 3), (160, .sipush 128, 3), (163, .goto 4, 3), (166, .iconst 0, 1), (167, .iload 9, 2), (169, .iload 6, 2), (171, .if_icmp .eq 9, 3), (174, .sipush 256, 3), (177, .goto 4, 3), (180, .iconst 0, 1), (181, .ior, 1), (182, .iload 10, 2), (184, .iload 7, 2), (186, .if_icmp .eq 9, 3), (189, .sipush 512, 3), (192, .goto 4, 3), (195, .iconst 0, 1), (196, .ior, 1), (197, .iload 10, 2), (199, .iconst 2, 1), (200, .ishl, 1), (201, .ior, 1), (202, .iload 9, 2), (204, .ior, 1), (205, .ireturn, 1), (206, .iinc 8 1, 3), (209, .goto (-122), 3), (212, .iload 7, 2), (214, .iconst 2, 1), (215, .ishl, 1), (216, .iload 6, 2), (218, .ior, 1), (219, .ireturn, 1)]
theorem dt_Pl_outcome : ∀ q ∈ tb_Pl_outcome, decode prog_6_method_14_code q.1 = .ok (q.2.1, q.2.2) := by decide +kernel
set_option maxHeartbeats 4000000 in
set_option maxRecDepth 100000 in
theorem t_Pl_outcome_206 (v0 : Nat) (v4 : Int32) (v6 : Int32) (v7 : Int32) (v8 : Int32) (h : HP) : xx_S (xx_D "LampYard$Plan" tb_Pl_outcome 11 3 (some .int) false) (xx_z2 (fun s : (Int32 × HP) => s.2) xz_i) (fun K => xx_L2 (fun s : (Int32 × HP) => xx_X K 87 [(0, av_R 4 (some v0)), (4, av_I v4), (6, av_I v6), (7, av_I v7), (8, av_I s.1)] [] (s.2)) (xL_i K)) 206 [(0, av_R 4 (some v0)), (4, av_I v4), (6, av_I v6), (7, av_I v7), (8, av_I v8)] [] h (f_Pl_outcome_206 v0 v4 v6 v7 v8 h) := by
  unfold f_Pl_outcome_206
  refine xs_gen (fun v8_23 ev8_23 => ?_)
  refine xs_step (fun K HC => xr_iinc HC.1 111 209 (ix := 8) (j := 4) (n := (1)) (x := v8) v8_23 (lv' := [(0, av_R 4 (some v0)), (4, av_I v4), (6, av_I v6), (7, av_I v7), (8, av_I v8_23)]) rfl (by rw [ev8_23]; rfl) rfl rfl (by decide) rfl) ?_
  refine xs_step (fun K HC => xr_goto HC.1 112 87 rfl (by decide)) ?_
  exact xs_back rfl (fun K q => q)
set_option maxHeartbeats 4000000 in
set_option maxRecDepth 100000 in
theorem t_Pl_outcome_181 (v7 : Int32) (v9 : Int32) (v10 : Int32) (s0 : Int32) (s1 : Int32) (h : HP) : xx_S (xx_D "LampYard$Plan" tb_Pl_outcome 11 3 (some .int) false) xz_i (fun K => xL_i K) 181 [(7, av_I v7), (9, av_I v9), (10, av_I v10)] [av_I s0, av_I s1] h (f_Pl_outcome_181 v7 v9 v10 s0 s1 h) := by
  unfold f_Pl_outcome_181
  refine xs_step (fun K HC => xr_ior HC.1 96 182 rfl rfl) ?_
  refine xs_step (fun K HC => xr_iload HC.1 97 184 (ix := 10) (j := 2) (x := v10) rfl rfl rfl) ?_
  refine xs_step (fun K HC => xr_iload HC.1 98 186 (ix := 7) (j := 0) (x := v7) rfl rfl rfl) ?_
  refine xs_ite (fun K HC => xr_icmp_eq HC.1 99 195 189 rfl (by decide) rfl) ?_ ?_
  · refine xs_step (fun K HC => xr_iconst HC.1 102 196 (n := (0)) (0 : Int32) rfl rfl rfl) ?_
    refine xs_step (fun K HC => xr_ior HC.1 103 197 rfl rfl) ?_
    refine xs_step (fun K HC => xr_iload HC.1 104 199 (ix := 10) (j := 2) (x := v10) rfl rfl rfl) ?_
    refine xs_step (fun K HC => xr_iconst HC.1 105 200 (n := (2)) (2 : Int32) rfl rfl rfl) ?_
    refine xs_step (fun K HC => xr_ishl HC.1 106 201 rfl rfl) ?_
    refine xs_step (fun K HC => xr_ior HC.1 107 202 rfl rfl) ?_
    refine xs_step (fun K HC => xr_iload HC.1 108 204 (ix := 9) (j := 1) (x := v9) rfl rfl rfl) ?_
    refine xs_step (fun K HC => xr_ior HC.1 109 205 rfl rfl) ?_
    exact xs_reti 110 rfl rfl (fun K q => q) (fun ty ht => by cases ht; rfl)
  refine xs_step (fun K HC => xr_sipush HC.1 100 192 (n := (512)) (512 : Int32) rfl rfl rfl) ?_
  refine xs_step (fun K HC => xr_goto HC.1 101 196 rfl (by decide)) ?_
  refine xs_step (fun K HC => xr_ior HC.1 103 197 rfl rfl) ?_
  refine xs_step (fun K HC => xr_iload HC.1 104 199 (ix := 10) (j := 2) (x := v10) rfl rfl rfl) ?_
  refine xs_step (fun K HC => xr_iconst HC.1 105 200 (n := (2)) (2 : Int32) rfl rfl rfl) ?_
  refine xs_step (fun K HC => xr_ishl HC.1 106 201 rfl rfl) ?_
  refine xs_step (fun K HC => xr_ior HC.1 107 202 rfl rfl) ?_
  refine xs_step (fun K HC => xr_iload HC.1 108 204 (ix := 9) (j := 1) (x := v9) rfl rfl rfl) ?_
  refine xs_step (fun K HC => xr_ior HC.1 109 205 rfl rfl) ?_
  exact xs_reti 110 rfl rfl (fun K q => q) (fun ty ht => by cases ht; rfl)
set_option maxHeartbeats 4000000 in
set_option maxRecDepth 100000 in
theorem t_Pl_outcome_167 (v6 : Int32) (v7 : Int32) (v9 : Int32) (v10 : Int32) (s0 : Int32) (h : HP) : xx_S (xx_D "LampYard$Plan" tb_Pl_outcome 11 3 (some .int) false) xz_i (fun K => xL_i K) 167 [(6, av_I v6), (7, av_I v7), (9, av_I v9), (10, av_I v10)] [av_I s0] h (f_Pl_outcome_167 v6 v7 v9 v10 s0 h) := by
  unfold f_Pl_outcome_167
  refine xs_step (fun K HC => xr_iload HC.1 90 169 (ix := 9) (j := 2) (x := v9) rfl rfl rfl) ?_
  refine xs_step (fun K HC => xr_iload HC.1 91 171 (ix := 6) (j := 0) (x := v6) rfl rfl rfl) ?_
  refine xs_ite (fun K HC => xr_icmp_eq HC.1 92 180 174 rfl (by decide) rfl) ?_ ?_
  · refine xs_step (fun K HC => xr_iconst HC.1 95 181 (n := (0)) (0 : Int32) rfl rfl rfl) ?_
    refine xs_step (fun K HC => xr_sub (lv' := [(7, av_I v7), (9, av_I v9), (10, av_I v10)]) [1, 2, 3] rfl) ?_
    exact t_Pl_outcome_181 v7 v9 v10 (0 : Int32) s0 h
  refine xs_step (fun K HC => xr_sipush HC.1 93 177 (n := (256)) (256 : Int32) rfl rfl rfl) ?_
  refine xs_step (fun K HC => xr_goto HC.1 94 181 rfl (by decide)) ?_
  refine xs_step (fun K HC => xr_sub (lv' := [(7, av_I v7), (9, av_I v9), (10, av_I v10)]) [1, 2, 3] rfl) ?_
  exact t_Pl_outcome_181 v7 v9 v10 (256 : Int32) s0 h
set_option maxHeartbeats 4000000 in
set_option maxRecDepth 100000 in
theorem t_Pl_outcome_118 (v0 : Nat) (v6 : Int32) (v7 : Int32) (v8 : Int32) (h : HP) : xx_S (xx_D "LampYard$Plan" tb_Pl_outcome 11 3 (some .int) false) xz_i (fun K => xL_i K) 118 [(0, av_R 4 (some v0)), (6, av_I v6), (7, av_I v7), (8, av_I v8)] [] h (f_Pl_outcome_118 v0 v6 v7 v8 h) := by
  unfold f_Pl_outcome_118
  refine xs_step (fun K HC => xr_aload_n HC.1 65 119 (n := 0) (ix := 0) (j := 0) (c := 4) (x := v0) rfl rfl rfl rfl) ?_
  refine xs_step (fun K HC => xr_iload HC.1 66 121 (ix := 8) (j := 3) (x := v8) rfl rfl rfl) ?_
  refine xs_step (fun K HC => xr_iconst HC.1 67 122 (n := (1)) (1 : Int32) rfl rfl rfl) ?_
  refine xs_calli (s_Pl_valueOf v0 v8 (1 : Int32) h) (fun K HC x9 hM hmo hb => xr_callV HC.1 68 125 (av := [av_I v8, av_I (1 : Int32)]) (st := []) (hM (kg K) (cx_l (kx K))) hmo hb rfl rfl wm_Pl_111 wi_Pl_valueOf ws_Pl_valueOf wc_Pl_valueOf rfl wh_Pl_valueOf (by decide) (by decide) (by decide) (Nat.le_of_ble_eq_true rfl) rfl) (fun x_24 => ?_)
  refine xs_step (fun K HC => xr_aload_n HC.1 69 126 (n := 0) (ix := 0) (j := 0) (c := 4) (x := v0) rfl rfl rfl rfl) ?_
  refine xs_calli (s_Pl_allOn v0 x_24.2) (fun K HC x9 hM hmo hb => xr_callV HC.1 70 129 (av := []) (st := [av_I x_24.1]) (hM (kg K) (cx_l (kx K))) hmo hb rfl rfl wm_Pl_68 wi_Pl_allOn ws_Pl_allOn wc_Pl_allOn rfl wh_Pl_allOn (by decide) (by decide) (by decide) (Nat.le_of_ble_eq_true rfl) rfl) (fun x_25 => ?_)
  refine xs_step (fun K HC => xr_iand HC.1 71 130 rfl rfl) ?_
  refine xs_topi (fun v9_26 => ?_)
  refine xs_step (fun K HC => xr_istore HC.1 72 132 (ix := 9) (lv' := [(0, av_R 4 (some v0)), (6, av_I v6), (7, av_I v7), (8, av_I v8), (9, av_I v9_26)]) rfl rfl (by decide) rfl) ?_
  refine xs_step (fun K HC => xr_iconst HC.1 73 133 (n := (0)) (0 : Int32) rfl rfl rfl) ?_
  refine xs_step (fun K HC => xr_bipush HC.1 74 135 (n := (31)) (31 : Int32) rfl rfl rfl) ?_
  refine xs_step (fun K HC => xr_aload_n HC.1 75 136 (n := 0) (ix := 0) (j := 0) (c := 4) (x := v0) rfl rfl rfl rfl) ?_
  refine xs_step (fun K HC => xr_iload HC.1 76 138 (ix := 8) (j := 3) (x := v8) rfl rfl rfl) ?_
  refine xs_step (fun K HC => xr_iconst HC.1 77 139 (n := (2)) (2 : Int32) rfl rfl rfl) ?_
  refine xs_calli (s_Pl_valueOf v0 v8 (2 : Int32) x_25.2) (fun K HC x9 hM hmo hb => xr_callV HC.1 78 142 (av := [av_I v8, av_I (2 : Int32)]) (st := [av_I (31 : Int32), av_I (0 : Int32)]) (hM (kg K) (cx_l (kx K))) hmo hb rfl rfl wm_Pl_111 wi_Pl_valueOf ws_Pl_valueOf wc_Pl_valueOf rfl wh_Pl_valueOf (by decide) (by decide) (by decide) (Nat.le_of_ble_eq_true rfl) rfl) (fun x_27 => ?_)
  refine xs_stepb (fun K HC hb => xr_min HC.1 79 145 hb rfl rfl wm_Pl_115 ly_mmin1 ly_m0 ly_mmin2 (by decide) (Nat.le_of_ble_eq_true rfl)) ?_
  refine xs_stepb (fun K HC hb => xr_max HC.1 80 148 hb rfl rfl wm_Pl_120 ly_mmax1 ly_m0 ly_mmax2 (by decide) (Nat.le_of_ble_eq_true rfl)) ?_
  refine xs_topi (fun v10_28 => ?_)
  refine xs_step (fun K HC => xr_istore HC.1 81 150 (ix := 10) (lv' := [(0, av_R 4 (some v0)), (6, av_I v6), (7, av_I v7), (8, av_I v8), (9, av_I v9_26), (10, av_I v10_28)]) rfl rfl (by decide) rfl) ?_
  refine xs_step (fun K HC => xr_aload_n HC.1 82 151 (n := 0) (ix := 0) (j := 0) (c := 4) (x := v0) rfl rfl rfl rfl) ?_
  refine xs_bind (fun q_29 eq_29 => ?_)
  refine xs_step (fun K HC => xr_getr HC.1 83 154 4 11 15 eq_29 rfl rfl wf_Pl_21 (by decide) fb_4_11 fc_4_11 fd_4_11) ?_
  refine xs_step (fun K HC => xr_iload HC.1 84 156 (ix := 8) (j := 3) (x := v8) rfl rfl rfl) ?_
  refine xs_chk (fun hb_30 => ?_)
  refine xs_step (fun K HC => xr_zald HC.1 85 157 (hp_in_vp hb_30) rfl rfl) ?_
  refine xs_ite (fun K HC => xr_if_eq HC.1 86 166 160 rfl (by decide) rfl) ?_ ?_
  · refine xs_step (fun K HC => xr_iconst HC.1 89 167 (n := (0)) (0 : Int32) rfl rfl rfl) ?_
    refine xs_step (fun K HC => xr_sub (lv' := [(6, av_I v6), (7, av_I v7), (9, av_I v9_26), (10, av_I v10_28)]) [1, 2, 4, 5] rfl) ?_
    exact t_Pl_outcome_167 v6 v7 v9_26 v10_28 (0 : Int32) x_27.2
  refine xs_step (fun K HC => xr_sipush HC.1 87 163 (n := (128)) (128 : Int32) rfl rfl rfl) ?_
  refine xs_step (fun K HC => xr_goto HC.1 88 167 rfl (by decide)) ?_
  refine xs_step (fun K HC => xr_sub (lv' := [(6, av_I v6), (7, av_I v7), (9, av_I v9_26), (10, av_I v10_28)]) [1, 2, 4, 5] rfl) ?_
  exact t_Pl_outcome_167 v6 v7 v9_26 v10_28 (128 : Int32) x_27.2
set_option maxHeartbeats 4000000 in
set_option maxRecDepth 100000 in
theorem t_Pl_outcome_87b (v0 : Nat) (v4 : Int32) (v6 : Int32) (v7 : Int32) (v8 : Int32) (h : HP) : xx_S (xx_D "LampYard$Plan" tb_Pl_outcome 11 3 (some .int) false) (xx_z2 (fun s : (Int32 × HP) => s.2) xz_i) (fun K => xx_L2 (fun s : (Int32 × HP) => xx_X K 87 [(0, av_R 4 (some v0)), (4, av_I v4), (6, av_I v6), (7, av_I v7), (8, av_I s.1)] [] (s.2)) (xL_i K)) 87 [(0, av_R 4 (some v0)), (4, av_I v4), (6, av_I v6), (7, av_I v7), (8, av_I v8)] [] h (f_Pl_outcome_87b v0 v4 v6 v7 v8 h) := by
  unfold f_Pl_outcome_87b
  refine xs_step (fun K HC => xr_iload HC.1 50 89 (ix := 8) (j := 4) (x := v8) rfl rfl rfl) ?_
  refine xs_step (fun K HC => xr_aload_n HC.1 51 90 (n := 0) (ix := 0) (j := 0) (c := 4) (x := v0) rfl rfl rfl rfl) ?_
  refine xs_step (fun K HC => xr_geti HC.1 52 93 4 6 rfl rfl wf_Pl_59 (by decide) fb_4_6 fc_4_6) ?_
  refine xs_ite (fun K HC => xr_icmp_ge HC.1 53 212 96 rfl (by decide) rfl) ?_ ?_
  · refine xs_step (fun K HC => xr_iload HC.1 113 214 (ix := 7) (j := 3) (x := v7) rfl rfl rfl) ?_
    refine xs_step (fun K HC => xr_iconst HC.1 114 215 (n := (2)) (2 : Int32) rfl rfl rfl) ?_
    refine xs_step (fun K HC => xr_ishl HC.1 115 216 rfl rfl) ?_
    refine xs_step (fun K HC => xr_iload HC.1 116 218 (ix := 6) (j := 2) (x := v6) rfl rfl rfl) ?_
    refine xs_step (fun K HC => xr_ior HC.1 117 219 rfl rfl) ?_
    exact xs_reti 118 rfl rfl (fun K q => q) (fun ty ht => by cases ht; rfl)
  refine xs_step (fun K HC => xr_aload_n HC.1 54 97 (n := 0) (ix := 0) (j := 0) (c := 4) (x := v0) rfl rfl rfl rfl) ?_
  refine xs_bind (fun q_20 eq_20 => ?_)
  refine xs_step (fun K HC => xr_getr HC.1 55 100 4 10 13 eq_20 rfl rfl wf_Pl_18 (by decide) fb_4_10 fc_4_10 fd_4_10) ?_
  refine xs_step (fun K HC => xr_iload HC.1 56 102 (ix := 8) (j := 4) (x := v8) rfl rfl rfl) ?_
  refine xs_chk (fun hb_21 => ?_)
  refine xs_step (fun K HC => xr_iald HC.1 57 103 (hp_in_vp hb_21) rfl rfl) ?_
  refine xs_step (fun K HC => xr_iload HC.1 58 105 (ix := 4) (j := 1) (x := v4) rfl rfl rfl) ?_
  refine xs_ite (fun K HC a b => xr_icmp_ne HC.1 59 206 108 rfl (by decide) rfl b a) ?_ ?_
  · refine xs_step (fun K HC => xr_aload_n HC.1 60 109 (n := 0) (ix := 0) (j := 0) (c := 4) (x := v0) rfl rfl rfl rfl) ?_
    refine xs_step (fun K HC => xr_iload HC.1 61 111 (ix := 8) (j := 4) (x := v8) rfl rfl rfl) ?_
    refine xs_step (fun K HC => xr_iconst HC.1 62 112 (n := (0)) (0 : Int32) rfl rfl rfl) ?_
    refine xs_calli (s_Pl_valueOf v0 v8 (0 : Int32) h) (fun K HC x9 hM hmo hb => xr_callV HC.1 63 115 (av := [av_I v8, av_I (0 : Int32)]) (st := []) (hM (kg K) (cx_l (kx K))) hmo hb rfl rfl wm_Pl_111 wi_Pl_valueOf ws_Pl_valueOf wc_Pl_valueOf rfl wh_Pl_valueOf (by decide) (by decide) (by decide) (Nat.le_of_ble_eq_true rfl) rfl) (fun x_22 => ?_)
    refine xs_ite (fun K HC => xr_if_eq HC.1 64 206 118 rfl (by decide) rfl) ?_ ?_
    · exact t_Pl_outcome_206 v0 v4 v6 v7 v8 x_22.2
    refine xs_step (fun K HC => xr_sub (lv' := [(0, av_R 4 (some v0)), (6, av_I v6), (7, av_I v7), (8, av_I v8)]) [0, 2, 3, 4] rfl) ?_
    exact xs_map (fun _ => rfl) (fun _ _ q => q) (t_Pl_outcome_118 v0 v6 v7 v8 x_22.2)
  exact t_Pl_outcome_206 v0 v4 v6 v7 v8 h
theorem t_Pl_outcome_87 (v0 : Nat) (v4 : Int32) (v6 : Int32) (v7 : Int32) (v8 : Int32) (h : HP) : xx_S (xx_D "LampYard$Plan" tb_Pl_outcome 11 3 (some .int) false) xz_i (fun K => xL_i K) 87 [(0, av_R 4 (some v0)), (4, av_I v4), (6, av_I v6), (7, av_I v7), (8, av_I v8)] [] h (f_Pl_outcome_87 v0 v4 v6 v7 v8 h) :=
  xs_loop (zf := xz_i) (L := (fun K => xL_i K)) (fun s : (Int32 × HP) => [(0, av_R 4 (some v0)), (4, av_I v4), (6, av_I v6), (7, av_I v7), (8, av_I s.1)]) (fun s : (Int32 × HP) => s.2) (fun s => t_Pl_outcome_87b v0 v4 v6 v7 s.1 s.2) (v8, h)
set_option maxHeartbeats 4000000 in
set_option maxRecDepth 100000 in
theorem t_Pl_outcome_30 (v0 : Nat) (v1 : Int64) (v3 : Int32) (v4 : Int32) (v5 : Int32) (s0 : Int32) (h : HP) : xx_S (xx_D "LampYard$Plan" tb_Pl_outcome 11 3 (some .int) false) xz_i (fun K => xL_i K) 30 [(0, av_R 4 (some v0)), (1, av_L v1), (3, av_I v3), (4, av_I v4), (5, av_I v5)] [av_I s0] h (f_Pl_outcome_30 v0 v1 v3 v4 v5 s0 h) := by
  unfold f_Pl_outcome_30
  refine xs_step (fun K HC => xr_istore HC.1 15 32 (ix := 6) (lv' := [(0, av_R 4 (some v0)), (1, av_L v1), (3, av_I v3), (4, av_I v4), (5, av_I v5), (6, av_I s0)]) rfl rfl (by decide) rfl) ?_
  refine xs_step (fun K HC => xr_lload_n HC.1 16 33 (n := 1) (ix := 1) (j := 1) (x := v1) rfl rfl rfl rfl) ?_
  refine xs_step (fun K HC => xr_iload_n HC.1 17 34 (n := 3) (ix := 3) (j := 2) (x := v3) rfl rfl rfl rfl) ?_
  refine xs_calli (s_St_heldBy v1 v3 h) (fun K HC x9 hM hmo hb => xr_callS HC.1 18 37 (av := [av_L v1, av_I v3]) (st := []) (hM (kg K) (cx_l (kx K))) hmo hb rfl rfl wm_Pl_104 wt_St_heldBy wn_St_heldBy wc_St_heldBy wh_St_heldBy (by decide) (by decide) (Nat.le_of_ble_eq_true rfl) rfl) (fun x_3 => ?_)
  refine xs_step (fun K HC => xr_istore HC.1 19 39 (ix := 7) (lv' := [(0, av_R 4 (some v0)), (1, av_L v1), (3, av_I v3), (4, av_I v4), (5, av_I v5), (6, av_I s0), (7, av_I x_3.1)]) rfl rfl (by decide) rfl) ?_
  refine xs_step (fun K HC => xr_aload_n HC.1 20 40 (n := 0) (ix := 0) (j := 0) (c := 4) (x := v0) rfl rfl rfl rfl) ?_
  refine xs_bind (fun q_4 eq_4 => ?_)
  refine xs_step (fun K HC => xr_getr HC.1 21 43 4 15 13 eq_4 rfl rfl wf_Pl_31 (by decide) fb_4_15 fc_4_15 fd_4_15) ?_
  refine xs_step (fun K HC => xr_iconst HC.1 22 44 (n := (0)) (0 : Int32) rfl rfl rfl) ?_
  refine xs_step (fun K HC => xr_iload HC.1 23 46 (ix := 6) (j := 5) (x := s0) rfl rfl rfl) ?_
  refine xs_chk (fun hb_5 => ?_)
  refine xs_heap (hp_mo_si _ _ _ _) (fun K HC => xr_iast HC.1 24 47 (hp_in_vp hb_5) rfl rfl) (fun h_6 => ?_)
  refine xs_step (fun K HC => xr_aload_n HC.1 25 48 (n := 0) (ix := 0) (j := 0) (c := 4) (x := v0) rfl rfl rfl rfl) ?_
  refine xs_bind (fun q_7 eq_7 => ?_)
  refine xs_step (fun K HC => xr_getr HC.1 26 51 4 15 13 eq_7 rfl rfl wf_Pl_31 (by decide) fb_4_15 fc_4_15 fd_4_15) ?_
  refine xs_step (fun K HC => xr_iconst HC.1 27 52 (n := (1)) (1 : Int32) rfl rfl rfl) ?_
  refine xs_step (fun K HC => xr_iload HC.1 28 54 (ix := 7) (j := 6) (x := x_3.1) rfl rfl rfl) ?_
  refine xs_chk (fun hb_8 => ?_)
  refine xs_heap (hp_mo_si _ _ _ _) (fun K HC => xr_iast HC.1 29 55 (hp_in_vp hb_8) rfl rfl) (fun h_9 => ?_)
  refine xs_step (fun K HC => xr_aload_n HC.1 30 56 (n := 0) (ix := 0) (j := 0) (c := 4) (x := v0) rfl rfl rfl rfl) ?_
  refine xs_bind (fun q_10 eq_10 => ?_)
  refine xs_step (fun K HC => xr_getr HC.1 31 59 4 15 13 eq_10 rfl rfl wf_Pl_31 (by decide) fb_4_15 fc_4_15 fd_4_15) ?_
  refine xs_step (fun K HC => xr_iconst HC.1 32 60 (n := (2)) (2 : Int32) rfl rfl rfl) ?_
  refine xs_step (fun K HC => xr_iload HC.1 33 62 (ix := 5) (j := 4) (x := v5) rfl rfl rfl) ?_
  refine xs_chk (fun hb_11 => ?_)
  refine xs_heap (hp_mo_si _ _ _ _) (fun K HC => xr_iast HC.1 34 63 (hp_in_vp hb_11) rfl rfl) (fun h_12 => ?_)
  refine xs_step (fun K HC => xr_aload_n HC.1 35 64 (n := 0) (ix := 0) (j := 0) (c := 4) (x := v0) rfl rfl rfl rfl) ?_
  refine xs_bind (fun q_13 eq_13 => ?_)
  refine xs_step (fun K HC => xr_getr HC.1 36 67 4 15 13 eq_13 rfl rfl wf_Pl_31 (by decide) fb_4_15 fc_4_15 fd_4_15) ?_
  refine xs_step (fun K HC => xr_iconst HC.1 37 68 (n := (3)) (3 : Int32) rfl rfl rfl) ?_
  refine xs_step (fun K HC => xr_lload_n HC.1 38 69 (n := 1) (ix := 1) (j := 1) (x := v1) rfl rfl rfl rfl) ?_
  refine xs_step (fun K HC => xr_iload_n HC.1 39 70 (n := 3) (ix := 3) (j := 2) (x := v3) rfl rfl rfl rfl) ?_
  refine xs_calli (s_St_visitsOf v1 v3 h_12) (fun K HC x9 hM hmo hb => xr_callS HC.1 40 73 (av := [av_L v1, av_I v3]) (st := [av_I (3 : Int32), av_R 13 (some q_13)]) (hM (kg K) (cx_l (kx K))) hmo hb rfl rfl wm_Pl_108 wt_St_visitsOf wn_St_visitsOf wc_St_visitsOf wh_St_visitsOf (by decide) (by decide) (Nat.le_of_ble_eq_true rfl) rfl) (fun x_14 => ?_)
  refine xs_chk (fun hb_15 => ?_)
  refine xs_heap (hp_mo_si _ _ _ _) (fun K HC => xr_iast HC.1 41 74 (hp_in_vp hb_15) rfl rfl) (fun h_16 => ?_)
  refine xs_step (fun K HC => xr_aload_n HC.1 42 75 (n := 0) (ix := 0) (j := 0) (c := 4) (x := v0) rfl rfl rfl rfl) ?_
  refine xs_bind (fun q_17 eq_17 => ?_)
  refine xs_step (fun K HC => xr_getr HC.1 43 78 4 15 13 eq_17 rfl rfl wf_Pl_31 (by decide) fb_4_15 fc_4_15 fd_4_15) ?_
  refine xs_step (fun K HC => xr_iconst HC.1 44 79 (n := (4)) (4 : Int32) rfl rfl rfl) ?_
  refine xs_step (fun K HC => xr_aload_n HC.1 45 80 (n := 0) (ix := 0) (j := 0) (c := 4) (x := v0) rfl rfl rfl rfl) ?_
  refine xs_step (fun K HC => xr_geti HC.1 46 83 4 5 rfl rfl wf_Pl_56 (by decide) fb_4_5 fc_4_5) ?_
  refine xs_chk (fun hb_18 => ?_)
  refine xs_heap (hp_mo_si _ _ _ _) (fun K HC => xr_iast HC.1 47 84 (hp_in_vp hb_18) rfl rfl) (fun h_19 => ?_)
  refine xs_step (fun K HC => xr_iconst HC.1 48 85 (n := (0)) (0 : Int32) rfl rfl rfl) ?_
  refine xs_step (fun K HC => xr_istore HC.1 49 87 (ix := 8) (lv' := [(0, av_R 4 (some v0)), (1, av_L v1), (3, av_I v3), (4, av_I v4), (5, av_I v5), (6, av_I s0), (7, av_I x_3.1), (8, av_I (0 : Int32))]) rfl rfl (by decide) rfl) ?_
  refine xs_step (fun K HC => xr_sub (lv' := [(0, av_R 4 (some v0)), (4, av_I v4), (6, av_I s0), (7, av_I x_3.1), (8, av_I (0 : Int32))]) [0, 3, 5, 6, 7] rfl) ?_
  exact t_Pl_outcome_87 v0 v4 s0 x_3.1 (0 : Int32) h_19
set_option maxHeartbeats 4000000 in
set_option maxRecDepth 100000 in
theorem t_Pl_outcome (v0 : Nat) (v1 : Int64) (v3 : Int32) (h : HP) : xx_S (xx_D "LampYard$Plan" tb_Pl_outcome 11 3 (some .int) false) xz_i (fun K => xL_i K) 0 [(0, av_R 4 (some v0)), (1, av_L v1), (3, av_I v3)] [] h (f_Pl_outcome v0 v1 v3 h) := by
  unfold f_Pl_outcome
  refine xs_step (fun K HC => xr_aload_n HC.1 0 1 (n := 0) (ix := 0) (j := 0) (c := 4) (x := v0) rfl rfl rfl rfl) ?_
  refine xs_step (fun K HC => xr_iload_n HC.1 1 2 (n := 3) (ix := 3) (j := 2) (x := v3) rfl rfl rfl rfl) ?_
  refine xs_calli (s_Pl_roleOf v0 v3 h) (fun K HC x9 hM hmo hb => xr_callV HC.1 2 5 (av := [av_I v3]) (st := []) (hM (kg K) (cx_l (kx K))) hmo hb rfl rfl wm_Pl_85 wi_Pl_roleOf ws_Pl_roleOf wc_Pl_roleOf rfl wh_Pl_roleOf (by decide) (by decide) (by decide) (Nat.le_of_ble_eq_true rfl) rfl) (fun x_1 => ?_)
  refine xs_step (fun K HC => xr_istore HC.1 3 7 (ix := 4) (lv' := [(0, av_R 4 (some v0)), (1, av_L v1), (3, av_I v3), (4, av_I x_1.1)]) rfl rfl (by decide) rfl) ?_
  refine xs_step (fun K HC => xr_lload_n HC.1 4 8 (n := 1) (ix := 1) (j := 1) (x := v1) rfl rfl rfl rfl) ?_
  refine xs_calli (s_St_dayOf v1 x_1.2) (fun K HC x9 hM hmo hb => xr_callS HC.1 5 11 (av := [av_L v1]) (st := []) (hM (kg K) (cx_l (kx K))) hmo hb rfl rfl wm_Pl_97 wt_St_dayOf wn_St_dayOf wc_St_dayOf wh_St_dayOf (by decide) (by decide) (Nat.le_of_ble_eq_true rfl) rfl) (fun x_2 => ?_)
  refine xs_step (fun K HC => xr_istore HC.1 6 13 (ix := 5) (lv' := [(0, av_R 4 (some v0)), (1, av_L v1), (3, av_I v3), (4, av_I x_1.1), (5, av_I x_2.1)]) rfl rfl (by decide) rfl) ?_
  refine xs_step (fun K HC => xr_iload HC.1 7 15 (ix := 5) (j := 4) (x := x_2.1) rfl rfl rfl) ?_
  refine xs_step (fun K HC => xr_aload_n HC.1 8 16 (n := 0) (ix := 0) (j := 0) (c := 4) (x := v0) rfl rfl rfl rfl) ?_
  refine xs_step (fun K HC => xr_geti HC.1 9 19 4 2 rfl rfl wf_Pl_47 (by decide) fb_4_2 fc_4_2) ?_
  refine xs_ite (fun K HC a b => xr_icmp_ne HC.1 10 26 22 rfl (by decide) rfl b a) ?_ ?_
  · refine xs_step (fun K HC => xr_iconst HC.1 11 23 (n := (0)) (0 : Int32) rfl rfl rfl) ?_
    refine xs_step (fun K HC => xr_goto HC.1 12 30 rfl (by decide)) ?_
    exact t_Pl_outcome_30 v0 v1 v3 x_1.1 x_2.1 (0 : Int32) x_2.2
  refine xs_step (fun K HC => xr_lload_n HC.1 13 27 (n := 1) (ix := 1) (j := 1) (x := v1) rfl rfl rfl rfl) ?_
  refine xs_calli (s_St_lampsOf v1 x_2.2) (fun K HC x9 hM hmo hb => xr_callS HC.1 14 30 (av := [av_L v1]) (st := []) (hM (kg K) (cx_l (kx K))) hmo hb rfl rfl wm_Pl_101 wt_St_lampsOf wn_St_lampsOf wc_St_lampsOf wh_St_lampsOf (by decide) (by decide) (Nat.le_of_ble_eq_true rfl) rfl) (fun x_31 => ?_)
  exact t_Pl_outcome_30 v0 v1 v3 x_1.1 x_2.1 x_31.1 x_31.2
theorem s_Pl_outcome (v0 : Nat) (v1 : Int64) (v3 : Int32) (h : HP) : ∀ x, f_Pl_outcome v0 v1 v3 h = some x → hp_mo h x.2 ∧ ∀ g l, xx_M g l y_Pl_outcome prog_6_method_14_code 11 (some .int) 3 [av_R 4 (some v0), av_L v1, av_I v3] h (some (av_I x.1)) x.2 :=
  xM_i (tb := tb_Pl_outcome) (b := false) (by decide +kernel) dt_Pl_outcome (fun _ => trivial) (Nat.le_of_ble_eq_true rfl) (fun hb => by cases hb) (t_Pl_outcome v0 v1 v3 h)
def tb_St_withDay : TBL := [(0, .lload_n 0, 1), (1, .ldc2_w 13, 3), (4, .land, 1), (5, .iload_n 2, 1), (6, .i2l, 1), (7, .ldc2_w 15, 3), (10, .land, 1), (11, .iconst 2, 1), (12, .lshl, 1), (13, .lor, 1), (14, .lreturn, 1)]
theorem dt_St_withDay : ∀ q ∈ tb_St_withDay, decode prog_9_method_8_code q.1 = .ok (q.2.1, q.2.2) := by decide +kernel
set_option maxHeartbeats 4000000 in
set_option maxRecDepth 100000 in
theorem t_St_withDay (v0 : Int64) (v2 : Int32) (h : HP) : xx_S (xx_D "LampYard$State" tb_St_withDay 3 1 (some .long) false) xz_l (fun K => xL_l K) 0 [(0, av_L v0), (2, av_I v2)] [] h (f_St_withDay v0 v2 h) := by
  unfold f_St_withDay
  refine xs_step (fun K HC => xr_lload_n HC.1 0 1 (n := 0) (ix := 0) (j := 0) (x := v0) rfl rfl rfl rfl) ?_
  refine xs_step (fun K HC => xr_ldc2 HC.1 1 4 wk_St_13 rfl rfl) ?_
  refine xs_step (fun K HC => xr_land HC.1 2 5 rfl rfl) ?_
  refine xs_step (fun K HC => xr_iload_n HC.1 3 6 (n := 2) (ix := 2) (j := 1) (x := v2) rfl rfl rfl rfl) ?_
  refine xs_step (fun K HC => xr_i2l HC.1 4 7 rfl rfl) ?_
  refine xs_step (fun K HC => xr_ldc2 HC.1 5 10 wk_St_15 rfl rfl) ?_
  refine xs_step (fun K HC => xr_land HC.1 6 11 rfl rfl) ?_
  refine xs_step (fun K HC => xr_iconst HC.1 7 12 (n := (2)) (2 : Int32) rfl rfl rfl) ?_
  refine xs_step (fun K HC => xr_lshl HC.1 8 13 rfl rfl) ?_
  refine xs_step (fun K HC => xr_lor HC.1 9 14 rfl rfl) ?_
  exact xs_retl 10 rfl rfl (fun K q => q)
theorem s_St_withDay (v0 : Int64) (v2 : Int32) (h : HP) : ∀ x, f_St_withDay v0 v2 h = some x → hp_mo h x.2 ∧ ∀ g l, xx_M g l y_St_withDay prog_9_method_8_code 3 (some .long) 1 [av_L v0, av_I v2] h (some (av_L x.1)) x.2 :=
  xM_l (tb := tb_St_withDay) (b := false) (by decide +kernel) dt_St_withDay (fun _ => trivial) (Nat.le_of_ble_eq_true rfl) (fun hb => by cases hb) (t_St_withDay v0 v2 h)
def tb_St_withBeen : TBL := [(0, .lload_n 0, 1), (1, .lconst 1, 1), (2, .bipush 6, 2), (4, .bipush 8, 2), (6, .iload_n 2, 1), (7, .imul, 1), (8, .iadd, 1), (9, .bipush 7, 2), (11, .iadd, 1), (12, .lshl, 1), (13, .lor, 1), (14, .lreturn, 1)]
theorem dt_St_withBeen : ∀ q ∈ tb_St_withBeen, decode prog_9_method_10_code q.1 = .ok (q.2.1, q.2.2) := by decide +kernel
set_option maxHeartbeats 4000000 in
set_option maxRecDepth 100000 in
theorem t_St_withBeen (v0 : Int64) (v2 : Int32) (h : HP) : xx_S (xx_D "LampYard$State" tb_St_withBeen 3 1 (some .long) false) xz_l (fun K => xL_l K) 0 [(0, av_L v0), (2, av_I v2)] [] h (f_St_withBeen v0 v2 h) := by
  unfold f_St_withBeen
  refine xs_step (fun K HC => xr_lload_n HC.1 0 1 (n := 0) (ix := 0) (j := 0) (x := v0) rfl rfl rfl rfl) ?_
  refine xs_step (fun K HC => xr_lconst HC.1 1 2 (n := 1) (1 : Int64) rfl rfl rfl) ?_
  refine xs_step (fun K HC => xr_bipush HC.1 2 4 (n := (6)) (6 : Int32) rfl rfl rfl) ?_
  refine xs_step (fun K HC => xr_bipush HC.1 3 6 (n := (8)) (8 : Int32) rfl rfl rfl) ?_
  refine xs_step (fun K HC => xr_iload_n HC.1 4 7 (n := 2) (ix := 2) (j := 1) (x := v2) rfl rfl rfl rfl) ?_
  refine xs_step (fun K HC => xr_imul HC.1 5 8 rfl rfl) ?_
  refine xs_step (fun K HC => xr_iadd HC.1 6 9 rfl rfl) ?_
  refine xs_step (fun K HC => xr_bipush HC.1 7 11 (n := (7)) (7 : Int32) rfl rfl rfl) ?_
  refine xs_step (fun K HC => xr_iadd HC.1 8 12 rfl rfl) ?_
  refine xs_step (fun K HC => xr_lshl HC.1 9 13 rfl rfl) ?_
  refine xs_step (fun K HC => xr_lor HC.1 10 14 rfl rfl) ?_
  exact xs_retl 11 rfl rfl (fun K q => q)
theorem s_St_withBeen (v0 : Int64) (v2 : Int32) (h : HP) : ∀ x, f_St_withBeen v0 v2 h = some x → hp_mo h x.2 ∧ ∀ g l, xx_M g l y_St_withBeen prog_9_method_10_code 3 (some .long) 1 [av_L v0, av_I v2] h (some (av_L x.1)) x.2 :=
  xM_l (tb := tb_St_withBeen) (b := false) (by decide +kernel) dt_St_withBeen (fun _ => trivial) (Nat.le_of_ble_eq_true rfl) (fun hb => by cases hb) (t_St_withBeen v0 v2 h)
def tb_Pl_after : TBL := [(0, .lload_n 1, 1), (1, .invokestatic 97, 3), (4, .iconst 1, 1), (5, .iadd, 1), (6, .istore 5, 2), (8, .iconst 3, 1), (9, .lload_n 1, 1), (10, .iload_n 3, 1), (11, .invokestatic 108, 3), (14, .iconst 1, 1), (15, .iadd, 1), (16, .invokestatic 115, 3), (19, .istore 6, 2), (21, .lload_n 1, 1), (22, .iload 4, 2), (24, .iconst 3, 1), (25, .iand, 1), (26, .invokestatic 76, 3), (29, .lstore 7, 2), (31, .lload 7, 2), (33, .iload 5, 2), (35, .aload_n 0, 1), (36, .getfield 44, 3), (39, .if_icmp .ge 8, 3), (42, .iload 5, 2), (44, .goto 4, 3), (47, .iconst 0, 1), (48, .invokestatic 123, 3), (51, .lstore 7, 2), (53, .lload 7, 2), (55, .iload_n 3, 1), (56, .iload 4, 2), (58, .iconst 2, 1), (59, .ishr, 1), (60, .bipush 31, 2), (62, .iand, 1), (63, .iload 6, 2), (65, .invokestatic 89, 3), (68, .lstore 7, 2), (70, .lload 7, 2), (72, .iload_n 3, 1), (73, .invokestatic 126, 3), (76, .lreturn, 1)]
theorem dt_Pl_after : ∀ q ∈ tb_Pl_after, decode prog_6_method_15_code q.1 = .ok (q.2.1, q.2.2) := by decide +kernel
set_option maxHeartbeats 4000000 in
set_option maxRecDepth 100000 in
theorem t_Pl_after_48 (v3 : Int32) (v4 : Int32) (v6 : Int32) (s0 : Int32) (s1 : Int64) (h : HP) : xx_S (xx_D "LampYard$Plan" tb_Pl_after 9 2 (some .long) false) xz_l (fun K => xL_l K) 48 [(3, av_I v3), (4, av_I v4), (6, av_I v6)] [av_I s0, av_L s1] h (f_Pl_after_48 v3 v4 v6 s0 s1 h) := by
  unfold f_Pl_after_48
  refine xs_calll (s_St_withDay s1 s0 h) (fun K HC x9 hM hmo hb => xr_callS HC.1 27 51 (av := [av_L s1, av_I s0]) (st := []) (hM (kg K) (cx_l (kx K))) hmo hb rfl rfl wm_Pl_123 wt_St_withDay wn_St_withDay wc_St_withDay wh_St_withDay (by decide) (by decide) (Nat.le_of_ble_eq_true rfl) rfl) (fun x_6 => ?_)
  refine xs_step (fun K HC => xr_lstore HC.1 28 53 (ix := 7) (lv' := [(3, av_I v3), (4, av_I v4), (6, av_I v6), (7, av_L x_6.1)]) rfl rfl (by decide) rfl) ?_
  refine xs_step (fun K HC => xr_lload HC.1 29 55 (ix := 7) (j := 3) (x := x_6.1) rfl rfl rfl) ?_
  refine xs_step (fun K HC => xr_iload_n HC.1 30 56 (n := 3) (ix := 3) (j := 0) (x := v3) rfl rfl rfl rfl) ?_
  refine xs_step (fun K HC => xr_iload HC.1 31 58 (ix := 4) (j := 1) (x := v4) rfl rfl rfl) ?_
  refine xs_step (fun K HC => xr_iconst HC.1 32 59 (n := (2)) (2 : Int32) rfl rfl rfl) ?_
  refine xs_step (fun K HC => xr_ishr HC.1 33 60 rfl rfl) ?_
  refine xs_step (fun K HC => xr_bipush HC.1 34 62 (n := (31)) (31 : Int32) rfl rfl rfl) ?_
  refine xs_step (fun K HC => xr_iand HC.1 35 63 rfl rfl) ?_
  refine xs_step (fun K HC => xr_iload HC.1 36 65 (ix := 6) (j := 2) (x := v6) rfl rfl rfl) ?_
  refine xs_calll (s_St_withMind x_6.1 v3 ((v4 >>> ((2 : Int32) &&& 31)) &&& (31 : Int32)) v6 x_6.2) (fun K HC x9 hM hmo hb => xr_callS HC.1 37 68 (av := [av_L x_6.1, av_I v3, av_I ((v4 >>> ((2 : Int32) &&& 31)) &&& (31 : Int32)), av_I v6]) (st := []) (hM (kg K) (cx_l (kx K))) hmo hb rfl rfl wm_Pl_89 wt_St_withMind wn_St_withMind wc_St_withMind wh_St_withMind (by decide) (by decide) (Nat.le_of_ble_eq_true rfl) rfl) (fun x_7 => ?_)
  refine xs_step (fun K HC => xr_lstore HC.1 38 70 (ix := 7) (lv' := [(3, av_I v3), (4, av_I v4), (6, av_I v6), (7, av_L x_7.1)]) rfl rfl (by decide) rfl) ?_
  refine xs_step (fun K HC => xr_lload HC.1 39 72 (ix := 7) (j := 3) (x := x_7.1) rfl rfl rfl) ?_
  refine xs_step (fun K HC => xr_iload_n HC.1 40 73 (n := 3) (ix := 3) (j := 0) (x := v3) rfl rfl rfl rfl) ?_
  refine xs_calll (s_St_withBeen x_7.1 v3 x_7.2) (fun K HC x9 hM hmo hb => xr_callS HC.1 41 76 (av := [av_L x_7.1, av_I v3]) (st := []) (hM (kg K) (cx_l (kx K))) hmo hb rfl rfl wm_Pl_126 wt_St_withBeen wn_St_withBeen wc_St_withBeen wh_St_withBeen (by decide) (by decide) (Nat.le_of_ble_eq_true rfl) rfl) (fun x_8 => ?_)
  exact xs_retl 42 rfl rfl (fun K q => q)
set_option maxHeartbeats 4000000 in
set_option maxRecDepth 100000 in
theorem t_Pl_after (v0 : Nat) (v1 : Int64) (v3 : Int32) (v4 : Int32) (h : HP) : xx_S (xx_D "LampYard$Plan" tb_Pl_after 9 2 (some .long) false) xz_l (fun K => xL_l K) 0 [(0, av_R 4 (some v0)), (1, av_L v1), (3, av_I v3), (4, av_I v4)] [] h (f_Pl_after v0 v1 v3 v4 h) := by
  unfold f_Pl_after
  refine xs_step (fun K HC => xr_lload_n HC.1 0 1 (n := 1) (ix := 1) (j := 1) (x := v1) rfl rfl rfl rfl) ?_
  refine xs_calli (s_St_dayOf v1 h) (fun K HC x9 hM hmo hb => xr_callS HC.1 1 4 (av := [av_L v1]) (st := []) (hM (kg K) (cx_l (kx K))) hmo hb rfl rfl wm_Pl_97 wt_St_dayOf wn_St_dayOf wc_St_dayOf wh_St_dayOf (by decide) (by decide) (Nat.le_of_ble_eq_true rfl) rfl) (fun x_1 => ?_)
  refine xs_step (fun K HC => xr_iconst HC.1 2 5 (n := (1)) (1 : Int32) rfl rfl rfl) ?_
  refine xs_step (fun K HC => xr_iadd HC.1 3 6 rfl rfl) ?_
  refine xs_topi (fun v5_2 => ?_)
  refine xs_step (fun K HC => xr_istore HC.1 4 8 (ix := 5) (lv' := [(0, av_R 4 (some v0)), (1, av_L v1), (3, av_I v3), (4, av_I v4), (5, av_I v5_2)]) rfl rfl (by decide) rfl) ?_
  refine xs_step (fun K HC => xr_iconst HC.1 5 9 (n := (3)) (3 : Int32) rfl rfl rfl) ?_
  refine xs_step (fun K HC => xr_lload_n HC.1 6 10 (n := 1) (ix := 1) (j := 1) (x := v1) rfl rfl rfl rfl) ?_
  refine xs_step (fun K HC => xr_iload_n HC.1 7 11 (n := 3) (ix := 3) (j := 2) (x := v3) rfl rfl rfl rfl) ?_
  refine xs_calli (s_St_visitsOf v1 v3 x_1.2) (fun K HC x9 hM hmo hb => xr_callS HC.1 8 14 (av := [av_L v1, av_I v3]) (st := [av_I (3 : Int32)]) (hM (kg K) (cx_l (kx K))) hmo hb rfl rfl wm_Pl_108 wt_St_visitsOf wn_St_visitsOf wc_St_visitsOf wh_St_visitsOf (by decide) (by decide) (Nat.le_of_ble_eq_true rfl) rfl) (fun x_3 => ?_)
  refine xs_step (fun K HC => xr_iconst HC.1 9 15 (n := (1)) (1 : Int32) rfl rfl rfl) ?_
  refine xs_step (fun K HC => xr_iadd HC.1 10 16 rfl rfl) ?_
  refine xs_stepb (fun K HC hb => xr_min HC.1 11 19 hb rfl rfl wm_Pl_115 ly_mmin1 ly_m0 ly_mmin2 (by decide) (Nat.le_of_ble_eq_true rfl)) ?_
  refine xs_topi (fun v6_4 => ?_)
  refine xs_step (fun K HC => xr_istore HC.1 12 21 (ix := 6) (lv' := [(0, av_R 4 (some v0)), (1, av_L v1), (3, av_I v3), (4, av_I v4), (5, av_I v5_2), (6, av_I v6_4)]) rfl rfl (by decide) rfl) ?_
  refine xs_step (fun K HC => xr_lload_n HC.1 13 22 (n := 1) (ix := 1) (j := 1) (x := v1) rfl rfl rfl rfl) ?_
  refine xs_step (fun K HC => xr_iload HC.1 14 24 (ix := 4) (j := 3) (x := v4) rfl rfl rfl) ?_
  refine xs_step (fun K HC => xr_iconst HC.1 15 25 (n := (3)) (3 : Int32) rfl rfl rfl) ?_
  refine xs_step (fun K HC => xr_iand HC.1 16 26 rfl rfl) ?_
  refine xs_calll (s_St_withLamps v1 (v4 &&& (3 : Int32)) x_3.2) (fun K HC x9 hM hmo hb => xr_callS HC.1 17 29 (av := [av_L v1, av_I (v4 &&& (3 : Int32))]) (st := []) (hM (kg K) (cx_l (kx K))) hmo hb rfl rfl wm_Pl_76 wt_St_withLamps wn_St_withLamps wc_St_withLamps wh_St_withLamps (by decide) (by decide) (Nat.le_of_ble_eq_true rfl) rfl) (fun x_5 => ?_)
  refine xs_step (fun K HC => xr_lstore HC.1 18 31 (ix := 7) (lv' := [(0, av_R 4 (some v0)), (1, av_L v1), (3, av_I v3), (4, av_I v4), (5, av_I v5_2), (6, av_I v6_4), (7, av_L x_5.1)]) rfl rfl (by decide) rfl) ?_
  refine xs_step (fun K HC => xr_lload HC.1 19 33 (ix := 7) (j := 6) (x := x_5.1) rfl rfl rfl) ?_
  refine xs_step (fun K HC => xr_iload HC.1 20 35 (ix := 5) (j := 4) (x := v5_2) rfl rfl rfl) ?_
  refine xs_step (fun K HC => xr_aload_n HC.1 21 36 (n := 0) (ix := 0) (j := 0) (c := 4) (x := v0) rfl rfl rfl rfl) ?_
  refine xs_step (fun K HC => xr_geti HC.1 22 39 4 1 rfl rfl wf_Pl_44 (by decide) fb_4_1 fc_4_1) ?_
  refine xs_ite (fun K HC => xr_icmp_ge HC.1 23 47 42 rfl (by decide) rfl) ?_ ?_
  · refine xs_step (fun K HC => xr_iconst HC.1 26 48 (n := (0)) (0 : Int32) rfl rfl rfl) ?_
    refine xs_step (fun K HC => xr_sub (lv' := [(3, av_I v3), (4, av_I v4), (6, av_I v6_4)]) [2, 3, 5] rfl) ?_
    exact t_Pl_after_48 v3 v4 v6_4 (0 : Int32) x_5.1 x_5.2
  refine xs_step (fun K HC => xr_iload HC.1 24 44 (ix := 5) (j := 4) (x := v5_2) rfl rfl rfl) ?_
  refine xs_step (fun K HC => xr_goto HC.1 25 48 rfl (by decide)) ?_
  refine xs_step (fun K HC => xr_sub (lv' := [(3, av_I v3), (4, av_I v4), (6, av_I v6_4)]) [2, 3, 5] rfl) ?_
  exact t_Pl_after_48 v3 v4 v6_4 v5_2 x_5.1 x_5.2
theorem s_Pl_after (v0 : Nat) (v1 : Int64) (v3 : Int32) (v4 : Int32) (h : HP) : ∀ x, f_Pl_after v0 v1 v3 v4 h = some x → hp_mo h x.2 ∧ ∀ g l, xx_M g l y_Pl_after prog_6_method_15_code 9 (some .long) 2 [av_R 4 (some v0), av_L v1, av_I v3, av_I v4] h (some (av_L x.1)) x.2 :=
  xM_l (tb := tb_Pl_after) (b := false) (by decide +kernel) dt_Pl_after (fun _ => trivial) (Nat.le_of_ble_eq_true rfl) (fun hb => by cases hb) (t_Pl_after v0 v1 v3 v4 h)
def tb_St_hasBeen : TBL := [(0, .lload_n 0, 1), (1, .bipush 6, 2), (3, .bipush 8, 2), (5, .iload_n 2, 1), (6, .imul, 1), (7, .iadd, 1), (8, .bipush 7, 2), (10, .iadd, 1), (11, .lushr, 1), (12, .lconst 1, 1), (13, .land, 1), (14, .lconst 0, 1), (15, .lcmp, 1), (16, .ifCond .eq 7, 3), (19, .iconst 1, 1), (20, .goto 4, 3), (23, .iconst 0, 1), (24, .ireturn, 1)]
theorem dt_St_hasBeen : ∀ q ∈ tb_St_hasBeen, decode prog_9_method_6_code q.1 = .ok (q.2.1, q.2.2) := by decide +kernel
set_option maxHeartbeats 4000000 in
set_option maxRecDepth 100000 in
theorem t_St_hasBeen (v0 : Int64) (v2 : Int32) (h : HP) : xx_S (xx_D "LampYard$State" tb_St_hasBeen 3 1 (some .boolean) false) xz_i (fun K => xL_i K) 0 [(0, av_L v0), (2, av_I v2)] [] h (f_St_hasBeen v0 v2 h) := by
  unfold f_St_hasBeen
  refine xs_step (fun K HC => xr_lload_n HC.1 0 1 (n := 0) (ix := 0) (j := 0) (x := v0) rfl rfl rfl rfl) ?_
  refine xs_step (fun K HC => xr_bipush HC.1 1 3 (n := (6)) (6 : Int32) rfl rfl rfl) ?_
  refine xs_step (fun K HC => xr_bipush HC.1 2 5 (n := (8)) (8 : Int32) rfl rfl rfl) ?_
  refine xs_step (fun K HC => xr_iload_n HC.1 3 6 (n := 2) (ix := 2) (j := 1) (x := v2) rfl rfl rfl rfl) ?_
  refine xs_step (fun K HC => xr_imul HC.1 4 7 rfl rfl) ?_
  refine xs_step (fun K HC => xr_iadd HC.1 5 8 rfl rfl) ?_
  refine xs_step (fun K HC => xr_bipush HC.1 6 10 (n := (7)) (7 : Int32) rfl rfl rfl) ?_
  refine xs_step (fun K HC => xr_iadd HC.1 7 11 rfl rfl) ?_
  refine xs_step (fun K HC => xr_lushr HC.1 8 12 rfl rfl) ?_
  refine xs_step (fun K HC => xr_lconst HC.1 9 13 (n := 1) (1 : Int64) rfl rfl rfl) ?_
  refine xs_step (fun K HC => xr_land HC.1 10 14 rfl rfl) ?_
  refine xs_step (fun K HC => xr_lconst HC.1 11 15 (n := 0) (0 : Int64) rfl rfl rfl) ?_
  refine xs_step (fun K HC => xr_lcmp HC.1 12 16 rfl rfl) ?_
  refine xs_ite (fun K HC => xr_if_eq HC.1 13 23 19 rfl (by decide) rfl) ?_ ?_
  · refine xs_step (fun K HC => xr_iconst HC.1 16 24 (n := (0)) (0 : Int32) rfl rfl rfl) ?_
    exact xs_reti 17 rfl rfl (fun K q => q) (fun ty ht => by cases ht; rfl)
  refine xs_step (fun K HC => xr_iconst HC.1 14 20 (n := (1)) (1 : Int32) rfl rfl rfl) ?_
  refine xs_step (fun K HC => xr_goto HC.1 15 24 rfl (by decide)) ?_
  exact xs_reti 17 rfl rfl (fun K q => q) (fun ty ht => by cases ht; rfl)
theorem s_St_hasBeen (v0 : Int64) (v2 : Int32) (h : HP) : ∀ x, f_St_hasBeen v0 v2 h = some x → hp_mo h x.2 ∧ ∀ g l, xx_M g l y_St_hasBeen prog_9_method_6_code 3 (some .boolean) 1 [av_L v0, av_I v2] h (some (av_I x.1)) x.2 :=
  xM_i (tb := tb_St_hasBeen) (b := false) (by decide +kernel) dt_St_hasBeen (fun _ => trivial) (Nat.le_of_ble_eq_true rfl) (fun hb => by cases hb) (t_St_hasBeen v0 v2 h)
def tb_Pl_haveAllBeen : TBL := [(0, .iconst 1, 1), (1, .istore_n 3, 1), (2, .iconst 0, 1), (3, .istore 4, 2), (5, .iload 4, 2), (7, .aload_n 0, 1), (8, .getfield 56, 3), (11, .if_icmp .ge 20, 3), (14, .iload_n 3, 1), (15, .ifCond .eq 16, 3), (18, .lload_n 1, 1), (19, .iload 4, 2), (21, .invokestatic 93, 3), (24, .istore_n 3, 1), (25, .iinc 4 1, 3), (28, .goto (-23), 3), (31, .iload_n 3, 1), (32, .ireturn, 1)]
theorem dt_Pl_haveAllBeen : ∀ q ∈ tb_Pl_haveAllBeen, decode prog_6_method_13_code q.1 = .ok (q.2.1, q.2.2) := by decide +kernel
set_option maxHeartbeats 4000000 in
set_option maxRecDepth 100000 in
theorem t_Pl_haveAllBeen_5b (v0 : Nat) (v1 : Int64) (v3 : Int32) (v4 : Int32) (h : HP) : xx_S (xx_D "LampYard$Plan" tb_Pl_haveAllBeen 5 2 (some .boolean) false) (xx_z2 (fun s : (Int32 × Int32 × HP) => s.2.2) xz_i) (fun K => xx_L2 (fun s : (Int32 × Int32 × HP) => xx_X K 5 [(0, av_R 4 (some v0)), (1, av_L v1), (3, av_I s.1), (4, av_I s.2.1)] [] (s.2.2)) (xL_i K)) 5 [(0, av_R 4 (some v0)), (1, av_L v1), (3, av_I v3), (4, av_I v4)] [] h (f_Pl_haveAllBeen_5b v0 v1 v3 v4 h) := by
  unfold f_Pl_haveAllBeen_5b
  refine xs_step (fun K HC => xr_iload HC.1 4 7 (ix := 4) (j := 3) (x := v4) rfl rfl rfl) ?_
  refine xs_step (fun K HC => xr_aload_n HC.1 5 8 (n := 0) (ix := 0) (j := 0) (c := 4) (x := v0) rfl rfl rfl rfl) ?_
  refine xs_step (fun K HC => xr_geti HC.1 6 11 4 5 rfl rfl wf_Pl_56 (by decide) fb_4_5 fc_4_5) ?_
  refine xs_ite (fun K HC => xr_icmp_ge HC.1 7 31 14 rfl (by decide) rfl) ?_ ?_
  · refine xs_step (fun K HC => xr_iload_n HC.1 16 32 (n := 3) (ix := 3) (j := 2) (x := v3) rfl rfl rfl rfl) ?_
    refine xs_chk (fun hz_1 => ?_)
    exact xs_reti 17 rfl rfl (fun K q => q) (fun ty ht => by cases ht; rcases hp_z01_or hz_1 with e9 | e9 <;> rw [e9] <;> rfl)
  refine xs_step (fun K HC => xr_iload_n HC.1 8 15 (n := 3) (ix := 3) (j := 2) (x := v3) rfl rfl rfl rfl) ?_
  refine xs_ite (fun K HC => xr_if_eq HC.1 9 31 18 rfl (by decide) rfl) ?_ ?_
  · refine xs_step (fun K HC => xr_iload_n HC.1 16 32 (n := 3) (ix := 3) (j := 2) (x := v3) rfl rfl rfl rfl) ?_
    refine xs_chk (fun hz_2 => ?_)
    exact xs_reti 17 rfl rfl (fun K q => q) (fun ty ht => by cases ht; rcases hp_z01_or hz_2 with e9 | e9 <;> rw [e9] <;> rfl)
  refine xs_step (fun K HC => xr_lload_n HC.1 10 19 (n := 1) (ix := 1) (j := 1) (x := v1) rfl rfl rfl rfl) ?_
  refine xs_step (fun K HC => xr_iload HC.1 11 21 (ix := 4) (j := 3) (x := v4) rfl rfl rfl) ?_
  refine xs_calli (s_St_hasBeen v1 v4 h) (fun K HC x9 hM hmo hb => xr_callS HC.1 12 24 (av := [av_L v1, av_I v4]) (st := []) (hM (kg K) (cx_l (kx K))) hmo hb rfl rfl wm_Pl_93 wt_St_hasBeen wn_St_hasBeen wc_St_hasBeen wh_St_hasBeen (by decide) (by decide) (Nat.le_of_ble_eq_true rfl) rfl) (fun x_3 => ?_)
  refine xs_step (fun K HC => xr_istore_n HC.1 13 25 (n := 3) (ix := 3) (lv' := [(0, av_R 4 (some v0)), (1, av_L v1), (3, av_I x_3.1), (4, av_I v4)]) rfl rfl rfl (by decide) rfl) ?_
  refine xs_gen (fun v4_4 ev4_4 => ?_)
  refine xs_step (fun K HC => xr_iinc HC.1 14 28 (ix := 4) (j := 3) (n := (1)) (x := v4) v4_4 (lv' := [(0, av_R 4 (some v0)), (1, av_L v1), (3, av_I x_3.1), (4, av_I v4_4)]) rfl (by rw [ev4_4]; rfl) rfl rfl (by decide) rfl) ?_
  refine xs_step (fun K HC => xr_goto HC.1 15 5 rfl (by decide)) ?_
  exact xs_back rfl (fun K q => q)
theorem t_Pl_haveAllBeen_5 (v0 : Nat) (v1 : Int64) (v3 : Int32) (v4 : Int32) (h : HP) : xx_S (xx_D "LampYard$Plan" tb_Pl_haveAllBeen 5 2 (some .boolean) false) xz_i (fun K => xL_i K) 5 [(0, av_R 4 (some v0)), (1, av_L v1), (3, av_I v3), (4, av_I v4)] [] h (f_Pl_haveAllBeen_5 v0 v1 v3 v4 h) :=
  xs_loop (zf := xz_i) (L := (fun K => xL_i K)) (fun s : (Int32 × Int32 × HP) => [(0, av_R 4 (some v0)), (1, av_L v1), (3, av_I s.1), (4, av_I s.2.1)]) (fun s : (Int32 × Int32 × HP) => s.2.2) (fun s => t_Pl_haveAllBeen_5b v0 v1 s.1 s.2.1 s.2.2) (v3, v4, h)
set_option maxHeartbeats 4000000 in
set_option maxRecDepth 100000 in
theorem t_Pl_haveAllBeen (v0 : Nat) (v1 : Int64) (h : HP) : xx_S (xx_D "LampYard$Plan" tb_Pl_haveAllBeen 5 2 (some .boolean) false) xz_i (fun K => xL_i K) 0 [(0, av_R 4 (some v0)), (1, av_L v1)] [] h (f_Pl_haveAllBeen v0 v1 h) := by
  unfold f_Pl_haveAllBeen
  refine xs_step (fun K HC => xr_iconst HC.1 0 1 (n := (1)) (1 : Int32) rfl rfl rfl) ?_
  refine xs_step (fun K HC => xr_istore_n HC.1 1 2 (n := 3) (ix := 3) (lv' := [(0, av_R 4 (some v0)), (1, av_L v1), (3, av_I (1 : Int32))]) rfl rfl rfl (by decide) rfl) ?_
  refine xs_step (fun K HC => xr_iconst HC.1 2 3 (n := (0)) (0 : Int32) rfl rfl rfl) ?_
  refine xs_step (fun K HC => xr_istore HC.1 3 5 (ix := 4) (lv' := [(0, av_R 4 (some v0)), (1, av_L v1), (3, av_I (1 : Int32)), (4, av_I (0 : Int32))]) rfl rfl (by decide) rfl) ?_
  exact t_Pl_haveAllBeen_5 v0 v1 (1 : Int32) (0 : Int32) h
theorem s_Pl_haveAllBeen (v0 : Nat) (v1 : Int64) (h : HP) : ∀ x, f_Pl_haveAllBeen v0 v1 h = some x → hp_mo h x.2 ∧ ∀ g l, xx_M g l y_Pl_haveAllBeen prog_6_method_13_code 5 (some .boolean) 2 [av_R 4 (some v0), av_L v1] h (some (av_I x.1)) x.2 :=
  xM_i (tb := tb_Pl_haveAllBeen) (b := false) (by decide +kernel) dt_Pl_haveAllBeen (fun _ => trivial) (Nat.le_of_ble_eq_true rfl) (fun hb => by cases hb) (t_Pl_haveAllBeen v0 v1 h)
