def tb_M_rank : TBL := [(0, .iload_n 0, 1), (1, .bipush 27, 2), (3, .if_icmp .ne 8, 3), (6, .bipush 26, 2), (8, .goto 21, 3), (11, .iload_n 0, 1), (12, .bipush 24, 2), (14, .if_icmp .eq 9, 3), (17, .iload_n 0, 1), (18, .bipush 25, 2), (20, .if_icmp .ne 8, 3), (23, .bipush 23, 2), (25, .goto 4, 3), (28, .iload_n 0, 1), (29, .ireturn, 1)]
theorem dt_M_rank : ∀ q ∈ tb_M_rank, decode prog_14_method_22_code q.1 = .ok (q.2.1, q.2.2) := by decide +kernel
set_option maxHeartbeats 4000000 in
set_option maxRecDepth 100000 in
theorem t_M_rank (v0 : Int32) (h : HP) : xx_S (xx_D "LampYardModel" tb_M_rank 1 1 (some .int) false) xz_i (fun K => xL_i K) 0 [(0, av_I v0)] [] h (f_M_rank v0 h) := by
  unfold f_M_rank
  refine xs_step (fun K HC => xr_iload_n HC.1 0 1 (n := 0) (ix := 0) (j := 0) (x := v0) rfl rfl rfl rfl) ?_
  refine xs_step (fun K HC => xr_bipush HC.1 1 3 (n := (27)) (27 : Int32) rfl rfl rfl) ?_
  refine xs_ite (fun K HC a b => xr_icmp_ne HC.1 2 11 6 rfl (by decide) rfl b a) ?_ ?_
  · refine xs_step (fun K HC => xr_bipush HC.1 3 8 (n := (26)) (26 : Int32) rfl rfl rfl) ?_
    refine xs_step (fun K HC => xr_goto HC.1 4 29 rfl (by decide)) ?_
    exact xs_reti 14 rfl rfl (fun K q => q) (fun ty ht => by cases ht; rfl)
  refine xs_step (fun K HC => xr_iload_n HC.1 5 12 (n := 0) (ix := 0) (j := 0) (x := v0) rfl rfl rfl rfl) ?_
  refine xs_step (fun K HC => xr_bipush HC.1 6 14 (n := (24)) (24 : Int32) rfl rfl rfl) ?_
  refine xs_ite (fun K HC => xr_icmp_eq HC.1 7 23 17 rfl (by decide) rfl) ?_ ?_
  · refine xs_step (fun K HC => xr_bipush HC.1 11 25 (n := (23)) (23 : Int32) rfl rfl rfl) ?_
    refine xs_step (fun K HC => xr_goto HC.1 12 29 rfl (by decide)) ?_
    exact xs_reti 14 rfl rfl (fun K q => q) (fun ty ht => by cases ht; rfl)
  refine xs_step (fun K HC => xr_iload_n HC.1 8 18 (n := 0) (ix := 0) (j := 0) (x := v0) rfl rfl rfl rfl) ?_
  refine xs_step (fun K HC => xr_bipush HC.1 9 20 (n := (25)) (25 : Int32) rfl rfl rfl) ?_
  refine xs_ite (fun K HC a b => xr_icmp_ne HC.1 10 28 23 rfl (by decide) rfl b a) ?_ ?_
  · refine xs_step (fun K HC => xr_bipush HC.1 11 25 (n := (23)) (23 : Int32) rfl rfl rfl) ?_
    refine xs_step (fun K HC => xr_goto HC.1 12 29 rfl (by decide)) ?_
    exact xs_reti 14 rfl rfl (fun K q => q) (fun ty ht => by cases ht; rfl)
  refine xs_step (fun K HC => xr_iload_n HC.1 13 29 (n := 0) (ix := 0) (j := 0) (x := v0) rfl rfl rfl rfl) ?_
  exact xs_reti 14 rfl rfl (fun K q => q) (fun ty ht => by cases ht; rfl)
theorem s_M_rank (v0 : Int32) (h : HP) : ∀ x, f_M_rank v0 h = some x → hp_mo h x.2 ∧ ∀ g l, xx_M g l y_M_rank prog_14_method_22_code 1 (some .int) 1 [av_I v0] h (some (av_I x.1)) x.2 :=
  xM_i (tb := tb_M_rank) (b := false) (by decide +kernel) dt_M_rank (fun _ => trivial) (Nat.le_of_ble_eq_true rfl) (fun hb => by cases hb) (t_M_rank v0 h)
def tb_M_known : TBL := [(0, .aload_n 0, 1), (1, .ldc2_w 230, 3), (4, .invokevirtual 270, 3), (7, .ifCond .eq 7, 3), (10, .iconst 1, 1), (11, .goto 60, 3), (14, .aload_n 0, 1), (15, .ldc2_w 248, 3), (18, .invokevirtual 270, 3), (21, .ifCond .eq 7, 3), (24, .iconst 2, 1), (25, .goto 46, 3), (28, .aload_n 0, 1), (29, .ldc2_w 260, 3), (32, .invokevirtual 270, 3), (35, .ifCond .eq 7, 3), (38, .iconst 3, 1), (39, .goto 32, 3), (42, .aload_n 0, 1), (43, .ldc2_w 262, 3), (46, .invokevirtual 270, 3), (49, .ifCond .eq 7, 3), (52, .iconst 4, 1), (53, .goto 18, 3), (56, .aload_n 0, 1), (57, .ldc2_w 246, 3), (60, .invokevirtual 270, 3), (63, .ifCond .eq 7, 3), (66, .iconst 5, 1), (67, .goto 4, 3), (70, .iconst (-1), 1), (71, .ireturn, 1)]
theorem dt_M_known : ∀ q ∈ tb_M_known, decode prog_14_method_23_code q.1 = .ok (q.2.1, q.2.2) := by decide +kernel
set_option maxHeartbeats 4000000 in
set_option maxRecDepth 100000 in
theorem t_M_known (v0 : Nat) (h : HP) : xx_S (xx_D "LampYardModel" tb_M_known 1 2 (some .int) false) xz_i (fun K => xL_i K) 0 [(0, av_R 11 (some v0))] [] h (f_M_known v0 h) := by
  unfold f_M_known
  refine xs_step (fun K HC => xr_aload_n HC.1 0 1 (n := 0) (ix := 0) (j := 0) (c := 11) (x := v0) rfl rfl rfl rfl) ?_
  refine xs_step (fun K HC => xr_ldc2 HC.1 1 4 wk_M_230 rfl rfl) ?_
  refine xs_calli (s_M_isWord v0 (465491030131 : Int64) h) (fun K HC x9 hM hmo hb => xr_callV HC.1 2 7 (av := [av_L (465491030131 : Int64)]) (st := []) (hM (kg K) (cx_l (kx K))) hmo hb rfl rfl wm_M_270 wi_M_isWord ws_M_isWord wc_M_isWord rfl wh_M_isWord (by decide) (by decide) (by decide) (Nat.le_of_ble_eq_true rfl) rfl) (fun x_1 => ?_)
  refine xs_ite (fun K HC => xr_if_eq HC.1 3 14 10 rfl (by decide) rfl) ?_ ?_
  · refine xs_step (fun K HC => xr_aload_n HC.1 6 15 (n := 0) (ix := 0) (j := 0) (c := 11) (x := v0) rfl rfl rfl rfl) ?_
    refine xs_step (fun K HC => xr_ldc2 HC.1 7 18 wk_M_248 rfl rfl) ?_
    refine xs_calli (s_M_isWord v0 (448545973363 : Int64) x_1.2) (fun K HC x9 hM hmo hb => xr_callV HC.1 8 21 (av := [av_L (448545973363 : Int64)]) (st := []) (hM (kg K) (cx_l (kx K))) hmo hb rfl rfl wm_M_270 wi_M_isWord ws_M_isWord wc_M_isWord rfl wh_M_isWord (by decide) (by decide) (by decide) (Nat.le_of_ble_eq_true rfl) rfl) (fun x_2 => ?_)
    refine xs_ite (fun K HC => xr_if_eq HC.1 9 28 24 rfl (by decide) rfl) ?_ ?_
    · refine xs_step (fun K HC => xr_aload_n HC.1 12 29 (n := 0) (ix := 0) (j := 0) (c := 11) (x := v0) rfl rfl rfl rfl) ?_
      refine xs_step (fun K HC => xr_ldc2 HC.1 13 32 wk_M_260 rfl rfl) ?_
      refine xs_calli (s_M_isWord v0 (6578553 : Int64) x_2.2) (fun K HC x9 hM hmo hb => xr_callV HC.1 14 35 (av := [av_L (6578553 : Int64)]) (st := []) (hM (kg K) (cx_l (kx K))) hmo hb rfl rfl wm_M_270 wi_M_isWord ws_M_isWord wc_M_isWord rfl wh_M_isWord (by decide) (by decide) (by decide) (Nat.le_of_ble_eq_true rfl) rfl) (fun x_3 => ?_)
      refine xs_ite (fun K HC => xr_if_eq HC.1 15 42 38 rfl (by decide) rfl) ?_ ?_
      · refine xs_step (fun K HC => xr_aload_n HC.1 18 43 (n := 0) (ix := 0) (j := 0) (c := 11) (x := v0) rfl rfl rfl rfl) ?_
        refine xs_step (fun K HC => xr_ldc2 HC.1 19 46 wk_M_262 rfl rfl) ?_
        refine xs_calli (s_M_isWord v0 (130195279934579 : Int64) x_3.2) (fun K HC x9 hM hmo hb => xr_callV HC.1 20 49 (av := [av_L (130195279934579 : Int64)]) (st := []) (hM (kg K) (cx_l (kx K))) hmo hb rfl rfl wm_M_270 wi_M_isWord ws_M_isWord wc_M_isWord rfl wh_M_isWord (by decide) (by decide) (by decide) (Nat.le_of_ble_eq_true rfl) rfl) (fun x_4 => ?_)
        refine xs_ite (fun K HC => xr_if_eq HC.1 21 56 52 rfl (by decide) rfl) ?_ ?_
        · refine xs_step (fun K HC => xr_aload_n HC.1 24 57 (n := 0) (ix := 0) (j := 0) (c := 11) (x := v0) rfl rfl rfl rfl) ?_
          refine xs_step (fun K HC => xr_ldc2 HC.1 25 60 wk_M_246 rfl rfl) ?_
          refine xs_calli (s_M_isWord v0 (7169390 : Int64) x_4.2) (fun K HC x9 hM hmo hb => xr_callV HC.1 26 63 (av := [av_L (7169390 : Int64)]) (st := []) (hM (kg K) (cx_l (kx K))) hmo hb rfl rfl wm_M_270 wi_M_isWord ws_M_isWord wc_M_isWord rfl wh_M_isWord (by decide) (by decide) (by decide) (Nat.le_of_ble_eq_true rfl) rfl) (fun x_5 => ?_)
          refine xs_ite (fun K HC => xr_if_eq HC.1 27 70 66 rfl (by decide) rfl) ?_ ?_
          · refine xs_step (fun K HC => xr_iconst HC.1 30 71 (n := (-1)) (-1 : Int32) rfl rfl rfl) ?_
            exact xs_reti 31 rfl rfl (fun K q => q) (fun ty ht => by cases ht; rfl)
          refine xs_step (fun K HC => xr_iconst HC.1 28 67 (n := (5)) (5 : Int32) rfl rfl rfl) ?_
          refine xs_step (fun K HC => xr_goto HC.1 29 71 rfl (by decide)) ?_
          exact xs_reti 31 rfl rfl (fun K q => q) (fun ty ht => by cases ht; rfl)
        refine xs_step (fun K HC => xr_iconst HC.1 22 53 (n := (4)) (4 : Int32) rfl rfl rfl) ?_
        refine xs_step (fun K HC => xr_goto HC.1 23 71 rfl (by decide)) ?_
        exact xs_reti 31 rfl rfl (fun K q => q) (fun ty ht => by cases ht; rfl)
      refine xs_step (fun K HC => xr_iconst HC.1 16 39 (n := (3)) (3 : Int32) rfl rfl rfl) ?_
      refine xs_step (fun K HC => xr_goto HC.1 17 71 rfl (by decide)) ?_
      exact xs_reti 31 rfl rfl (fun K q => q) (fun ty ht => by cases ht; rfl)
    refine xs_step (fun K HC => xr_iconst HC.1 10 25 (n := (2)) (2 : Int32) rfl rfl rfl) ?_
    refine xs_step (fun K HC => xr_goto HC.1 11 71 rfl (by decide)) ?_
    exact xs_reti 31 rfl rfl (fun K q => q) (fun ty ht => by cases ht; rfl)
  refine xs_step (fun K HC => xr_iconst HC.1 4 11 (n := (1)) (1 : Int32) rfl rfl rfl) ?_
  refine xs_step (fun K HC => xr_goto HC.1 5 71 rfl (by decide)) ?_
  exact xs_reti 31 rfl rfl (fun K q => q) (fun ty ht => by cases ht; rfl)
theorem s_M_known (v0 : Nat) (h : HP) : ∀ x, f_M_known v0 h = some x → hp_mo h x.2 ∧ ∀ g l, xx_M g l y_M_known prog_14_method_23_code 1 (some .int) 2 [av_R 11 (some v0)] h (some (av_I x.1)) x.2 :=
  xM_i (tb := tb_M_known) (b := false) (by decide +kernel) dt_M_known (fun _ => trivial) (Nat.le_of_ble_eq_true rfl) (fun hb => by cases hb) (t_M_known v0 h)
def tb_M_operand : TBL := [(0, .iload_n 1, 1), (1, .ifCond .ne 17, 3), (4, .aload_n 0, 1), (5, .ldc2_w 268, 3), (8, .invokevirtual 270, 3), (11, .ifCond .eq 7, 3), (14, .iconst 1, 1), (15, .goto 4, 3), (18, .iconst 0, 1), (19, .istore_n 2, 1), (20, .aload_n 0, 1), (21, .invokevirtual 308, 3), (24, .istore_n 3, 1), (25, .aload_n 0, 1), (26, .getfield 214, 3), (29, .iconst 2, 1), (30, .if_icmp .eq 16, 3), (33, .aload_n 0, 1), (34, .getfield 214, 3), (37, .bipush 40, 2), (39, .if_icmp .eq 7, 3), (42, .iload_n 3, 1), (43, .ifCond .lt 7, 3), (46, .iconst 1, 1), (47, .goto 4, 3), (50, .iconst 0, 1), (51, .istore 4, 2), (53, .iload_n 2, 1), (54, .ifCond .ne 8, 3), (57, .iload 4, 2), (59, .ifCond .eq 39, 3), (62, .iload 4, 2), (64, .ifCond .eq 12, 3), (67, .aload_n 0, 1), (68, .getfield 311, 3), (71, .bipush 60, 2), (73, .if_icmp .eq 25, 3), (76, .iload_n 2, 1), (77, .ifCond .ne 12, 3), (80, .aload_n 0, 1), (81, .getfield 214, 3), (84, .bipush 40, 2), (86, .if_icmp .ne 17, 3), (89, .aload_n 0, 1), (90, .getfield 294, 3), (93, .bipush 7, 2), (95, .if_icmp .lt 8, 3), (98, .aload_n 0, 1), (99, .iconst 2, 1), (100, .invokevirtual 274, 3), (103, .aload_n 0, 1), (104, .getfield 227, 3), (107, .ifCond .le 5, 3), (110, .iload_n 1, 1), (111, .ireturn, 1), (112, .iload_n 2, 1), (113, .ifCond .eq 15, 3), (116, .aload_n 0, 1), (117, .bipush 22, 2), (119, .invokevirtual 314, 3), (122, .aload_n 0, 1), (123, .invokevirtual 277, 3), (126, .iconst 0, 1), (127, .ireturn, 1), (128, .aload_n 0, 1), (129, .dup, 1), (130, .getfield 311, 3), (133, .iconst 1, 1), (134, .iadd, 1), (135, .putfield 311, 3), (138, .aload_n 0, 1), (139, .getfield 214, 3), (142, .bipush 40, 2), (144, .if_icmp .ne 15, 3), (147, .aload_n 0, 1), (148, .bipush 30, 2), (150, .invokevirtual 314, 3), (153, .aload_n 0, 1), (154, .invokevirtual 277, 3), (157, .iconst 0, 1), (158, .ireturn, 1), (159, .aload_n 0, 1), (160, .iload_n 3, 1), (161, .ifCond .ge 7, 3), (164, .iconst 0, 1), (165, .goto 4, 3), (168, .iload_n 3, 1), (169, .aload_n 0, 1), (170, .getfield 211, 3), (173, .invokevirtual 297, 3), (176, .aload_n 0, 1), (177, .invokevirtual 277, 3), (180, .iconst 2, 1), (181, .ireturn, 1)]
theorem dt_M_operand : ∀ q ∈ tb_M_operand, decode prog_14_method_24_code q.1 = .ok (q.2.1, q.2.2) := by decide +kernel
set_option maxHeartbeats 4000000 in
set_option maxRecDepth 100000 in
theorem t_M_operand_169 (v0 : Nat) (s0 : Int32) (s1 : Nat) (h : HP) : xx_S (xx_D "LampYardModel" tb_M_operand 5 3 (some .int) false) xz_i (fun K => xL_i K) 169 [(0, av_R 11 (some v0))] [av_I s0, av_R 11 (some s1)] h (f_M_operand_169 v0 s0 s1 h) := by
  unfold f_M_operand_169
  refine xs_step (fun K HC => xr_aload_n HC.1 87 170 (n := 0) (ix := 0) (j := 0) (c := 11) (x := v0) rfl rfl rfl rfl) ?_
  refine xs_step (fun K HC => xr_geti HC.1 88 173 11 8 rfl rfl wf_M_211 (by decide) fb_11_8 fc_11_8) ?_
  refine xs_callv (s_M_note s1 s0 (hp_i h v0 8) h) (fun K HC x9 hM hmo hb => xr_callV HC.1 89 176 (av := [av_I s0, av_I (hp_i h v0 8)]) (st := []) (hM (kg K) (cx_l (kx K))) hmo hb rfl rfl wm_M_297 wi_M_note ws_M_note wc_M_note rfl wh_M_note (by decide) (by decide) (by decide) (Nat.le_of_ble_eq_true rfl) rfl) (fun x_7 => ?_)
  refine xs_step (fun K HC => xr_aload_n HC.1 90 177 (n := 0) (ix := 0) (j := 0) (c := 11) (x := v0) rfl rfl rfl rfl) ?_
  refine xs_callv (s_M_token v0 x_7) (fun K HC x9 hM hmo hb => xr_callV HC.1 91 180 (av := []) (st := []) (hM (kg K) (cx_l (kx K))) hmo hb rfl rfl wm_M_277 wi_M_token ws_M_token wc_M_token rfl wh_M_token (by decide) (by decide) (by decide) (Nat.le_of_ble_eq_true rfl) rfl) (fun x_8 => ?_)
  refine xs_step (fun K HC => xr_iconst HC.1 92 181 (n := (2)) (2 : Int32) rfl rfl rfl) ?_
  exact xs_reti 93 rfl rfl (fun K q => q) (fun ty ht => by cases ht; rfl)
set_option maxHeartbeats 4000000 in
set_option maxRecDepth 100000 in
theorem t_M_operand_103 (v0 : Nat) (v1 : Int32) (v2 : Int32) (v3 : Int32) (h : HP) : xx_S (xx_D "LampYardModel" tb_M_operand 5 3 (some .int) false) xz_i (fun K => xL_i K) 103 [(0, av_R 11 (some v0)), (1, av_I v1), (2, av_I v2), (3, av_I v3)] [] h (f_M_operand_103 v0 v1 v2 v3 h) := by
  unfold f_M_operand_103
  refine xs_step (fun K HC => xr_aload_n HC.1 50 104 (n := 0) (ix := 0) (j := 0) (c := 11) (x := v0) rfl rfl rfl rfl) ?_
  refine xs_step (fun K HC => xr_geti HC.1 51 107 11 2 rfl rfl wf_M_227 (by decide) fb_11_2 fc_11_2) ?_
  refine xs_ite (fun K HC => xr_if_le HC.1 52 112 110 rfl (by decide) rfl) ?_ ?_
  · refine xs_step (fun K HC => xr_iload_n HC.1 55 113 (n := 2) (ix := 2) (j := 2) (x := v2) rfl rfl rfl rfl) ?_
    refine xs_ite (fun K HC => xr_if_eq HC.1 56 128 116 rfl (by decide) rfl) ?_ ?_
    · refine xs_step (fun K HC => xr_aload_n HC.1 64 129 (n := 0) (ix := 0) (j := 0) (c := 11) (x := v0) rfl rfl rfl rfl) ?_
      refine xs_step (fun K HC => xr_dup HC.1 65 130 rfl rfl rfl) ?_
      refine xs_step (fun K HC => xr_geti HC.1 66 133 11 27 rfl rfl wf_M_311 (by decide) fb_11_27 fc_11_27) ?_
      refine xs_step (fun K HC => xr_iconst HC.1 67 134 (n := (1)) (1 : Int32) rfl rfl rfl) ?_
      refine xs_step (fun K HC => xr_iadd HC.1 68 135 rfl rfl) ?_
      refine xs_heap (hp_mo_si _ _ _ _) (fun K HC => xr_puti HC.1 69 138 11 27 rfl rfl wf_M_311 (by decide) fb_11_27 fn_11_27 fy_11_27) (fun h_4 => ?_)
      refine xs_step (fun K HC => xr_aload_n HC.1 70 139 (n := 0) (ix := 0) (j := 0) (c := 11) (x := v0) rfl rfl rfl rfl) ?_
      refine xs_step (fun K HC => xr_geti HC.1 71 142 11 6 rfl rfl wf_M_214 (by decide) fb_11_6 fc_11_6) ?_
      refine xs_step (fun K HC => xr_bipush HC.1 72 144 (n := (40)) (40 : Int32) rfl rfl rfl) ?_
      refine xs_ite (fun K HC a b => xr_icmp_ne HC.1 73 159 147 rfl (by decide) rfl b a) ?_ ?_
      · refine xs_step (fun K HC => xr_aload_n HC.1 74 148 (n := 0) (ix := 0) (j := 0) (c := 11) (x := v0) rfl rfl rfl rfl) ?_
        refine xs_step (fun K HC => xr_bipush HC.1 75 150 (n := (30)) (30 : Int32) rfl rfl rfl) ?_
        refine xs_callv (s_M_hold v0 (30 : Int32) h_4) (fun K HC x9 hM hmo hb => xr_callV HC.1 76 153 (av := [av_I (30 : Int32)]) (st := []) (hM (kg K) (cx_l (kx K))) hmo hb rfl rfl wm_M_314 wi_M_hold ws_M_hold wc_M_hold rfl wh_M_hold (by decide) (by decide) (by decide) (Nat.le_of_ble_eq_true rfl) rfl) (fun x_5 => ?_)
        refine xs_step (fun K HC => xr_aload_n HC.1 77 154 (n := 0) (ix := 0) (j := 0) (c := 11) (x := v0) rfl rfl rfl rfl) ?_
        refine xs_callv (s_M_token v0 x_5) (fun K HC x9 hM hmo hb => xr_callV HC.1 78 157 (av := []) (st := []) (hM (kg K) (cx_l (kx K))) hmo hb rfl rfl wm_M_277 wi_M_token ws_M_token wc_M_token rfl wh_M_token (by decide) (by decide) (by decide) (Nat.le_of_ble_eq_true rfl) rfl) (fun x_6 => ?_)
        refine xs_step (fun K HC => xr_iconst HC.1 79 158 (n := (0)) (0 : Int32) rfl rfl rfl) ?_
        exact xs_reti 80 rfl rfl (fun K q => q) (fun ty ht => by cases ht; rfl)
      refine xs_step (fun K HC => xr_aload_n HC.1 81 160 (n := 0) (ix := 0) (j := 0) (c := 11) (x := v0) rfl rfl rfl rfl) ?_
      refine xs_step (fun K HC => xr_iload_n HC.1 82 161 (n := 3) (ix := 3) (j := 3) (x := v3) rfl rfl rfl rfl) ?_
      refine xs_ite (fun K HC => xr_if_ge HC.1 83 168 164 rfl (by decide) rfl) ?_ ?_
      · refine xs_step (fun K HC => xr_iload_n HC.1 86 169 (n := 3) (ix := 3) (j := 3) (x := v3) rfl rfl rfl rfl) ?_
        refine xs_step (fun K HC => xr_sub (lv' := [(0, av_R 11 (some v0))]) [0] rfl) ?_
        exact t_M_operand_169 v0 v3 v0 h_4
      refine xs_step (fun K HC => xr_iconst HC.1 84 165 (n := (0)) (0 : Int32) rfl rfl rfl) ?_
      refine xs_step (fun K HC => xr_goto HC.1 85 169 rfl (by decide)) ?_
      refine xs_step (fun K HC => xr_sub (lv' := [(0, av_R 11 (some v0))]) [0] rfl) ?_
      exact t_M_operand_169 v0 (0 : Int32) v0 h_4
    refine xs_step (fun K HC => xr_aload_n HC.1 57 117 (n := 0) (ix := 0) (j := 0) (c := 11) (x := v0) rfl rfl rfl rfl) ?_
    refine xs_step (fun K HC => xr_bipush HC.1 58 119 (n := (22)) (22 : Int32) rfl rfl rfl) ?_
    refine xs_callv (s_M_hold v0 (22 : Int32) h) (fun K HC x9 hM hmo hb => xr_callV HC.1 59 122 (av := [av_I (22 : Int32)]) (st := []) (hM (kg K) (cx_l (kx K))) hmo hb rfl rfl wm_M_314 wi_M_hold ws_M_hold wc_M_hold rfl wh_M_hold (by decide) (by decide) (by decide) (Nat.le_of_ble_eq_true rfl) rfl) (fun x_9 => ?_)
    refine xs_step (fun K HC => xr_aload_n HC.1 60 123 (n := 0) (ix := 0) (j := 0) (c := 11) (x := v0) rfl rfl rfl rfl) ?_
    refine xs_callv (s_M_token v0 x_9) (fun K HC x9 hM hmo hb => xr_callV HC.1 61 126 (av := []) (st := []) (hM (kg K) (cx_l (kx K))) hmo hb rfl rfl wm_M_277 wi_M_token ws_M_token wc_M_token rfl wh_M_token (by decide) (by decide) (by decide) (Nat.le_of_ble_eq_true rfl) rfl) (fun x_10 => ?_)
    refine xs_step (fun K HC => xr_iconst HC.1 62 127 (n := (0)) (0 : Int32) rfl rfl rfl) ?_
    exact xs_reti 63 rfl rfl (fun K q => q) (fun ty ht => by cases ht; rfl)
  refine xs_step (fun K HC => xr_iload_n HC.1 53 111 (n := 1) (ix := 1) (j := 1) (x := v1) rfl rfl rfl rfl) ?_
  exact xs_reti 54 rfl rfl (fun K q => q) (fun ty ht => by cases ht; rfl)
set_option maxHeartbeats 4000000 in
set_option maxRecDepth 100000 in
theorem t_M_operand_98 (v0 : Nat) (v1 : Int32) (v2 : Int32) (v3 : Int32) (h : HP) : xx_S (xx_D "LampYardModel" tb_M_operand 5 3 (some .int) false) xz_i (fun K => xL_i K) 98 [(0, av_R 11 (some v0)), (1, av_I v1), (2, av_I v2), (3, av_I v3)] [] h (f_M_operand_98 v0 v1 v2 v3 h) := by
  unfold f_M_operand_98
  refine xs_step (fun K HC => xr_aload_n HC.1 47 99 (n := 0) (ix := 0) (j := 0) (c := 11) (x := v0) rfl rfl rfl rfl) ?_
  refine xs_step (fun K HC => xr_iconst HC.1 48 100 (n := (2)) (2 : Int32) rfl rfl rfl) ?_
  refine xs_callv (s_M_wrong v0 (2 : Int32) h) (fun K HC x9 hM hmo hb => xr_callV HC.1 49 103 (av := [av_I (2 : Int32)]) (st := []) (hM (kg K) (cx_l (kx K))) hmo hb rfl rfl wm_M_274 wi_M_wrong ws_M_wrong wc_M_wrong rfl wh_M_wrong (by decide) (by decide) (by decide) (Nat.le_of_ble_eq_true rfl) rfl) (fun x_3 => ?_)
  exact t_M_operand_103 v0 v1 v2 v3 x_3
set_option maxHeartbeats 4000000 in
set_option maxRecDepth 100000 in
theorem t_M_operand_89 (v0 : Nat) (v1 : Int32) (v2 : Int32) (v3 : Int32) (h : HP) : xx_S (xx_D "LampYardModel" tb_M_operand 5 3 (some .int) false) xz_i (fun K => xL_i K) 89 [(0, av_R 11 (some v0)), (1, av_I v1), (2, av_I v2), (3, av_I v3)] [] h (f_M_operand_89 v0 v1 v2 v3 h) := by
  unfold f_M_operand_89
  refine xs_step (fun K HC => xr_aload_n HC.1 43 90 (n := 0) (ix := 0) (j := 0) (c := 11) (x := v0) rfl rfl rfl rfl) ?_
  refine xs_step (fun K HC => xr_geti HC.1 44 93 11 46 rfl rfl wf_M_294 (by decide) fb_11_46 fc_11_46) ?_
  refine xs_step (fun K HC => xr_bipush HC.1 45 95 (n := (7)) (7 : Int32) rfl rfl rfl) ?_
  refine xs_ite (fun K HC => xr_icmp_lt HC.1 46 103 98 rfl (by decide) rfl) ?_ ?_
  · exact t_M_operand_103 v0 v1 v2 v3 h
  exact t_M_operand_98 v0 v1 v2 v3 h
set_option maxHeartbeats 4000000 in
set_option maxRecDepth 100000 in
theorem t_M_operand_76 (v0 : Nat) (v1 : Int32) (v2 : Int32) (v3 : Int32) (h : HP) : xx_S (xx_D "LampYardModel" tb_M_operand 5 3 (some .int) false) xz_i (fun K => xL_i K) 76 [(0, av_R 11 (some v0)), (1, av_I v1), (2, av_I v2), (3, av_I v3)] [] h (f_M_operand_76 v0 v1 v2 v3 h) := by
  unfold f_M_operand_76
  refine xs_step (fun K HC => xr_iload_n HC.1 37 77 (n := 2) (ix := 2) (j := 2) (x := v2) rfl rfl rfl rfl) ?_
  refine xs_ite (fun K HC a b => xr_if_ne HC.1 38 89 80 rfl (by decide) rfl b a) ?_ ?_
  · refine xs_step (fun K HC => xr_aload_n HC.1 39 81 (n := 0) (ix := 0) (j := 0) (c := 11) (x := v0) rfl rfl rfl rfl) ?_
    refine xs_step (fun K HC => xr_geti HC.1 40 84 11 6 rfl rfl wf_M_214 (by decide) fb_11_6 fc_11_6) ?_
    refine xs_step (fun K HC => xr_bipush HC.1 41 86 (n := (40)) (40 : Int32) rfl rfl rfl) ?_
    refine xs_ite (fun K HC a b => xr_icmp_ne HC.1 42 103 89 rfl (by decide) rfl b a) ?_ ?_
    · exact t_M_operand_89 v0 v1 v2 v3 h
    exact t_M_operand_103 v0 v1 v2 v3 h
  exact t_M_operand_89 v0 v1 v2 v3 h
set_option maxHeartbeats 4000000 in
set_option maxRecDepth 100000 in
theorem t_M_operand_62 (v0 : Nat) (v1 : Int32) (v2 : Int32) (v3 : Int32) (v4 : Int32) (h : HP) : xx_S (xx_D "LampYardModel" tb_M_operand 5 3 (some .int) false) xz_i (fun K => xL_i K) 62 [(0, av_R 11 (some v0)), (1, av_I v1), (2, av_I v2), (3, av_I v3), (4, av_I v4)] [] h (f_M_operand_62 v0 v1 v2 v3 v4 h) := by
  unfold f_M_operand_62
  refine xs_step (fun K HC => xr_iload HC.1 31 64 (ix := 4) (j := 4) (x := v4) rfl rfl rfl) ?_
  refine xs_ite (fun K HC => xr_if_eq HC.1 32 76 67 rfl (by decide) rfl) ?_ ?_
  · refine xs_step (fun K HC => xr_sub (lv' := [(0, av_R 11 (some v0)), (1, av_I v1), (2, av_I v2), (3, av_I v3)]) [0, 1, 2, 3] rfl) ?_
    exact t_M_operand_76 v0 v1 v2 v3 h
  refine xs_step (fun K HC => xr_aload_n HC.1 33 68 (n := 0) (ix := 0) (j := 0) (c := 11) (x := v0) rfl rfl rfl rfl) ?_
  refine xs_step (fun K HC => xr_geti HC.1 34 71 11 27 rfl rfl wf_M_311 (by decide) fb_11_27 fc_11_27) ?_
  refine xs_step (fun K HC => xr_bipush HC.1 35 73 (n := (60)) (60 : Int32) rfl rfl rfl) ?_
  refine xs_ite (fun K HC => xr_icmp_eq HC.1 36 98 76 rfl (by decide) rfl) ?_ ?_
  · refine xs_step (fun K HC => xr_sub (lv' := [(0, av_R 11 (some v0)), (1, av_I v1), (2, av_I v2), (3, av_I v3)]) [0, 1, 2, 3] rfl) ?_
    exact t_M_operand_98 v0 v1 v2 v3 h
  refine xs_step (fun K HC => xr_sub (lv' := [(0, av_R 11 (some v0)), (1, av_I v1), (2, av_I v2), (3, av_I v3)]) [0, 1, 2, 3] rfl) ?_
  exact t_M_operand_76 v0 v1 v2 v3 h
set_option maxHeartbeats 4000000 in
set_option maxRecDepth 100000 in
theorem t_M_operand_51 (v0 : Nat) (v1 : Int32) (v2 : Int32) (v3 : Int32) (s0 : Int32) (h : HP) : xx_S (xx_D "LampYardModel" tb_M_operand 5 3 (some .int) false) xz_i (fun K => xL_i K) 51 [(0, av_R 11 (some v0)), (1, av_I v1), (2, av_I v2), (3, av_I v3)] [av_I s0] h (f_M_operand_51 v0 v1 v2 v3 s0 h) := by
  unfold f_M_operand_51
  refine xs_step (fun K HC => xr_istore HC.1 26 53 (ix := 4) (lv' := [(0, av_R 11 (some v0)), (1, av_I v1), (2, av_I v2), (3, av_I v3), (4, av_I s0)]) rfl rfl (by decide) rfl) ?_
  refine xs_step (fun K HC => xr_iload_n HC.1 27 54 (n := 2) (ix := 2) (j := 2) (x := v2) rfl rfl rfl rfl) ?_
  refine xs_ite (fun K HC a b => xr_if_ne HC.1 28 62 57 rfl (by decide) rfl b a) ?_ ?_
  · refine xs_step (fun K HC => xr_iload HC.1 29 59 (ix := 4) (j := 4) (x := s0) rfl rfl rfl) ?_
    refine xs_ite (fun K HC => xr_if_eq HC.1 30 98 62 rfl (by decide) rfl) ?_ ?_
    · refine xs_step (fun K HC => xr_sub (lv' := [(0, av_R 11 (some v0)), (1, av_I v1), (2, av_I v2), (3, av_I v3)]) [0, 1, 2, 3] rfl) ?_
      exact t_M_operand_98 v0 v1 v2 v3 h
    exact t_M_operand_62 v0 v1 v2 v3 s0 h
  exact t_M_operand_62 v0 v1 v2 v3 s0 h
set_option maxHeartbeats 4000000 in
set_option maxRecDepth 100000 in
theorem t_M_operand_46 (v0 : Nat) (v1 : Int32) (v2 : Int32) (v3 : Int32) (h : HP) : xx_S (xx_D "LampYardModel" tb_M_operand 5 3 (some .int) false) xz_i (fun K => xL_i K) 46 [(0, av_R 11 (some v0)), (1, av_I v1), (2, av_I v2), (3, av_I v3)] [] h (f_M_operand_46 v0 v1 v2 v3 h) := by
  unfold f_M_operand_46
  refine xs_step (fun K HC => xr_iconst HC.1 23 47 (n := (1)) (1 : Int32) rfl rfl rfl) ?_
  refine xs_step (fun K HC => xr_goto HC.1 24 51 rfl (by decide)) ?_
  exact t_M_operand_51 v0 v1 v2 v3 (1 : Int32) h
set_option maxHeartbeats 4000000 in
set_option maxRecDepth 100000 in
theorem t_M_operand_19 (v0 : Nat) (v1 : Int32) (s0 : Int32) (h : HP) : xx_S (xx_D "LampYardModel" tb_M_operand 5 3 (some .int) false) xz_i (fun K => xL_i K) 19 [(0, av_R 11 (some v0)), (1, av_I v1)] [av_I s0] h (f_M_operand_19 v0 v1 s0 h) := by
  unfold f_M_operand_19
  refine xs_step (fun K HC => xr_istore_n HC.1 9 20 (n := 2) (ix := 2) (lv' := [(0, av_R 11 (some v0)), (1, av_I v1), (2, av_I s0)]) rfl rfl rfl (by decide) rfl) ?_
  refine xs_step (fun K HC => xr_aload_n HC.1 10 21 (n := 0) (ix := 0) (j := 0) (c := 11) (x := v0) rfl rfl rfl rfl) ?_
  refine xs_calli (s_M_known v0 h) (fun K HC x9 hM hmo hb => xr_callV HC.1 11 24 (av := []) (st := []) (hM (kg K) (cx_l (kx K))) hmo hb rfl rfl wm_M_308 wi_M_known ws_M_known wc_M_known rfl wh_M_known (by decide) (by decide) (by decide) (Nat.le_of_ble_eq_true rfl) rfl) (fun x_2 => ?_)
  refine xs_step (fun K HC => xr_istore_n HC.1 12 25 (n := 3) (ix := 3) (lv' := [(0, av_R 11 (some v0)), (1, av_I v1), (2, av_I s0), (3, av_I x_2.1)]) rfl rfl rfl (by decide) rfl) ?_
  refine xs_step (fun K HC => xr_aload_n HC.1 13 26 (n := 0) (ix := 0) (j := 0) (c := 11) (x := v0) rfl rfl rfl rfl) ?_
  refine xs_step (fun K HC => xr_geti HC.1 14 29 11 6 rfl rfl wf_M_214 (by decide) fb_11_6 fc_11_6) ?_
  refine xs_step (fun K HC => xr_iconst HC.1 15 30 (n := (2)) (2 : Int32) rfl rfl rfl) ?_
  refine xs_ite (fun K HC => xr_icmp_eq HC.1 16 46 33 rfl (by decide) rfl) ?_ ?_
  · exact t_M_operand_46 v0 v1 s0 x_2.1 x_2.2
  refine xs_step (fun K HC => xr_aload_n HC.1 17 34 (n := 0) (ix := 0) (j := 0) (c := 11) (x := v0) rfl rfl rfl rfl) ?_
  refine xs_step (fun K HC => xr_geti HC.1 18 37 11 6 rfl rfl wf_M_214 (by decide) fb_11_6 fc_11_6) ?_
  refine xs_step (fun K HC => xr_bipush HC.1 19 39 (n := (40)) (40 : Int32) rfl rfl rfl) ?_
  refine xs_ite (fun K HC => xr_icmp_eq HC.1 20 46 42 rfl (by decide) rfl) ?_ ?_
  · exact t_M_operand_46 v0 v1 s0 x_2.1 x_2.2
  refine xs_step (fun K HC => xr_iload_n HC.1 21 43 (n := 3) (ix := 3) (j := 3) (x := x_2.1) rfl rfl rfl rfl) ?_
  refine xs_ite (fun K HC => xr_if_lt HC.1 22 50 46 rfl (by decide) rfl) ?_ ?_
  · refine xs_step (fun K HC => xr_iconst HC.1 25 51 (n := (0)) (0 : Int32) rfl rfl rfl) ?_
    exact t_M_operand_51 v0 v1 s0 x_2.1 (0 : Int32) x_2.2
  exact t_M_operand_46 v0 v1 s0 x_2.1 x_2.2
set_option maxHeartbeats 4000000 in
set_option maxRecDepth 100000 in
theorem t_M_operand_18 (v0 : Nat) (v1 : Int32) (h : HP) : xx_S (xx_D "LampYardModel" tb_M_operand 5 3 (some .int) false) xz_i (fun K => xL_i K) 18 [(0, av_R 11 (some v0)), (1, av_I v1)] [] h (f_M_operand_18 v0 v1 h) := by
  unfold f_M_operand_18
  refine xs_step (fun K HC => xr_iconst HC.1 8 19 (n := (0)) (0 : Int32) rfl rfl rfl) ?_
  exact t_M_operand_19 v0 v1 (0 : Int32) h
set_option maxHeartbeats 4000000 in
set_option maxRecDepth 100000 in
theorem t_M_operand (v0 : Nat) (v1 : Int32) (h : HP) : xx_S (xx_D "LampYardModel" tb_M_operand 5 3 (some .int) false) xz_i (fun K => xL_i K) 0 [(0, av_R 11 (some v0)), (1, av_I v1)] [] h (f_M_operand v0 v1 h) := by
  unfold f_M_operand
  refine xs_step (fun K HC => xr_iload_n HC.1 0 1 (n := 1) (ix := 1) (j := 1) (x := v1) rfl rfl rfl rfl) ?_
  refine xs_ite (fun K HC a b => xr_if_ne HC.1 1 18 4 rfl (by decide) rfl b a) ?_ ?_
  · refine xs_step (fun K HC => xr_aload_n HC.1 2 5 (n := 0) (ix := 0) (j := 0) (c := 11) (x := v0) rfl rfl rfl rfl) ?_
    refine xs_step (fun K HC => xr_ldc2 HC.1 3 8 wk_M_268 rfl rfl) ?_
    refine xs_calli (s_M_isWord v0 (7237492 : Int64) h) (fun K HC x9 hM hmo hb => xr_callV HC.1 4 11 (av := [av_L (7237492 : Int64)]) (st := []) (hM (kg K) (cx_l (kx K))) hmo hb rfl rfl wm_M_270 wi_M_isWord ws_M_isWord wc_M_isWord rfl wh_M_isWord (by decide) (by decide) (by decide) (Nat.le_of_ble_eq_true rfl) rfl) (fun x_1 => ?_)
    refine xs_ite (fun K HC => xr_if_eq HC.1 5 18 14 rfl (by decide) rfl) ?_ ?_
    · exact t_M_operand_18 v0 v1 x_1.2
    refine xs_step (fun K HC => xr_iconst HC.1 6 15 (n := (1)) (1 : Int32) rfl rfl rfl) ?_
    refine xs_step (fun K HC => xr_goto HC.1 7 19 rfl (by decide)) ?_
    exact t_M_operand_19 v0 v1 (1 : Int32) x_1.2
  exact t_M_operand_18 v0 v1 h
theorem s_M_operand (v0 : Nat) (v1 : Int32) (h : HP) : ∀ x, f_M_operand v0 v1 h = some x → hp_mo h x.2 ∧ ∀ g l, xx_M g l y_M_operand prog_14_method_24_code 5 (some .int) 3 [av_R 11 (some v0), av_I v1] h (some (av_I x.1)) x.2 :=
  xM_i (tb := tb_M_operand) (b := false) (by decide +kernel) dt_M_operand (fun _ => trivial) (Nat.le_of_ble_eq_true rfl) (fun hb => by cases hb) (t_M_operand v0 v1 h)
def tb_M_sign : TBL := [(0, .aload_n 0, 1), (1, .getfield 214, 3), (4, .bipush 43, 2), (6, .if_icmp .ne 8, 3), (9, .bipush 26, 2), (11, .goto 104, 3), (14, .aload_n 0, 1), (15, .getfield 214, 3), (18, .bipush 45, 2), (20, .if_icmp .ne 8, 3), (23, .bipush 27, 2), (25, .goto 90, 3), (28, .aload_n 0, 1), (29, .getfield 214, 3), (32, .bipush 42, 2), (34, .if_icmp .ne 8, 3), (37, .bipush 28, 2), (39, .goto 76, 3), (42, .aload_n 0, 1), (43, .getfield 214, 3), (46, .bipush 61, 2), (48, .if_icmp .ne 8, 3), (51, .bipush 23, 2), (53, .goto 62, 3), (56, .aload_n 0, 1), (57, .getfield 214, 3), (60, .bipush 60, 2), (62, .if_icmp .ne 8, 3), (65, .bipush 24, 2), (67, .goto 48, 3), (70, .aload_n 0, 1), (71, .getfield 214, 3), (74, .bipush 62, 2), (76, .if_icmp .ne 8, 3), (79, .bipush 25, 2), (81, .goto 34, 3), (84, .aload_n 0, 1), (85, .ldc2_w 264, 3), (88, .invokevirtual 270, 3), (91, .ifCond .eq 8, 3), (94, .bipush 21, 2), (96, .goto 19, 3), (99, .aload_n 0, 1), (100, .ldc2_w 266, 3), (103, .invokevirtual 270, 3), (106, .ifCond .eq 8, 3), (109, .bipush 20, 2), (111, .goto 4, 3), (114, .iconst (-1), 1), (115, .istore_n 1, 1), (116, .aload_n 0, 1), (117, .getfield 214, 3), (120, .bipush 41, 2), (122, .if_icmp .ne 41, 3), (125, .aload_n 0, 1), (126, .invokevirtual 317, 3), (129, .ifCond .eq 34, 3), (132, .aload_n 0, 1), (133, .iconst 0, 1), (134, .invokevirtual 321, 3), (137, .aload_n 0, 1), (138, .dup, 1), (139, .getfield 291, 3), (142, .iconst 1, 1), (143, .isub, 1), (144, .putfield 291, 3), (147, .aload_n 0, 1), (148, .dup, 1), (149, .getfield 294, 3), (152, .iconst 1, 1), (153, .isub, 1), (154, .putfield 294, 3), (157, .aload_n 0, 1), (158, .invokevirtual 277, 3), (161, .iconst 2, 1), (162, .ireturn, 1), (163, .iload_n 1, 1), (164, .ifCond .ge 10, 3), (167, .aload_n 0, 1), (168, .iconst 2, 1), (169, .invokevirtual 274, 3), (172, .iconst 2, 1), (173, .ireturn, 1), (174, .iload_n 1, 1), (175, .invokestatic 324, 3), (178, .bipush 23, 2), (180, .if_icmp .ne 29, 3), (183, .aload_n 0, 1), (184, .bipush 26, 2), (186, .invokevirtual 321, 3), (189, .aload_n 0, 1), (190, .invokevirtual 301, 3), (193, .invokestatic 324, 3), (196, .bipush 23, 2), (198, .if_icmp .ne 19, 3), (201, .aload_n 0, 1), (202, .iconst 2, 1), (203, .invokevirtual 274, 3), (206, .goto 11, 3), (209, .aload_n 0, 1), (210, .iload_n 1, 1), (211, .invokestatic 324, 3), (214, .invokevirtual 321, 3), (217, .aload_n 0, 1), (218, .getfield 227, 3), (221, .ifCond .le 5, 3), (224, .iconst 2, 1), (225, .ireturn, 1), (226, .aload_n 0, 1), (227, .iload_n 1, 1), (228, .invokevirtual 314, 3), (231, .aload_n 0, 1), (232, .invokevirtual 277, 3), (235, .iload_n 1, 1), (236, .bipush 21, 2), (238, .if_icmp .eq 9, 3), (241, .iload_n 1, 1), (242, .bipush 20, 2), (244, .if_icmp .ne 7, 3), (247, .iconst 0, 1), (248, .goto 4, 3), (251, .iconst 1, 1), (252, .ireturn, 1)]
theorem dt_M_sign : ∀ q ∈ tb_M_sign, decode prog_14_method_25_code q.1 = .ok (q.2.1, q.2.2) := by decide +kernel
set_option maxHeartbeats 4000000 in
set_option maxRecDepth 100000 in
theorem t_M_sign_217 (v0 : Nat) (v1 : Int32) (h : HP) : xx_S (xx_D "LampYardModel" tb_M_sign 2 4 (some .int) false) xz_i (fun K => xL_i K) 217 [(0, av_R 11 (some v0)), (1, av_I v1)] [] h (f_M_sign_217 v0 v1 h) := by
  unfold f_M_sign_217
  refine xs_step (fun K HC => xr_aload_n HC.1 103 218 (n := 0) (ix := 0) (j := 0) (c := 11) (x := v0) rfl rfl rfl rfl) ?_
  refine xs_step (fun K HC => xr_geti HC.1 104 221 11 2 rfl rfl wf_M_227 (by decide) fb_11_2 fc_11_2) ?_
  refine xs_ite (fun K HC => xr_if_le HC.1 105 226 224 rfl (by decide) rfl) ?_ ?_
  · refine xs_step (fun K HC => xr_aload_n HC.1 108 227 (n := 0) (ix := 0) (j := 0) (c := 11) (x := v0) rfl rfl rfl rfl) ?_
    refine xs_step (fun K HC => xr_iload_n HC.1 109 228 (n := 1) (ix := 1) (j := 1) (x := v1) rfl rfl rfl rfl) ?_
    refine xs_callv (s_M_hold v0 v1 h) (fun K HC x9 hM hmo hb => xr_callV HC.1 110 231 (av := [av_I v1]) (st := []) (hM (kg K) (cx_l (kx K))) hmo hb rfl rfl wm_M_314 wi_M_hold ws_M_hold wc_M_hold rfl wh_M_hold (by decide) (by decide) (by decide) (Nat.le_of_ble_eq_true rfl) rfl) (fun x_7 => ?_)
    refine xs_step (fun K HC => xr_aload_n HC.1 111 232 (n := 0) (ix := 0) (j := 0) (c := 11) (x := v0) rfl rfl rfl rfl) ?_
    refine xs_callv (s_M_token v0 x_7) (fun K HC x9 hM hmo hb => xr_callV HC.1 112 235 (av := []) (st := []) (hM (kg K) (cx_l (kx K))) hmo hb rfl rfl wm_M_277 wi_M_token ws_M_token wc_M_token rfl wh_M_token (by decide) (by decide) (by decide) (Nat.le_of_ble_eq_true rfl) rfl) (fun x_8 => ?_)
    refine xs_step (fun K HC => xr_iload_n HC.1 113 236 (n := 1) (ix := 1) (j := 1) (x := v1) rfl rfl rfl rfl) ?_
    refine xs_step (fun K HC => xr_bipush HC.1 114 238 (n := (21)) (21 : Int32) rfl rfl rfl) ?_
    refine xs_ite (fun K HC => xr_icmp_eq HC.1 115 247 241 rfl (by decide) rfl) ?_ ?_
    · refine xs_step (fun K HC => xr_iconst HC.1 119 248 (n := (0)) (0 : Int32) rfl rfl rfl) ?_
      refine xs_step (fun K HC => xr_goto HC.1 120 252 rfl (by decide)) ?_
      exact xs_reti 122 rfl rfl (fun K q => q) (fun ty ht => by cases ht; rfl)
    refine xs_step (fun K HC => xr_iload_n HC.1 116 242 (n := 1) (ix := 1) (j := 1) (x := v1) rfl rfl rfl rfl) ?_
    refine xs_step (fun K HC => xr_bipush HC.1 117 244 (n := (20)) (20 : Int32) rfl rfl rfl) ?_
    refine xs_ite (fun K HC a b => xr_icmp_ne HC.1 118 251 247 rfl (by decide) rfl b a) ?_ ?_
    · refine xs_step (fun K HC => xr_iconst HC.1 119 248 (n := (0)) (0 : Int32) rfl rfl rfl) ?_
      refine xs_step (fun K HC => xr_goto HC.1 120 252 rfl (by decide)) ?_
      exact xs_reti 122 rfl rfl (fun K q => q) (fun ty ht => by cases ht; rfl)
    refine xs_step (fun K HC => xr_iconst HC.1 121 252 (n := (1)) (1 : Int32) rfl rfl rfl) ?_
    exact xs_reti 122 rfl rfl (fun K q => q) (fun ty ht => by cases ht; rfl)
  refine xs_step (fun K HC => xr_iconst HC.1 106 225 (n := (2)) (2 : Int32) rfl rfl rfl) ?_
  exact xs_reti 107 rfl rfl (fun K q => q) (fun ty ht => by cases ht; rfl)
set_option maxHeartbeats 4000000 in
set_option maxRecDepth 100000 in
theorem t_M_sign_163 (v0 : Nat) (v1 : Int32) (h : HP) : xx_S (xx_D "LampYardModel" tb_M_sign 2 4 (some .int) false) xz_i (fun K => xL_i K) 163 [(0, av_R 11 (some v0)), (1, av_I v1)] [] h (f_M_sign_163 v0 v1 h) := by
  unfold f_M_sign_163
  refine xs_step (fun K HC => xr_iload_n HC.1 76 164 (n := 1) (ix := 1) (j := 1) (x := v1) rfl rfl rfl rfl) ?_
  refine xs_ite (fun K HC => xr_if_ge HC.1 77 174 167 rfl (by decide) rfl) ?_ ?_
  · refine xs_step (fun K HC => xr_iload_n HC.1 83 175 (n := 1) (ix := 1) (j := 1) (x := v1) rfl rfl rfl rfl) ?_
    refine xs_calli (s_M_rank v1 h) (fun K HC x9 hM hmo hb => xr_callS HC.1 84 178 (av := [av_I v1]) (st := []) (hM (kg K) (cx_l (kx K))) hmo hb rfl rfl wm_M_324 wt_M_rank wn_M_rank wc_M_rank wh_M_rank (by decide) (by decide) (Nat.le_of_ble_eq_true rfl) rfl) (fun x_2 => ?_)
    refine xs_step (fun K HC => xr_bipush HC.1 85 180 (n := (23)) (23 : Int32) rfl rfl rfl) ?_
    refine xs_ite (fun K HC a b => xr_icmp_ne HC.1 86 209 183 rfl (by decide) rfl b a) ?_ ?_
    · refine xs_step (fun K HC => xr_aload_n HC.1 87 184 (n := 0) (ix := 0) (j := 0) (c := 11) (x := v0) rfl rfl rfl rfl) ?_
      refine xs_step (fun K HC => xr_bipush HC.1 88 186 (n := (26)) (26 : Int32) rfl rfl rfl) ?_
      refine xs_callv (s_M_settle v0 (26 : Int32) x_2.2) (fun K HC x9 hM hmo hb => xr_callV HC.1 89 189 (av := [av_I (26 : Int32)]) (st := []) (hM (kg K) (cx_l (kx K))) hmo hb rfl rfl wm_M_321 wi_M_settle ws_M_settle wc_M_settle rfl wh_M_settle (by decide) (by decide) (by decide) (Nat.le_of_ble_eq_true rfl) rfl) (fun x_3 => ?_)
      refine xs_step (fun K HC => xr_aload_n HC.1 90 190 (n := 0) (ix := 0) (j := 0) (c := 11) (x := v0) rfl rfl rfl rfl) ?_
      refine xs_calli (s_M_upper v0 x_3) (fun K HC x9 hM hmo hb => xr_callV HC.1 91 193 (av := []) (st := []) (hM (kg K) (cx_l (kx K))) hmo hb rfl rfl wm_M_301 wi_M_upper ws_M_upper wc_M_upper rfl wh_M_upper (by decide) (by decide) (by decide) (Nat.le_of_ble_eq_true rfl) rfl) (fun x_4 => ?_)
      refine xs_calli (s_M_rank x_4.1 x_4.2) (fun K HC x9 hM hmo hb => xr_callS HC.1 92 196 (av := [av_I x_4.1]) (st := []) (hM (kg K) (cx_l (kx K))) hmo hb rfl rfl wm_M_324 wt_M_rank wn_M_rank wc_M_rank wh_M_rank (by decide) (by decide) (Nat.le_of_ble_eq_true rfl) rfl) (fun x_5 => ?_)
      refine xs_step (fun K HC => xr_bipush HC.1 93 198 (n := (23)) (23 : Int32) rfl rfl rfl) ?_
      refine xs_ite (fun K HC a b => xr_icmp_ne HC.1 94 217 201 rfl (by decide) rfl b a) ?_ ?_
      · refine xs_step (fun K HC => xr_aload_n HC.1 95 202 (n := 0) (ix := 0) (j := 0) (c := 11) (x := v0) rfl rfl rfl rfl) ?_
        refine xs_step (fun K HC => xr_iconst HC.1 96 203 (n := (2)) (2 : Int32) rfl rfl rfl) ?_
        refine xs_callv (s_M_wrong v0 (2 : Int32) x_5.2) (fun K HC x9 hM hmo hb => xr_callV HC.1 97 206 (av := [av_I (2 : Int32)]) (st := []) (hM (kg K) (cx_l (kx K))) hmo hb rfl rfl wm_M_274 wi_M_wrong ws_M_wrong wc_M_wrong rfl wh_M_wrong (by decide) (by decide) (by decide) (Nat.le_of_ble_eq_true rfl) rfl) (fun x_6 => ?_)
        refine xs_step (fun K HC => xr_goto HC.1 98 217 rfl (by decide)) ?_
        exact t_M_sign_217 v0 v1 x_6
      exact t_M_sign_217 v0 v1 x_5.2
    refine xs_step (fun K HC => xr_aload_n HC.1 99 210 (n := 0) (ix := 0) (j := 0) (c := 11) (x := v0) rfl rfl rfl rfl) ?_
    refine xs_step (fun K HC => xr_iload_n HC.1 100 211 (n := 1) (ix := 1) (j := 1) (x := v1) rfl rfl rfl rfl) ?_
    refine xs_calli (s_M_rank v1 x_2.2) (fun K HC x9 hM hmo hb => xr_callS HC.1 101 214 (av := [av_I v1]) (st := [av_R 11 (some v0)]) (hM (kg K) (cx_l (kx K))) hmo hb rfl rfl wm_M_324 wt_M_rank wn_M_rank wc_M_rank wh_M_rank (by decide) (by decide) (Nat.le_of_ble_eq_true rfl) rfl) (fun x_9 => ?_)
    refine xs_callv (s_M_settle v0 x_9.1 x_9.2) (fun K HC x9 hM hmo hb => xr_callV HC.1 102 217 (av := [av_I x_9.1]) (st := []) (hM (kg K) (cx_l (kx K))) hmo hb rfl rfl wm_M_321 wi_M_settle ws_M_settle wc_M_settle rfl wh_M_settle (by decide) (by decide) (by decide) (Nat.le_of_ble_eq_true rfl) rfl) (fun x_10 => ?_)
    exact t_M_sign_217 v0 v1 x_10
  refine xs_step (fun K HC => xr_aload_n HC.1 78 168 (n := 0) (ix := 0) (j := 0) (c := 11) (x := v0) rfl rfl rfl rfl) ?_
  refine xs_step (fun K HC => xr_iconst HC.1 79 169 (n := (2)) (2 : Int32) rfl rfl rfl) ?_
  refine xs_callv (s_M_wrong v0 (2 : Int32) h) (fun K HC x9 hM hmo hb => xr_callV HC.1 80 172 (av := [av_I (2 : Int32)]) (st := []) (hM (kg K) (cx_l (kx K))) hmo hb rfl rfl wm_M_274 wi_M_wrong ws_M_wrong wc_M_wrong rfl wh_M_wrong (by decide) (by decide) (by decide) (Nat.le_of_ble_eq_true rfl) rfl) (fun x_11 => ?_)
  refine xs_step (fun K HC => xr_iconst HC.1 81 173 (n := (2)) (2 : Int32) rfl rfl rfl) ?_
  exact xs_reti 82 rfl rfl (fun K q => q) (fun ty ht => by cases ht; rfl)
set_option maxHeartbeats 4000000 in
set_option maxRecDepth 100000 in
theorem t_M_sign_115 (v0 : Nat) (s0 : Int32) (h : HP) : xx_S (xx_D "LampYardModel" tb_M_sign 2 4 (some .int) false) xz_i (fun K => xL_i K) 115 [(0, av_R 11 (some v0))] [av_I s0] h (f_M_sign_115 v0 s0 h) := by
  unfold f_M_sign_115
  refine xs_step (fun K HC => xr_istore_n HC.1 49 116 (n := 1) (ix := 1) (lv' := [(0, av_R 11 (some v0)), (1, av_I s0)]) rfl rfl rfl (by decide) rfl) ?_
  refine xs_step (fun K HC => xr_aload_n HC.1 50 117 (n := 0) (ix := 0) (j := 0) (c := 11) (x := v0) rfl rfl rfl rfl) ?_
  refine xs_step (fun K HC => xr_geti HC.1 51 120 11 6 rfl rfl wf_M_214 (by decide) fb_11_6 fc_11_6) ?_
  refine xs_step (fun K HC => xr_bipush HC.1 52 122 (n := (41)) (41 : Int32) rfl rfl rfl) ?_
  refine xs_ite (fun K HC a b => xr_icmp_ne HC.1 53 163 125 rfl (by decide) rfl b a) ?_ ?_
  · refine xs_step (fun K HC => xr_aload_n HC.1 54 126 (n := 0) (ix := 0) (j := 0) (c := 11) (x := v0) rfl rfl rfl rfl) ?_
    refine xs_calli (s_M_isOpen v0 h) (fun K HC x9 hM hmo hb => xr_callV HC.1 55 129 (av := []) (st := []) (hM (kg K) (cx_l (kx K))) hmo hb rfl rfl wm_M_317 wi_M_isOpen ws_M_isOpen wc_M_isOpen rfl wh_M_isOpen (by decide) (by decide) (by decide) (Nat.le_of_ble_eq_true rfl) rfl) (fun x_1 => ?_)
    refine xs_ite (fun K HC => xr_if_eq HC.1 56 163 132 rfl (by decide) rfl) ?_ ?_
    · exact t_M_sign_163 v0 s0 x_1.2
    refine xs_step (fun K HC => xr_aload_n HC.1 57 133 (n := 0) (ix := 0) (j := 0) (c := 11) (x := v0) rfl rfl rfl rfl) ?_
    refine xs_step (fun K HC => xr_iconst HC.1 58 134 (n := (0)) (0 : Int32) rfl rfl rfl) ?_
    refine xs_callv (s_M_settle v0 (0 : Int32) x_1.2) (fun K HC x9 hM hmo hb => xr_callV HC.1 59 137 (av := [av_I (0 : Int32)]) (st := []) (hM (kg K) (cx_l (kx K))) hmo hb rfl rfl wm_M_321 wi_M_settle ws_M_settle wc_M_settle rfl wh_M_settle (by decide) (by decide) (by decide) (Nat.le_of_ble_eq_true rfl) rfl) (fun x_12 => ?_)
    refine xs_step (fun K HC => xr_aload_n HC.1 60 138 (n := 0) (ix := 0) (j := 0) (c := 11) (x := v0) rfl rfl rfl rfl) ?_
    refine xs_step (fun K HC => xr_dup HC.1 61 139 rfl rfl rfl) ?_
    refine xs_step (fun K HC => xr_geti HC.1 62 142 11 45 rfl rfl wf_M_291 (by decide) fb_11_45 fc_11_45) ?_
    refine xs_step (fun K HC => xr_iconst HC.1 63 143 (n := (1)) (1 : Int32) rfl rfl rfl) ?_
    refine xs_step (fun K HC => xr_isub HC.1 64 144 rfl rfl) ?_
    refine xs_heap (hp_mo_si _ _ _ _) (fun K HC => xr_puti HC.1 65 147 11 45 rfl rfl wf_M_291 (by decide) fb_11_45 fn_11_45 fy_11_45) (fun h_13 => ?_)
    refine xs_step (fun K HC => xr_aload_n HC.1 66 148 (n := 0) (ix := 0) (j := 0) (c := 11) (x := v0) rfl rfl rfl rfl) ?_
    refine xs_step (fun K HC => xr_dup HC.1 67 149 rfl rfl rfl) ?_
    refine xs_step (fun K HC => xr_geti HC.1 68 152 11 46 rfl rfl wf_M_294 (by decide) fb_11_46 fc_11_46) ?_
    refine xs_step (fun K HC => xr_iconst HC.1 69 153 (n := (1)) (1 : Int32) rfl rfl rfl) ?_
    refine xs_step (fun K HC => xr_isub HC.1 70 154 rfl rfl) ?_
    refine xs_heap (hp_mo_si _ _ _ _) (fun K HC => xr_puti HC.1 71 157 11 46 rfl rfl wf_M_294 (by decide) fb_11_46 fn_11_46 fy_11_46) (fun h_14 => ?_)
    refine xs_step (fun K HC => xr_aload_n HC.1 72 158 (n := 0) (ix := 0) (j := 0) (c := 11) (x := v0) rfl rfl rfl rfl) ?_
    refine xs_callv (s_M_token v0 h_14) (fun K HC x9 hM hmo hb => xr_callV HC.1 73 161 (av := []) (st := []) (hM (kg K) (cx_l (kx K))) hmo hb rfl rfl wm_M_277 wi_M_token ws_M_token wc_M_token rfl wh_M_token (by decide) (by decide) (by decide) (Nat.le_of_ble_eq_true rfl) rfl) (fun x_15 => ?_)
    refine xs_step (fun K HC => xr_iconst HC.1 74 162 (n := (2)) (2 : Int32) rfl rfl rfl) ?_
    exact xs_reti 75 rfl rfl (fun K q => q) (fun ty ht => by cases ht; rfl)
  exact t_M_sign_163 v0 s0 h
set_option maxHeartbeats 4000000 in
set_option maxRecDepth 100000 in
theorem t_M_sign (v0 : Nat) (h : HP) : xx_S (xx_D "LampYardModel" tb_M_sign 2 4 (some .int) false) xz_i (fun K => xL_i K) 0 [(0, av_R 11 (some v0))] [] h (f_M_sign v0 h) := by
  unfold f_M_sign
  refine xs_step (fun K HC => xr_aload_n HC.1 0 1 (n := 0) (ix := 0) (j := 0) (c := 11) (x := v0) rfl rfl rfl rfl) ?_
  refine xs_step (fun K HC => xr_geti HC.1 1 4 11 6 rfl rfl wf_M_214 (by decide) fb_11_6 fc_11_6) ?_
  refine xs_step (fun K HC => xr_bipush HC.1 2 6 (n := (43)) (43 : Int32) rfl rfl rfl) ?_
  refine xs_ite (fun K HC a b => xr_icmp_ne HC.1 3 14 9 rfl (by decide) rfl b a) ?_ ?_
  · refine xs_step (fun K HC => xr_bipush HC.1 4 11 (n := (26)) (26 : Int32) rfl rfl rfl) ?_
    refine xs_step (fun K HC => xr_goto HC.1 5 115 rfl (by decide)) ?_
    exact t_M_sign_115 v0 (26 : Int32) h
  refine xs_step (fun K HC => xr_aload_n HC.1 6 15 (n := 0) (ix := 0) (j := 0) (c := 11) (x := v0) rfl rfl rfl rfl) ?_
  refine xs_step (fun K HC => xr_geti HC.1 7 18 11 6 rfl rfl wf_M_214 (by decide) fb_11_6 fc_11_6) ?_
  refine xs_step (fun K HC => xr_bipush HC.1 8 20 (n := (45)) (45 : Int32) rfl rfl rfl) ?_
  refine xs_ite (fun K HC a b => xr_icmp_ne HC.1 9 28 23 rfl (by decide) rfl b a) ?_ ?_
  · refine xs_step (fun K HC => xr_bipush HC.1 10 25 (n := (27)) (27 : Int32) rfl rfl rfl) ?_
    refine xs_step (fun K HC => xr_goto HC.1 11 115 rfl (by decide)) ?_
    exact t_M_sign_115 v0 (27 : Int32) h
  refine xs_step (fun K HC => xr_aload_n HC.1 12 29 (n := 0) (ix := 0) (j := 0) (c := 11) (x := v0) rfl rfl rfl rfl) ?_
  refine xs_step (fun K HC => xr_geti HC.1 13 32 11 6 rfl rfl wf_M_214 (by decide) fb_11_6 fc_11_6) ?_
  refine xs_step (fun K HC => xr_bipush HC.1 14 34 (n := (42)) (42 : Int32) rfl rfl rfl) ?_
  refine xs_ite (fun K HC a b => xr_icmp_ne HC.1 15 42 37 rfl (by decide) rfl b a) ?_ ?_
  · refine xs_step (fun K HC => xr_bipush HC.1 16 39 (n := (28)) (28 : Int32) rfl rfl rfl) ?_
    refine xs_step (fun K HC => xr_goto HC.1 17 115 rfl (by decide)) ?_
    exact t_M_sign_115 v0 (28 : Int32) h
  refine xs_step (fun K HC => xr_aload_n HC.1 18 43 (n := 0) (ix := 0) (j := 0) (c := 11) (x := v0) rfl rfl rfl rfl) ?_
  refine xs_step (fun K HC => xr_geti HC.1 19 46 11 6 rfl rfl wf_M_214 (by decide) fb_11_6 fc_11_6) ?_
  refine xs_step (fun K HC => xr_bipush HC.1 20 48 (n := (61)) (61 : Int32) rfl rfl rfl) ?_
  refine xs_ite (fun K HC a b => xr_icmp_ne HC.1 21 56 51 rfl (by decide) rfl b a) ?_ ?_
  · refine xs_step (fun K HC => xr_bipush HC.1 22 53 (n := (23)) (23 : Int32) rfl rfl rfl) ?_
    refine xs_step (fun K HC => xr_goto HC.1 23 115 rfl (by decide)) ?_
    exact t_M_sign_115 v0 (23 : Int32) h
  refine xs_step (fun K HC => xr_aload_n HC.1 24 57 (n := 0) (ix := 0) (j := 0) (c := 11) (x := v0) rfl rfl rfl rfl) ?_
  refine xs_step (fun K HC => xr_geti HC.1 25 60 11 6 rfl rfl wf_M_214 (by decide) fb_11_6 fc_11_6) ?_
  refine xs_step (fun K HC => xr_bipush HC.1 26 62 (n := (60)) (60 : Int32) rfl rfl rfl) ?_
  refine xs_ite (fun K HC a b => xr_icmp_ne HC.1 27 70 65 rfl (by decide) rfl b a) ?_ ?_
  · refine xs_step (fun K HC => xr_bipush HC.1 28 67 (n := (24)) (24 : Int32) rfl rfl rfl) ?_
    refine xs_step (fun K HC => xr_goto HC.1 29 115 rfl (by decide)) ?_
    exact t_M_sign_115 v0 (24 : Int32) h
  refine xs_step (fun K HC => xr_aload_n HC.1 30 71 (n := 0) (ix := 0) (j := 0) (c := 11) (x := v0) rfl rfl rfl rfl) ?_
  refine xs_step (fun K HC => xr_geti HC.1 31 74 11 6 rfl rfl wf_M_214 (by decide) fb_11_6 fc_11_6) ?_
  refine xs_step (fun K HC => xr_bipush HC.1 32 76 (n := (62)) (62 : Int32) rfl rfl rfl) ?_
  refine xs_ite (fun K HC a b => xr_icmp_ne HC.1 33 84 79 rfl (by decide) rfl b a) ?_ ?_
  · refine xs_step (fun K HC => xr_bipush HC.1 34 81 (n := (25)) (25 : Int32) rfl rfl rfl) ?_
    refine xs_step (fun K HC => xr_goto HC.1 35 115 rfl (by decide)) ?_
    exact t_M_sign_115 v0 (25 : Int32) h
  refine xs_step (fun K HC => xr_aload_n HC.1 36 85 (n := 0) (ix := 0) (j := 0) (c := 11) (x := v0) rfl rfl rfl rfl) ?_
  refine xs_step (fun K HC => xr_ldc2 HC.1 37 88 wk_M_264 rfl rfl) ?_
  refine xs_calli (s_M_isWord v0 (6385252 : Int64) h) (fun K HC x9 hM hmo hb => xr_callV HC.1 38 91 (av := [av_L (6385252 : Int64)]) (st := []) (hM (kg K) (cx_l (kx K))) hmo hb rfl rfl wm_M_270 wi_M_isWord ws_M_isWord wc_M_isWord rfl wh_M_isWord (by decide) (by decide) (by decide) (Nat.le_of_ble_eq_true rfl) rfl) (fun x_16 => ?_)
  refine xs_ite (fun K HC => xr_if_eq HC.1 39 99 94 rfl (by decide) rfl) ?_ ?_
  · refine xs_step (fun K HC => xr_aload_n HC.1 42 100 (n := 0) (ix := 0) (j := 0) (c := 11) (x := v0) rfl rfl rfl rfl) ?_
    refine xs_step (fun K HC => xr_ldc2 HC.1 43 103 wk_M_266 rfl rfl) ?_
    refine xs_calli (s_M_isWord v0 (28530 : Int64) x_16.2) (fun K HC x9 hM hmo hb => xr_callV HC.1 44 106 (av := [av_L (28530 : Int64)]) (st := []) (hM (kg K) (cx_l (kx K))) hmo hb rfl rfl wm_M_270 wi_M_isWord ws_M_isWord wc_M_isWord rfl wh_M_isWord (by decide) (by decide) (by decide) (Nat.le_of_ble_eq_true rfl) rfl) (fun x_17 => ?_)
    refine xs_ite (fun K HC => xr_if_eq HC.1 45 114 109 rfl (by decide) rfl) ?_ ?_
    · refine xs_step (fun K HC => xr_iconst HC.1 48 115 (n := (-1)) (-1 : Int32) rfl rfl rfl) ?_
      exact t_M_sign_115 v0 (-1 : Int32) x_17.2
    refine xs_step (fun K HC => xr_bipush HC.1 46 111 (n := (20)) (20 : Int32) rfl rfl rfl) ?_
    refine xs_step (fun K HC => xr_goto HC.1 47 115 rfl (by decide)) ?_
    exact t_M_sign_115 v0 (20 : Int32) x_17.2
  refine xs_step (fun K HC => xr_bipush HC.1 40 96 (n := (21)) (21 : Int32) rfl rfl rfl) ?_
  refine xs_step (fun K HC => xr_goto HC.1 41 115 rfl (by decide)) ?_
  exact t_M_sign_115 v0 (21 : Int32) x_16.2
theorem s_M_sign (v0 : Nat) (h : HP) : ∀ x, f_M_sign v0 h = some x → hp_mo h x.2 ∧ ∀ g l, xx_M g l y_M_sign prog_14_method_25_code 2 (some .int) 4 [av_R 11 (some v0)] h (some (av_I x.1)) x.2 :=
  xM_i (tb := tb_M_sign) (b := false) (by decide +kernel) dt_M_sign (fun _ => trivial) (Nat.le_of_ble_eq_true rfl) (fun hb => by cases hb) (t_M_sign v0 h)
def tb_M_isAfter : TBL := [(0, .iload_n 1, 1), (1, .ifCond .ne 13, 3), (4, .aload_n 0, 1), (5, .ldc2_w 254, 3), (8, .invokevirtual 270, 3), (11, .goto 42, 3), (14, .iload_n 1, 1), (15, .iconst 1, 1), (16, .if_icmp .ne 13, 3), (19, .aload_n 0, 1), (20, .ldc2_w 256, 3), (23, .invokevirtual 270, 3), (26, .goto 27, 3), (29, .aload_n 0, 1), (30, .ldc2_w 258, 3), (33, .invokevirtual 270, 3), (36, .ifCond .ne 12, 3), (39, .aload_n 0, 1), (40, .getfield 214, 3), (43, .bipush 59, 2), (45, .if_icmp .ne 7, 3), (48, .iconst 1, 1), (49, .goto 4, 3), (52, .iconst 0, 1), (53, .ireturn, 1)]
theorem dt_M_isAfter : ∀ q ∈ tb_M_isAfter, decode prog_14_method_26_code q.1 = .ok (q.2.1, q.2.2) := by decide +kernel
set_option maxHeartbeats 4000000 in
set_option maxRecDepth 100000 in
theorem t_M_isAfter (v0 : Nat) (v1 : Int32) (h : HP) : xx_S (xx_D "LampYardModel" tb_M_isAfter 2 2 (some .boolean) false) xz_i (fun K => xL_i K) 0 [(0, av_R 11 (some v0)), (1, av_I v1)] [] h (f_M_isAfter v0 v1 h) := by
  unfold f_M_isAfter
  refine xs_step (fun K HC => xr_iload_n HC.1 0 1 (n := 1) (ix := 1) (j := 1) (x := v1) rfl rfl rfl rfl) ?_
  refine xs_ite (fun K HC a b => xr_if_ne HC.1 1 14 4 rfl (by decide) rfl b a) ?_ ?_
  · refine xs_step (fun K HC => xr_aload_n HC.1 2 5 (n := 0) (ix := 0) (j := 0) (c := 11) (x := v0) rfl rfl rfl rfl) ?_
    refine xs_step (fun K HC => xr_ldc2 HC.1 3 8 wk_M_254 rfl rfl) ?_
    refine xs_calli (s_M_isWord v0 (7562612 : Int64) h) (fun K HC x9 hM hmo hb => xr_callV HC.1 4 11 (av := [av_L (7562612 : Int64)]) (st := []) (hM (kg K) (cx_l (kx K))) hmo hb rfl rfl wm_M_270 wi_M_isWord ws_M_isWord wc_M_isWord rfl wh_M_isWord (by decide) (by decide) (by decide) (Nat.le_of_ble_eq_true rfl) rfl) (fun x_1 => ?_)
    refine xs_step (fun K HC => xr_goto HC.1 5 53 rfl (by decide)) ?_
    refine xs_chk (fun hz_2 => ?_)
    exact xs_reti 24 rfl rfl (fun K q => q) (fun ty ht => by cases ht; rcases hp_z01_or hz_2 with e9 | e9 <;> rw [e9] <;> rfl)
  refine xs_step (fun K HC => xr_iload_n HC.1 6 15 (n := 1) (ix := 1) (j := 1) (x := v1) rfl rfl rfl rfl) ?_
  refine xs_step (fun K HC => xr_iconst HC.1 7 16 (n := (1)) (1 : Int32) rfl rfl rfl) ?_
  refine xs_ite (fun K HC a b => xr_icmp_ne HC.1 8 29 19 rfl (by decide) rfl b a) ?_ ?_
  · refine xs_step (fun K HC => xr_aload_n HC.1 9 20 (n := 0) (ix := 0) (j := 0) (c := 11) (x := v0) rfl rfl rfl rfl) ?_
    refine xs_step (fun K HC => xr_ldc2 HC.1 10 23 wk_M_256 rfl rfl) ?_
    refine xs_calli (s_M_isWord v0 (1752132708 : Int64) h) (fun K HC x9 hM hmo hb => xr_callV HC.1 11 26 (av := [av_L (1752132708 : Int64)]) (st := []) (hM (kg K) (cx_l (kx K))) hmo hb rfl rfl wm_M_270 wi_M_isWord ws_M_isWord wc_M_isWord rfl wh_M_isWord (by decide) (by decide) (by decide) (Nat.le_of_ble_eq_true rfl) rfl) (fun x_3 => ?_)
    refine xs_step (fun K HC => xr_goto HC.1 12 53 rfl (by decide)) ?_
    refine xs_chk (fun hz_4 => ?_)
    exact xs_reti 24 rfl rfl (fun K q => q) (fun ty ht => by cases ht; rcases hp_z01_or hz_4 with e9 | e9 <;> rw [e9] <;> rfl)
  refine xs_step (fun K HC => xr_aload_n HC.1 13 30 (n := 0) (ix := 0) (j := 0) (c := 11) (x := v0) rfl rfl rfl rfl) ?_
  refine xs_step (fun K HC => xr_ldc2 HC.1 14 33 wk_M_258 rfl rfl) ?_
  refine xs_calli (s_M_isWord v0 (7561593 : Int64) h) (fun K HC x9 hM hmo hb => xr_callV HC.1 15 36 (av := [av_L (7561593 : Int64)]) (st := []) (hM (kg K) (cx_l (kx K))) hmo hb rfl rfl wm_M_270 wi_M_isWord ws_M_isWord wc_M_isWord rfl wh_M_isWord (by decide) (by decide) (by decide) (Nat.le_of_ble_eq_true rfl) rfl) (fun x_5 => ?_)
  refine xs_ite (fun K HC a b => xr_if_ne HC.1 16 48 39 rfl (by decide) rfl b a) ?_ ?_
  · refine xs_step (fun K HC => xr_aload_n HC.1 17 40 (n := 0) (ix := 0) (j := 0) (c := 11) (x := v0) rfl rfl rfl rfl) ?_
    refine xs_step (fun K HC => xr_geti HC.1 18 43 11 6 rfl rfl wf_M_214 (by decide) fb_11_6 fc_11_6) ?_
    refine xs_step (fun K HC => xr_bipush HC.1 19 45 (n := (59)) (59 : Int32) rfl rfl rfl) ?_
    refine xs_ite (fun K HC a b => xr_icmp_ne HC.1 20 52 48 rfl (by decide) rfl b a) ?_ ?_
    · refine xs_step (fun K HC => xr_iconst HC.1 21 49 (n := (1)) (1 : Int32) rfl rfl rfl) ?_
      refine xs_step (fun K HC => xr_goto HC.1 22 53 rfl (by decide)) ?_
      exact xs_reti 24 rfl rfl (fun K q => q) (fun ty ht => by cases ht; rfl)
    refine xs_step (fun K HC => xr_iconst HC.1 23 53 (n := (0)) (0 : Int32) rfl rfl rfl) ?_
    exact xs_reti 24 rfl rfl (fun K q => q) (fun ty ht => by cases ht; rfl)
  refine xs_step (fun K HC => xr_iconst HC.1 21 49 (n := (1)) (1 : Int32) rfl rfl rfl) ?_
  refine xs_step (fun K HC => xr_goto HC.1 22 53 rfl (by decide)) ?_
  exact xs_reti 24 rfl rfl (fun K q => q) (fun ty ht => by cases ht; rfl)
theorem s_M_isAfter (v0 : Nat) (v1 : Int32) (h : HP) : ∀ x, f_M_isAfter v0 v1 h = some x → hp_mo h x.2 ∧ ∀ g l, xx_M g l y_M_isAfter prog_14_method_26_code 2 (some .boolean) 2 [av_R 11 (some v0), av_I v1] h (some (av_I x.1)) x.2 :=
  xM_i (tb := tb_M_isAfter) (b := false) (by decide +kernel) dt_M_isAfter (fun _ => trivial) (Nat.le_of_ble_eq_true rfl) (fun hb => by cases hb) (t_M_isAfter v0 v1 h)
def tb_M_readPart : TBL := [(0, .aload_n 0, 1), (1, .getfield 227, 3), (4, .ifCond .le 4, 3), (7, .return_, 1), (8, .aload_n 0, 1), (9, .getfield 55, 3), (12, .iconst 3, 1), (13, .aload_n 0, 1), (14, .getfield 327, 3), (17, .imul, 1), (18, .iload_n 1, 1), (19, .iadd, 1), (20, .aload_n 0, 1), (21, .getfield 288, 3), (24, .iastore, 1), (25, .aload_n 0, 1), (26, .iconst 0, 1), (27, .putfield 291, 3), (30, .aload_n 0, 1), (31, .iconst 0, 1), (32, .putfield 294, 3), (35, .iconst 0, 1), (36, .istore_n 2, 1), (37, .aload_n 0, 1), (38, .getfield 227, 3), (41, .ifCond .ne 44, 3), (44, .iload_n 2, 1), (45, .iconst 2, 1), (46, .if_icmp .ne 18, 3), (49, .aload_n 0, 1), (50, .iload_n 1, 1), (51, .invokevirtual 330, 3), (54, .ifCond .eq 10, 3), (57, .aload_n 0, 1), (58, .invokevirtual 317, 3), (61, .ifCond .eq 24, 3), (64, .iload_n 2, 1), (65, .iconst 2, 1), (66, .if_icmp .ne 10, 3), (69, .aload_n 0, 1), (70, .invokevirtual 333, 3), (73, .goto 8, 3), (76, .aload_n 0, 1), (77, .iload_n 2, 1), (78, .invokevirtual 336, 3), (81, .istore_n 2, 1), (82, .goto (-45), 3), (85, .aload_n 0, 1), (86, .getfield 227, 3), (89, .ifCond .ne 8, 3), (92, .aload_n 0, 1), (93, .iconst 0, 1), (94, .invokevirtual 321, 3), (97, .return_, 1)]
theorem dt_M_readPart : ∀ q ∈ tb_M_readPart, decode prog_14_method_27_code q.1 = .ok (q.2.1, q.2.2) := by decide +kernel
set_option maxHeartbeats 4000000 in
set_option maxRecDepth 100000 in
theorem t_M_readPart_81 (v0 : Nat) (v1 : Int32) (s0 : Int32) (h : HP) : xx_S (xx_D "LampYardModel" tb_M_readPart 3 5 none false) (xx_z2 (fun s : (Int32 × HP) => s.2) xz_v) (fun K => xx_L2 (fun s : (Int32 × HP) => xx_X K 37 [(0, av_R 11 (some v0)), (1, av_I v1), (2, av_I s.1)] [] (s.2)) (xL_v K)) 81 [(0, av_R 11 (some v0)), (1, av_I v1)] [av_I s0] h (f_M_readPart_81 v0 v1 s0 h) := by
  unfold f_M_readPart_81
  refine xs_step (fun K HC => xr_istore_n HC.1 45 82 (n := 2) (ix := 2) (lv' := [(0, av_R 11 (some v0)), (1, av_I v1), (2, av_I s0)]) rfl rfl rfl (by decide) rfl) ?_
  refine xs_step (fun K HC => xr_goto HC.1 46 37 rfl (by decide)) ?_
  exact xs_back rfl (fun K q => q)
set_option maxHeartbeats 4000000 in
set_option maxRecDepth 100000 in
theorem t_M_readPart_64 (v0 : Nat) (v1 : Int32) (v2 : Int32) (h : HP) : xx_S (xx_D "LampYardModel" tb_M_readPart 3 5 none false) (xx_z2 (fun s : (Int32 × HP) => s.2) xz_v) (fun K => xx_L2 (fun s : (Int32 × HP) => xx_X K 37 [(0, av_R 11 (some v0)), (1, av_I v1), (2, av_I s.1)] [] (s.2)) (xL_v K)) 64 [(0, av_R 11 (some v0)), (1, av_I v1), (2, av_I v2)] [] h (f_M_readPart_64 v0 v1 v2 h) := by
  unfold f_M_readPart_64
  refine xs_step (fun K HC => xr_iload_n HC.1 36 65 (n := 2) (ix := 2) (j := 2) (x := v2) rfl rfl rfl rfl) ?_
  refine xs_step (fun K HC => xr_iconst HC.1 37 66 (n := (2)) (2 : Int32) rfl rfl rfl) ?_
  refine xs_ite (fun K HC a b => xr_icmp_ne HC.1 38 76 69 rfl (by decide) rfl b a) ?_ ?_
  · refine xs_step (fun K HC => xr_aload_n HC.1 39 70 (n := 0) (ix := 0) (j := 0) (c := 11) (x := v0) rfl rfl rfl rfl) ?_
    refine xs_calli (s_M_sign v0 h) (fun K HC x9 hM hmo hb => xr_callV HC.1 40 73 (av := []) (st := []) (hM (kg K) (cx_l (kx K))) hmo hb rfl rfl wm_M_333 wi_M_sign ws_M_sign wc_M_sign rfl wh_M_sign (by decide) (by decide) (by decide) (Nat.le_of_ble_eq_true rfl) rfl) (fun x_7 => ?_)
    refine xs_step (fun K HC => xr_goto HC.1 41 81 rfl (by decide)) ?_
    refine xs_step (fun K HC => xr_sub (lv' := [(0, av_R 11 (some v0)), (1, av_I v1)]) [0, 1] rfl) ?_
    exact t_M_readPart_81 v0 v1 x_7.1 x_7.2
  refine xs_step (fun K HC => xr_aload_n HC.1 42 77 (n := 0) (ix := 0) (j := 0) (c := 11) (x := v0) rfl rfl rfl rfl) ?_
  refine xs_step (fun K HC => xr_iload_n HC.1 43 78 (n := 2) (ix := 2) (j := 2) (x := v2) rfl rfl rfl rfl) ?_
  refine xs_calli (s_M_operand v0 v2 h) (fun K HC x9 hM hmo hb => xr_callV HC.1 44 81 (av := [av_I v2]) (st := []) (hM (kg K) (cx_l (kx K))) hmo hb rfl rfl wm_M_336 wi_M_operand ws_M_operand wc_M_operand rfl wh_M_operand (by decide) (by decide) (by decide) (Nat.le_of_ble_eq_true rfl) rfl) (fun x_8 => ?_)
  refine xs_step (fun K HC => xr_sub (lv' := [(0, av_R 11 (some v0)), (1, av_I v1)]) [0, 1] rfl) ?_
  exact t_M_readPart_81 v0 v1 x_8.1 x_8.2
set_option maxHeartbeats 4000000 in
set_option maxRecDepth 100000 in
theorem t_M_readPart_85 (v0 : Nat) (h : HP) : xx_S (xx_D "LampYardModel" tb_M_readPart 3 5 none false) xz_v (fun K => xL_v K) 85 [(0, av_R 11 (some v0))] [] h (f_M_readPart_85 v0 h) := by
  unfold f_M_readPart_85
  refine xs_step (fun K HC => xr_aload_n HC.1 47 86 (n := 0) (ix := 0) (j := 0) (c := 11) (x := v0) rfl rfl rfl rfl) ?_
  refine xs_step (fun K HC => xr_geti HC.1 48 89 11 2 rfl rfl wf_M_227 (by decide) fb_11_2 fc_11_2) ?_
  refine xs_ite (fun K HC a b => xr_if_ne HC.1 49 97 92 rfl (by decide) rfl b a) ?_ ?_
  · refine xs_step (fun K HC => xr_aload_n HC.1 50 93 (n := 0) (ix := 0) (j := 0) (c := 11) (x := v0) rfl rfl rfl rfl) ?_
    refine xs_step (fun K HC => xr_iconst HC.1 51 94 (n := (0)) (0 : Int32) rfl rfl rfl) ?_
    refine xs_callv (s_M_settle v0 (0 : Int32) h) (fun K HC x9 hM hmo hb => xr_callV HC.1 52 97 (av := [av_I (0 : Int32)]) (st := []) (hM (kg K) (cx_l (kx K))) hmo hb rfl rfl wm_M_321 wi_M_settle ws_M_settle wc_M_settle rfl wh_M_settle (by decide) (by decide) (by decide) (Nat.le_of_ble_eq_true rfl) rfl) (fun x_10 => ?_)
    exact xs_ret 53 rfl rfl (fun K q => q)
  exact xs_ret 53 rfl rfl (fun K q => q)
set_option maxHeartbeats 4000000 in
set_option maxRecDepth 100000 in
theorem t_M_readPart_37b (v0 : Nat) (v1 : Int32) (v2 : Int32) (h : HP) : xx_S (xx_D "LampYardModel" tb_M_readPart 3 5 none false) (xx_z2 (fun s : (Int32 × HP) => s.2) xz_v) (fun K => xx_L2 (fun s : (Int32 × HP) => xx_X K 37 [(0, av_R 11 (some v0)), (1, av_I v1), (2, av_I s.1)] [] (s.2)) (xL_v K)) 37 [(0, av_R 11 (some v0)), (1, av_I v1), (2, av_I v2)] [] h (f_M_readPart_37b v0 v1 v2 h) := by
  unfold f_M_readPart_37b
  refine xs_step (fun K HC => xr_aload_n HC.1 23 38 (n := 0) (ix := 0) (j := 0) (c := 11) (x := v0) rfl rfl rfl rfl) ?_
  refine xs_step (fun K HC => xr_geti HC.1 24 41 11 2 rfl rfl wf_M_227 (by decide) fb_11_2 fc_11_2) ?_
  refine xs_ite (fun K HC a b => xr_if_ne HC.1 25 85 44 rfl (by decide) rfl b a) ?_ ?_
  · refine xs_step (fun K HC => xr_iload_n HC.1 26 45 (n := 2) (ix := 2) (j := 2) (x := v2) rfl rfl rfl rfl) ?_
    refine xs_step (fun K HC => xr_iconst HC.1 27 46 (n := (2)) (2 : Int32) rfl rfl rfl) ?_
    refine xs_ite (fun K HC a b => xr_icmp_ne HC.1 28 64 49 rfl (by decide) rfl b a) ?_ ?_
    · refine xs_step (fun K HC => xr_aload_n HC.1 29 50 (n := 0) (ix := 0) (j := 0) (c := 11) (x := v0) rfl rfl rfl rfl) ?_
      refine xs_step (fun K HC => xr_iload_n HC.1 30 51 (n := 1) (ix := 1) (j := 1) (x := v1) rfl rfl rfl rfl) ?_
      refine xs_calli (s_M_isAfter v0 v1 h) (fun K HC x9 hM hmo hb => xr_callV HC.1 31 54 (av := [av_I v1]) (st := []) (hM (kg K) (cx_l (kx K))) hmo hb rfl rfl wm_M_330 wi_M_isAfter ws_M_isAfter wc_M_isAfter rfl wh_M_isAfter (by decide) (by decide) (by decide) (Nat.le_of_ble_eq_true rfl) rfl) (fun x_6 => ?_)
      refine xs_ite (fun K HC => xr_if_eq HC.1 32 64 57 rfl (by decide) rfl) ?_ ?_
      · exact t_M_readPart_64 v0 v1 v2 x_6.2
      refine xs_step (fun K HC => xr_aload_n HC.1 33 58 (n := 0) (ix := 0) (j := 0) (c := 11) (x := v0) rfl rfl rfl rfl) ?_
      refine xs_calli (s_M_isOpen v0 x_6.2) (fun K HC x9 hM hmo hb => xr_callV HC.1 34 61 (av := []) (st := []) (hM (kg K) (cx_l (kx K))) hmo hb rfl rfl wm_M_317 wi_M_isOpen ws_M_isOpen wc_M_isOpen rfl wh_M_isOpen (by decide) (by decide) (by decide) (Nat.le_of_ble_eq_true rfl) rfl) (fun x_9 => ?_)
      refine xs_ite (fun K HC => xr_if_eq HC.1 35 85 64 rfl (by decide) rfl) ?_ ?_
      · refine xs_step (fun K HC => xr_sub (lv' := [(0, av_R 11 (some v0))]) [0] rfl) ?_
        exact xs_map (fun _ => rfl) (fun _ _ q => q) (t_M_readPart_85 v0 x_9.2)
      exact t_M_readPart_64 v0 v1 v2 x_9.2
    exact t_M_readPart_64 v0 v1 v2 h
  refine xs_step (fun K HC => xr_sub (lv' := [(0, av_R 11 (some v0))]) [0] rfl) ?_
  exact xs_map (fun _ => rfl) (fun _ _ q => q) (t_M_readPart_85 v0 h)
theorem t_M_readPart_37 (v0 : Nat) (v1 : Int32) (v2 : Int32) (h : HP) : xx_S (xx_D "LampYardModel" tb_M_readPart 3 5 none false) xz_v (fun K => xL_v K) 37 [(0, av_R 11 (some v0)), (1, av_I v1), (2, av_I v2)] [] h (f_M_readPart_37 v0 v1 v2 h) :=
  xs_loop (zf := xz_v) (L := (fun K => xL_v K)) (fun s : (Int32 × HP) => [(0, av_R 11 (some v0)), (1, av_I v1), (2, av_I s.1)]) (fun s : (Int32 × HP) => s.2) (fun s => t_M_readPart_37b v0 v1 s.1 s.2) (v2, h)
set_option maxHeartbeats 4000000 in
set_option maxRecDepth 100000 in
theorem t_M_readPart (v0 : Nat) (v1 : Int32) (h : HP) : xx_S (xx_D "LampYardModel" tb_M_readPart 3 5 none false) xz_v (fun K => xL_v K) 0 [(0, av_R 11 (some v0)), (1, av_I v1)] [] h (f_M_readPart v0 v1 h) := by
  unfold f_M_readPart
  refine xs_step (fun K HC => xr_aload_n HC.1 0 1 (n := 0) (ix := 0) (j := 0) (c := 11) (x := v0) rfl rfl rfl rfl) ?_
  refine xs_step (fun K HC => xr_geti HC.1 1 4 11 2 rfl rfl wf_M_227 (by decide) fb_11_2 fc_11_2) ?_
  refine xs_ite (fun K HC => xr_if_le HC.1 2 8 7 rfl (by decide) rfl) ?_ ?_
  · refine xs_step (fun K HC => xr_aload_n HC.1 4 9 (n := 0) (ix := 0) (j := 0) (c := 11) (x := v0) rfl rfl rfl rfl) ?_
    refine xs_bind (fun q_1 eq_1 => ?_)
    refine xs_step (fun K HC => xr_getr HC.1 5 12 11 38 13 eq_1 rfl rfl wf_M_55 (by decide) fb_11_38 fc_11_38 fd_11_38) ?_
    refine xs_step (fun K HC => xr_iconst HC.1 6 13 (n := (3)) (3 : Int32) rfl rfl rfl) ?_
    refine xs_step (fun K HC => xr_aload_n HC.1 7 14 (n := 0) (ix := 0) (j := 0) (c := 11) (x := v0) rfl rfl rfl rfl) ?_
    refine xs_step (fun K HC => xr_geti HC.1 8 17 11 26 rfl rfl wf_M_327 (by decide) fb_11_26 fc_11_26) ?_
    refine xs_step (fun K HC => xr_imul HC.1 9 18 rfl rfl) ?_
    refine xs_step (fun K HC => xr_iload_n HC.1 10 19 (n := 1) (ix := 1) (j := 1) (x := v1) rfl rfl rfl rfl) ?_
    refine xs_step (fun K HC => xr_iadd HC.1 11 20 rfl rfl) ?_
    refine xs_step (fun K HC => xr_aload_n HC.1 12 21 (n := 0) (ix := 0) (j := 0) (c := 11) (x := v0) rfl rfl rfl rfl) ?_
    refine xs_step (fun K HC => xr_geti HC.1 13 24 11 44 rfl rfl wf_M_288 (by decide) fb_11_44 fc_11_44) ?_
    refine xs_chk (fun hb_2 => ?_)
    refine xs_heap (hp_mo_si _ _ _ _) (fun K HC => xr_iast HC.1 14 25 (hp_in_vp hb_2) rfl rfl) (fun h_3 => ?_)
    refine xs_step (fun K HC => xr_aload_n HC.1 15 26 (n := 0) (ix := 0) (j := 0) (c := 11) (x := v0) rfl rfl rfl rfl) ?_
    refine xs_step (fun K HC => xr_iconst HC.1 16 27 (n := (0)) (0 : Int32) rfl rfl rfl) ?_
    refine xs_heap (hp_mo_si _ _ _ _) (fun K HC => xr_puti HC.1 17 30 11 45 rfl rfl wf_M_291 (by decide) fb_11_45 fn_11_45 fy_11_45) (fun h_4 => ?_)
    refine xs_step (fun K HC => xr_aload_n HC.1 18 31 (n := 0) (ix := 0) (j := 0) (c := 11) (x := v0) rfl rfl rfl rfl) ?_
    refine xs_step (fun K HC => xr_iconst HC.1 19 32 (n := (0)) (0 : Int32) rfl rfl rfl) ?_
    refine xs_heap (hp_mo_si _ _ _ _) (fun K HC => xr_puti HC.1 20 35 11 46 rfl rfl wf_M_294 (by decide) fb_11_46 fn_11_46 fy_11_46) (fun h_5 => ?_)
    refine xs_step (fun K HC => xr_iconst HC.1 21 36 (n := (0)) (0 : Int32) rfl rfl rfl) ?_
    refine xs_step (fun K HC => xr_istore_n HC.1 22 37 (n := 2) (ix := 2) (lv' := [(0, av_R 11 (some v0)), (1, av_I v1), (2, av_I (0 : Int32))]) rfl rfl rfl (by decide) rfl) ?_
    exact t_M_readPart_37 v0 v1 (0 : Int32) h_5
  exact xs_ret 3 rfl rfl (fun K q => q)
theorem s_M_readPart (v0 : Nat) (v1 : Int32) (h : HP) : ∀ x, f_M_readPart v0 v1 h = some x → hp_mo h x ∧ ∀ g l, xx_M g l y_M_readPart prog_14_method_27_code 3 none 5 [av_R 11 (some v0), av_I v1] h none x :=
  xM_v (tb := tb_M_readPart) (b := false) (by decide +kernel) dt_M_readPart trivial (Nat.le_of_ble_eq_true rfl) (fun hb => by cases hb) (t_M_readPart v0 v1 h)
def tb_M_roleNumber : TBL := [(0, .iconst (-1), 1), (1, .istore_n 3, 1), (2, .iconst 0, 1), (3, .istore 4, 2), (5, .iload 4, 2), (7, .aload_n 0, 1), (8, .getfield 339, 3), (11, .if_icmp .ge 28, 3), (14, .aload_n 0, 1), (15, .getfield 17, 3), (18, .iload 4, 2), (20, .laload, 1), (21, .lload_n 1, 1), (22, .lcmp, 1), (23, .ifCond .ne 8, 3), (26, .iload 4, 2), (28, .goto 4, 3), (31, .iload_n 3, 1), (32, .istore_n 3, 1), (33, .iinc 4 1, 3), (36, .goto (-31), 3), (39, .iload_n 3, 1), (40, .ireturn, 1)]
theorem dt_M_roleNumber : ∀ q ∈ tb_M_roleNumber, decode prog_14_method_28_code q.1 = .ok (q.2.1, q.2.2) := by decide +kernel
set_option maxHeartbeats 4000000 in
set_option maxRecDepth 100000 in
theorem t_M_roleNumber_32 (v0 : Nat) (v1 : Int64) (v4 : Int32) (s0 : Int32) (h : HP) : xx_S (xx_D "LampYardModel" tb_M_roleNumber 5 1 (some .int) false) (xx_z2 (fun s : (Int32 × Int32 × HP) => s.2.2) xz_i) (fun K => xx_L2 (fun s : (Int32 × Int32 × HP) => xx_X K 5 [(0, av_R 11 (some v0)), (1, av_L v1), (3, av_I s.1), (4, av_I s.2.1)] [] (s.2.2)) (xL_i K)) 32 [(0, av_R 11 (some v0)), (1, av_L v1), (4, av_I v4)] [av_I s0] h (f_M_roleNumber_32 v0 v1 v4 s0 h) := by
  unfold f_M_roleNumber_32
  refine xs_step (fun K HC => xr_istore_n HC.1 18 33 (n := 3) (ix := 3) (lv' := [(0, av_R 11 (some v0)), (1, av_L v1), (3, av_I s0), (4, av_I v4)]) rfl rfl rfl (by decide) rfl) ?_
  refine xs_gen (fun v4_3 ev4_3 => ?_)
  refine xs_step (fun K HC => xr_iinc HC.1 19 36 (ix := 4) (j := 3) (n := (1)) (x := v4) v4_3 (lv' := [(0, av_R 11 (some v0)), (1, av_L v1), (3, av_I s0), (4, av_I v4_3)]) rfl (by rw [ev4_3]; rfl) rfl rfl (by decide) rfl) ?_
  refine xs_step (fun K HC => xr_goto HC.1 20 5 rfl (by decide)) ?_
  exact xs_back rfl (fun K q => q)
set_option maxHeartbeats 4000000 in
set_option maxRecDepth 100000 in
theorem t_M_roleNumber_5b (v0 : Nat) (v1 : Int64) (v3 : Int32) (v4 : Int32) (h : HP) : xx_S (xx_D "LampYardModel" tb_M_roleNumber 5 1 (some .int) false) (xx_z2 (fun s : (Int32 × Int32 × HP) => s.2.2) xz_i) (fun K => xx_L2 (fun s : (Int32 × Int32 × HP) => xx_X K 5 [(0, av_R 11 (some v0)), (1, av_L v1), (3, av_I s.1), (4, av_I s.2.1)] [] (s.2.2)) (xL_i K)) 5 [(0, av_R 11 (some v0)), (1, av_L v1), (3, av_I v3), (4, av_I v4)] [] h (f_M_roleNumber_5b v0 v1 v3 v4 h) := by
  unfold f_M_roleNumber_5b
  refine xs_step (fun K HC => xr_iload HC.1 4 7 (ix := 4) (j := 3) (x := v4) rfl rfl rfl) ?_
  refine xs_step (fun K HC => xr_aload_n HC.1 5 8 (n := 0) (ix := 0) (j := 0) (c := 11) (x := v0) rfl rfl rfl rfl) ?_
  refine xs_step (fun K HC => xr_geti HC.1 6 11 11 24 rfl rfl wf_M_339 (by decide) fb_11_24 fc_11_24) ?_
  refine xs_ite (fun K HC => xr_icmp_ge HC.1 7 39 14 rfl (by decide) rfl) ?_ ?_
  · refine xs_step (fun K HC => xr_iload_n HC.1 21 40 (n := 3) (ix := 3) (j := 2) (x := v3) rfl rfl rfl rfl) ?_
    exact xs_reti 22 rfl rfl (fun K q => q) (fun ty ht => by cases ht; rfl)
  refine xs_step (fun K HC => xr_aload_n HC.1 8 15 (n := 0) (ix := 0) (j := 0) (c := 11) (x := v0) rfl rfl rfl rfl) ?_
  refine xs_bind (fun q_1 eq_1 => ?_)
  refine xs_step (fun K HC => xr_getr HC.1 9 18 11 10 14 eq_1 rfl rfl wf_M_17 (by decide) fb_11_10 fc_11_10 fd_11_10) ?_
  refine xs_step (fun K HC => xr_iload HC.1 10 20 (ix := 4) (j := 3) (x := v4) rfl rfl rfl) ?_
  refine xs_chk (fun hb_2 => ?_)
  refine xs_step (fun K HC => xr_lald HC.1 11 21 (hp_in_vp hb_2) rfl rfl) ?_
  refine xs_step (fun K HC => xr_lload_n HC.1 12 22 (n := 1) (ix := 1) (j := 1) (x := v1) rfl rfl rfl rfl) ?_
  refine xs_step (fun K HC => xr_lcmp HC.1 13 23 rfl rfl) ?_
  refine xs_ite (fun K HC a b => xr_if_ne HC.1 14 31 26 rfl (by decide) rfl b a) ?_ ?_
  · refine xs_step (fun K HC => xr_iload HC.1 15 28 (ix := 4) (j := 3) (x := v4) rfl rfl rfl) ?_
    refine xs_step (fun K HC => xr_goto HC.1 16 32 rfl (by decide)) ?_
    refine xs_step (fun K HC => xr_sub (lv' := [(0, av_R 11 (some v0)), (1, av_L v1), (4, av_I v4)]) [0, 1, 3] rfl) ?_
    exact t_M_roleNumber_32 v0 v1 v4 v4 h
  refine xs_step (fun K HC => xr_iload_n HC.1 17 32 (n := 3) (ix := 3) (j := 2) (x := v3) rfl rfl rfl rfl) ?_
  refine xs_step (fun K HC => xr_sub (lv' := [(0, av_R 11 (some v0)), (1, av_L v1), (4, av_I v4)]) [0, 1, 3] rfl) ?_
  exact t_M_roleNumber_32 v0 v1 v4 v3 h
theorem t_M_roleNumber_5 (v0 : Nat) (v1 : Int64) (v3 : Int32) (v4 : Int32) (h : HP) : xx_S (xx_D "LampYardModel" tb_M_roleNumber 5 1 (some .int) false) xz_i (fun K => xL_i K) 5 [(0, av_R 11 (some v0)), (1, av_L v1), (3, av_I v3), (4, av_I v4)] [] h (f_M_roleNumber_5 v0 v1 v3 v4 h) :=
  xs_loop (zf := xz_i) (L := (fun K => xL_i K)) (fun s : (Int32 × Int32 × HP) => [(0, av_R 11 (some v0)), (1, av_L v1), (3, av_I s.1), (4, av_I s.2.1)]) (fun s : (Int32 × Int32 × HP) => s.2.2) (fun s => t_M_roleNumber_5b v0 v1 s.1 s.2.1 s.2.2) (v3, v4, h)
set_option maxHeartbeats 4000000 in
set_option maxRecDepth 100000 in
theorem t_M_roleNumber (v0 : Nat) (v1 : Int64) (h : HP) : xx_S (xx_D "LampYardModel" tb_M_roleNumber 5 1 (some .int) false) xz_i (fun K => xL_i K) 0 [(0, av_R 11 (some v0)), (1, av_L v1)] [] h (f_M_roleNumber v0 v1 h) := by
  unfold f_M_roleNumber
  refine xs_step (fun K HC => xr_iconst HC.1 0 1 (n := (-1)) (-1 : Int32) rfl rfl rfl) ?_
  refine xs_step (fun K HC => xr_istore_n HC.1 1 2 (n := 3) (ix := 3) (lv' := [(0, av_R 11 (some v0)), (1, av_L v1), (3, av_I (-1 : Int32))]) rfl rfl rfl (by decide) rfl) ?_
  refine xs_step (fun K HC => xr_iconst HC.1 2 3 (n := (0)) (0 : Int32) rfl rfl rfl) ?_
  refine xs_step (fun K HC => xr_istore HC.1 3 5 (ix := 4) (lv' := [(0, av_R 11 (some v0)), (1, av_L v1), (3, av_I (-1 : Int32)), (4, av_I (0 : Int32))]) rfl rfl (by decide) rfl) ?_
  exact t_M_roleNumber_5 v0 v1 (-1 : Int32) (0 : Int32) h
theorem s_M_roleNumber (v0 : Nat) (v1 : Int64) (h : HP) : ∀ x, f_M_roleNumber v0 v1 h = some x → hp_mo h x.2 ∧ ∀ g l, xx_M g l y_M_roleNumber prog_14_method_28_code 5 (some .int) 1 [av_R 11 (some v0), av_L v1] h (some (av_I x.1)) x.2 :=
  xM_i (tb := tb_M_roleNumber) (b := false) (by decide +kernel) dt_M_roleNumber (fun _ => trivial) (Nat.le_of_ble_eq_true rfl) (fun hb => by cases hb) (t_M_roleNumber v0 v1 h)
def tb_M_readRole : TBL := [(0, .aload_n 0, 1), (1, .invokevirtual 277, 3), (4, .aload_n 0, 1), (5, .invokevirtual 342, 3), (8, .ifCond .ne 11, 3), (11, .aload_n 0, 1), (12, .iconst 2, 1), (13, .invokevirtual 274, 3), (16, .goto 19, 3), (19, .aload_n 0, 1), (20, .aload_n 0, 1), (21, .getfield 207, 3), (24, .invokevirtual 345, 3), (27, .ifCond .lt 8, 3), (30, .aload_n 0, 1), (31, .iconst 3, 1), (32, .invokevirtual 274, 3), (35, .aload_n 0, 1), (36, .getfield 227, 3), (39, .ifCond .le 4, 3), (42, .return_, 1), (43, .aload_n 0, 1), (44, .getfield 207, 3), (47, .lstore_n 1, 1), (48, .aload_n 0, 1), (49, .invokevirtual 277, 3), (52, .aload_n 0, 1), (53, .ldc2_w 246, 3), (56, .iconst 1, 1), (57, .bipush 6, 2), (59, .aload_n 0, 1), (60, .getfield 349, 3), (63, .isub, 1), (64, .invokevirtual 352, 3), (67, .istore_n 3, 1), (68, .aload_n 0, 1), (69, .ldc2_w 248, 3), (72, .iconst 0, 1), (73, .bipush 31, 2), (75, .invokevirtual 352, 3), (78, .istore 4, 2), (80, .aload_n 0, 1), (81, .getfield 227, 3), (84, .ifCond .le 4, 3), (87, .return_, 1), (88, .aload_n 0, 1), (89, .getfield 17, 3), (92, .aload_n 0, 1), (93, .getfield 339, 3), (96, .lload_n 1, 1), (97, .lastore, 1), (98, .aload_n 0, 1), (99, .getfield 21, 3), (102, .aload_n 0, 1), (103, .getfield 339, 3), (106, .iload_n 3, 1), (107, .iastore, 1), (108, .aload_n 0, 1), (109, .getfield 24, 3), (112, .aload_n 0, 1), (113, .getfield 339, 3), (116, .iload 4, 2), (118, .iastore, 1), (119, .aload_n 0, 1), (120, .dup, 1), (121, .getfield 339, 3), (124, .iconst 1, 1), (125, .iadd, 1), (126, .putfield 339, 3), (129, .aload_n 0, 1), (130, .dup, 1), (131, .getfield 349, 3), (134, .iload_n 3, 1), (135, .iadd, 1), (136, .putfield 349, 3), (139, .return_, 1)]
theorem dt_M_readRole : ∀ q ∈ tb_M_readRole, decode prog_14_method_29_code q.1 = .ok (q.2.1, q.2.2) := by decide +kernel
set_option maxHeartbeats 4000000 in
set_option maxRecDepth 100000 in
theorem t_M_readRole_35 (v0 : Nat) (h : HP) : xx_S (xx_D "LampYardModel" tb_M_readRole 5 5 none false) xz_v (fun K => xL_v K) 35 [(0, av_R 11 (some v0))] [] h (f_M_readRole_35 v0 h) := by
  unfold f_M_readRole_35
  refine xs_step (fun K HC => xr_aload_n HC.1 17 36 (n := 0) (ix := 0) (j := 0) (c := 11) (x := v0) rfl rfl rfl rfl) ?_
  refine xs_step (fun K HC => xr_geti HC.1 18 39 11 2 rfl rfl wf_M_227 (by decide) fb_11_2 fc_11_2) ?_
  refine xs_ite (fun K HC => xr_if_le HC.1 19 43 42 rfl (by decide) rfl) ?_ ?_
  · refine xs_step (fun K HC => xr_aload_n HC.1 21 44 (n := 0) (ix := 0) (j := 0) (c := 11) (x := v0) rfl rfl rfl rfl) ?_
    refine xs_step (fun K HC => xr_getl HC.1 22 47 11 9 rfl rfl wf_M_207 (by decide) fb_11_9 fc_11_9) ?_
    refine xs_topl (fun v1_4 => ?_)
    refine xs_step (fun K HC => xr_lstore_n HC.1 23 48 (n := 1) (ix := 1) (lv' := [(0, av_R 11 (some v0)), (1, av_L v1_4)]) rfl rfl rfl (by decide) rfl) ?_
    refine xs_step (fun K HC => xr_aload_n HC.1 24 49 (n := 0) (ix := 0) (j := 0) (c := 11) (x := v0) rfl rfl rfl rfl) ?_
    refine xs_callv (s_M_token v0 h) (fun K HC x9 hM hmo hb => xr_callV HC.1 25 52 (av := []) (st := []) (hM (kg K) (cx_l (kx K))) hmo hb rfl rfl wm_M_277 wi_M_token ws_M_token wc_M_token rfl wh_M_token (by decide) (by decide) (by decide) (Nat.le_of_ble_eq_true rfl) rfl) (fun x_5 => ?_)
    refine xs_step (fun K HC => xr_aload_n HC.1 26 53 (n := 0) (ix := 0) (j := 0) (c := 11) (x := v0) rfl rfl rfl rfl) ?_
    refine xs_step (fun K HC => xr_ldc2 HC.1 27 56 wk_M_246 rfl rfl) ?_
    refine xs_step (fun K HC => xr_iconst HC.1 28 57 (n := (1)) (1 : Int32) rfl rfl rfl) ?_
    refine xs_step (fun K HC => xr_bipush HC.1 29 59 (n := (6)) (6 : Int32) rfl rfl rfl) ?_
    refine xs_step (fun K HC => xr_aload_n HC.1 30 60 (n := 0) (ix := 0) (j := 0) (c := 11) (x := v0) rfl rfl rfl rfl) ?_
    refine xs_step (fun K HC => xr_geti HC.1 31 63 11 25 rfl rfl wf_M_349 (by decide) fb_11_25 fc_11_25) ?_
    refine xs_step (fun K HC => xr_isub HC.1 32 64 rfl rfl) ?_
    refine xs_calli (s_M_told v0 (7169390 : Int64) (1 : Int32) ((6 : Int32) - (hp_i x_5 v0 25)) x_5) (fun K HC x9 hM hmo hb => xr_callV HC.1 33 67 (av := [av_L (7169390 : Int64), av_I (1 : Int32), av_I ((6 : Int32) - (hp_i x_5 v0 25))]) (st := []) (hM (kg K) (cx_l (kx K))) hmo hb rfl rfl wm_M_352 wi_M_told ws_M_told wc_M_told rfl wh_M_told (by decide) (by decide) (by decide) (Nat.le_of_ble_eq_true rfl) rfl) (fun x_6 => ?_)
    refine xs_step (fun K HC => xr_istore_n HC.1 34 68 (n := 3) (ix := 3) (lv' := [(0, av_R 11 (some v0)), (1, av_L v1_4), (3, av_I x_6.1)]) rfl rfl rfl (by decide) rfl) ?_
    refine xs_step (fun K HC => xr_aload_n HC.1 35 69 (n := 0) (ix := 0) (j := 0) (c := 11) (x := v0) rfl rfl rfl rfl) ?_
    refine xs_step (fun K HC => xr_ldc2 HC.1 36 72 wk_M_248 rfl rfl) ?_
    refine xs_step (fun K HC => xr_iconst HC.1 37 73 (n := (0)) (0 : Int32) rfl rfl rfl) ?_
    refine xs_step (fun K HC => xr_bipush HC.1 38 75 (n := (31)) (31 : Int32) rfl rfl rfl) ?_
    refine xs_calli (s_M_told v0 (448545973363 : Int64) (0 : Int32) (31 : Int32) x_6.2) (fun K HC x9 hM hmo hb => xr_callV HC.1 39 78 (av := [av_L (448545973363 : Int64), av_I (0 : Int32), av_I (31 : Int32)]) (st := []) (hM (kg K) (cx_l (kx K))) hmo hb rfl rfl wm_M_352 wi_M_told ws_M_told wc_M_told rfl wh_M_told (by decide) (by decide) (by decide) (Nat.le_of_ble_eq_true rfl) rfl) (fun x_7 => ?_)
    refine xs_step (fun K HC => xr_istore HC.1 40 80 (ix := 4) (lv' := [(0, av_R 11 (some v0)), (1, av_L v1_4), (3, av_I x_6.1), (4, av_I x_7.1)]) rfl rfl (by decide) rfl) ?_
    refine xs_step (fun K HC => xr_aload_n HC.1 41 81 (n := 0) (ix := 0) (j := 0) (c := 11) (x := v0) rfl rfl rfl rfl) ?_
    refine xs_step (fun K HC => xr_geti HC.1 42 84 11 2 rfl rfl wf_M_227 (by decide) fb_11_2 fc_11_2) ?_
    refine xs_ite (fun K HC => xr_if_le HC.1 43 88 87 rfl (by decide) rfl) ?_ ?_
    · refine xs_step (fun K HC => xr_aload_n HC.1 45 89 (n := 0) (ix := 0) (j := 0) (c := 11) (x := v0) rfl rfl rfl rfl) ?_
      refine xs_bind (fun q_8 eq_8 => ?_)
      refine xs_step (fun K HC => xr_getr HC.1 46 92 11 10 14 eq_8 rfl rfl wf_M_17 (by decide) fb_11_10 fc_11_10 fd_11_10) ?_
      refine xs_step (fun K HC => xr_aload_n HC.1 47 93 (n := 0) (ix := 0) (j := 0) (c := 11) (x := v0) rfl rfl rfl rfl) ?_
      refine xs_step (fun K HC => xr_geti HC.1 48 96 11 24 rfl rfl wf_M_339 (by decide) fb_11_24 fc_11_24) ?_
      refine xs_step (fun K HC => xr_lload_n HC.1 49 97 (n := 1) (ix := 1) (j := 1) (x := v1_4) rfl rfl rfl rfl) ?_
      refine xs_chk (fun hb_9 => ?_)
      refine xs_heap (hp_mo_sl _ _ _ _) (fun K HC => xr_last HC.1 50 98 (hp_in_vp hb_9) rfl rfl) (fun h_10 => ?_)
      refine xs_step (fun K HC => xr_aload_n HC.1 51 99 (n := 0) (ix := 0) (j := 0) (c := 11) (x := v0) rfl rfl rfl rfl) ?_
      refine xs_bind (fun q_11 eq_11 => ?_)
      refine xs_step (fun K HC => xr_getr HC.1 52 102 11 11 13 eq_11 rfl rfl wf_M_21 (by decide) fb_11_11 fc_11_11 fd_11_11) ?_
      refine xs_step (fun K HC => xr_aload_n HC.1 53 103 (n := 0) (ix := 0) (j := 0) (c := 11) (x := v0) rfl rfl rfl rfl) ?_
      refine xs_step (fun K HC => xr_geti HC.1 54 106 11 24 rfl rfl wf_M_339 (by decide) fb_11_24 fc_11_24) ?_
      refine xs_step (fun K HC => xr_iload_n HC.1 55 107 (n := 3) (ix := 3) (j := 2) (x := x_6.1) rfl rfl rfl rfl) ?_
      refine xs_chk (fun hb_12 => ?_)
      refine xs_heap (hp_mo_si _ _ _ _) (fun K HC => xr_iast HC.1 56 108 (hp_in_vp hb_12) rfl rfl) (fun h_13 => ?_)
      refine xs_step (fun K HC => xr_aload_n HC.1 57 109 (n := 0) (ix := 0) (j := 0) (c := 11) (x := v0) rfl rfl rfl rfl) ?_
      refine xs_bind (fun q_14 eq_14 => ?_)
      refine xs_step (fun K HC => xr_getr HC.1 58 112 11 12 13 eq_14 rfl rfl wf_M_24 (by decide) fb_11_12 fc_11_12 fd_11_12) ?_
      refine xs_step (fun K HC => xr_aload_n HC.1 59 113 (n := 0) (ix := 0) (j := 0) (c := 11) (x := v0) rfl rfl rfl rfl) ?_
      refine xs_step (fun K HC => xr_geti HC.1 60 116 11 24 rfl rfl wf_M_339 (by decide) fb_11_24 fc_11_24) ?_
      refine xs_step (fun K HC => xr_iload HC.1 61 118 (ix := 4) (j := 3) (x := x_7.1) rfl rfl rfl) ?_
      refine xs_chk (fun hb_15 => ?_)
      refine xs_heap (hp_mo_si _ _ _ _) (fun K HC => xr_iast HC.1 62 119 (hp_in_vp hb_15) rfl rfl) (fun h_16 => ?_)
      refine xs_step (fun K HC => xr_aload_n HC.1 63 120 (n := 0) (ix := 0) (j := 0) (c := 11) (x := v0) rfl rfl rfl rfl) ?_
      refine xs_step (fun K HC => xr_dup HC.1 64 121 rfl rfl rfl) ?_
      refine xs_step (fun K HC => xr_geti HC.1 65 124 11 24 rfl rfl wf_M_339 (by decide) fb_11_24 fc_11_24) ?_
      refine xs_step (fun K HC => xr_iconst HC.1 66 125 (n := (1)) (1 : Int32) rfl rfl rfl) ?_
      refine xs_step (fun K HC => xr_iadd HC.1 67 126 rfl rfl) ?_
      refine xs_heap (hp_mo_si _ _ _ _) (fun K HC => xr_puti HC.1 68 129 11 24 rfl rfl wf_M_339 (by decide) fb_11_24 fn_11_24 fy_11_24) (fun h_17 => ?_)
      refine xs_step (fun K HC => xr_aload_n HC.1 69 130 (n := 0) (ix := 0) (j := 0) (c := 11) (x := v0) rfl rfl rfl rfl) ?_
      refine xs_step (fun K HC => xr_dup HC.1 70 131 rfl rfl rfl) ?_
      refine xs_step (fun K HC => xr_geti HC.1 71 134 11 25 rfl rfl wf_M_349 (by decide) fb_11_25 fc_11_25) ?_
      refine xs_step (fun K HC => xr_iload_n HC.1 72 135 (n := 3) (ix := 3) (j := 2) (x := x_6.1) rfl rfl rfl rfl) ?_
      refine xs_step (fun K HC => xr_iadd HC.1 73 136 rfl rfl) ?_
      refine xs_heap (hp_mo_si _ _ _ _) (fun K HC => xr_puti HC.1 74 139 11 25 rfl rfl wf_M_349 (by decide) fb_11_25 fn_11_25 fy_11_25) (fun h_18 => ?_)
      exact xs_ret 75 rfl rfl (fun K q => q)
    exact xs_ret 44 rfl rfl (fun K q => q)
  exact xs_ret 20 rfl rfl (fun K q => q)
set_option maxHeartbeats 4000000 in
set_option maxRecDepth 100000 in
theorem t_M_readRole (v0 : Nat) (h : HP) : xx_S (xx_D "LampYardModel" tb_M_readRole 5 5 none false) xz_v (fun K => xL_v K) 0 [(0, av_R 11 (some v0))] [] h (f_M_readRole v0 h) := by
  unfold f_M_readRole
  refine xs_step (fun K HC => xr_aload_n HC.1 0 1 (n := 0) (ix := 0) (j := 0) (c := 11) (x := v0) rfl rfl rfl rfl) ?_
  refine xs_callv (s_M_token v0 h) (fun K HC x9 hM hmo hb => xr_callV HC.1 1 4 (av := []) (st := []) (hM (kg K) (cx_l (kx K))) hmo hb rfl rfl wm_M_277 wi_M_token ws_M_token wc_M_token rfl wh_M_token (by decide) (by decide) (by decide) (Nat.le_of_ble_eq_true rfl) rfl) (fun x_1 => ?_)
  refine xs_step (fun K HC => xr_aload_n HC.1 2 5 (n := 0) (ix := 0) (j := 0) (c := 11) (x := v0) rfl rfl rfl rfl) ?_
  refine xs_calli (s_M_isName v0 x_1) (fun K HC x9 hM hmo hb => xr_callV HC.1 3 8 (av := []) (st := []) (hM (kg K) (cx_l (kx K))) hmo hb rfl rfl wm_M_342 wi_M_isName ws_M_isName wc_M_isName rfl wh_M_isName (by decide) (by decide) (by decide) (Nat.le_of_ble_eq_true rfl) rfl) (fun x_2 => ?_)
  refine xs_ite (fun K HC a b => xr_if_ne HC.1 4 19 11 rfl (by decide) rfl b a) ?_ ?_
  · refine xs_step (fun K HC => xr_aload_n HC.1 5 12 (n := 0) (ix := 0) (j := 0) (c := 11) (x := v0) rfl rfl rfl rfl) ?_
    refine xs_step (fun K HC => xr_iconst HC.1 6 13 (n := (2)) (2 : Int32) rfl rfl rfl) ?_
    refine xs_callv (s_M_wrong v0 (2 : Int32) x_2.2) (fun K HC x9 hM hmo hb => xr_callV HC.1 7 16 (av := [av_I (2 : Int32)]) (st := []) (hM (kg K) (cx_l (kx K))) hmo hb rfl rfl wm_M_274 wi_M_wrong ws_M_wrong wc_M_wrong rfl wh_M_wrong (by decide) (by decide) (by decide) (Nat.le_of_ble_eq_true rfl) rfl) (fun x_3 => ?_)
    refine xs_step (fun K HC => xr_goto HC.1 8 35 rfl (by decide)) ?_
    exact t_M_readRole_35 v0 x_3
  refine xs_step (fun K HC => xr_aload_n HC.1 9 20 (n := 0) (ix := 0) (j := 0) (c := 11) (x := v0) rfl rfl rfl rfl) ?_
  refine xs_step (fun K HC => xr_aload_n HC.1 10 21 (n := 0) (ix := 0) (j := 0) (c := 11) (x := v0) rfl rfl rfl rfl) ?_
  refine xs_step (fun K HC => xr_getl HC.1 11 24 11 9 rfl rfl wf_M_207 (by decide) fb_11_9 fc_11_9) ?_
  refine xs_calli (s_M_roleNumber v0 (hp_l x_2.2 v0 9) x_2.2) (fun K HC x9 hM hmo hb => xr_callV HC.1 12 27 (av := [av_L (hp_l x_2.2 v0 9)]) (st := []) (hM (kg K) (cx_l (kx K))) hmo hb rfl rfl wm_M_345 wi_M_roleNumber ws_M_roleNumber wc_M_roleNumber rfl wh_M_roleNumber (by decide) (by decide) (by decide) (Nat.le_of_ble_eq_true rfl) rfl) (fun x_19 => ?_)
  refine xs_ite (fun K HC => xr_if_lt HC.1 13 35 30 rfl (by decide) rfl) ?_ ?_
  · exact t_M_readRole_35 v0 x_19.2
  refine xs_step (fun K HC => xr_aload_n HC.1 14 31 (n := 0) (ix := 0) (j := 0) (c := 11) (x := v0) rfl rfl rfl rfl) ?_
  refine xs_step (fun K HC => xr_iconst HC.1 15 32 (n := (3)) (3 : Int32) rfl rfl rfl) ?_
  refine xs_callv (s_M_wrong v0 (3 : Int32) x_19.2) (fun K HC x9 hM hmo hb => xr_callV HC.1 16 35 (av := [av_I (3 : Int32)]) (st := []) (hM (kg K) (cx_l (kx K))) hmo hb rfl rfl wm_M_274 wi_M_wrong ws_M_wrong wc_M_wrong rfl wh_M_wrong (by decide) (by decide) (by decide) (Nat.le_of_ble_eq_true rfl) rfl) (fun x_20 => ?_)
  exact t_M_readRole_35 v0 x_20
theorem s_M_readRole (v0 : Nat) (h : HP) : ∀ x, f_M_readRole v0 h = some x → hp_mo h x ∧ ∀ g l, xx_M g l y_M_readRole prog_14_method_29_code 5 none 5 [av_R 11 (some v0)] h none x :=
  xM_v (tb := tb_M_readRole) (b := false) (by decide +kernel) dt_M_readRole trivial (Nat.le_of_ble_eq_true rfl) (fun hb => by cases hb) (t_M_readRole v0 h)
