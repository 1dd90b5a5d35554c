def tb_Co_leadOut : TBL := [(0, .aload_n 1, 1), (1, .aload_n 0, 1), (2, .getfield 21, 3), (5, .iload_n 2, 1), (6, .invokevirtual 45, 3), (9, .istore_n 3, 1), (10, .aload_n 0, 1), (11, .aload_n 1, 1), (12, .aload_n 0, 1), (13, .getfield 21, 3), (16, .iload_n 2, 1), (17, .iload_n 3, 1), (18, .invokevirtual 49, 3), (21, .putfield 21, 3), (24, .aload_n 0, 1), (25, .dup, 1), (26, .getfield 25, 3), (29, .iconst 1, 1), (30, .iadd, 1), (31, .putfield 25, 3), (34, .iload_n 3, 1), (35, .sipush 256, 3), (38, .iand, 1), (39, .ifCond .eq 13, 3), (42, .aload_n 0, 1), (43, .getfield 9, 3), (46, .iload_n 2, 1), (47, .dup2, 1), (48, .iaload, 1), (49, .iconst 1, 1), (50, .iadd, 1), (51, .iastore, 1), (52, .iload_n 3, 1), (53, .sipush 128, 3), (56, .iand, 1), (57, .ifCond .ne 5, 3), (60, .iconst 0, 1), (61, .ireturn, 1), (62, .aload_n 0, 1), (63, .iconst 1, 1), (64, .putfield 29, 3), (67, .aload_n 1, 1), (68, .aload_n 0, 1), (69, .getfield 21, 3), (72, .invokevirtual 53, 3), (75, .ifCond .eq 7, 3), (78, .iconst 1, 1), (79, .goto 4, 3), (82, .iconst 2, 1), (83, .ireturn, 1)]
theorem dt_Co_leadOut : ∀ q ∈ tb_Co_leadOut, decode prog_3_method_4_code q.1 = .ok (q.2.1, q.2.2) := by decide +kernel
set_option maxHeartbeats 4000000 in
set_option maxRecDepth 100000 in
theorem t_Co_leadOut_52 (v0 : Nat) (v1 : Nat) (v3 : Int32) (h : HP) : xx_S (xx_D "LampYard$Course" tb_Co_leadOut 4 4 (some .int) false) xz_i (fun K => xL_i K) 52 [(0, av_R 1 (some v0)), (1, av_R 4 (some v1)), (3, av_I v3)] [] h (f_Co_leadOut_52 v0 v1 v3 h) := by
  unfold f_Co_leadOut_52
  refine xs_step (fun K HC => xr_iload_n HC.1 32 53 (n := 3) (ix := 3) (j := 2) (x := v3) rfl rfl rfl rfl) ?_
  refine xs_step (fun K HC => xr_sipush HC.1 33 56 (n := (128)) (128 : Int32) rfl rfl rfl) ?_
  refine xs_step (fun K HC => xr_iand HC.1 34 57 rfl rfl) ?_
  refine xs_ite (fun K HC a b => xr_if_ne HC.1 35 62 60 rfl (by decide) rfl b a) ?_ ?_
  · refine xs_step (fun K HC => xr_iconst HC.1 36 61 (n := (0)) (0 : Int32) rfl rfl rfl) ?_
    exact xs_reti 37 rfl rfl (fun K q => q) (fun ty ht => by cases ht; rfl)
  refine xs_step (fun K HC => xr_aload_n HC.1 38 63 (n := 0) (ix := 0) (j := 0) (c := 1) (x := v0) rfl rfl rfl rfl) ?_
  refine xs_step (fun K HC => xr_iconst HC.1 39 64 (n := (1)) (1 : Int32) rfl rfl rfl) ?_
  refine xs_heap (hp_mo_si _ _ _ _) (fun K HC => xr_putz HC.1 40 67 1 2 (Or.inr rfl) rfl rfl wf_Co_29 (by decide) fb_1_2 fn_1_2 fy_1_2) (fun h_5 => ?_)
  refine xs_step (fun K HC => xr_aload_n HC.1 41 68 (n := 1) (ix := 1) (j := 1) (c := 4) (x := v1) rfl rfl rfl rfl) ?_
  refine xs_step (fun K HC => xr_aload_n HC.1 42 69 (n := 0) (ix := 0) (j := 0) (c := 1) (x := v0) rfl rfl rfl rfl) ?_
  refine xs_step (fun K HC => xr_getl HC.1 43 72 1 0 rfl rfl wf_Co_21 (by decide) fb_1_0 fc_1_0) ?_
  refine xs_calli (s_Pl_haveAllBeen v1 (hp_l h_5 v0 0) h_5) (fun K HC x9 hM hmo hb => xr_callV HC.1 44 75 (av := [av_L (hp_l h_5 v0 0)]) (st := []) (hM (kg K) (cx_l (kx K))) hmo hb rfl rfl wm_Co_53 wi_Pl_haveAllBeen ws_Pl_haveAllBeen wc_Pl_haveAllBeen rfl wh_Pl_haveAllBeen (by decide) (by decide) (by decide) (Nat.le_of_ble_eq_true rfl) rfl) (fun x_6 => ?_)
  refine xs_ite (fun K HC => xr_if_eq HC.1 45 82 78 rfl (by decide) rfl) ?_ ?_
  · refine xs_step (fun K HC => xr_iconst HC.1 48 83 (n := (2)) (2 : Int32) rfl rfl rfl) ?_
    exact xs_reti 49 rfl rfl (fun K q => q) (fun ty ht => by cases ht; rfl)
  refine xs_step (fun K HC => xr_iconst HC.1 46 79 (n := (1)) (1 : Int32) rfl rfl rfl) ?_
  refine xs_step (fun K HC => xr_goto HC.1 47 83 rfl (by decide)) ?_
  exact xs_reti 49 rfl rfl (fun K q => q) (fun ty ht => by cases ht; rfl)
set_option maxHeartbeats 4000000 in
set_option maxRecDepth 100000 in
theorem t_Co_leadOut (v0 : Nat) (v1 : Nat) (v2 : Int32) (h : HP) : xx_S (xx_D "LampYard$Course" tb_Co_leadOut 4 4 (some .int) false) xz_i (fun K => xL_i K) 0 [(0, av_R 1 (some v0)), (1, av_R 4 (some v1)), (2, av_I v2)] [] h (f_Co_leadOut v0 v1 v2 h) := by
  unfold f_Co_leadOut
  refine xs_step (fun K HC => xr_aload_n HC.1 0 1 (n := 1) (ix := 1) (j := 1) (c := 4) (x := v1) rfl rfl rfl rfl) ?_
  refine xs_step (fun K HC => xr_aload_n HC.1 1 2 (n := 0) (ix := 0) (j := 0) (c := 1) (x := v0) rfl rfl rfl rfl) ?_
  refine xs_step (fun K HC => xr_getl HC.1 2 5 1 0 rfl rfl wf_Co_21 (by decide) fb_1_0 fc_1_0) ?_
  refine xs_step (fun K HC => xr_iload_n HC.1 3 6 (n := 2) (ix := 2) (j := 2) (x := v2) rfl rfl rfl rfl) ?_
  refine xs_calli (s_Pl_outcome v1 (hp_l h v0 0) v2 h) (fun K HC x9 hM hmo hb => xr_callV HC.1 4 9 (av := [av_L (hp_l h v0 0), av_I v2]) (st := []) (hM (kg K) (cx_l (kx K))) hmo hb rfl rfl wm_Co_45 wi_Pl_outcome ws_Pl_outcome wc_Pl_outcome rfl wh_Pl_outcome (by decide) (by decide) (by decide) (Nat.le_of_ble_eq_true rfl) rfl) (fun x_1 => ?_)
  refine xs_step (fun K HC => xr_istore_n HC.1 5 10 (n := 3) (ix := 3) (lv' := [(0, av_R 1 (some v0)), (1, av_R 4 (some v1)), (2, av_I v2), (3, av_I x_1.1)]) rfl rfl rfl (by decide) rfl) ?_
  refine xs_step (fun K HC => xr_aload_n HC.1 6 11 (n := 0) (ix := 0) (j := 0) (c := 1) (x := v0) rfl rfl rfl rfl) ?_
  refine xs_step (fun K HC => xr_aload_n HC.1 7 12 (n := 1) (ix := 1) (j := 1) (c := 4) (x := v1) rfl rfl rfl rfl) ?_
  refine xs_step (fun K HC => xr_aload_n HC.1 8 13 (n := 0) (ix := 0) (j := 0) (c := 1) (x := v0) rfl rfl rfl rfl) ?_
  refine xs_step (fun K HC => xr_getl HC.1 9 16 1 0 rfl rfl wf_Co_21 (by decide) fb_1_0 fc_1_0) ?_
  refine xs_step (fun K HC => xr_iload_n HC.1 10 17 (n := 2) (ix := 2) (j := 2) (x := v2) rfl rfl rfl rfl) ?_
  refine xs_step (fun K HC => xr_iload_n HC.1 11 18 (n := 3) (ix := 3) (j := 3) (x := x_1.1) rfl rfl rfl rfl) ?_
  refine xs_calll (s_Pl_after v1 (hp_l x_1.2 v0 0) v2 x_1.1 x_1.2) (fun K HC x9 hM hmo hb => xr_callV HC.1 12 21 (av := [av_L (hp_l x_1.2 v0 0), av_I v2, av_I x_1.1]) (st := [av_R 1 (some v0)]) (hM (kg K) (cx_l (kx K))) hmo hb rfl rfl wm_Co_49 wi_Pl_after ws_Pl_after wc_Pl_after rfl wh_Pl_after (by decide) (by decide) (by decide) (Nat.le_of_ble_eq_true rfl) rfl) (fun x_2 => ?_)
  refine xs_heap (hp_mo_sl _ _ _ _) (fun K HC => xr_putl HC.1 13 24 1 0 rfl rfl wf_Co_21 (by decide) fb_1_0 fn_1_0 fy_1_0) (fun h_3 => ?_)
  refine xs_step (fun K HC => xr_aload_n HC.1 14 25 (n := 0) (ix := 0) (j := 0) (c := 1) (x := v0) rfl rfl rfl rfl) ?_
  refine xs_step (fun K HC => xr_dup HC.1 15 26 rfl rfl rfl) ?_
  refine xs_step (fun K HC => xr_geti HC.1 16 29 1 1 rfl rfl wf_Co_25 (by decide) fb_1_1 fc_1_1) ?_
  refine xs_step (fun K HC => xr_iconst HC.1 17 30 (n := (1)) (1 : Int32) rfl rfl rfl) ?_
  refine xs_step (fun K HC => xr_iadd HC.1 18 31 rfl rfl) ?_
  refine xs_heap (hp_mo_si _ _ _ _) (fun K HC => xr_puti HC.1 19 34 1 1 rfl rfl wf_Co_25 (by decide) fb_1_1 fn_1_1 fy_1_1) (fun h_4 => ?_)
  refine xs_step (fun K HC => xr_iload_n HC.1 20 35 (n := 3) (ix := 3) (j := 3) (x := x_1.1) rfl rfl rfl rfl) ?_
  refine xs_step (fun K HC => xr_sipush HC.1 21 38 (n := (256)) (256 : Int32) rfl rfl rfl) ?_
  refine xs_step (fun K HC => xr_iand HC.1 22 39 rfl rfl) ?_
  refine xs_ite (fun K HC => xr_if_eq HC.1 23 52 42 rfl (by decide) rfl) ?_ ?_
  · refine xs_step (fun K HC => xr_sub (lv' := [(0, av_R 1 (some v0)), (1, av_R 4 (some v1)), (3, av_I x_1.1)]) [0, 1, 3] rfl) ?_
    exact t_Co_leadOut_52 v0 v1 x_1.1 h_4
  refine xs_step (fun K HC => xr_aload_n HC.1 24 43 (n := 0) (ix := 0) (j := 0) (c := 1) (x := v0) rfl rfl rfl rfl) ?_
  refine xs_bind (fun q_7 eq_7 => ?_)
  refine xs_step (fun K HC => xr_getr HC.1 25 46 1 4 13 eq_7 rfl rfl wf_Co_9 (by decide) fb_1_4 fc_1_4 fd_1_4) ?_
  refine xs_step (fun K HC => xr_iload_n HC.1 26 47 (n := 2) (ix := 2) (j := 2) (x := v2) rfl rfl rfl rfl) ?_
  refine xs_step (fun K HC => xr_dup2 HC.1 27 48 rfl rfl rfl rfl) ?_
  refine xs_chk (fun hb_8 => ?_)
  refine xs_step (fun K HC => xr_iald HC.1 28 49 (hp_in_vp hb_8) rfl rfl) ?_
  refine xs_step (fun K HC => xr_iconst HC.1 29 50 (n := (1)) (1 : Int32) rfl rfl rfl) ?_
  refine xs_step (fun K HC => xr_iadd HC.1 30 51 rfl rfl) ?_
  refine xs_chk (fun hb_9 => ?_)
  refine xs_heap (hp_mo_si _ _ _ _) (fun K HC => xr_iast HC.1 31 52 (hp_in_vp hb_9) rfl rfl) (fun h_10 => ?_)
  refine xs_step (fun K HC => xr_sub (lv' := [(0, av_R 1 (some v0)), (1, av_R 4 (some v1)), (3, av_I x_1.1)]) [0, 1, 3] rfl) ?_
  exact t_Co_leadOut_52 v0 v1 x_1.1 h_10
theorem s_Co_leadOut (v0 : Nat) (v1 : Nat) (v2 : Int32) (h : HP) : ∀ x, f_Co_leadOut v0 v1 v2 h = some x → hp_mo h x.2 ∧ ∀ g l, xx_M g l y_Co_leadOut prog_3_method_4_code 4 (some .int) 4 [av_R 1 (some v0), av_R 4 (some v1), av_I v2] h (some (av_I x.1)) x.2 :=
  xM_i (tb := tb_Co_leadOut) (b := false) (by decide +kernel) dt_Co_leadOut (fun _ => trivial) (Nat.le_of_ble_eq_true rfl) (fun hb => by cases hb) (t_Co_leadOut v0 v1 v2 h)
def tb_X_lead : TBL := [(0, .aload_n 0, 1), (1, .getfield 23, 3), (4, .iload_n 1, 1), (5, .invokevirtual 80, 3), (8, .ifCond .eq 26, 3), (11, .aload_n 0, 1), (12, .getfield 33, 3), (15, .getfield 83, 3), (18, .ifCond .ne 16, 3), (21, .aload_n 0, 1), (22, .getfield 33, 3), (25, .getfield 87, 3), (28, .sipush 10000, 3), (31, .if_icmp .lt 5, 3), (34, .iconst (-1), 1), (35, .ireturn, 1), (36, .aload_n 0, 1), (37, .getfield 33, 3), (40, .aload_n 0, 1), (41, .getfield 23, 3), (44, .iload_n 1, 1), (45, .invokevirtual 90, 3), (48, .ireturn, 1)]
theorem dt_X_lead : ∀ q ∈ tb_X_lead, decode prog_1_method_7_code q.1 = .ok (q.2.1, q.2.2) := by decide +kernel
set_option maxHeartbeats 4000000 in
set_option maxRecDepth 100000 in
theorem t_X_lead (v0 : Nat) (v1 : Int32) (h : HP) : xx_S (xx_D "LampYard" tb_X_lead 2 5 (some .int) false) xz_i (fun K => xL_i K) 0 [(0, av_R 10 (some v0)), (1, av_I v1)] [] h (f_X_lead v0 v1 h) := by
  unfold f_X_lead
  refine xs_step (fun K HC => xr_aload_n HC.1 0 1 (n := 0) (ix := 0) (j := 0) (c := 10) (x := v0) rfl rfl rfl rfl) ?_
  refine xs_bind (fun q_1 eq_1 => ?_)
  refine xs_step (fun K HC => xr_getr HC.1 1 4 10 3 4 eq_1 rfl rfl wf_X_23 (by decide) fb_10_3 fc_10_3 fd_10_3) ?_
  refine xs_step (fun K HC => xr_iload_n HC.1 2 5 (n := 1) (ix := 1) (j := 1) (x := v1) rfl rfl rfl rfl) ?_
  refine xs_calli (s_Pl_hasMan q_1 v1 h) (fun K HC x9 hM hmo hb => xr_callV HC.1 3 8 (av := [av_I v1]) (st := []) (hM (kg K) (cx_l (kx K))) hmo hb rfl rfl wm_X_80 wi_Pl_hasMan ws_Pl_hasMan wc_Pl_hasMan rfl wh_Pl_hasMan (by decide) (by decide) (by decide) (Nat.le_of_ble_eq_true rfl) rfl) (fun x_2 => ?_)
  refine xs_ite (fun K HC => xr_if_eq HC.1 4 34 11 rfl (by decide) rfl) ?_ ?_
  · refine xs_step (fun K HC => xr_iconst HC.1 14 35 (n := (-1)) (-1 : Int32) rfl rfl rfl) ?_
    exact xs_reti 15 rfl rfl (fun K q => q) (fun ty ht => by cases ht; rfl)
  refine xs_step (fun K HC => xr_aload_n HC.1 5 12 (n := 0) (ix := 0) (j := 0) (c := 10) (x := v0) rfl rfl rfl rfl) ?_
  refine xs_bind (fun q_3 eq_3 => ?_)
  refine xs_step (fun K HC => xr_getr HC.1 6 15 10 5 1 eq_3 rfl rfl wf_X_33 (by decide) fb_10_5 fc_10_5 fd_10_5) ?_
  refine xs_step (fun K HC => xr_geti HC.1 7 18 1 2 rfl rfl wf_X_83 (by decide) fb_1_2 fc_1_2) ?_
  refine xs_ite (fun K HC a b => xr_if_ne HC.1 8 34 21 rfl (by decide) rfl b a) ?_ ?_
  · refine xs_step (fun K HC => xr_aload_n HC.1 9 22 (n := 0) (ix := 0) (j := 0) (c := 10) (x := v0) rfl rfl rfl rfl) ?_
    refine xs_bind (fun q_4 eq_4 => ?_)
    refine xs_step (fun K HC => xr_getr HC.1 10 25 10 5 1 eq_4 rfl rfl wf_X_33 (by decide) fb_10_5 fc_10_5 fd_10_5) ?_
    refine xs_step (fun K HC => xr_geti HC.1 11 28 1 1 rfl rfl wf_X_87 (by decide) fb_1_1 fc_1_1) ?_
    refine xs_step (fun K HC => xr_sipush HC.1 12 31 (n := (10000)) (10000 : Int32) rfl rfl rfl) ?_
    refine xs_ite (fun K HC => xr_icmp_lt HC.1 13 36 34 rfl (by decide) rfl) ?_ ?_
    · refine xs_step (fun K HC => xr_aload_n HC.1 16 37 (n := 0) (ix := 0) (j := 0) (c := 10) (x := v0) rfl rfl rfl rfl) ?_
      refine xs_bind (fun q_5 eq_5 => ?_)
      refine xs_step (fun K HC => xr_getr HC.1 17 40 10 5 1 eq_5 rfl rfl wf_X_33 (by decide) fb_10_5 fc_10_5 fd_10_5) ?_
      refine xs_step (fun K HC => xr_aload_n HC.1 18 41 (n := 0) (ix := 0) (j := 0) (c := 10) (x := v0) rfl rfl rfl rfl) ?_
      refine xs_bind (fun q_6 eq_6 => ?_)
      refine xs_step (fun K HC => xr_getr HC.1 19 44 10 3 4 eq_6 rfl rfl wf_X_23 (by decide) fb_10_3 fc_10_3 fd_10_3) ?_
      refine xs_step (fun K HC => xr_iload_n HC.1 20 45 (n := 1) (ix := 1) (j := 1) (x := v1) rfl rfl rfl rfl) ?_
      refine xs_calli (s_Co_leadOut q_5 q_6 v1 x_2.2) (fun K HC x9 hM hmo hb => xr_callV HC.1 21 48 (av := [av_R 4 (some q_6), av_I v1]) (st := []) (hM (kg K) (cx_l (kx K))) hmo hb rfl rfl wm_X_90 wi_Co_leadOut ws_Co_leadOut wc_Co_leadOut rfl wh_Co_leadOut (by decide) (by decide) (by decide) (Nat.le_of_ble_eq_true rfl) rfl) (fun x_7 => ?_)
      exact xs_reti 22 rfl rfl (fun K q => q) (fun ty ht => by cases ht; rfl)
    refine xs_step (fun K HC => xr_iconst HC.1 14 35 (n := (-1)) (-1 : Int32) rfl rfl rfl) ?_
    exact xs_reti 15 rfl rfl (fun K q => q) (fun ty ht => by cases ht; rfl)
  refine xs_step (fun K HC => xr_iconst HC.1 14 35 (n := (-1)) (-1 : Int32) rfl rfl rfl) ?_
  exact xs_reti 15 rfl rfl (fun K q => q) (fun ty ht => by cases ht; rfl)
theorem s_X_lead (v0 : Nat) (v1 : Int32) (h : HP) : ∀ x, f_X_lead v0 v1 h = some x → hp_mo h x.2 ∧ ∀ g l, xx_M g l y_X_lead prog_1_method_7_code 2 (some .int) 5 [av_R 10 (some v0), av_I v1] h (some (av_I x.1)) x.2 :=
  xM_i (tb := tb_X_lead) (b := false) (by decide +kernel) dt_X_lead (fun _ => trivial) (Nat.le_of_ble_eq_true rfl) (fun hb => by cases hb) (t_X_lead v0 v1 h)
def tb_X_forget : TBL := [(0, .aload_n 0, 1), (1, .getfield 23, 3), (4, .iload_n 1, 1), (5, .invokevirtual 80, 3), (8, .ifCond .eq 13, 3), (11, .aload_n 0, 1), (12, .getfield 33, 3), (15, .getfield 83, 3), (18, .ifCond .eq 5, 3), (21, .iconst 0, 1), (22, .ireturn, 1), (23, .aload_n 0, 1), (24, .getfield 33, 3), (27, .aload_n 0, 1), (28, .getfield 23, 3), (31, .aload_n 0, 1), (32, .getfield 33, 3), (35, .getfield 94, 3), (38, .iload_n 1, 1), (39, .invokevirtual 98, 3), (42, .putfield 94, 3), (45, .iconst 1, 1), (46, .ireturn, 1)]
theorem dt_X_forget : ∀ q ∈ tb_X_forget, decode prog_1_method_8_code q.1 = .ok (q.2.1, q.2.2) := by decide +kernel
set_option maxHeartbeats 4000000 in
set_option maxRecDepth 100000 in
theorem t_X_forget (v0 : Nat) (v1 : Int32) (h : HP) : xx_S (xx_D "LampYard" tb_X_forget 2 3 (some .boolean) false) xz_i (fun K => xL_i K) 0 [(0, av_R 10 (some v0)), (1, av_I v1)] [] h (f_X_forget v0 v1 h) := by
  unfold f_X_forget
  refine xs_step (fun K HC => xr_aload_n HC.1 0 1 (n := 0) (ix := 0) (j := 0) (c := 10) (x := v0) rfl rfl rfl rfl) ?_
  refine xs_bind (fun q_1 eq_1 => ?_)
  refine xs_step (fun K HC => xr_getr HC.1 1 4 10 3 4 eq_1 rfl rfl wf_X_23 (by decide) fb_10_3 fc_10_3 fd_10_3) ?_
  refine xs_step (fun K HC => xr_iload_n HC.1 2 5 (n := 1) (ix := 1) (j := 1) (x := v1) rfl rfl rfl rfl) ?_
  refine xs_calli (s_Pl_hasMan q_1 v1 h) (fun K HC x9 hM hmo hb => xr_callV HC.1 3 8 (av := [av_I v1]) (st := []) (hM (kg K) (cx_l (kx K))) hmo hb rfl rfl wm_X_80 wi_Pl_hasMan ws_Pl_hasMan wc_Pl_hasMan rfl wh_Pl_hasMan (by decide) (by decide) (by decide) (Nat.le_of_ble_eq_true rfl) rfl) (fun x_2 => ?_)
  refine xs_ite (fun K HC => xr_if_eq HC.1 4 21 11 rfl (by decide) rfl) ?_ ?_
  · refine xs_step (fun K HC => xr_iconst HC.1 9 22 (n := (0)) (0 : Int32) rfl rfl rfl) ?_
    exact xs_reti 10 rfl rfl (fun K q => q) (fun ty ht => by cases ht; rfl)
  refine xs_step (fun K HC => xr_aload_n HC.1 5 12 (n := 0) (ix := 0) (j := 0) (c := 10) (x := v0) rfl rfl rfl rfl) ?_
  refine xs_bind (fun q_3 eq_3 => ?_)
  refine xs_step (fun K HC => xr_getr HC.1 6 15 10 5 1 eq_3 rfl rfl wf_X_33 (by decide) fb_10_5 fc_10_5 fd_10_5) ?_
  refine xs_step (fun K HC => xr_geti HC.1 7 18 1 2 rfl rfl wf_X_83 (by decide) fb_1_2 fc_1_2) ?_
  refine xs_ite (fun K HC => xr_if_eq HC.1 8 23 21 rfl (by decide) rfl) ?_ ?_
  · refine xs_step (fun K HC => xr_aload_n HC.1 11 24 (n := 0) (ix := 0) (j := 0) (c := 10) (x := v0) rfl rfl rfl rfl) ?_
    refine xs_bind (fun q_4 eq_4 => ?_)
    refine xs_step (fun K HC => xr_getr HC.1 12 27 10 5 1 eq_4 rfl rfl wf_X_33 (by decide) fb_10_5 fc_10_5 fd_10_5) ?_
    refine xs_step (fun K HC => xr_aload_n HC.1 13 28 (n := 0) (ix := 0) (j := 0) (c := 10) (x := v0) rfl rfl rfl rfl) ?_
    refine xs_bind (fun q_5 eq_5 => ?_)
    refine xs_step (fun K HC => xr_getr HC.1 14 31 10 3 4 eq_5 rfl rfl wf_X_23 (by decide) fb_10_3 fc_10_3 fd_10_3) ?_
    refine xs_step (fun K HC => xr_aload_n HC.1 15 32 (n := 0) (ix := 0) (j := 0) (c := 10) (x := v0) rfl rfl rfl rfl) ?_
    refine xs_bind (fun q_6 eq_6 => ?_)
    refine xs_step (fun K HC => xr_getr HC.1 16 35 10 5 1 eq_6 rfl rfl wf_X_33 (by decide) fb_10_5 fc_10_5 fd_10_5) ?_
    refine xs_step (fun K HC => xr_getl HC.1 17 38 1 0 rfl rfl wf_X_94 (by decide) fb_1_0 fc_1_0) ?_
    refine xs_step (fun K HC => xr_iload_n HC.1 18 39 (n := 1) (ix := 1) (j := 1) (x := v1) rfl rfl rfl rfl) ?_
    refine xs_calll (s_Pl_forgotten q_5 (hp_l x_2.2 q_6 0) v1 x_2.2) (fun K HC x9 hM hmo hb => xr_callV HC.1 19 42 (av := [av_L (hp_l x_2.2 q_6 0), av_I v1]) (st := [av_R 1 (some q_4)]) (hM (kg K) (cx_l (kx K))) hmo hb rfl rfl wm_X_98 wi_Pl_forgotten ws_Pl_forgotten wc_Pl_forgotten rfl wh_Pl_forgotten (by decide) (by decide) (by decide) (Nat.le_of_ble_eq_true rfl) rfl) (fun x_7 => ?_)
    refine xs_heap (hp_mo_sl _ _ _ _) (fun K HC => xr_putl HC.1 20 45 1 0 rfl rfl wf_X_94 (by decide) fb_1_0 fn_1_0 fy_1_0) (fun h_8 => ?_)
    refine xs_step (fun K HC => xr_iconst HC.1 21 46 (n := (1)) (1 : Int32) rfl rfl rfl) ?_
    exact xs_reti 22 rfl rfl (fun K q => q) (fun ty ht => by cases ht; rfl)
  refine xs_step (fun K HC => xr_iconst HC.1 9 22 (n := (0)) (0 : Int32) rfl rfl rfl) ?_
  exact xs_reti 10 rfl rfl (fun K q => q) (fun ty ht => by cases ht; rfl)
theorem s_X_forget (v0 : Nat) (v1 : Int32) (h : HP) : ∀ x, f_X_forget v0 v1 h = some x → hp_mo h x.2 ∧ ∀ g l, xx_M g l y_X_forget prog_1_method_8_code 2 (some .boolean) 3 [av_R 10 (some v0), av_I v1] h (some (av_I x.1)) x.2 :=
  xM_i (tb := tb_X_forget) (b := false) (by decide +kernel) dt_X_forget (fun _ => trivial) (Nat.le_of_ble_eq_true rfl) (fun hb => by cases hb) (t_X_forget v0 v1 h)
def tb_X_dark : TBL := [(0, .aload_n 0, 1), (1, .getfield 23, 3), (4, .iload_n 1, 1), (5, .invokevirtual 72, 3), (8, .ifCond .eq 13, 3), (11, .aload_n 0, 1), (12, .getfield 33, 3), (15, .getfield 83, 3), (18, .ifCond .eq 5, 3), (21, .iconst (-1), 1), (22, .ireturn, 1), (23, .aload_n 0, 1), (24, .getfield 33, 3), (27, .getfield 94, 3), (30, .invokestatic 102, 3), (33, .istore_n 2, 1), (34, .aload_n 0, 1), (35, .getfield 33, 3), (38, .aload_n 0, 1), (39, .getfield 33, 3), (42, .getfield 94, 3), (45, .iload_n 1, 1), (46, .invokestatic 108, 3), (49, .putfield 94, 3), (52, .iload_n 2, 1), (53, .ireturn, 1)]
theorem dt_X_dark : ∀ q ∈ tb_X_dark, decode prog_1_method_9_code q.1 = .ok (q.2.1, q.2.2) := by decide +kernel
set_option maxHeartbeats 4000000 in
set_option maxRecDepth 100000 in
theorem t_X_dark (v0 : Nat) (v1 : Int32) (h : HP) : xx_S (xx_D "LampYard" tb_X_dark 3 3 (some .int) false) xz_i (fun K => xL_i K) 0 [(0, av_R 10 (some v0)), (1, av_I v1)] [] h (f_X_dark v0 v1 h) := by
  unfold f_X_dark
  refine xs_step (fun K HC => xr_aload_n HC.1 0 1 (n := 0) (ix := 0) (j := 0) (c := 10) (x := v0) rfl rfl rfl rfl) ?_
  refine xs_bind (fun q_1 eq_1 => ?_)
  refine xs_step (fun K HC => xr_getr HC.1 1 4 10 3 4 eq_1 rfl rfl wf_X_23 (by decide) fb_10_3 fc_10_3 fd_10_3) ?_
  refine xs_step (fun K HC => xr_iload_n HC.1 2 5 (n := 1) (ix := 1) (j := 1) (x := v1) rfl rfl rfl rfl) ?_
  refine xs_calli (s_Pl_canBeLamps q_1 v1 h) (fun K HC x9 hM hmo hb => xr_callV HC.1 3 8 (av := [av_I v1]) (st := []) (hM (kg K) (cx_l (kx K))) hmo hb rfl rfl wm_X_72 wi_Pl_canBeLamps ws_Pl_canBeLamps wc_Pl_canBeLamps rfl wh_Pl_canBeLamps (by decide) (by decide) (by decide) (Nat.le_of_ble_eq_true rfl) rfl) (fun x_2 => ?_)
  refine xs_ite (fun K HC => xr_if_eq HC.1 4 21 11 rfl (by decide) rfl) ?_ ?_
  · refine xs_step (fun K HC => xr_iconst HC.1 9 22 (n := (-1)) (-1 : Int32) rfl rfl rfl) ?_
    exact xs_reti 10 rfl rfl (fun K q => q) (fun ty ht => by cases ht; rfl)
  refine xs_step (fun K HC => xr_aload_n HC.1 5 12 (n := 0) (ix := 0) (j := 0) (c := 10) (x := v0) rfl rfl rfl rfl) ?_
  refine xs_bind (fun q_3 eq_3 => ?_)
  refine xs_step (fun K HC => xr_getr HC.1 6 15 10 5 1 eq_3 rfl rfl wf_X_33 (by decide) fb_10_5 fc_10_5 fd_10_5) ?_
  refine xs_step (fun K HC => xr_geti HC.1 7 18 1 2 rfl rfl wf_X_83 (by decide) fb_1_2 fc_1_2) ?_
  refine xs_ite (fun K HC => xr_if_eq HC.1 8 23 21 rfl (by decide) rfl) ?_ ?_
  · refine xs_step (fun K HC => xr_aload_n HC.1 11 24 (n := 0) (ix := 0) (j := 0) (c := 10) (x := v0) rfl rfl rfl rfl) ?_
    refine xs_bind (fun q_4 eq_4 => ?_)
    refine xs_step (fun K HC => xr_getr HC.1 12 27 10 5 1 eq_4 rfl rfl wf_X_33 (by decide) fb_10_5 fc_10_5 fd_10_5) ?_
    refine xs_step (fun K HC => xr_getl HC.1 13 30 1 0 rfl rfl wf_X_94 (by decide) fb_1_0 fc_1_0) ?_
    refine xs_calli (s_St_lampsOf (hp_l x_2.2 q_4 0) x_2.2) (fun K HC x9 hM hmo hb => xr_callS HC.1 14 33 (av := [av_L (hp_l x_2.2 q_4 0)]) (st := []) (hM (kg K) (cx_l (kx K))) hmo hb rfl rfl wm_X_102 wt_St_lampsOf wn_St_lampsOf wc_St_lampsOf wh_St_lampsOf (by decide) (by decide) (Nat.le_of_ble_eq_true rfl) rfl) (fun x_5 => ?_)
    refine xs_step (fun K HC => xr_istore_n HC.1 15 34 (n := 2) (ix := 2) (lv' := [(0, av_R 10 (some v0)), (1, av_I v1), (2, av_I x_5.1)]) rfl rfl rfl (by decide) rfl) ?_
    refine xs_step (fun K HC => xr_aload_n HC.1 16 35 (n := 0) (ix := 0) (j := 0) (c := 10) (x := v0) rfl rfl rfl rfl) ?_
    refine xs_bind (fun q_6 eq_6 => ?_)
    refine xs_step (fun K HC => xr_getr HC.1 17 38 10 5 1 eq_6 rfl rfl wf_X_33 (by decide) fb_10_5 fc_10_5 fd_10_5) ?_
    refine xs_step (fun K HC => xr_aload_n HC.1 18 39 (n := 0) (ix := 0) (j := 0) (c := 10) (x := v0) rfl rfl rfl rfl) ?_
    refine xs_bind (fun q_7 eq_7 => ?_)
    refine xs_step (fun K HC => xr_getr HC.1 19 42 10 5 1 eq_7 rfl rfl wf_X_33 (by decide) fb_10_5 fc_10_5 fd_10_5) ?_
    refine xs_step (fun K HC => xr_getl HC.1 20 45 1 0 rfl rfl wf_X_94 (by decide) fb_1_0 fc_1_0) ?_
    refine xs_step (fun K HC => xr_iload_n HC.1 21 46 (n := 1) (ix := 1) (j := 1) (x := v1) rfl rfl rfl rfl) ?_
    refine xs_calll (s_St_withLamps (hp_l x_5.2 q_7 0) v1 x_5.2) (fun K HC x9 hM hmo hb => xr_callS HC.1 22 49 (av := [av_L (hp_l x_5.2 q_7 0), av_I v1]) (st := [av_R 1 (some q_6)]) (hM (kg K) (cx_l (kx K))) hmo hb rfl rfl wm_X_108 wt_St_withLamps wn_St_withLamps wc_St_withLamps wh_St_withLamps (by decide) (by decide) (Nat.le_of_ble_eq_true rfl) rfl) (fun x_8 => ?_)
    refine xs_heap (hp_mo_sl _ _ _ _) (fun K HC => xr_putl HC.1 23 52 1 0 rfl rfl wf_X_94 (by decide) fb_1_0 fn_1_0 fy_1_0) (fun h_9 => ?_)
    refine xs_step (fun K HC => xr_iload_n HC.1 24 53 (n := 2) (ix := 2) (j := 2) (x := x_5.1) rfl rfl rfl rfl) ?_
    exact xs_reti 25 rfl rfl (fun K q => q) (fun ty ht => by cases ht; rfl)
  refine xs_step (fun K HC => xr_iconst HC.1 9 22 (n := (-1)) (-1 : Int32) rfl rfl rfl) ?_
  exact xs_reti 10 rfl rfl (fun K q => q) (fun ty ht => by cases ht; rfl)
theorem s_X_dark (v0 : Nat) (v1 : Int32) (h : HP) : ∀ x, f_X_dark v0 v1 h = some x → hp_mo h x.2 ∧ ∀ g l, xx_M g l y_X_dark prog_1_method_9_code 3 (some .int) 3 [av_R 10 (some v0), av_I v1] h (some (av_I x.1)) x.2 :=
  xM_i (tb := tb_X_dark) (b := false) (by decide +kernel) dt_X_dark (fun _ => trivial) (Nat.le_of_ble_eq_true rfl) (fun hb => by cases hb) (t_X_dark v0 v1 h)
def tb_X_man : TBL := [(0, .aload_n 0, 1), (1, .getfield 23, 3), (4, .iload_n 1, 1), (5, .invokevirtual 80, 3), (8, .ifCond .ne 5, 3), (11, .iconst (-1), 1), (12, .ireturn, 1), (13, .iload_n 2, 1), (14, .tableswitch 97 0 4 #[34, 43, 55, 67, 87], 34), (48, .aload_n 0, 1), (49, .getfield 23, 3), (52, .iload_n 1, 1), (53, .invokevirtual 111, 3), (56, .ireturn, 1), (57, .aload_n 0, 1), (58, .getfield 33, 3), (61, .getfield 94, 3), (64, .iload_n 1, 1), (65, .invokestatic 115, 3), (68, .ireturn, 1), (69, .aload_n 0, 1), (70, .getfield 33, 3), (73, .getfield 94, 3), (76, .iload_n 1, 1), (77, .invokestatic 119, 3), (80, .ireturn, 1), (81, .aload_n 0, 1), (82, .getfield 33, 3), (85, .getfield 94, 3), (88, .iload_n 1, 1), (89, .invokestatic 122, 3), (92, .ifCond .eq 7, 3), (95, .iconst 1, 1), (96, .goto 4, 3), (99, .iconst 0, 1), (100, .ireturn, 1), (101, .aload_n 0, 1), (102, .getfield 33, 3), (105, .getfield 126, 3), (108, .iload_n 1, 1), (109, .iaload, 1), (110, .ireturn, 1), (111, .iconst (-1), 1), (112, .ireturn, 1)]
theorem dt_X_man : ∀ q ∈ tb_X_man, decode prog_1_method_10_code q.1 = .ok (q.2.1, q.2.2) := by decide +kernel
set_option maxHeartbeats 4000000 in
set_option maxRecDepth 100000 in
theorem t_X_man (v0 : Nat) (v1 : Int32) (v2 : Int32) (h : HP) : xx_S (xx_D "LampYard" tb_X_man 3 2 (some .int) false) xz_i (fun K => xL_i K) 0 [(0, av_R 10 (some v0)), (1, av_I v1), (2, av_I v2)] [] h (f_X_man v0 v1 v2 h) := by
  unfold f_X_man
  refine xs_step (fun K HC => xr_aload_n HC.1 0 1 (n := 0) (ix := 0) (j := 0) (c := 10) (x := v0) rfl rfl rfl rfl) ?_
  refine xs_bind (fun q_1 eq_1 => ?_)
  refine xs_step (fun K HC => xr_getr HC.1 1 4 10 3 4 eq_1 rfl rfl wf_X_23 (by decide) fb_10_3 fc_10_3 fd_10_3) ?_
  refine xs_step (fun K HC => xr_iload_n HC.1 2 5 (n := 1) (ix := 1) (j := 1) (x := v1) rfl rfl rfl rfl) ?_
  refine xs_calli (s_Pl_hasMan q_1 v1 h) (fun K HC x9 hM hmo hb => xr_callV HC.1 3 8 (av := [av_I v1]) (st := []) (hM (kg K) (cx_l (kx K))) hmo hb rfl rfl wm_X_80 wi_Pl_hasMan ws_Pl_hasMan wc_Pl_hasMan rfl wh_Pl_hasMan (by decide) (by decide) (by decide) (Nat.le_of_ble_eq_true rfl) rfl) (fun x_2 => ?_)
  refine xs_ite (fun K HC a b => xr_if_ne HC.1 4 13 11 rfl (by decide) rfl b a) ?_ ?_
  · refine xs_step (fun K HC => xr_iconst HC.1 5 12 (n := (-1)) (-1 : Int32) rfl rfl rfl) ?_
    exact xs_reti 6 rfl rfl (fun K q => q) (fun ty ht => by cases ht; rfl)
  refine xs_step (fun K HC => xr_iload_n HC.1 7 14 (n := 2) (ix := 2) (j := 2) (x := v2) rfl rfl rfl rfl) ?_
  refine xs_if (fun hc_5 => ?_) (fun hc_5 => ?_)
  · refine xs_step (fun K HC => xr_tabI HC.1 8 48 (0 : Int32) rfl hc_5 (by decide) (by decide) rfl (by decide)) ?_
    refine xs_step (fun K HC => xr_aload_n HC.1 9 49 (n := 0) (ix := 0) (j := 0) (c := 10) (x := v0) rfl rfl rfl rfl) ?_
    refine xs_bind (fun q_3 eq_3 => ?_)
    refine xs_step (fun K HC => xr_getr HC.1 10 52 10 3 4 eq_3 rfl rfl wf_X_23 (by decide) fb_10_3 fc_10_3 fd_10_3) ?_
    refine xs_step (fun K HC => xr_iload_n HC.1 11 53 (n := 1) (ix := 1) (j := 1) (x := v1) rfl rfl rfl rfl) ?_
    refine xs_calli (s_Pl_roleOf q_3 v1 x_2.2) (fun K HC x9 hM hmo hb => xr_callV HC.1 12 56 (av := [av_I v1]) (st := []) (hM (kg K) (cx_l (kx K))) hmo hb rfl rfl wm_X_111 wi_Pl_roleOf ws_Pl_roleOf wc_Pl_roleOf rfl wh_Pl_roleOf (by decide) (by decide) (by decide) (Nat.le_of_ble_eq_true rfl) rfl) (fun x_4 => ?_)
    exact xs_reti 13 rfl rfl (fun K q => q) (fun ty ht => by cases ht; rfl)
  refine xs_if (fun hc_8 => ?_) (fun hc_8 => ?_)
  · refine xs_step (fun K HC => xr_tabI HC.1 8 57 (1 : Int32) rfl hc_8 (by decide) (by decide) rfl (by decide)) ?_
    refine xs_step (fun K HC => xr_aload_n HC.1 14 58 (n := 0) (ix := 0) (j := 0) (c := 10) (x := v0) rfl rfl rfl rfl) ?_
    refine xs_bind (fun q_6 eq_6 => ?_)
    refine xs_step (fun K HC => xr_getr HC.1 15 61 10 5 1 eq_6 rfl rfl wf_X_33 (by decide) fb_10_5 fc_10_5 fd_10_5) ?_
    refine xs_step (fun K HC => xr_getl HC.1 16 64 1 0 rfl rfl wf_X_94 (by decide) fb_1_0 fc_1_0) ?_
    refine xs_step (fun K HC => xr_iload_n HC.1 17 65 (n := 1) (ix := 1) (j := 1) (x := v1) rfl rfl rfl rfl) ?_
    refine xs_calli (s_St_heldBy (hp_l x_2.2 q_6 0) v1 x_2.2) (fun K HC x9 hM hmo hb => xr_callS HC.1 18 68 (av := [av_L (hp_l x_2.2 q_6 0), av_I v1]) (st := []) (hM (kg K) (cx_l (kx K))) hmo hb rfl rfl wm_X_115 wt_St_heldBy wn_St_heldBy wc_St_heldBy wh_St_heldBy (by decide) (by decide) (Nat.le_of_ble_eq_true rfl) rfl) (fun x_7 => ?_)
    exact xs_reti 19 rfl rfl (fun K q => q) (fun ty ht => by cases ht; rfl)
  refine xs_if (fun hc_11 => ?_) (fun hc_11 => ?_)
  · refine xs_step (fun K HC => xr_tabI HC.1 8 69 (2 : Int32) rfl hc_11 (by decide) (by decide) rfl (by decide)) ?_
    refine xs_step (fun K HC => xr_aload_n HC.1 20 70 (n := 0) (ix := 0) (j := 0) (c := 10) (x := v0) rfl rfl rfl rfl) ?_
    refine xs_bind (fun q_9 eq_9 => ?_)
    refine xs_step (fun K HC => xr_getr HC.1 21 73 10 5 1 eq_9 rfl rfl wf_X_33 (by decide) fb_10_5 fc_10_5 fd_10_5) ?_
    refine xs_step (fun K HC => xr_getl HC.1 22 76 1 0 rfl rfl wf_X_94 (by decide) fb_1_0 fc_1_0) ?_
    refine xs_step (fun K HC => xr_iload_n HC.1 23 77 (n := 1) (ix := 1) (j := 1) (x := v1) rfl rfl rfl rfl) ?_
    refine xs_calli (s_St_visitsOf (hp_l x_2.2 q_9 0) v1 x_2.2) (fun K HC x9 hM hmo hb => xr_callS HC.1 24 80 (av := [av_L (hp_l x_2.2 q_9 0), av_I v1]) (st := []) (hM (kg K) (cx_l (kx K))) hmo hb rfl rfl wm_X_119 wt_St_visitsOf wn_St_visitsOf wc_St_visitsOf wh_St_visitsOf (by decide) (by decide) (Nat.le_of_ble_eq_true rfl) rfl) (fun x_10 => ?_)
    exact xs_reti 25 rfl rfl (fun K q => q) (fun ty ht => by cases ht; rfl)
  refine xs_if (fun hc_14 => ?_) (fun hc_14 => ?_)
  · refine xs_step (fun K HC => xr_tabI HC.1 8 81 (3 : Int32) rfl hc_14 (by decide) (by decide) rfl (by decide)) ?_
    refine xs_step (fun K HC => xr_aload_n HC.1 26 82 (n := 0) (ix := 0) (j := 0) (c := 10) (x := v0) rfl rfl rfl rfl) ?_
    refine xs_bind (fun q_12 eq_12 => ?_)
    refine xs_step (fun K HC => xr_getr HC.1 27 85 10 5 1 eq_12 rfl rfl wf_X_33 (by decide) fb_10_5 fc_10_5 fd_10_5) ?_
    refine xs_step (fun K HC => xr_getl HC.1 28 88 1 0 rfl rfl wf_X_94 (by decide) fb_1_0 fc_1_0) ?_
    refine xs_step (fun K HC => xr_iload_n HC.1 29 89 (n := 1) (ix := 1) (j := 1) (x := v1) rfl rfl rfl rfl) ?_
    refine xs_calli (s_St_hasBeen (hp_l x_2.2 q_12 0) v1 x_2.2) (fun K HC x9 hM hmo hb => xr_callS HC.1 30 92 (av := [av_L (hp_l x_2.2 q_12 0), av_I v1]) (st := []) (hM (kg K) (cx_l (kx K))) hmo hb rfl rfl wm_X_122 wt_St_hasBeen wn_St_hasBeen wc_St_hasBeen wh_St_hasBeen (by decide) (by decide) (Nat.le_of_ble_eq_true rfl) rfl) (fun x_13 => ?_)
    refine xs_ite (fun K HC => xr_if_eq HC.1 31 99 95 rfl (by decide) rfl) ?_ ?_
    · refine xs_step (fun K HC => xr_iconst HC.1 34 100 (n := (0)) (0 : Int32) rfl rfl rfl) ?_
      exact xs_reti 35 rfl rfl (fun K q => q) (fun ty ht => by cases ht; rfl)
    refine xs_step (fun K HC => xr_iconst HC.1 32 96 (n := (1)) (1 : Int32) rfl rfl rfl) ?_
    refine xs_step (fun K HC => xr_goto HC.1 33 100 rfl (by decide)) ?_
    exact xs_reti 35 rfl rfl (fun K q => q) (fun ty ht => by cases ht; rfl)
  refine xs_if (fun hc_18 => ?_) (fun hc_18 => ?_)
  · refine xs_step (fun K HC => xr_tabI HC.1 8 101 (4 : Int32) rfl hc_18 (by decide) (by decide) rfl (by decide)) ?_
    refine xs_step (fun K HC => xr_aload_n HC.1 36 102 (n := 0) (ix := 0) (j := 0) (c := 10) (x := v0) rfl rfl rfl rfl) ?_
    refine xs_bind (fun q_15 eq_15 => ?_)
    refine xs_step (fun K HC => xr_getr HC.1 37 105 10 5 1 eq_15 rfl rfl wf_X_33 (by decide) fb_10_5 fc_10_5 fd_10_5) ?_
    refine xs_bind (fun q_16 eq_16 => ?_)
    refine xs_step (fun K HC => xr_getr HC.1 38 108 1 4 13 eq_16 rfl rfl wf_X_126 (by decide) fb_1_4 fc_1_4 fd_1_4) ?_
    refine xs_step (fun K HC => xr_iload_n HC.1 39 109 (n := 1) (ix := 1) (j := 1) (x := v1) rfl rfl rfl rfl) ?_
    refine xs_chk (fun hb_17 => ?_)
    refine xs_step (fun K HC => xr_iald HC.1 40 110 (hp_in_vp hb_17) rfl rfl) ?_
    exact xs_reti 41 rfl rfl (fun K q => q) (fun ty ht => by cases ht; rfl)
  refine xs_step (fun K HC => xr_tabO HC.1 8 111 [(0 : Int32), (1 : Int32), (2 : Int32), (3 : Int32), (4 : Int32)] rfl (by decide) (by simp only [List.forall_mem_cons]; exact ⟨hc_5, hc_8, hc_11, hc_14, hc_18, fun _ h9 => absurd h9 List.not_mem_nil⟩) (by decide)) ?_
  refine xs_step (fun K HC => xr_iconst HC.1 42 112 (n := (-1)) (-1 : Int32) rfl rfl rfl) ?_
  exact xs_reti 43 rfl rfl (fun K q => q) (fun ty ht => by cases ht; rfl)
theorem s_X_man (v0 : Nat) (v1 : Int32) (v2 : Int32) (h : HP) : ∀ x, f_X_man v0 v1 v2 h = some x → hp_mo h x.2 ∧ ∀ g l, xx_M g l y_X_man prog_1_method_10_code 3 (some .int) 2 [av_R 10 (some v0), av_I v1, av_I v2] h (some (av_I x.1)) x.2 :=
  xM_i (tb := tb_X_man) (b := false) (by decide +kernel) dt_X_man (fun _ => trivial) (Nat.le_of_ble_eq_true rfl) (fun hb => by cases hb) (t_X_man v0 v1 v2 h)
def tb_Sp_new : TBL := [(0, .aload_n 0, 1), (1, .invokespecial 3, 3), (4, .aload_n 0, 1), (5, .sipush 24576, 3), (8, .newarray .int, 2), (10, .putfield 11, 3), (13, .return_, 1)]
theorem dt_Sp_new : ∀ q ∈ tb_Sp_new, decode prog_11_method_1_code q.1 = .ok (q.2.1, q.2.2) := by decide +kernel
set_option maxHeartbeats 4000000 in
set_option maxRecDepth 100000 in
theorem t_Sp_new (v0 : Nat) (h : HP) : xx_S (xx_D "LampYard$Steps" tb_Sp_new 1 1 none true) xz_v (fun K => xL_v K) 0 [(0, av_R 8 (some v0))] [] h (f_Sp_new v0 h) := by
  unfold f_Sp_new
  refine xs_step (fun K HC => xr_aload_n HC.1 0 1 (n := 0) (ix := 0) (j := 0) (c := 8) (x := v0) rfl rfl rfl rfl) ?_
  refine xs_step (fun K HC => xr_obj HC.1 1 4 rfl rfl wm_Sp_3 (by decide) (Nat.le_of_ble_eq_true rfl)) ?_
  refine xs_step (fun K HC => xr_aload_n HC.1 2 5 (n := 0) (ix := 0) (j := 0) (c := 8) (x := v0) rfl rfl rfl rfl) ?_
  refine xs_step (fun K HC => xr_sipush HC.1 3 8 (n := (24576)) (24576 : Int32) rfl rfl rfl) ?_
  refine xs_new (fun K HC hb => xr_newI HC.1 4 10 24576 hb rfl rfl (by decide) rfl (Nat.le_of_ble_eq_true rfl)) (fun q_1 h_2 => ?_)
  refine xs_heap (hp_mo_sr _ _ _ _) (fun K HC => xr_putr HC.1 5 13 8 0 13 rfl rfl wf_Sp_11 (by decide) fb_8_0 (Or.inr ⟨fn_8_0, HC.2 rfl, rfl⟩) fc_8_0 fd_8_0 (by decide)) (fun h_3 => ?_)
  exact xs_ret 6 rfl rfl (fun K q => q)
theorem s_Sp_new (v0 : Nat) (h : HP) : ∀ x, f_Sp_new v0 h = some x → hp_mo h x ∧ ∀ g l, xx_M g l y_Sp_new prog_11_method_1_code 1 none 1 [av_R 8 (some v0)] h none x :=
  xM_v (tb := tb_Sp_new) (b := true) (by decide +kernel) dt_Sp_new trivial (Nat.le_of_ble_eq_true rfl) (fun hb => rfl) (t_Sp_new v0 h)
def tb_Ss_new : TBL := [(0, .aload_n 0, 1), (1, .invokespecial 3, 3), (4, .aload_n 0, 1), (5, .sipush 5000, 3), (8, .newarray .long, 2), (10, .putfield 9, 3), (13, .aload_n 0, 1), (14, .sipush 8192, 3), (17, .newarray .int, 2), (19, .putfield 15, 3), (22, .return_, 1)]
theorem dt_Ss_new : ∀ q ∈ tb_Ss_new, decode prog_10_method_1_code q.1 = .ok (q.2.1, q.2.2) := by decide +kernel
set_option maxHeartbeats 4000000 in
set_option maxRecDepth 100000 in
theorem t_Ss_new (v0 : Nat) (h : HP) : xx_S (xx_D "LampYard$StateSet" tb_Ss_new 1 1 none true) xz_v (fun K => xL_v K) 0 [(0, av_R 7 (some v0))] [] h (f_Ss_new v0 h) := by
  unfold f_Ss_new
  refine xs_step (fun K HC => xr_aload_n HC.1 0 1 (n := 0) (ix := 0) (j := 0) (c := 7) (x := v0) rfl rfl rfl rfl) ?_
  refine xs_step (fun K HC => xr_obj HC.1 1 4 rfl rfl wm_Ss_3 (by decide) (Nat.le_of_ble_eq_true rfl)) ?_
  refine xs_step (fun K HC => xr_aload_n HC.1 2 5 (n := 0) (ix := 0) (j := 0) (c := 7) (x := v0) rfl rfl rfl rfl) ?_
  refine xs_step (fun K HC => xr_sipush HC.1 3 8 (n := (5000)) (5000 : Int32) rfl rfl rfl) ?_
  refine xs_new (fun K HC hb => xr_newL HC.1 4 10 5000 hb rfl rfl (by decide) rfl (Nat.le_of_ble_eq_true rfl)) (fun q_1 h_2 => ?_)
  refine xs_heap (hp_mo_sr _ _ _ _) (fun K HC => xr_putr HC.1 5 13 7 2 14 rfl rfl wf_Ss_9 (by decide) fb_7_2 (Or.inr ⟨fn_7_2, HC.2 rfl, rfl⟩) fc_7_2 fd_7_2 (by decide)) (fun h_3 => ?_)
  refine xs_step (fun K HC => xr_aload_n HC.1 6 14 (n := 0) (ix := 0) (j := 0) (c := 7) (x := v0) rfl rfl rfl rfl) ?_
  refine xs_step (fun K HC => xr_sipush HC.1 7 17 (n := (8192)) (8192 : Int32) rfl rfl rfl) ?_
  refine xs_new (fun K HC hb => xr_newI HC.1 8 19 8192 hb rfl rfl (by decide) rfl (Nat.le_of_ble_eq_true rfl)) (fun q_4 h_5 => ?_)
  refine xs_heap (hp_mo_sr _ _ _ _) (fun K HC => xr_putr HC.1 9 22 7 3 13 rfl rfl wf_Ss_15 (by decide) fb_7_3 (Or.inr ⟨fn_7_3, HC.2 rfl, rfl⟩) fc_7_3 fd_7_3 (by decide)) (fun h_6 => ?_)
  exact xs_ret 10 rfl rfl (fun K q => q)
theorem s_Ss_new (v0 : Nat) (h : HP) : ∀ x, f_Ss_new v0 h = some x → hp_mo h x ∧ ∀ g l, xx_M g l y_Ss_new prog_10_method_1_code 1 none 1 [av_R 7 (some v0)] h none x :=
  xM_v (tb := tb_Ss_new) (b := true) (by decide +kernel) dt_Ss_new trivial (Nat.le_of_ble_eq_true rfl) (fun hb => rfl) (t_Ss_new v0 h)
def tb_Sv_new : TBL := [(0, .aload_n 0, 1), (1, .invokespecial 3, 3), (4, .aload_n 0, 1), (5, .new 9, 3), (8, .dup, 1), (9, .invokespecial 11, 3), (12, .putfield 12, 3), (15, .aload_n 0, 1), (16, .new 18, 3), (19, .dup, 1), (20, .invokespecial 20, 3), (23, .putfield 21, 3), (26, .aload_n 0, 1), (27, .sipush 5000, 3), (30, .newarray .int, 2), (32, .putfield 25, 3), (35, .aload_n 0, 1), (36, .bipush 6, 2), (38, .newarray .int, 2), (40, .putfield 29, 3), (43, .aload_n 0, 1), (44, .sipush 30000, 3), (47, .newarray .int, 2), (49, .putfield 32, 3), (52, .aload_n 0, 1), (53, .sipush 5000, 3), (56, .newarray .int, 2), (58, .putfield 35, 3), (61, .return_, 1)]
theorem dt_Sv_new : ∀ q ∈ tb_Sv_new, decode prog_12_method_1_code q.1 = .ok (q.2.1, q.2.2) := by decide +kernel
set_option maxHeartbeats 4000000 in
set_option maxRecDepth 100000 in
theorem t_Sv_new (v0 : Nat) (h : HP) : xx_S (xx_D "LampYard$Survey" tb_Sv_new 1 2 none true) xz_v (fun K => xL_v K) 0 [(0, av_R 9 (some v0))] [] h (f_Sv_new v0 h) := by
  unfold f_Sv_new
  refine xs_step (fun K HC => xr_aload_n HC.1 0 1 (n := 0) (ix := 0) (j := 0) (c := 9) (x := v0) rfl rfl rfl rfl) ?_
  refine xs_step (fun K HC => xr_obj HC.1 1 4 rfl rfl wm_Sv_3 (by decide) (Nat.le_of_ble_eq_true rfl)) ?_
  refine xs_step (fun K HC => xr_aload_n HC.1 2 5 (n := 0) (ix := 0) (j := 0) (c := 9) (x := v0) rfl rfl rfl rfl) ?_
  refine xs_new (fun K HC hb => xr_new HC.1 3 8 8 hb rfl rfl wc_Sv_9 (by decide)) (fun q_1 h_2 => ?_)
  refine xs_step (fun K HC => xr_dup HC.1 4 9 rfl rfl rfl) ?_
  refine xs_callv (s_Sp_new q_1 h_2) (fun K HC x9 hM hmo hb => xr_callI HC.1 5 12 (av := []) (st := [av_R 8 (some q_1), av_R 9 (some v0)]) (hM (kg K) (cx_l (kx K))) hmo hb rfl rfl wm_Sv_11 wi_Sp_new wn_Sp_new wc_Sp_new rfl wh_Sp_new (by decide) (by decide) (Nat.le_of_ble_eq_true rfl) rfl) (fun x_3 => ?_)
  refine xs_heap (hp_mo_sr _ _ _ _) (fun K HC => xr_putr HC.1 6 15 9 0 8 rfl rfl wf_Sv_12 (by decide) fb_9_0 (Or.inr ⟨fn_9_0, HC.2 rfl, rfl⟩) fc_9_0 fd_9_0 (by decide)) (fun h_4 => ?_)
  refine xs_step (fun K HC => xr_aload_n HC.1 7 16 (n := 0) (ix := 0) (j := 0) (c := 9) (x := v0) rfl rfl rfl rfl) ?_
  refine xs_new (fun K HC hb => xr_new HC.1 8 19 7 hb rfl rfl wc_Sv_18 (by decide)) (fun q_5 h_6 => ?_)
  refine xs_step (fun K HC => xr_dup HC.1 9 20 rfl rfl rfl) ?_
  refine xs_callv (s_Ss_new q_5 h_6) (fun K HC x9 hM hmo hb => xr_callI HC.1 10 23 (av := []) (st := [av_R 7 (some q_5), av_R 9 (some v0)]) (hM (kg K) (cx_l (kx K))) hmo hb rfl rfl wm_Sv_20 wi_Ss_new wn_Ss_new wc_Ss_new rfl wh_Ss_new (by decide) (by decide) (Nat.le_of_ble_eq_true rfl) rfl) (fun x_7 => ?_)
  refine xs_heap (hp_mo_sr _ _ _ _) (fun K HC => xr_putr HC.1 11 26 9 1 7 rfl rfl wf_Sv_21 (by decide) fb_9_1 (Or.inr ⟨fn_9_1, HC.2 rfl, rfl⟩) fc_9_1 fd_9_1 (by decide)) (fun h_8 => ?_)
  refine xs_step (fun K HC => xr_aload_n HC.1 12 27 (n := 0) (ix := 0) (j := 0) (c := 9) (x := v0) rfl rfl rfl rfl) ?_
  refine xs_step (fun K HC => xr_sipush HC.1 13 30 (n := (5000)) (5000 : Int32) rfl rfl rfl) ?_
  refine xs_new (fun K HC hb => xr_newI HC.1 14 32 5000 hb rfl rfl (by decide) rfl (Nat.le_of_ble_eq_true rfl)) (fun q_9 h_10 => ?_)
  refine xs_heap (hp_mo_sr _ _ _ _) (fun K HC => xr_putr HC.1 15 35 9 2 13 rfl rfl wf_Sv_25 (by decide) fb_9_2 (Or.inr ⟨fn_9_2, HC.2 rfl, rfl⟩) fc_9_2 fd_9_2 (by decide)) (fun h_11 => ?_)
  refine xs_step (fun K HC => xr_aload_n HC.1 16 36 (n := 0) (ix := 0) (j := 0) (c := 9) (x := v0) rfl rfl rfl rfl) ?_
  refine xs_step (fun K HC => xr_bipush HC.1 17 38 (n := (6)) (6 : Int32) rfl rfl rfl) ?_
  refine xs_new (fun K HC hb => xr_newI HC.1 18 40 6 hb rfl rfl (by decide) rfl (Nat.le_of_ble_eq_true rfl)) (fun q_12 h_13 => ?_)
  refine xs_heap (hp_mo_sr _ _ _ _) (fun K HC => xr_putr HC.1 19 43 9 3 13 rfl rfl wf_Sv_29 (by decide) fb_9_3 (Or.inr ⟨fn_9_3, HC.2 rfl, rfl⟩) fc_9_3 fd_9_3 (by decide)) (fun h_14 => ?_)
  refine xs_step (fun K HC => xr_aload_n HC.1 20 44 (n := 0) (ix := 0) (j := 0) (c := 9) (x := v0) rfl rfl rfl rfl) ?_
  refine xs_step (fun K HC => xr_sipush HC.1 21 47 (n := (30000)) (30000 : Int32) rfl rfl rfl) ?_
  refine xs_new (fun K HC hb => xr_newI HC.1 22 49 30000 hb rfl rfl (by decide) rfl (Nat.le_of_ble_eq_true rfl)) (fun q_15 h_16 => ?_)
  refine xs_heap (hp_mo_sr _ _ _ _) (fun K HC => xr_putr HC.1 23 52 9 12 13 rfl rfl wf_Sv_32 (by decide) fb_9_12 (Or.inr ⟨fn_9_12, HC.2 rfl, rfl⟩) fc_9_12 fd_9_12 (by decide)) (fun h_17 => ?_)
  refine xs_step (fun K HC => xr_aload_n HC.1 24 53 (n := 0) (ix := 0) (j := 0) (c := 9) (x := v0) rfl rfl rfl rfl) ?_
  refine xs_step (fun K HC => xr_sipush HC.1 25 56 (n := (5000)) (5000 : Int32) rfl rfl rfl) ?_
  refine xs_new (fun K HC hb => xr_newI HC.1 26 58 5000 hb rfl rfl (by decide) rfl (Nat.le_of_ble_eq_true rfl)) (fun q_18 h_19 => ?_)
  refine xs_heap (hp_mo_sr _ _ _ _) (fun K HC => xr_putr HC.1 27 61 9 13 13 rfl rfl wf_Sv_35 (by decide) fb_9_13 (Or.inr ⟨fn_9_13, HC.2 rfl, rfl⟩) fc_9_13 fd_9_13 (by decide)) (fun h_20 => ?_)
  exact xs_ret 28 rfl rfl (fun K q => q)
theorem s_Sv_new (v0 : Nat) (h : HP) : ∀ x, f_Sv_new v0 h = some x → hp_mo h x ∧ ∀ g l, xx_M g l y_Sv_new prog_12_method_1_code 1 none 2 [av_R 9 (some v0)] h none x :=
  xM_v (tb := tb_Sv_new) (b := true) (by decide +kernel) dt_Sv_new trivial (Nat.le_of_ble_eq_true rfl) (fun hb => rfl) (t_Sv_new v0 h)
def tb_Sp_clear : TBL := [(0, .aload_n 0, 1), (1, .getfield 11, 3), (4, .iconst 0, 1), (5, .invokestatic 15, 3), (8, .return_, 1)]
theorem dt_Sp_clear : ∀ q ∈ tb_Sp_clear, decode prog_11_method_2_code q.1 = .ok (q.2.1, q.2.2) := by decide +kernel
set_option maxHeartbeats 4000000 in
set_option maxRecDepth 100000 in
theorem t_Sp_clear (v0 : Nat) (h : HP) : xx_S (xx_D "LampYard$Steps" tb_Sp_clear 1 2 none false) xz_v (fun K => xL_v K) 0 [(0, av_R 8 (some v0))] [] h (f_Sp_clear v0 h) := by
  unfold f_Sp_clear
  refine xs_step (fun K HC => xr_aload_n HC.1 0 1 (n := 0) (ix := 0) (j := 0) (c := 8) (x := v0) rfl rfl rfl rfl) ?_
  refine xs_bind (fun q_1 eq_1 => ?_)
  refine xs_step (fun K HC => xr_getr HC.1 1 4 8 0 13 eq_1 rfl rfl wf_Sp_11 (by decide) fb_8_0 fc_8_0 fd_8_0) ?_
  refine xs_step (fun K HC => xr_iconst HC.1 2 5 (n := (0)) (0 : Int32) rfl rfl rfl) ?_
  refine xs_callv (s_Ar_fillI q_1 (0 : Int32) h) (fun K HC x9 hM hmo hb => xr_callS HC.1 3 8 (av := [av_R 13 (some q_1), av_I (0 : Int32)]) (st := []) (hM (kg K) (cx_l (kx K))) hmo hb rfl rfl wm_Sp_15 wt_Ar_fillI wn_Ar_fillI wc_Ar_fillI wh_Ar_fillI (by decide) (by decide) (Nat.le_of_ble_eq_true rfl) rfl) (fun x_2 => ?_)
  exact xs_ret 4 rfl rfl (fun K q => q)
theorem s_Sp_clear (v0 : Nat) (h : HP) : ∀ x, f_Sp_clear v0 h = some x → hp_mo h x ∧ ∀ g l, xx_M g l y_Sp_clear prog_11_method_2_code 1 none 2 [av_R 8 (some v0)] h none x :=
  xM_v (tb := tb_Sp_clear) (b := false) (by decide +kernel) dt_Sp_clear trivial (Nat.le_of_ble_eq_true rfl) (fun hb => by cases hb) (t_Sp_clear v0 h)
def tb_Ss_clear : TBL := [(0, .aload_n 0, 1), (1, .iconst 0, 1), (2, .putfield 19, 3), (5, .aload_n 0, 1), (6, .iload_n 1, 1), (7, .sipush 5000, 3), (10, .invokestatic 23, 3), (13, .putfield 29, 3), (16, .aload_n 0, 1), (17, .getfield 15, 3), (20, .iconst 0, 1), (21, .invokestatic 32, 3), (24, .return_, 1)]
theorem dt_Ss_clear : ∀ q ∈ tb_Ss_clear, decode prog_10_method_2_code q.1 = .ok (q.2.1, q.2.2) := by decide +kernel
set_option maxHeartbeats 4000000 in
set_option maxRecDepth 100000 in
theorem t_Ss_clear (v0 : Nat) (v1 : Int32) (h : HP) : xx_S (xx_D "LampYard$StateSet" tb_Ss_clear 2 2 none false) xz_v (fun K => xL_v K) 0 [(0, av_R 7 (some v0)), (1, av_I v1)] [] h (f_Ss_clear v0 v1 h) := by
  unfold f_Ss_clear
  refine xs_step (fun K HC => xr_aload_n HC.1 0 1 (n := 0) (ix := 0) (j := 0) (c := 7) (x := v0) rfl rfl rfl rfl) ?_
  refine xs_step (fun K HC => xr_iconst HC.1 1 2 (n := (0)) (0 : Int32) rfl rfl rfl) ?_
  refine xs_heap (hp_mo_si _ _ _ _) (fun K HC => xr_puti HC.1 2 5 7 0 rfl rfl wf_Ss_19 (by decide) fb_7_0 fn_7_0 fy_7_0) (fun h_1 => ?_)
  refine xs_step (fun K HC => xr_aload_n HC.1 3 6 (n := 0) (ix := 0) (j := 0) (c := 7) (x := v0) rfl rfl rfl rfl) ?_
  refine xs_step (fun K HC => xr_iload_n HC.1 4 7 (n := 1) (ix := 1) (j := 1) (x := v1) rfl rfl rfl rfl) ?_
  refine xs_step (fun K HC => xr_sipush HC.1 5 10 (n := (5000)) (5000 : Int32) rfl rfl rfl) ?_
  refine xs_stepb (fun K HC hb => xr_min HC.1 6 13 hb rfl rfl wm_Ss_23 ly_mmin1 ly_m0 ly_mmin2 (by decide) (Nat.le_of_ble_eq_true rfl)) ?_
  refine xs_heap (hp_mo_si _ _ _ _) (fun K HC => xr_puti HC.1 7 16 7 1 rfl rfl wf_Ss_29 (by decide) fb_7_1 fn_7_1 fy_7_1) (fun h_2 => ?_)
  refine xs_step (fun K HC => xr_aload_n HC.1 8 17 (n := 0) (ix := 0) (j := 0) (c := 7) (x := v0) rfl rfl rfl rfl) ?_
  refine xs_bind (fun q_3 eq_3 => ?_)
  refine xs_step (fun K HC => xr_getr HC.1 9 20 7 3 13 eq_3 rfl rfl wf_Ss_15 (by decide) fb_7_3 fc_7_3 fd_7_3) ?_
  refine xs_step (fun K HC => xr_iconst HC.1 10 21 (n := (0)) (0 : Int32) rfl rfl rfl) ?_
  refine xs_callv (s_Ar_fillI q_3 (0 : Int32) h_2) (fun K HC x9 hM hmo hb => xr_callS HC.1 11 24 (av := [av_R 13 (some q_3), av_I (0 : Int32)]) (st := []) (hM (kg K) (cx_l (kx K))) hmo hb rfl rfl wm_Ss_32 wt_Ar_fillI wn_Ar_fillI wc_Ar_fillI wh_Ar_fillI (by decide) (by decide) (Nat.le_of_ble_eq_true rfl) rfl) (fun x_4 => ?_)
  exact xs_ret 12 rfl rfl (fun K q => q)
theorem s_Ss_clear (v0 : Nat) (v1 : Int32) (h : HP) : ∀ x, f_Ss_clear v0 v1 h = some x → hp_mo h x ∧ ∀ g l, xx_M g l y_Ss_clear prog_10_method_2_code 2 none 2 [av_R 7 (some v0), av_I v1] h none x :=
  xM_v (tb := tb_Ss_clear) (b := false) (by decide +kernel) dt_Ss_clear trivial (Nat.le_of_ble_eq_true rfl) (fun hb => by cases hb) (t_Ss_clear v0 v1 h)
def tb_Pl_isStart : TBL := [(0, .aload_n 0, 1), (1, .getfield 50, 3), (4, .iconst 2, 1), (5, .if_icmp .ne 9, 3), (8, .aload_n 0, 1), (9, .iload_n 1, 1), (10, .invokevirtual 72, 3), (13, .ireturn, 1), (14, .iload_n 1, 1), (15, .aload_n 0, 1), (16, .getfield 50, 3), (19, .iconst 1, 1), (20, .if_icmp .ne 10, 3), (23, .aload_n 0, 1), (24, .invokevirtual 68, 3), (27, .goto 4, 3), (30, .iconst 0, 1), (31, .if_icmp .ne 7, 3), (34, .iconst 1, 1), (35, .goto 4, 3), (38, .iconst 0, 1), (39, .ireturn, 1)]
theorem dt_Pl_isStart : ∀ q ∈ tb_Pl_isStart, decode prog_6_method_10_code q.1 = .ok (q.2.1, q.2.2) := by decide +kernel
set_option maxHeartbeats 4000000 in
set_option maxRecDepth 100000 in
theorem t_Pl_isStart_31 (s0 : Int32) (s1 : Int32) (h : HP) : xx_S (xx_D "LampYard$Plan" tb_Pl_isStart 2 3 (some .boolean) false) xz_i (fun K => xL_i K) 31 [] [av_I s0, av_I s1] h (f_Pl_isStart_31 s0 s1 h) := by
  unfold f_Pl_isStart_31
  refine xs_ite (fun K HC a b => xr_icmp_ne HC.1 17 38 34 rfl (by decide) rfl b a) ?_ ?_
  · refine xs_step (fun K HC => xr_iconst HC.1 18 35 (n := (1)) (1 : Int32) rfl rfl rfl) ?_
    refine xs_step (fun K HC => xr_goto HC.1 19 39 rfl (by decide)) ?_
    exact xs_reti 21 rfl rfl (fun K q => q) (fun ty ht => by cases ht; rfl)
  refine xs_step (fun K HC => xr_iconst HC.1 20 39 (n := (0)) (0 : Int32) rfl rfl rfl) ?_
  exact xs_reti 21 rfl rfl (fun K q => q) (fun ty ht => by cases ht; rfl)
set_option maxHeartbeats 4000000 in
set_option maxRecDepth 100000 in
theorem t_Pl_isStart (v0 : Nat) (v1 : Int32) (h : HP) : xx_S (xx_D "LampYard$Plan" tb_Pl_isStart 2 3 (some .boolean) false) xz_i (fun K => xL_i K) 0 [(0, av_R 4 (some v0)), (1, av_I v1)] [] h (f_Pl_isStart v0 v1 h) := by
  unfold f_Pl_isStart
  refine xs_step (fun K HC => xr_aload_n HC.1 0 1 (n := 0) (ix := 0) (j := 0) (c := 4) (x := v0) rfl rfl rfl rfl) ?_
  refine xs_step (fun K HC => xr_geti HC.1 1 4 4 3 rfl rfl wf_Pl_50 (by decide) fb_4_3 fc_4_3) ?_
  refine xs_step (fun K HC => xr_iconst HC.1 2 5 (n := (2)) (2 : Int32) rfl rfl rfl) ?_
  refine xs_ite (fun K HC a b => xr_icmp_ne HC.1 3 14 8 rfl (by decide) rfl b a) ?_ ?_
  · refine xs_step (fun K HC => xr_aload_n HC.1 4 9 (n := 0) (ix := 0) (j := 0) (c := 4) (x := v0) rfl rfl rfl rfl) ?_
    refine xs_step (fun K HC => xr_iload_n HC.1 5 10 (n := 1) (ix := 1) (j := 1) (x := v1) rfl rfl rfl rfl) ?_
    refine xs_calli (s_Pl_canBeLamps v0 v1 h) (fun K HC x9 hM hmo hb => xr_callV HC.1 6 13 (av := [av_I v1]) (st := []) (hM (kg K) (cx_l (kx K))) hmo hb rfl rfl wm_Pl_72 wi_Pl_canBeLamps ws_Pl_canBeLamps wc_Pl_canBeLamps rfl wh_Pl_canBeLamps (by decide) (by decide) (by decide) (Nat.le_of_ble_eq_true rfl) rfl) (fun x_1 => ?_)
    refine xs_chk (fun hz_2 => ?_)
    exact xs_reti 7 rfl rfl (fun K q => q) (fun ty ht => by cases ht; rcases hp_z01_or hz_2 with e9 | e9 <;> rw [e9] <;> rfl)
  refine xs_step (fun K HC => xr_iload_n HC.1 8 15 (n := 1) (ix := 1) (j := 1) (x := v1) rfl rfl rfl rfl) ?_
  refine xs_step (fun K HC => xr_aload_n HC.1 9 16 (n := 0) (ix := 0) (j := 0) (c := 4) (x := v0) rfl rfl rfl rfl) ?_
  refine xs_step (fun K HC => xr_geti HC.1 10 19 4 3 rfl rfl wf_Pl_50 (by decide) fb_4_3 fc_4_3) ?_
  refine xs_step (fun K HC => xr_iconst HC.1 11 20 (n := (1)) (1 : Int32) rfl rfl rfl) ?_
  refine xs_ite (fun K HC a b => xr_icmp_ne HC.1 12 30 23 rfl (by decide) rfl b a) ?_ ?_
  · refine xs_step (fun K HC => xr_aload_n HC.1 13 24 (n := 0) (ix := 0) (j := 0) (c := 4) (x := v0) rfl rfl rfl rfl) ?_
    refine xs_calli (s_Pl_allOn v0 h) (fun K HC x9 hM hmo hb => xr_callV HC.1 14 27 (av := []) (st := [av_I v1]) (hM (kg K) (cx_l (kx K))) hmo hb rfl rfl wm_Pl_68 wi_Pl_allOn ws_Pl_allOn wc_Pl_allOn rfl wh_Pl_allOn (by decide) (by decide) (by decide) (Nat.le_of_ble_eq_true rfl) rfl) (fun x_3 => ?_)
    refine xs_step (fun K HC => xr_goto HC.1 15 31 rfl (by decide)) ?_
    refine xs_step (fun K HC => xr_sub (lv' := []) [] rfl) ?_
    exact t_Pl_isStart_31 x_3.1 v1 x_3.2
  refine xs_step (fun K HC => xr_iconst HC.1 16 31 (n := (0)) (0 : Int32) rfl rfl rfl) ?_
  refine xs_step (fun K HC => xr_sub (lv' := []) [] rfl) ?_
  exact t_Pl_isStart_31 (0 : Int32) v1 h
theorem s_Pl_isStart (v0 : Nat) (v1 : Int32) (h : HP) : ∀ x, f_Pl_isStart v0 v1 h = some x → hp_mo h x.2 ∧ ∀ g l, xx_M g l y_Pl_isStart prog_6_method_10_code 2 (some .boolean) 3 [av_R 4 (some v0), av_I v1] h (some (av_I x.1)) x.2 :=
  xM_i (tb := tb_Pl_isStart) (b := false) (by decide +kernel) dt_Pl_isStart (fun _ => trivial) (Nat.le_of_ble_eq_true rfl) (fun hb => by cases hb) (t_Pl_isStart v0 v1 h)
def tb_Ss_putIn : TBL := [(0, .aload_n 0, 1), (1, .getfield 19, 3), (4, .aload_n 0, 1), (5, .getfield 29, 3), (8, .if_icmp .lt 5, 3), (11, .iconst (-1), 1), (12, .ireturn, 1), (13, .aload_n 0, 1), (14, .getfield 9, 3), (17, .aload_n 0, 1), (18, .getfield 19, 3), (21, .lload_n 1, 1), (22, .lastore, 1), (23, .aload_n 0, 1), (24, .dup, 1), (25, .getfield 19, 3), (28, .iconst 1, 1), (29, .iadd, 1), (30, .putfield 19, 3), (33, .aload_n 0, 1), (34, .getfield 15, 3), (37, .iload_n 3, 1), (38, .aload_n 0, 1), (39, .getfield 19, 3), (42, .iastore, 1), (43, .aload_n 0, 1), (44, .getfield 19, 3), (47, .iconst 1, 1), (48, .isub, 1), (49, .ireturn, 1)]
theorem dt_Ss_putIn : ∀ q ∈ tb_Ss_putIn, decode prog_10_method_5_code q.1 = .ok (q.2.1, q.2.2) := by decide +kernel
set_option maxHeartbeats 4000000 in
set_option maxRecDepth 100000 in
theorem t_Ss_putIn (v0 : Nat) (v1 : Int64) (v3 : Int32) (h : HP) : xx_S (xx_D "LampYard$StateSet" tb_Ss_putIn 4 1 (some .int) false) xz_i (fun K => xL_i K) 0 [(0, av_R 7 (some v0)), (1, av_L v1), (3, av_I v3)] [] h (f_Ss_putIn v0 v1 v3 h) := by
  unfold f_Ss_putIn
  refine xs_step (fun K HC => xr_aload_n HC.1 0 1 (n := 0) (ix := 0) (j := 0) (c := 7) (x := v0) rfl rfl rfl rfl) ?_
  refine xs_step (fun K HC => xr_geti HC.1 1 4 7 0 rfl rfl wf_Ss_19 (by decide) fb_7_0 fc_7_0) ?_
  refine xs_step (fun K HC => xr_aload_n HC.1 2 5 (n := 0) (ix := 0) (j := 0) (c := 7) (x := v0) rfl rfl rfl rfl) ?_
  refine xs_step (fun K HC => xr_geti HC.1 3 8 7 1 rfl rfl wf_Ss_29 (by decide) fb_7_1 fc_7_1) ?_
  refine xs_ite (fun K HC => xr_icmp_lt HC.1 4 13 11 rfl (by decide) rfl) ?_ ?_
  · refine xs_step (fun K HC => xr_aload_n HC.1 7 14 (n := 0) (ix := 0) (j := 0) (c := 7) (x := v0) rfl rfl rfl rfl) ?_
    refine xs_bind (fun q_1 eq_1 => ?_)
    refine xs_step (fun K HC => xr_getr HC.1 8 17 7 2 14 eq_1 rfl rfl wf_Ss_9 (by decide) fb_7_2 fc_7_2 fd_7_2) ?_
    refine xs_step (fun K HC => xr_aload_n HC.1 9 18 (n := 0) (ix := 0) (j := 0) (c := 7) (x := v0) rfl rfl rfl rfl) ?_
    refine xs_step (fun K HC => xr_geti HC.1 10 21 7 0 rfl rfl wf_Ss_19 (by decide) fb_7_0 fc_7_0) ?_
    refine xs_step (fun K HC => xr_lload_n HC.1 11 22 (n := 1) (ix := 1) (j := 1) (x := v1) rfl rfl rfl rfl) ?_
    refine xs_chk (fun hb_2 => ?_)
    refine xs_heap (hp_mo_sl _ _ _ _) (fun K HC => xr_last HC.1 12 23 (hp_in_vp hb_2) rfl rfl) (fun h_3 => ?_)
    refine xs_step (fun K HC => xr_aload_n HC.1 13 24 (n := 0) (ix := 0) (j := 0) (c := 7) (x := v0) rfl rfl rfl rfl) ?_
    refine xs_step (fun K HC => xr_dup HC.1 14 25 rfl rfl rfl) ?_
    refine xs_step (fun K HC => xr_geti HC.1 15 28 7 0 rfl rfl wf_Ss_19 (by decide) fb_7_0 fc_7_0) ?_
    refine xs_step (fun K HC => xr_iconst HC.1 16 29 (n := (1)) (1 : Int32) rfl rfl rfl) ?_
    refine xs_step (fun K HC => xr_iadd HC.1 17 30 rfl rfl) ?_
    refine xs_heap (hp_mo_si _ _ _ _) (fun K HC => xr_puti HC.1 18 33 7 0 rfl rfl wf_Ss_19 (by decide) fb_7_0 fn_7_0 fy_7_0) (fun h_4 => ?_)
    refine xs_step (fun K HC => xr_aload_n HC.1 19 34 (n := 0) (ix := 0) (j := 0) (c := 7) (x := v0) rfl rfl rfl rfl) ?_
    refine xs_bind (fun q_5 eq_5 => ?_)
    refine xs_step (fun K HC => xr_getr HC.1 20 37 7 3 13 eq_5 rfl rfl wf_Ss_15 (by decide) fb_7_3 fc_7_3 fd_7_3) ?_
    refine xs_step (fun K HC => xr_iload_n HC.1 21 38 (n := 3) (ix := 3) (j := 2) (x := v3) rfl rfl rfl rfl) ?_
    refine xs_step (fun K HC => xr_aload_n HC.1 22 39 (n := 0) (ix := 0) (j := 0) (c := 7) (x := v0) rfl rfl rfl rfl) ?_
    refine xs_step (fun K HC => xr_geti HC.1 23 42 7 0 rfl rfl wf_Ss_19 (by decide) fb_7_0 fc_7_0) ?_
    refine xs_chk (fun hb_6 => ?_)
    refine xs_heap (hp_mo_si _ _ _ _) (fun K HC => xr_iast HC.1 24 43 (hp_in_vp hb_6) rfl rfl) (fun h_7 => ?_)
    refine xs_step (fun K HC => xr_aload_n HC.1 25 44 (n := 0) (ix := 0) (j := 0) (c := 7) (x := v0) rfl rfl rfl rfl) ?_
    refine xs_step (fun K HC => xr_geti HC.1 26 47 7 0 rfl rfl wf_Ss_19 (by decide) fb_7_0 fc_7_0) ?_
    refine xs_step (fun K HC => xr_iconst HC.1 27 48 (n := (1)) (1 : Int32) rfl rfl rfl) ?_
    refine xs_step (fun K HC => xr_isub HC.1 28 49 rfl rfl) ?_
    exact xs_reti 29 rfl rfl (fun K q => q) (fun ty ht => by cases ht; rfl)
  refine xs_step (fun K HC => xr_iconst HC.1 5 12 (n := (-1)) (-1 : Int32) rfl rfl rfl) ?_
  exact xs_reti 6 rfl rfl (fun K q => q) (fun ty ht => by cases ht; rfl)
theorem s_Ss_putIn (v0 : Nat) (v1 : Int64) (v3 : Int32) (h : HP) : ∀ x, f_Ss_putIn v0 v1 v3 h = some x → hp_mo h x.2 ∧ ∀ g l, xx_M g l y_Ss_putIn prog_10_method_5_code 4 (some .int) 1 [av_R 7 (some v0), av_L v1, av_I v3] h (some (av_I x.1)) x.2 :=
  xM_i (tb := tb_Ss_putIn) (b := false) (by decide +kernel) dt_Ss_putIn (fun _ => trivial) (Nat.le_of_ble_eq_true rfl) (fun hb => by cases hb) (t_Ss_putIn v0 v1 v3 h)
def tb_Ss_numberOf : TBL := [(0, .lload_n 1, 1), (1, .ldc2_w 38, 3), (4, .lmul, 1), (5, .bipush 51, 2), (7, .lushr, 1), (8, .l2i, 1), (9, .istore_n 3, 1), (10, .iconst 0, 1), (11, .istore 4, 2), (13, .iload 4, 2), (15, .sipush 8192, 3), (18, .if_icmp .ge 54, 3), (21, .aload_n 0, 1), (22, .getfield 15, 3), (25, .iload_n 3, 1), (26, .iaload, 1), (27, .iconst 1, 1), (28, .isub, 1), (29, .istore 5, 2), (31, .iload 5, 2), (33, .ifCond .ge 10, 3), (36, .aload_n 0, 1), (37, .lload_n 1, 1), (38, .iload_n 3, 1), (39, .invokevirtual 40, 3), (42, .ireturn, 1), (43, .aload_n 0, 1), (44, .getfield 9, 3), (47, .iload 5, 2), (49, .laload, 1), (50, .lload_n 1, 1), (51, .lcmp, 1), (52, .ifCond .ne 6, 3), (55, .iload 5, 2), (57, .ireturn, 1), (58, .iload_n 3, 1), (59, .iconst 1, 1), (60, .iadd, 1), (61, .sipush 8191, 3), (64, .iand, 1), (65, .istore_n 3, 1), (66, .iinc 4 1, 3), (69, .goto (-56), 3), (72, .iconst (-1), 1), (73, .ireturn, 1)]
theorem dt_Ss_numberOf : ∀ q ∈ tb_Ss_numberOf, decode prog_10_method_4_code q.1 = .ok (q.2.1, q.2.2) := by decide +kernel
set_option maxHeartbeats 4000000 in
set_option maxRecDepth 100000 in
theorem t_Ss_numberOf_36 (v0 : Nat) (v1 : Int64) (v3 : Int32) (h : HP) : xx_S (xx_D "LampYard$StateSet" tb_Ss_numberOf 6 2 (some .int) false) xz_i (fun K => xL_i K) 36 [(0, av_R 7 (some v0)), (1, av_L v1), (3, av_I v3)] [] h (f_Ss_numberOf_36 v0 v1 v3 h) := by
  unfold f_Ss_numberOf_36
  refine xs_step (fun K HC => xr_aload_n HC.1 21 37 (n := 0) (ix := 0) (j := 0) (c := 7) (x := v0) rfl rfl rfl rfl) ?_
  refine xs_step (fun K HC => xr_lload_n HC.1 22 38 (n := 1) (ix := 1) (j := 1) (x := v1) rfl rfl rfl rfl) ?_
  refine xs_step (fun K HC => xr_iload_n HC.1 23 39 (n := 3) (ix := 3) (j := 2) (x := v3) rfl rfl rfl rfl) ?_
  refine xs_calli (s_Ss_putIn v0 v1 v3 h) (fun K HC x9 hM hmo hb => xr_callV HC.1 24 42 (av := [av_L v1, av_I v3]) (st := []) (hM (kg K) (cx_l (kx K))) hmo hb rfl rfl wm_Ss_40 wi_Ss_putIn ws_Ss_putIn wc_Ss_putIn rfl wh_Ss_putIn (by decide) (by decide) (by decide) (Nat.le_of_ble_eq_true rfl) rfl) (fun x_9 => ?_)
  exact xs_reti 25 rfl rfl (fun K q => q) (fun ty ht => by cases ht; rfl)
set_option maxHeartbeats 4000000 in
set_option maxRecDepth 100000 in
theorem t_Ss_numberOf_13b (v0 : Nat) (v1 : Int64) (v3 : Int32) (v4 : Int32) (h : HP) : xx_S (xx_D "LampYard$StateSet" tb_Ss_numberOf 6 2 (some .int) false) (xx_z2 (fun s : (Int32 × Int32 × HP) => s.2.2) xz_i) (fun K => xx_L2 (fun s : (Int32 × Int32 × HP) => xx_X K 13 [(0, av_R 7 (some v0)), (1, av_L v1), (3, av_I s.1), (4, av_I s.2.1)] [] (s.2.2)) (xL_i K)) 13 [(0, av_R 7 (some v0)), (1, av_L v1), (3, av_I v3), (4, av_I v4)] [] h (f_Ss_numberOf_13b v0 v1 v3 v4 h) := by
  unfold f_Ss_numberOf_13b
  refine xs_step (fun K HC => xr_iload HC.1 9 15 (ix := 4) (j := 3) (x := v4) rfl rfl rfl) ?_
  refine xs_step (fun K HC => xr_sipush HC.1 10 18 (n := (8192)) (8192 : Int32) rfl rfl rfl) ?_
  refine xs_ite (fun K HC => xr_icmp_ge HC.1 11 72 21 rfl (by decide) rfl) ?_ ?_
  · refine xs_step (fun K HC => xr_iconst HC.1 43 73 (n := (-1)) (-1 : Int32) rfl rfl rfl) ?_
    exact xs_reti 44 rfl rfl (fun K q => q) (fun ty ht => by cases ht; rfl)
  refine xs_step (fun K HC => xr_aload_n HC.1 12 22 (n := 0) (ix := 0) (j := 0) (c := 7) (x := v0) rfl rfl rfl rfl) ?_
  refine xs_bind (fun q_2 eq_2 => ?_)
  refine xs_step (fun K HC => xr_getr HC.1 13 25 7 3 13 eq_2 rfl rfl wf_Ss_15 (by decide) fb_7_3 fc_7_3 fd_7_3) ?_
  refine xs_step (fun K HC => xr_iload_n HC.1 14 26 (n := 3) (ix := 3) (j := 2) (x := v3) rfl rfl rfl rfl) ?_
  refine xs_chk (fun hb_3 => ?_)
  refine xs_step (fun K HC => xr_iald HC.1 15 27 (hp_in_vp hb_3) rfl rfl) ?_
  refine xs_step (fun K HC => xr_iconst HC.1 16 28 (n := (1)) (1 : Int32) rfl rfl rfl) ?_
  refine xs_step (fun K HC => xr_isub HC.1 17 29 rfl rfl) ?_
  refine xs_topi (fun v5_4 => ?_)
  refine xs_step (fun K HC => xr_istore HC.1 18 31 (ix := 5) (lv' := [(0, av_R 7 (some v0)), (1, av_L v1), (3, av_I v3), (4, av_I v4), (5, av_I v5_4)]) rfl rfl (by decide) rfl) ?_
  refine xs_step (fun K HC => xr_iload HC.1 19 33 (ix := 5) (j := 4) (x := v5_4) rfl rfl rfl) ?_
  refine xs_ite (fun K HC => xr_if_ge HC.1 20 43 36 rfl (by decide) rfl) ?_ ?_
  · refine xs_step (fun K HC => xr_aload_n HC.1 26 44 (n := 0) (ix := 0) (j := 0) (c := 7) (x := v0) rfl rfl rfl rfl) ?_
    refine xs_bind (fun q_5 eq_5 => ?_)
    refine xs_step (fun K HC => xr_getr HC.1 27 47 7 2 14 eq_5 rfl rfl wf_Ss_9 (by decide) fb_7_2 fc_7_2 fd_7_2) ?_
    refine xs_step (fun K HC => xr_iload HC.1 28 49 (ix := 5) (j := 4) (x := v5_4) rfl rfl rfl) ?_
    refine xs_chk (fun hb_6 => ?_)
    refine xs_step (fun K HC => xr_lald HC.1 29 50 (hp_in_vp hb_6) rfl rfl) ?_
    refine xs_step (fun K HC => xr_lload_n HC.1 30 51 (n := 1) (ix := 1) (j := 1) (x := v1) rfl rfl rfl rfl) ?_
    refine xs_step (fun K HC => xr_lcmp HC.1 31 52 rfl rfl) ?_
    refine xs_ite (fun K HC a b => xr_if_ne HC.1 32 58 55 rfl (by decide) rfl b a) ?_ ?_
    · refine xs_step (fun K HC => xr_iload HC.1 33 57 (ix := 5) (j := 4) (x := v5_4) rfl rfl rfl) ?_
      exact xs_reti 34 rfl rfl (fun K q => q) (fun ty ht => by cases ht; rfl)
    refine xs_step (fun K HC => xr_iload_n HC.1 35 59 (n := 3) (ix := 3) (j := 2) (x := v3) rfl rfl rfl rfl) ?_
    refine xs_step (fun K HC => xr_iconst HC.1 36 60 (n := (1)) (1 : Int32) rfl rfl rfl) ?_
    refine xs_step (fun K HC => xr_iadd HC.1 37 61 rfl rfl) ?_
    refine xs_step (fun K HC => xr_sipush HC.1 38 64 (n := (8191)) (8191 : Int32) rfl rfl rfl) ?_
    refine xs_step (fun K HC => xr_iand HC.1 39 65 rfl rfl) ?_
    refine xs_topi (fun v3_7 => ?_)
    refine xs_step (fun K HC => xr_istore_n HC.1 40 66 (n := 3) (ix := 3) (lv' := [(0, av_R 7 (some v0)), (1, av_L v1), (3, av_I v3_7), (4, av_I v4), (5, av_I v5_4)]) rfl rfl rfl (by decide) rfl) ?_
    refine xs_gen (fun v4_8 ev4_8 => ?_)
    refine xs_step (fun K HC => xr_iinc HC.1 41 69 (ix := 4) (j := 3) (n := (1)) (x := v4) v4_8 (lv' := [(0, av_R 7 (some v0)), (1, av_L v1), (3, av_I v3_7), (4, av_I v4_8), (5, av_I v5_4)]) rfl (by rw [ev4_8]; rfl) rfl rfl (by decide) rfl) ?_
    refine xs_step (fun K HC => xr_goto HC.1 42 13 rfl (by decide)) ?_
    refine xs_step (fun K HC => xr_sub (lv' := [(0, av_R 7 (some v0)), (1, av_L v1), (3, av_I v3_7), (4, av_I v4_8)]) [0, 1, 2, 3] rfl) ?_
    exact xs_back rfl (fun K q => q)
  refine xs_step (fun K HC => xr_sub (lv' := [(0, av_R 7 (some v0)), (1, av_L v1), (3, av_I v3)]) [0, 1, 2] rfl) ?_
  exact xs_map (fun _ => rfl) (fun _ _ q => q) (t_Ss_numberOf_36 v0 v1 v3 h)
theorem t_Ss_numberOf_13 (v0 : Nat) (v1 : Int64) (v3 : Int32) (v4 : Int32) (h : HP) : xx_S (xx_D "LampYard$StateSet" tb_Ss_numberOf 6 2 (some .int) false) xz_i (fun K => xL_i K) 13 [(0, av_R 7 (some v0)), (1, av_L v1), (3, av_I v3), (4, av_I v4)] [] h (f_Ss_numberOf_13 v0 v1 v3 v4 h) :=
  xs_loop (zf := xz_i) (L := (fun K => xL_i K)) (fun s : (Int32 × Int32 × HP) => [(0, av_R 7 (some v0)), (1, av_L v1), (3, av_I s.1), (4, av_I s.2.1)]) (fun s : (Int32 × Int32 × HP) => s.2.2) (fun s => t_Ss_numberOf_13b v0 v1 s.1 s.2.1 s.2.2) (v3, v4, h)
set_option maxHeartbeats 4000000 in
set_option maxRecDepth 100000 in
theorem t_Ss_numberOf (v0 : Nat) (v1 : Int64) (h : HP) : xx_S (xx_D "LampYard$StateSet" tb_Ss_numberOf 6 2 (some .int) false) xz_i (fun K => xL_i K) 0 [(0, av_R 7 (some v0)), (1, av_L v1)] [] h (f_Ss_numberOf v0 v1 h) := by
  unfold f_Ss_numberOf
  refine xs_step (fun K HC => xr_lload_n HC.1 0 1 (n := 1) (ix := 1) (j := 1) (x := v1) rfl rfl rfl rfl) ?_
  refine xs_step (fun K HC => xr_ldc2 HC.1 1 4 wk_Ss_38 rfl rfl) ?_
  refine xs_step (fun K HC => xr_lmul HC.1 2 5 rfl rfl) ?_
  refine xs_step (fun K HC => xr_bipush HC.1 3 7 (n := (51)) (51 : Int32) rfl rfl rfl) ?_
  refine xs_step (fun K HC => xr_lushr HC.1 4 8 rfl rfl) ?_
  refine xs_step (fun K HC => xr_l2i HC.1 5 9 rfl rfl) ?_
  refine xs_topi (fun v3_1 => ?_)
  refine xs_step (fun K HC => xr_istore_n HC.1 6 10 (n := 3) (ix := 3) (lv' := [(0, av_R 7 (some v0)), (1, av_L v1), (3, av_I v3_1)]) rfl rfl rfl (by decide) rfl) ?_
  refine xs_step (fun K HC => xr_iconst HC.1 7 11 (n := (0)) (0 : Int32) rfl rfl rfl) ?_
  refine xs_step (fun K HC => xr_istore HC.1 8 13 (ix := 4) (lv' := [(0, av_R 7 (some v0)), (1, av_L v1), (3, av_I v3_1), (4, av_I (0 : Int32))]) rfl rfl (by decide) rfl) ?_
  exact t_Ss_numberOf_13 v0 v1 v3_1 (0 : Int32) h
theorem s_Ss_numberOf (v0 : Nat) (v1 : Int64) (h : HP) : ∀ x, f_Ss_numberOf v0 v1 h = some x → hp_mo h x.2 ∧ ∀ g l, xx_M g l y_Ss_numberOf prog_10_method_4_code 6 (some .int) 2 [av_R 7 (some v0), av_L v1] h (some (av_I x.1)) x.2 :=
  xM_i (tb := tb_Ss_numberOf) (b := false) (by decide +kernel) dt_Ss_numberOf (fun _ => trivial) (Nat.le_of_ble_eq_true rfl) (fun hb => by cases hb) (t_Ss_numberOf v0 v1 h)
def tb_Sv_putStarts : TBL := [(0, .iconst 0, 1), (1, .istore_n 1, 1), (2, .iload_n 1, 1), (3, .iconst 4, 1), (4, .if_icmp .ge 52, 3), (7, .aload_n 0, 1), (8, .getfield 38, 3), (11, .iload_n 1, 1), (12, .invokevirtual 105, 3), (15, .ifCond .eq 21, 3), (18, .aload_n 0, 1), (19, .getfield 21, 3), (22, .aload_n 0, 1), (23, .getfield 38, 3), (26, .iload_n 1, 1), (27, .invokevirtual 109, 3), (30, .invokevirtual 113, 3), (33, .goto 4, 3), (36, .iconst (-1), 1), (37, .istore_n 2, 1), (38, .iload_n 2, 1), (39, .iconst (-1), 1), (40, .if_icmp .eq 10, 3), (43, .aload_n 0, 1), (44, .getfield 35, 3), (47, .iload_n 2, 1), (48, .iconst (-1), 1), (49, .iastore, 1), (50, .iinc 1 1, 3), (53, .goto (-51), 3), (56, .return_, 1)]
theorem dt_Sv_putStarts : ∀ q ∈ tb_Sv_putStarts, decode prog_12_method_5_code q.1 = .ok (q.2.1, q.2.2) := by decide +kernel
set_option maxHeartbeats 4000000 in
set_option maxRecDepth 100000 in
theorem t_Sv_putStarts_50 (v0 : Nat) (v1 : Int32) (h : HP) : xx_S (xx_D "LampYard$Survey" tb_Sv_putStarts 3 4 none false) (xx_z2 (fun s : (Int32 × HP) => s.2) xz_v) (fun K => xx_L2 (fun s : (Int32 × HP) => xx_X K 2 [(0, av_R 9 (some v0)), (1, av_I s.1)] [] (s.2)) (xL_v K)) 50 [(0, av_R 9 (some v0)), (1, av_I v1)] [] h (f_Sv_putStarts_50 v0 v1 h) := by
  unfold f_Sv_putStarts_50
  refine xs_gen (fun v1_3 ev1_3 => ?_)
  refine xs_step (fun K HC => xr_iinc HC.1 28 53 (ix := 1) (j := 1) (n := (1)) (x := v1) v1_3 (lv' := [(0, av_R 9 (some v0)), (1, av_I v1_3)]) rfl (by rw [ev1_3]; rfl) rfl rfl (by decide) rfl) ?_
  refine xs_step (fun K HC => xr_goto HC.1 29 2 rfl (by decide)) ?_
  exact xs_back rfl (fun K q => q)
set_option maxHeartbeats 4000000 in
set_option maxRecDepth 100000 in
theorem t_Sv_putStarts_37 (v0 : Nat) (v1 : Int32) (s0 : Int32) (h : HP) : xx_S (xx_D "LampYard$Survey" tb_Sv_putStarts 3 4 none false) (xx_z2 (fun s : (Int32 × HP) => s.2) xz_v) (fun K => xx_L2 (fun s : (Int32 × HP) => xx_X K 2 [(0, av_R 9 (some v0)), (1, av_I s.1)] [] (s.2)) (xL_v K)) 37 [(0, av_R 9 (some v0)), (1, av_I v1)] [av_I s0] h (f_Sv_putStarts_37 v0 v1 s0 h) := by
  unfold f_Sv_putStarts_37
  refine xs_step (fun K HC => xr_istore_n HC.1 19 38 (n := 2) (ix := 2) (lv' := [(0, av_R 9 (some v0)), (1, av_I v1), (2, av_I s0)]) rfl rfl rfl (by decide) rfl) ?_
  refine xs_step (fun K HC => xr_iload_n HC.1 20 39 (n := 2) (ix := 2) (j := 2) (x := s0) rfl rfl rfl rfl) ?_
  refine xs_step (fun K HC => xr_iconst HC.1 21 40 (n := (-1)) (-1 : Int32) rfl rfl rfl) ?_
  refine xs_ite (fun K HC => xr_icmp_eq HC.1 22 50 43 rfl (by decide) rfl) ?_ ?_
  · refine xs_step (fun K HC => xr_sub (lv' := [(0, av_R 9 (some v0)), (1, av_I v1)]) [0, 1] rfl) ?_
    exact t_Sv_putStarts_50 v0 v1 h
  refine xs_step (fun K HC => xr_aload_n HC.1 23 44 (n := 0) (ix := 0) (j := 0) (c := 9) (x := v0) rfl rfl rfl rfl) ?_
  refine xs_bind (fun q_4 eq_4 => ?_)
  refine xs_step (fun K HC => xr_getr HC.1 24 47 9 13 13 eq_4 rfl rfl wf_Sv_35 (by decide) fb_9_13 fc_9_13 fd_9_13) ?_
  refine xs_step (fun K HC => xr_iload_n HC.1 25 48 (n := 2) (ix := 2) (j := 2) (x := s0) rfl rfl rfl rfl) ?_
  refine xs_step (fun K HC => xr_iconst HC.1 26 49 (n := (-1)) (-1 : Int32) rfl rfl rfl) ?_
  refine xs_chk (fun hb_5 => ?_)
  refine xs_heap (hp_mo_si _ _ _ _) (fun K HC => xr_iast HC.1 27 50 (hp_in_vp hb_5) rfl rfl) (fun h_6 => ?_)
  refine xs_step (fun K HC => xr_sub (lv' := [(0, av_R 9 (some v0)), (1, av_I v1)]) [0, 1] rfl) ?_
  exact t_Sv_putStarts_50 v0 v1 h_6
set_option maxHeartbeats 4000000 in
set_option maxRecDepth 100000 in
theorem t_Sv_putStarts_2b (v0 : Nat) (v1 : Int32) (h : HP) : xx_S (xx_D "LampYard$Survey" tb_Sv_putStarts 3 4 none false) (xx_z2 (fun s : (Int32 × HP) => s.2) xz_v) (fun K => xx_L2 (fun s : (Int32 × HP) => xx_X K 2 [(0, av_R 9 (some v0)), (1, av_I s.1)] [] (s.2)) (xL_v K)) 2 [(0, av_R 9 (some v0)), (1, av_I v1)] [] h (f_Sv_putStarts_2b v0 v1 h) := by
  unfold f_Sv_putStarts_2b
  refine xs_step (fun K HC => xr_iload_n HC.1 2 3 (n := 1) (ix := 1) (j := 1) (x := v1) rfl rfl rfl rfl) ?_
  refine xs_step (fun K HC => xr_iconst HC.1 3 4 (n := (4)) (4 : Int32) rfl rfl rfl) ?_
  refine xs_ite (fun K HC => xr_icmp_ge HC.1 4 56 7 rfl (by decide) rfl) ?_ ?_
  · exact xs_ret 30 rfl rfl (fun K q => q)
  refine xs_step (fun K HC => xr_aload_n HC.1 5 8 (n := 0) (ix := 0) (j := 0) (c := 9) (x := v0) rfl rfl rfl rfl) ?_
  refine xs_bind (fun q_1 eq_1 => ?_)
  refine xs_step (fun K HC => xr_getr HC.1 6 11 9 4 4 eq_1 rfl rfl wf_Sv_38 (by decide) fb_9_4 fc_9_4 fd_9_4) ?_
  refine xs_step (fun K HC => xr_iload_n HC.1 7 12 (n := 1) (ix := 1) (j := 1) (x := v1) rfl rfl rfl rfl) ?_
  refine xs_calli (s_Pl_isStart q_1 v1 h) (fun K HC x9 hM hmo hb => xr_callV HC.1 8 15 (av := [av_I v1]) (st := []) (hM (kg K) (cx_l (kx K))) hmo hb rfl rfl wm_Sv_105 wi_Pl_isStart ws_Pl_isStart wc_Pl_isStart rfl wh_Pl_isStart (by decide) (by decide) (by decide) (Nat.le_of_ble_eq_true rfl) rfl) (fun x_2 => ?_)
  refine xs_ite (fun K HC => xr_if_eq HC.1 9 36 18 rfl (by decide) rfl) ?_ ?_
  · refine xs_step (fun K HC => xr_iconst HC.1 18 37 (n := (-1)) (-1 : Int32) rfl rfl rfl) ?_
    exact t_Sv_putStarts_37 v0 v1 (-1 : Int32) x_2.2
  refine xs_step (fun K HC => xr_aload_n HC.1 10 19 (n := 0) (ix := 0) (j := 0) (c := 9) (x := v0) rfl rfl rfl rfl) ?_
  refine xs_bind (fun q_7 eq_7 => ?_)
  refine xs_step (fun K HC => xr_getr HC.1 11 22 9 1 7 eq_7 rfl rfl wf_Sv_21 (by decide) fb_9_1 fc_9_1 fd_9_1) ?_
  refine xs_step (fun K HC => xr_aload_n HC.1 12 23 (n := 0) (ix := 0) (j := 0) (c := 9) (x := v0) rfl rfl rfl rfl) ?_
  refine xs_bind (fun q_8 eq_8 => ?_)
  refine xs_step (fun K HC => xr_getr HC.1 13 26 9 4 4 eq_8 rfl rfl wf_Sv_38 (by decide) fb_9_4 fc_9_4 fd_9_4) ?_
  refine xs_step (fun K HC => xr_iload_n HC.1 14 27 (n := 1) (ix := 1) (j := 1) (x := v1) rfl rfl rfl rfl) ?_
  refine xs_calll (s_Pl_firstState q_8 v1 x_2.2) (fun K HC x9 hM hmo hb => xr_callV HC.1 15 30 (av := [av_I v1]) (st := [av_R 7 (some q_7)]) (hM (kg K) (cx_l (kx K))) hmo hb rfl rfl wm_Sv_109 wi_Pl_firstState ws_Pl_firstState wc_Pl_firstState rfl wh_Pl_firstState (by decide) (by decide) (by decide) (Nat.le_of_ble_eq_true rfl) rfl) (fun x_9 => ?_)
  refine xs_calli (s_Ss_numberOf q_7 x_9.1 x_9.2) (fun K HC x9 hM hmo hb => xr_callV HC.1 16 33 (av := [av_L x_9.1]) (st := []) (hM (kg K) (cx_l (kx K))) hmo hb rfl rfl wm_Sv_113 wi_Ss_numberOf ws_Ss_numberOf wc_Ss_numberOf rfl wh_Ss_numberOf (by decide) (by decide) (by decide) (Nat.le_of_ble_eq_true rfl) rfl) (fun x_10 => ?_)
  refine xs_step (fun K HC => xr_goto HC.1 17 37 rfl (by decide)) ?_
  exact t_Sv_putStarts_37 v0 v1 x_10.1 x_10.2
theorem t_Sv_putStarts_2 (v0 : Nat) (v1 : Int32) (h : HP) : xx_S (xx_D "LampYard$Survey" tb_Sv_putStarts 3 4 none false) xz_v (fun K => xL_v K) 2 [(0, av_R 9 (some v0)), (1, av_I v1)] [] h (f_Sv_putStarts_2 v0 v1 h) :=
  xs_loop (zf := xz_v) (L := (fun K => xL_v K)) (fun s : (Int32 × HP) => [(0, av_R 9 (some v0)), (1, av_I s.1)]) (fun s : (Int32 × HP) => s.2) (fun s => t_Sv_putStarts_2b v0 s.1 s.2) (v1, h)
set_option maxHeartbeats 4000000 in
set_option maxRecDepth 100000 in
theorem t_Sv_putStarts (v0 : Nat) (h : HP) : xx_S (xx_D "LampYard$Survey" tb_Sv_putStarts 3 4 none false) xz_v (fun K => xL_v K) 0 [(0, av_R 9 (some v0))] [] h (f_Sv_putStarts v0 h) := by
  unfold f_Sv_putStarts
  refine xs_step (fun K HC => xr_iconst HC.1 0 1 (n := (0)) (0 : Int32) rfl rfl rfl) ?_
  refine xs_step (fun K HC => xr_istore_n HC.1 1 2 (n := 1) (ix := 1) (lv' := [(0, av_R 9 (some v0)), (1, av_I (0 : Int32))]) rfl rfl rfl (by decide) rfl) ?_
  exact t_Sv_putStarts_2 v0 (0 : Int32) h
theorem s_Sv_putStarts (v0 : Nat) (h : HP) : ∀ x, f_Sv_putStarts v0 h = some x → hp_mo h x ∧ ∀ g l, xx_M g l y_Sv_putStarts prog_12_method_5_code 3 none 4 [av_R 9 (some v0)] h none x :=
  xM_v (tb := tb_Sv_putStarts) (b := false) (by decide +kernel) dt_Sv_putStarts trivial (Nat.le_of_ble_eq_true rfl) (fun hb => by cases hb) (t_Sv_putStarts v0 h)
def tb_Ss_member : TBL := [(0, .iload_n 1, 1), (1, .ifCond .lt 20, 3), (4, .iload_n 1, 1), (5, .aload_n 0, 1), (6, .getfield 19, 3), (9, .if_icmp .ge 12, 3), (12, .aload_n 0, 1), (13, .getfield 9, 3), (16, .iload_n 1, 1), (17, .laload, 1), (18, .goto 4, 3), (21, .lconst 0, 1), (22, .lreturn, 1)]
theorem dt_Ss_member : ∀ q ∈ tb_Ss_member, decode prog_10_method_3_code q.1 = .ok (q.2.1, q.2.2) := by decide +kernel
set_option maxHeartbeats 4000000 in
set_option maxRecDepth 100000 in
theorem t_Ss_member (v0 : Nat) (v1 : Int32) (h : HP) : xx_S (xx_D "LampYard$StateSet" tb_Ss_member 2 1 (some .long) false) xz_l (fun K => xL_l K) 0 [(0, av_R 7 (some v0)), (1, av_I v1)] [] h (f_Ss_member v0 v1 h) := by
  unfold f_Ss_member
  refine xs_step (fun K HC => xr_iload_n HC.1 0 1 (n := 1) (ix := 1) (j := 1) (x := v1) rfl rfl rfl rfl) ?_
  refine xs_ite (fun K HC => xr_if_lt HC.1 1 21 4 rfl (by decide) rfl) ?_ ?_
  · refine xs_step (fun K HC => xr_lconst HC.1 11 22 (n := 0) (0 : Int64) rfl rfl rfl) ?_
    exact xs_retl 12 rfl rfl (fun K q => q)
  refine xs_step (fun K HC => xr_iload_n HC.1 2 5 (n := 1) (ix := 1) (j := 1) (x := v1) rfl rfl rfl rfl) ?_
  refine xs_step (fun K HC => xr_aload_n HC.1 3 6 (n := 0) (ix := 0) (j := 0) (c := 7) (x := v0) rfl rfl rfl rfl) ?_
  refine xs_step (fun K HC => xr_geti HC.1 4 9 7 0 rfl rfl wf_Ss_19 (by decide) fb_7_0 fc_7_0) ?_
  refine xs_ite (fun K HC => xr_icmp_ge HC.1 5 21 12 rfl (by decide) rfl) ?_ ?_
  · refine xs_step (fun K HC => xr_lconst HC.1 11 22 (n := 0) (0 : Int64) rfl rfl rfl) ?_
    exact xs_retl 12 rfl rfl (fun K q => q)
  refine xs_step (fun K HC => xr_aload_n HC.1 6 13 (n := 0) (ix := 0) (j := 0) (c := 7) (x := v0) rfl rfl rfl rfl) ?_
  refine xs_bind (fun q_1 eq_1 => ?_)
  refine xs_step (fun K HC => xr_getr HC.1 7 16 7 2 14 eq_1 rfl rfl wf_Ss_9 (by decide) fb_7_2 fc_7_2 fd_7_2) ?_
  refine xs_step (fun K HC => xr_iload_n HC.1 8 17 (n := 1) (ix := 1) (j := 1) (x := v1) rfl rfl rfl rfl) ?_
  refine xs_chk (fun hb_2 => ?_)
  refine xs_step (fun K HC => xr_lald HC.1 9 18 (hp_in_vp hb_2) rfl rfl) ?_
  refine xs_step (fun K HC => xr_goto HC.1 10 22 rfl (by decide)) ?_
  exact xs_retl 12 rfl rfl (fun K q => q)
theorem s_Ss_member (v0 : Nat) (v1 : Int32) (h : HP) : ∀ x, f_Ss_member v0 v1 h = some x → hp_mo h x.2 ∧ ∀ g l, xx_M g l y_Ss_member prog_10_method_3_code 2 (some .long) 1 [av_R 7 (some v0), av_I v1] h (some (av_L x.1)) x.2 :=
  xM_l (tb := tb_Ss_member) (b := false) (by decide +kernel) dt_Ss_member (fun _ => trivial) (Nat.le_of_ble_eq_true rfl) (fun hb => by cases hb) (t_Ss_member v0 v1 h)
def tb_Sp_outcome : TBL := [(0, .aload_n 1, 1), (1, .iload 4, 2), (3, .invokevirtual 21, 3), (6, .bipush 12, 2), (8, .imul, 1), (9, .lload_n 2, 1), (10, .invokestatic 25, 3), (13, .iadd, 1), (14, .istore 5, 2), (16, .iload 5, 2), (18, .iconst 4, 1), (19, .imul, 1), (20, .lload_n 2, 1), (21, .invokestatic 31, 3), (24, .iadd, 1), (25, .istore 5, 2), (27, .iload 5, 2), (29, .bipush 32, 2), (31, .imul, 1), (32, .lload_n 2, 1), (33, .iload 4, 2), (35, .invokestatic 34, 3), (38, .iadd, 1), (39, .iconst 4, 1), (40, .imul, 1), (41, .lload_n 2, 1), (42, .iload 4, 2), (44, .invokestatic 38, 3), (47, .iadd, 1), (48, .istore 5, 2), (50, .iload 5, 2), (52, .ifCond .lt 11, 3), (55, .iload 5, 2), (57, .sipush 24576, 3), (60, .if_icmp .lt 11, 3), (63, .aload_n 1, 1), (64, .lload_n 2, 1), (65, .iload 4, 2), (67, .invokevirtual 41, 3), (70, .ireturn, 1), (71, .aload_n 0, 1), (72, .getfield 11, 3), (75, .iload 5, 2), (77, .iaload, 1), (78, .ifCond .ne 19, 3), (81, .aload_n 0, 1), (82, .getfield 11, 3), (85, .iload 5, 2), (87, .aload_n 1, 1), (88, .lload_n 2, 1), (89, .iload 4, 2), (91, .invokevirtual 41, 3), (94, .iconst 1, 1), (95, .iadd, 1), (96, .iastore, 1), (97, .aload_n 0, 1), (98, .getfield 11, 3), (101, .iload 5, 2), (103, .iaload, 1), (104, .iconst 1, 1), (105, .isub, 1), (106, .ireturn, 1)]
theorem dt_Sp_outcome : ∀ q ∈ tb_Sp_outcome, decode prog_11_method_3_code q.1 = .ok (q.2.1, q.2.2) := by decide +kernel
set_option maxHeartbeats 4000000 in
set_option maxRecDepth 100000 in
theorem t_Sp_outcome_63 (v1 : Nat) (v2 : Int64) (v4 : Int32) (h : HP) : xx_S (xx_D "LampYard$Steps" tb_Sp_outcome 6 4 (some .int) false) xz_i (fun K => xL_i K) 63 [(1, av_R 4 (some v1)), (2, av_L v2), (4, av_I v4)] [] h (f_Sp_outcome_63 v1 v2 v4 h) := by
  unfold f_Sp_outcome_63
  refine xs_step (fun K HC => xr_aload_n HC.1 35 64 (n := 1) (ix := 1) (j := 0) (c := 4) (x := v1) rfl rfl rfl rfl) ?_
  refine xs_step (fun K HC => xr_lload_n HC.1 36 65 (n := 2) (ix := 2) (j := 1) (x := v2) rfl rfl rfl rfl) ?_
  refine xs_step (fun K HC => xr_iload HC.1 37 67 (ix := 4) (j := 2) (x := v4) rfl rfl rfl) ?_
  refine xs_calli (s_Pl_outcome v1 v2 v4 h) (fun K HC x9 hM hmo hb => xr_callV HC.1 38 70 (av := [av_L v2, av_I v4]) (st := []) (hM (kg K) (cx_l (kx K))) hmo hb rfl rfl wm_Sp_41 wi_Pl_outcome ws_Pl_outcome wc_Pl_outcome rfl wh_Pl_outcome (by decide) (by decide) (by decide) (Nat.le_of_ble_eq_true rfl) rfl) (fun x_9 => ?_)
  exact xs_reti 39 rfl rfl (fun K q => q) (fun ty ht => by cases ht; rfl)
set_option maxHeartbeats 4000000 in
set_option maxRecDepth 100000 in
theorem t_Sp_outcome (v0 : Nat) (v1 : Nat) (v2 : Int64) (v4 : Int32) (h : HP) : xx_S (xx_D "LampYard$Steps" tb_Sp_outcome 6 4 (some .int) false) xz_i (fun K => xL_i K) 0 [(0, av_R 8 (some v0)), (1, av_R 4 (some v1)), (2, av_L v2), (4, av_I v4)] [] h (f_Sp_outcome v0 v1 v2 v4 h) := by
  unfold f_Sp_outcome
  refine xs_step (fun K HC => xr_aload_n HC.1 0 1 (n := 1) (ix := 1) (j := 1) (c := 4) (x := v1) rfl rfl rfl rfl) ?_
  refine xs_step (fun K HC => xr_iload HC.1 1 3 (ix := 4) (j := 3) (x := v4) rfl rfl rfl) ?_
  refine xs_calli (s_Pl_roleOf v1 v4 h) (fun K HC x9 hM hmo hb => xr_callV HC.1 2 6 (av := [av_I v4]) (st := []) (hM (kg K) (cx_l (kx K))) hmo hb rfl rfl wm_Sp_21 wi_Pl_roleOf ws_Pl_roleOf wc_Pl_roleOf rfl wh_Pl_roleOf (by decide) (by decide) (by decide) (Nat.le_of_ble_eq_true rfl) rfl) (fun x_1 => ?_)
  refine xs_step (fun K HC => xr_bipush HC.1 3 8 (n := (12)) (12 : Int32) rfl rfl rfl) ?_
  refine xs_step (fun K HC => xr_imul HC.1 4 9 rfl rfl) ?_
  refine xs_step (fun K HC => xr_lload_n HC.1 5 10 (n := 2) (ix := 2) (j := 2) (x := v2) rfl rfl rfl rfl) ?_
  refine xs_calli (s_St_dayOf v2 x_1.2) (fun K HC x9 hM hmo hb => xr_callS HC.1 6 13 (av := [av_L v2]) (st := [av_I (x_1.1 * (12 : Int32))]) (hM (kg K) (cx_l (kx K))) hmo hb rfl rfl wm_Sp_25 wt_St_dayOf wn_St_dayOf wc_St_dayOf wh_St_dayOf (by decide) (by decide) (Nat.le_of_ble_eq_true rfl) rfl) (fun x_2 => ?_)
  refine xs_step (fun K HC => xr_iadd HC.1 7 14 rfl rfl) ?_
  refine xs_topi (fun v5_3 => ?_)
  refine xs_step (fun K HC => xr_istore HC.1 8 16 (ix := 5) (lv' := [(0, av_R 8 (some v0)), (1, av_R 4 (some v1)), (2, av_L v2), (4, av_I v4), (5, av_I v5_3)]) rfl rfl (by decide) rfl) ?_
  refine xs_step (fun K HC => xr_iload HC.1 9 18 (ix := 5) (j := 4) (x := v5_3) rfl rfl rfl) ?_
  refine xs_step (fun K HC => xr_iconst HC.1 10 19 (n := (4)) (4 : Int32) rfl rfl rfl) ?_
  refine xs_step (fun K HC => xr_imul HC.1 11 20 rfl rfl) ?_
  refine xs_step (fun K HC => xr_lload_n HC.1 12 21 (n := 2) (ix := 2) (j := 2) (x := v2) rfl rfl rfl rfl) ?_
  refine xs_calli (s_St_lampsOf v2 x_2.2) (fun K HC x9 hM hmo hb => xr_callS HC.1 13 24 (av := [av_L v2]) (st := [av_I (v5_3 * (4 : Int32))]) (hM (kg K) (cx_l (kx K))) hmo hb rfl rfl wm_Sp_31 wt_St_lampsOf wn_St_lampsOf wc_St_lampsOf wh_St_lampsOf (by decide) (by decide) (Nat.le_of_ble_eq_true rfl) rfl) (fun x_4 => ?_)
  refine xs_step (fun K HC => xr_iadd HC.1 14 25 rfl rfl) ?_
  refine xs_topi (fun v5_5 => ?_)
  refine xs_step (fun K HC => xr_istore HC.1 15 27 (ix := 5) (lv' := [(0, av_R 8 (some v0)), (1, av_R 4 (some v1)), (2, av_L v2), (4, av_I v4), (5, av_I v5_5)]) rfl rfl (by decide) rfl) ?_
  refine xs_step (fun K HC => xr_iload HC.1 16 29 (ix := 5) (j := 4) (x := v5_5) rfl rfl rfl) ?_
  refine xs_step (fun K HC => xr_bipush HC.1 17 31 (n := (32)) (32 : Int32) rfl rfl rfl) ?_
  refine xs_step (fun K HC => xr_imul HC.1 18 32 rfl rfl) ?_
  refine xs_step (fun K HC => xr_lload_n HC.1 19 33 (n := 2) (ix := 2) (j := 2) (x := v2) rfl rfl rfl rfl) ?_
  refine xs_step (fun K HC => xr_iload HC.1 20 35 (ix := 4) (j := 3) (x := v4) rfl rfl rfl) ?_
  refine xs_calli (s_St_heldBy v2 v4 x_4.2) (fun K HC x9 hM hmo hb => xr_callS HC.1 21 38 (av := [av_L v2, av_I v4]) (st := [av_I (v5_5 * (32 : Int32))]) (hM (kg K) (cx_l (kx K))) hmo hb rfl rfl wm_Sp_34 wt_St_heldBy wn_St_heldBy wc_St_heldBy wh_St_heldBy (by decide) (by decide) (Nat.le_of_ble_eq_true rfl) rfl) (fun x_6 => ?_)
  refine xs_step (fun K HC => xr_iadd HC.1 22 39 rfl rfl) ?_
  refine xs_step (fun K HC => xr_iconst HC.1 23 40 (n := (4)) (4 : Int32) rfl rfl rfl) ?_
  refine xs_step (fun K HC => xr_imul HC.1 24 41 rfl rfl) ?_
  refine xs_step (fun K HC => xr_lload_n HC.1 25 42 (n := 2) (ix := 2) (j := 2) (x := v2) rfl rfl rfl rfl) ?_
  refine xs_step (fun K HC => xr_iload HC.1 26 44 (ix := 4) (j := 3) (x := v4) rfl rfl rfl) ?_
  refine xs_calli (s_St_visitsOf v2 v4 x_6.2) (fun K HC x9 hM hmo hb => xr_callS HC.1 27 47 (av := [av_L v2, av_I v4]) (st := [av_I (((v5_5 * (32 : Int32)) + x_6.1) * (4 : Int32))]) (hM (kg K) (cx_l (kx K))) hmo hb rfl rfl wm_Sp_38 wt_St_visitsOf wn_St_visitsOf wc_St_visitsOf wh_St_visitsOf (by decide) (by decide) (Nat.le_of_ble_eq_true rfl) rfl) (fun x_7 => ?_)
  refine xs_step (fun K HC => xr_iadd HC.1 28 48 rfl rfl) ?_
  refine xs_topi (fun v5_8 => ?_)
  refine xs_step (fun K HC => xr_istore HC.1 29 50 (ix := 5) (lv' := [(0, av_R 8 (some v0)), (1, av_R 4 (some v1)), (2, av_L v2), (4, av_I v4), (5, av_I v5_8)]) rfl rfl (by decide) rfl) ?_
  refine xs_step (fun K HC => xr_iload HC.1 30 52 (ix := 5) (j := 4) (x := v5_8) rfl rfl rfl) ?_
  refine xs_ite (fun K HC => xr_if_lt HC.1 31 63 55 rfl (by decide) rfl) ?_ ?_
  · refine xs_step (fun K HC => xr_sub (lv' := [(1, av_R 4 (some v1)), (2, av_L v2), (4, av_I v4)]) [1, 2, 3] rfl) ?_
    exact t_Sp_outcome_63 v1 v2 v4 x_7.2
  refine xs_step (fun K HC => xr_iload HC.1 32 57 (ix := 5) (j := 4) (x := v5_8) rfl rfl rfl) ?_
  refine xs_step (fun K HC => xr_sipush HC.1 33 60 (n := (24576)) (24576 : Int32) rfl rfl rfl) ?_
  refine xs_ite (fun K HC => xr_icmp_lt HC.1 34 71 63 rfl (by decide) rfl) ?_ ?_
  · refine xs_step (fun K HC => xr_aload_n HC.1 40 72 (n := 0) (ix := 0) (j := 0) (c := 8) (x := v0) rfl rfl rfl rfl) ?_
    refine xs_bind (fun q_10 eq_10 => ?_)
    refine xs_step (fun K HC => xr_getr HC.1 41 75 8 0 13 eq_10 rfl rfl wf_Sp_11 (by decide) fb_8_0 fc_8_0 fd_8_0) ?_
    refine xs_step (fun K HC => xr_iload HC.1 42 77 (ix := 5) (j := 4) (x := v5_8) rfl rfl rfl) ?_
    refine xs_chk (fun hb_11 => ?_)
    refine xs_step (fun K HC => xr_iald HC.1 43 78 (hp_in_vp hb_11) rfl rfl) ?_
    refine xs_ite (fun K HC a b => xr_if_ne HC.1 44 97 81 rfl (by decide) rfl b a) ?_ ?_
    · refine xs_step (fun K HC => xr_aload_n HC.1 45 82 (n := 0) (ix := 0) (j := 0) (c := 8) (x := v0) rfl rfl rfl rfl) ?_
      refine xs_bind (fun q_12 eq_12 => ?_)
      refine xs_step (fun K HC => xr_getr HC.1 46 85 8 0 13 eq_12 rfl rfl wf_Sp_11 (by decide) fb_8_0 fc_8_0 fd_8_0) ?_
      refine xs_step (fun K HC => xr_iload HC.1 47 87 (ix := 5) (j := 4) (x := v5_8) rfl rfl rfl) ?_
      refine xs_step (fun K HC => xr_aload_n HC.1 48 88 (n := 1) (ix := 1) (j := 1) (c := 4) (x := v1) rfl rfl rfl rfl) ?_
      refine xs_step (fun K HC => xr_lload_n HC.1 49 89 (n := 2) (ix := 2) (j := 2) (x := v2) rfl rfl rfl rfl) ?_
      refine xs_step (fun K HC => xr_iload HC.1 50 91 (ix := 4) (j := 3) (x := v4) rfl rfl rfl) ?_
      refine xs_calli (s_Pl_outcome v1 v2 v4 x_7.2) (fun K HC x9 hM hmo hb => xr_callV HC.1 51 94 (av := [av_L v2, av_I v4]) (st := [av_I v5_8, av_R 13 (some q_12)]) (hM (kg K) (cx_l (kx K))) hmo hb rfl rfl wm_Sp_41 wi_Pl_outcome ws_Pl_outcome wc_Pl_outcome rfl wh_Pl_outcome (by decide) (by decide) (by decide) (Nat.le_of_ble_eq_true rfl) rfl) (fun x_13 => ?_)
      refine xs_step (fun K HC => xr_iconst HC.1 52 95 (n := (1)) (1 : Int32) rfl rfl rfl) ?_
      refine xs_step (fun K HC => xr_iadd HC.1 53 96 rfl rfl) ?_
      refine xs_chk (fun hb_14 => ?_)
      refine xs_heap (hp_mo_si _ _ _ _) (fun K HC => xr_iast HC.1 54 97 (hp_in_vp hb_14) rfl rfl) (fun h_15 => ?_)
      refine xs_step (fun K HC => xr_aload_n HC.1 55 98 (n := 0) (ix := 0) (j := 0) (c := 8) (x := v0) rfl rfl rfl rfl) ?_
      refine xs_bind (fun q_16 eq_16 => ?_)
      refine xs_step (fun K HC => xr_getr HC.1 56 101 8 0 13 eq_16 rfl rfl wf_Sp_11 (by decide) fb_8_0 fc_8_0 fd_8_0) ?_
      refine xs_step (fun K HC => xr_iload HC.1 57 103 (ix := 5) (j := 4) (x := v5_8) rfl rfl rfl) ?_
      refine xs_chk (fun hb_17 => ?_)
      refine xs_step (fun K HC => xr_iald HC.1 58 104 (hp_in_vp hb_17) rfl rfl) ?_
      refine xs_step (fun K HC => xr_iconst HC.1 59 105 (n := (1)) (1 : Int32) rfl rfl rfl) ?_
      refine xs_step (fun K HC => xr_isub HC.1 60 106 rfl rfl) ?_
      exact xs_reti 61 rfl rfl (fun K q => q) (fun ty ht => by cases ht; rfl)
    refine xs_step (fun K HC => xr_aload_n HC.1 55 98 (n := 0) (ix := 0) (j := 0) (c := 8) (x := v0) rfl rfl rfl rfl) ?_
    refine xs_bind (fun q_18 eq_18 => ?_)
    refine xs_step (fun K HC => xr_getr HC.1 56 101 8 0 13 eq_18 rfl rfl wf_Sp_11 (by decide) fb_8_0 fc_8_0 fd_8_0) ?_
    refine xs_step (fun K HC => xr_iload HC.1 57 103 (ix := 5) (j := 4) (x := v5_8) rfl rfl rfl) ?_
    refine xs_chk (fun hb_19 => ?_)
    refine xs_step (fun K HC => xr_iald HC.1 58 104 (hp_in_vp hb_19) rfl rfl) ?_
    refine xs_step (fun K HC => xr_iconst HC.1 59 105 (n := (1)) (1 : Int32) rfl rfl rfl) ?_
    refine xs_step (fun K HC => xr_isub HC.1 60 106 rfl rfl) ?_
    exact xs_reti 61 rfl rfl (fun K q => q) (fun ty ht => by cases ht; rfl)
  refine xs_step (fun K HC => xr_sub (lv' := [(1, av_R 4 (some v1)), (2, av_L v2), (4, av_I v4)]) [1, 2, 3] rfl) ?_
  exact t_Sp_outcome_63 v1 v2 v4 x_7.2
theorem s_Sp_outcome (v0 : Nat) (v1 : Nat) (v2 : Int64) (v4 : Int32) (h : HP) : ∀ x, f_Sp_outcome v0 v1 v2 v4 h = some x → hp_mo h x.2 ∧ ∀ g l, xx_M g l y_Sp_outcome prog_11_method_3_code 6 (some .int) 4 [av_R 8 (some v0), av_R 4 (some v1), av_L v2, av_I v4] h (some (av_I x.1)) x.2 :=
  xM_i (tb := tb_Sp_outcome) (b := false) (by decide +kernel) dt_Sp_outcome (fun _ => trivial) (Nat.le_of_ble_eq_true rfl) (fun hb => by cases hb) (t_Sp_outcome v0 v1 v2 v4 h)
