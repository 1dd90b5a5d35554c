def tb_M_new : TBL := [(0, .aload_n 0, 1), (1, .invokespecial 1, 3), (4, .aload_n 0, 1), (5, .sipush 1400, 3), (8, .newarray .int, 2), (10, .putfield 7, 3), (13, .aload_n 0, 1), (14, .iconst (-1), 1), (15, .putfield 13, 3), (18, .aload_n 0, 1), (19, .iconst 4, 1), (20, .newarray .long, 2), (22, .putfield 17, 3), (25, .aload_n 0, 1), (26, .iconst 4, 1), (27, .newarray .int, 2), (29, .putfield 21, 3), (32, .aload_n 0, 1), (33, .iconst 4, 1), (34, .newarray .int, 2), (36, .putfield 24, 3), (39, .aload_n 0, 1), (40, .bipush 16, 2), (42, .newarray .int, 2), (44, .putfield 27, 3), (47, .aload_n 0, 1), (48, .bipush 6, 2), (50, .newarray .int, 2), (52, .putfield 30, 3), (55, .aload_n 0, 1), (56, .bipush 6, 2), (58, .newarray .int, 2), (60, .putfield 33, 3), (63, .aload_n 0, 1), (64, .bipush 16, 2), (66, .newarray .int, 2), (68, .putfield 36, 3), (71, .aload_n 0, 1), (72, .bipush 16, 2), (74, .newarray .boolean, 2), (76, .putfield 39, 3), (79, .aload_n 0, 1), (80, .bipush 16, 2), (82, .newarray .boolean, 2), (84, .putfield 43, 3), (87, .aload_n 0, 1), (88, .iconst 4, 1), (89, .newarray .boolean, 2), (91, .putfield 46, 3), (94, .aload_n 0, 1), (95, .sipush 640, 3), (98, .newarray .int, 2), (100, .putfield 49, 3), (103, .aload_n 0, 1), (104, .sipush 640, 3), (107, .newarray .int, 2), (109, .putfield 52, 3), (112, .aload_n 0, 1), (113, .bipush 49, 2), (115, .newarray .int, 2), (117, .putfield 55, 3), (120, .aload_n 0, 1), (121, .sipush 640, 3), (124, .newarray .int, 2), (126, .putfield 58, 3), (129, .aload_n 0, 1), (130, .sipush 640, 3), (133, .newarray .int, 2), (135, .putfield 61, 3), (138, .aload_n 0, 1), (139, .bipush 49, 2), (141, .newarray .int, 2), (143, .putfield 64, 3), (146, .aload_n 0, 1), (147, .sipush 300, 3), (150, .newarray .int, 2), (152, .putfield 67, 3), (155, .aload_n 0, 1), (156, .bipush 70, 2), (158, .newarray .int, 2), (160, .putfield 70, 3), (163, .aload_n 0, 1), (164, .bipush 6, 2), (166, .newarray .int, 2), (168, .putfield 73, 3), (171, .aload_n 0, 1), (172, .bipush 6, 2), (174, .newarray .int, 2), (176, .putfield 76, 3), (179, .aload_n 0, 1), (180, .bipush 6, 2), (182, .newarray .int, 2), (184, .putfield 79, 3), (187, .aload_n 0, 1), (188, .bipush 6, 2), (190, .newarray .boolean, 2), (192, .putfield 82, 3), (195, .aload_n 0, 1), (196, .bipush 6, 2), (198, .newarray .int, 2), (200, .putfield 85, 3), (203, .aload_n 0, 1), (204, .bipush 6, 2), (206, .newarray .int, 2), (208, .putfield 88, 3), (211, .aload_n 0, 1), (212, .bipush 6, 2), (214, .newarray .boolean, 2), (216, .putfield 91, 3), (219, .aload_n 0, 1), (220, .sipush 5001, 3), (223, .newarray .long, 2), (225, .putfield 94, 3), (228, .aload_n 0, 1), (229, .sipush 16384, 3), (232, .newarray .int, 2), (234, .putfield 97, 3), (237, .aload_n 0, 1), (238, .sipush 30006, 3), (241, .newarray .int, 2), (243, .putfield 100, 3), (246, .aload_n 0, 1), (247, .sipush 5001, 3), (250, .newarray .int, 2), (252, .putfield 103, 3), (255, .aload_n 0, 1), (256, .sipush 5002, 3), (259, .newarray .int, 2), (261, .putfield 106, 3), (264, .aload_n 0, 1), (265, .sipush 30006, 3), (268, .newarray .int, 2), (270, .putfield 109, 3), (273, .aload_n 0, 1), (274, .sipush 5001, 3), (277, .newarray .int, 2), (279, .putfield 112, 3), (282, .aload_n 0, 1), (283, .sipush 5001, 3), (286, .newarray .int, 2), (288, .putfield 115, 3), (291, .aload_n 0, 1), (292, .sipush 5001, 3), (295, .newarray .int, 2), (297, .putfield 118, 3), (300, .aload_n 0, 1), (301, .sipush 5001, 3), (304, .newarray .int, 2), (306, .putfield 121, 3), (309, .aload_n 0, 1), (310, .sipush 5001, 3), (313, .newarray .int, 2), (315, .putfield 124, 3), (318, .aload_n 0, 1), (319, .sipush 5001, 3), (322, .newarray .long, 2), (324, .putfield 127, 3), (327, .aload_n 0, 1), (328, .sipush 5001, 3), (331, .newarray .long, 2), (333, .putfield 130, 3), (336, .aload_n 0, 1), (337, .bipush 8, 2), (339, .newarray .long, 2), (341, .putfield 133, 3), (344, .aload_n 0, 1), (345, .bipush 60, 2), (347, .newarray .int, 2), (349, .putfield 136, 3), (352, .aload_n 0, 1), (353, .bipush 60, 2), (355, .newarray .int, 2), (357, .putfield 139, 3), (360, .aload_n 0, 1), (361, .bipush 60, 2), (363, .newarray .int, 2), (365, .putfield 142, 3), (368, .aload_n 0, 1), (369, .bipush 60, 2), (371, .newarray .int, 2), (373, .putfield 145, 3), (376, .aload_n 0, 1), (377, .bipush 100, 2), (379, .newarray .int, 2), (381, .putfield 148, 3), (384, .aload_n 0, 1), (385, .bipush 100, 2), (387, .newarray .boolean, 2), (389, .putfield 151, 3), (392, .aload_n 0, 1), (393, .iconst 3, 1), (394, .newarray .boolean, 2), (396, .putfield 154, 3), (399, .aload_n 0, 1), (400, .iconst 3, 1), (401, .newarray .boolean, 2), (403, .putfield 157, 3), (406, .aload_n 0, 1), (407, .bipush 18, 2), (409, .newarray .boolean, 2), (411, .putfield 160, 3), (414, .aload_n 0, 1), (415, .bipush 18, 2), (417, .newarray .int, 2), (419, .putfield 163, 3), (422, .aload_n 0, 1), (423, .bipush 18, 2), (425, .newarray .int, 2), (427, .putfield 166, 3), (430, .aload_n 0, 1), (431, .bipush 18, 2), (433, .newarray .int, 2), (435, .putfield 169, 3), (438, .aload_n 0, 1), (439, .iconst 3, 1), (440, .newarray .int, 2), (442, .putfield 172, 3), (445, .aload_n 0, 1), (446, .iconst 3, 1), (447, .newarray .int, 2), (449, .putfield 175, 3), (452, .aload_n 0, 1), (453, .iconst 3, 1), (454, .newarray .int, 2), (456, .putfield 178, 3), (459, .aload_n 0, 1), (460, .invokevirtual 181, 3), (463, .aload_n 0, 1), (464, .iconst 0, 1), (465, .invokevirtual 184, 3), (468, .return_, 1)]
theorem dt_M_new : ∀ q ∈ tb_M_new, decode prog_14_method_1_code q.1 = .ok (q.2.1, q.2.2) := by decide +kernel
set_option maxHeartbeats 4000000 in
set_option maxRecDepth 100000 in
theorem t_M_new (v0 : Nat) (h : HP) : xx_S (xx_D "LampYardModel" tb_M_new 1 3 none true) xz_v (fun K => xL_v K) 0 [(0, av_R 11 (some v0))] [] h (f_M_new v0 h) := by
  unfold f_M_new
  refine xs_step (fun K HC => xr_aload_n HC.1 0 1 (n := 0) (ix := 0) (j := 0) (c := 11) (x := v0) rfl rfl rfl rfl) ?_
  refine xs_step (fun K HC => xr_obj HC.1 1 4 rfl rfl wm_M_1 (by decide) (Nat.le_of_ble_eq_true rfl)) ?_
  refine xs_step (fun K HC => xr_aload_n HC.1 2 5 (n := 0) (ix := 0) (j := 0) (c := 11) (x := v0) rfl rfl rfl rfl) ?_
  refine xs_step (fun K HC => xr_sipush HC.1 3 8 (n := (1400)) (1400 : Int32) rfl rfl rfl) ?_
  refine xs_new (fun K HC hb => xr_newI HC.1 4 10 1400 hb rfl rfl (by decide) rfl (Nat.le_of_ble_eq_true rfl)) (fun q_1 h_2 => ?_)
  refine xs_heap (hp_mo_sr _ _ _ _) (fun K HC => xr_putr HC.1 5 13 11 0 13 rfl rfl wf_M_7 (by decide) fb_11_0 (Or.inr ⟨fn_11_0, HC.2 rfl, rfl⟩) fc_11_0 fd_11_0 (by decide)) (fun h_3 => ?_)
  refine xs_step (fun K HC => xr_aload_n HC.1 6 14 (n := 0) (ix := 0) (j := 0) (c := 11) (x := v0) rfl rfl rfl rfl) ?_
  refine xs_step (fun K HC => xr_iconst HC.1 7 15 (n := (-1)) (-1 : Int32) rfl rfl rfl) ?_
  refine xs_heap (hp_mo_si _ _ _ _) (fun K HC => xr_puti HC.1 8 18 11 3 rfl rfl wf_M_13 (by decide) fb_11_3 fn_11_3 fy_11_3) (fun h_4 => ?_)
  refine xs_step (fun K HC => xr_aload_n HC.1 9 19 (n := 0) (ix := 0) (j := 0) (c := 11) (x := v0) rfl rfl rfl rfl) ?_
  refine xs_step (fun K HC => xr_iconst HC.1 10 20 (n := (4)) (4 : Int32) rfl rfl rfl) ?_
  refine xs_new (fun K HC hb => xr_newL HC.1 11 22 4 hb rfl rfl (by decide) rfl (Nat.le_of_ble_eq_true rfl)) (fun q_5 h_6 => ?_)
  refine xs_heap (hp_mo_sr _ _ _ _) (fun K HC => xr_putr HC.1 12 25 11 10 14 rfl rfl wf_M_17 (by decide) fb_11_10 (Or.inr ⟨fn_11_10, HC.2 rfl, rfl⟩) fc_11_10 fd_11_10 (by decide)) (fun h_7 => ?_)
  refine xs_step (fun K HC => xr_aload_n HC.1 13 26 (n := 0) (ix := 0) (j := 0) (c := 11) (x := v0) rfl rfl rfl rfl) ?_
  refine xs_step (fun K HC => xr_iconst HC.1 14 27 (n := (4)) (4 : Int32) rfl rfl rfl) ?_
  refine xs_new (fun K HC hb => xr_newI HC.1 15 29 4 hb rfl rfl (by decide) rfl (Nat.le_of_ble_eq_true rfl)) (fun q_8 h_9 => ?_)
  refine xs_heap (hp_mo_sr _ _ _ _) (fun K HC => xr_putr HC.1 16 32 11 11 13 rfl rfl wf_M_21 (by decide) fb_11_11 (Or.inr ⟨fn_11_11, HC.2 rfl, rfl⟩) fc_11_11 fd_11_11 (by decide)) (fun h_10 => ?_)
  refine xs_step (fun K HC => xr_aload_n HC.1 17 33 (n := 0) (ix := 0) (j := 0) (c := 11) (x := v0) rfl rfl rfl rfl) ?_
  refine xs_step (fun K HC => xr_iconst HC.1 18 34 (n := (4)) (4 : Int32) rfl rfl rfl) ?_
  refine xs_new (fun K HC hb => xr_newI HC.1 19 36 4 hb rfl rfl (by decide) rfl (Nat.le_of_ble_eq_true rfl)) (fun q_11 h_12 => ?_)
  refine xs_heap (hp_mo_sr _ _ _ _) (fun K HC => xr_putr HC.1 20 39 11 12 13 rfl rfl wf_M_24 (by decide) fb_11_12 (Or.inr ⟨fn_11_12, HC.2 rfl, rfl⟩) fc_11_12 fd_11_12 (by decide)) (fun h_13 => ?_)
  refine xs_step (fun K HC => xr_aload_n HC.1 21 40 (n := 0) (ix := 0) (j := 0) (c := 11) (x := v0) rfl rfl rfl rfl) ?_
  refine xs_step (fun K HC => xr_bipush HC.1 22 42 (n := (16)) (16 : Int32) rfl rfl rfl) ?_
  refine xs_new (fun K HC hb => xr_newI HC.1 23 44 16 hb rfl rfl (by decide) rfl (Nat.le_of_ble_eq_true rfl)) (fun q_14 h_15 => ?_)
  refine xs_heap (hp_mo_sr _ _ _ _) (fun K HC => xr_putr HC.1 24 47 11 13 13 rfl rfl wf_M_27 (by decide) fb_11_13 (Or.inr ⟨fn_11_13, HC.2 rfl, rfl⟩) fc_11_13 fd_11_13 (by decide)) (fun h_16 => ?_)
  refine xs_step (fun K HC => xr_aload_n HC.1 25 48 (n := 0) (ix := 0) (j := 0) (c := 11) (x := v0) rfl rfl rfl rfl) ?_
  refine xs_step (fun K HC => xr_bipush HC.1 26 50 (n := (6)) (6 : Int32) rfl rfl rfl) ?_
  refine xs_new (fun K HC hb => xr_newI HC.1 27 52 6 hb rfl rfl (by decide) rfl (Nat.le_of_ble_eq_true rfl)) (fun q_17 h_18 => ?_)
  refine xs_heap (hp_mo_sr _ _ _ _) (fun K HC => xr_putr HC.1 28 55 11 14 13 rfl rfl wf_M_30 (by decide) fb_11_14 (Or.inr ⟨fn_11_14, HC.2 rfl, rfl⟩) fc_11_14 fd_11_14 (by decide)) (fun h_19 => ?_)
  refine xs_step (fun K HC => xr_aload_n HC.1 29 56 (n := 0) (ix := 0) (j := 0) (c := 11) (x := v0) rfl rfl rfl rfl) ?_
  refine xs_step (fun K HC => xr_bipush HC.1 30 58 (n := (6)) (6 : Int32) rfl rfl rfl) ?_
  refine xs_new (fun K HC hb => xr_newI HC.1 31 60 6 hb rfl rfl (by decide) rfl (Nat.le_of_ble_eq_true rfl)) (fun q_20 h_21 => ?_)
  refine xs_heap (hp_mo_sr _ _ _ _) (fun K HC => xr_putr HC.1 32 63 11 15 13 rfl rfl wf_M_33 (by decide) fb_11_15 (Or.inr ⟨fn_11_15, HC.2 rfl, rfl⟩) fc_11_15 fd_11_15 (by decide)) (fun h_22 => ?_)
  refine xs_step (fun K HC => xr_aload_n HC.1 33 64 (n := 0) (ix := 0) (j := 0) (c := 11) (x := v0) rfl rfl rfl rfl) ?_
  refine xs_step (fun K HC => xr_bipush HC.1 34 66 (n := (16)) (16 : Int32) rfl rfl rfl) ?_
  refine xs_new (fun K HC hb => xr_newI HC.1 35 68 16 hb rfl rfl (by decide) rfl (Nat.le_of_ble_eq_true rfl)) (fun q_23 h_24 => ?_)
  refine xs_heap (hp_mo_sr _ _ _ _) (fun K HC => xr_putr HC.1 36 71 11 16 13 rfl rfl wf_M_36 (by decide) fb_11_16 (Or.inr ⟨fn_11_16, HC.2 rfl, rfl⟩) fc_11_16 fd_11_16 (by decide)) (fun h_25 => ?_)
  refine xs_step (fun K HC => xr_aload_n HC.1 37 72 (n := 0) (ix := 0) (j := 0) (c := 11) (x := v0) rfl rfl rfl rfl) ?_
  refine xs_step (fun K HC => xr_bipush HC.1 38 74 (n := (16)) (16 : Int32) rfl rfl rfl) ?_
  refine xs_new (fun K HC hb => xr_newZ HC.1 39 76 16 hb rfl rfl (by decide) rfl (Nat.le_of_ble_eq_true rfl)) (fun q_26 h_27 => ?_)
  refine xs_heap (hp_mo_sr _ _ _ _) (fun K HC => xr_putr HC.1 40 79 11 17 15 rfl rfl wf_M_39 (by decide) fb_11_17 (Or.inr ⟨fn_11_17, HC.2 rfl, rfl⟩) fc_11_17 fd_11_17 (by decide)) (fun h_28 => ?_)
  refine xs_step (fun K HC => xr_aload_n HC.1 41 80 (n := 0) (ix := 0) (j := 0) (c := 11) (x := v0) rfl rfl rfl rfl) ?_
  refine xs_step (fun K HC => xr_bipush HC.1 42 82 (n := (16)) (16 : Int32) rfl rfl rfl) ?_
  refine xs_new (fun K HC hb => xr_newZ HC.1 43 84 16 hb rfl rfl (by decide) rfl (Nat.le_of_ble_eq_true rfl)) (fun q_29 h_30 => ?_)
  refine xs_heap (hp_mo_sr _ _ _ _) (fun K HC => xr_putr HC.1 44 87 11 18 15 rfl rfl wf_M_43 (by decide) fb_11_18 (Or.inr ⟨fn_11_18, HC.2 rfl, rfl⟩) fc_11_18 fd_11_18 (by decide)) (fun h_31 => ?_)
  refine xs_step (fun K HC => xr_aload_n HC.1 45 88 (n := 0) (ix := 0) (j := 0) (c := 11) (x := v0) rfl rfl rfl rfl) ?_
  refine xs_step (fun K HC => xr_iconst HC.1 46 89 (n := (4)) (4 : Int32) rfl rfl rfl) ?_
  refine xs_new (fun K HC hb => xr_newZ HC.1 47 91 4 hb rfl rfl (by decide) rfl (Nat.le_of_ble_eq_true rfl)) (fun q_32 h_33 => ?_)
  refine xs_heap (hp_mo_sr _ _ _ _) (fun K HC => xr_putr HC.1 48 94 11 19 15 rfl rfl wf_M_46 (by decide) fb_11_19 (Or.inr ⟨fn_11_19, HC.2 rfl, rfl⟩) fc_11_19 fd_11_19 (by decide)) (fun h_34 => ?_)
  refine xs_step (fun K HC => xr_aload_n HC.1 49 95 (n := 0) (ix := 0) (j := 0) (c := 11) (x := v0) rfl rfl rfl rfl) ?_
  refine xs_step (fun K HC => xr_sipush HC.1 50 98 (n := (640)) (640 : Int32) rfl rfl rfl) ?_
  refine xs_new (fun K HC hb => xr_newI HC.1 51 100 640 hb rfl rfl (by decide) rfl (Nat.le_of_ble_eq_true rfl)) (fun q_35 h_36 => ?_)
  refine xs_heap (hp_mo_sr _ _ _ _) (fun K HC => xr_putr HC.1 52 103 11 36 13 rfl rfl wf_M_49 (by decide) fb_11_36 (Or.inr ⟨fn_11_36, HC.2 rfl, rfl⟩) fc_11_36 fd_11_36 (by decide)) (fun h_37 => ?_)
  refine xs_step (fun K HC => xr_aload_n HC.1 53 104 (n := 0) (ix := 0) (j := 0) (c := 11) (x := v0) rfl rfl rfl rfl) ?_
  refine xs_step (fun K HC => xr_sipush HC.1 54 107 (n := (640)) (640 : Int32) rfl rfl rfl) ?_
  refine xs_new (fun K HC hb => xr_newI HC.1 55 109 640 hb rfl rfl (by decide) rfl (Nat.le_of_ble_eq_true rfl)) (fun q_38 h_39 => ?_)
  refine xs_heap (hp_mo_sr _ _ _ _) (fun K HC => xr_putr HC.1 56 112 11 37 13 rfl rfl wf_M_52 (by decide) fb_11_37 (Or.inr ⟨fn_11_37, HC.2 rfl, rfl⟩) fc_11_37 fd_11_37 (by decide)) (fun h_40 => ?_)
  refine xs_step (fun K HC => xr_aload_n HC.1 57 113 (n := 0) (ix := 0) (j := 0) (c := 11) (x := v0) rfl rfl rfl rfl) ?_
  refine xs_step (fun K HC => xr_bipush HC.1 58 115 (n := (49)) (49 : Int32) rfl rfl rfl) ?_
  refine xs_new (fun K HC hb => xr_newI HC.1 59 117 49 hb rfl rfl (by decide) rfl (Nat.le_of_ble_eq_true rfl)) (fun q_41 h_42 => ?_)
  refine xs_heap (hp_mo_sr _ _ _ _) (fun K HC => xr_putr HC.1 60 120 11 38 13 rfl rfl wf_M_55 (by decide) fb_11_38 (Or.inr ⟨fn_11_38, HC.2 rfl, rfl⟩) fc_11_38 fd_11_38 (by decide)) (fun h_43 => ?_)
  refine xs_step (fun K HC => xr_aload_n HC.1 61 121 (n := 0) (ix := 0) (j := 0) (c := 11) (x := v0) rfl rfl rfl rfl) ?_
  refine xs_step (fun K HC => xr_sipush HC.1 62 124 (n := (640)) (640 : Int32) rfl rfl rfl) ?_
  refine xs_new (fun K HC hb => xr_newI HC.1 63 126 640 hb rfl rfl (by decide) rfl (Nat.le_of_ble_eq_true rfl)) (fun q_44 h_45 => ?_)
  refine xs_heap (hp_mo_sr _ _ _ _) (fun K HC => xr_putr HC.1 64 129 11 39 13 rfl rfl wf_M_58 (by decide) fb_11_39 (Or.inr ⟨fn_11_39, HC.2 rfl, rfl⟩) fc_11_39 fd_11_39 (by decide)) (fun h_46 => ?_)
  refine xs_step (fun K HC => xr_aload_n HC.1 65 130 (n := 0) (ix := 0) (j := 0) (c := 11) (x := v0) rfl rfl rfl rfl) ?_
  refine xs_step (fun K HC => xr_sipush HC.1 66 133 (n := (640)) (640 : Int32) rfl rfl rfl) ?_
  refine xs_new (fun K HC hb => xr_newI HC.1 67 135 640 hb rfl rfl (by decide) rfl (Nat.le_of_ble_eq_true rfl)) (fun q_47 h_48 => ?_)
  refine xs_heap (hp_mo_sr _ _ _ _) (fun K HC => xr_putr HC.1 68 138 11 40 13 rfl rfl wf_M_61 (by decide) fb_11_40 (Or.inr ⟨fn_11_40, HC.2 rfl, rfl⟩) fc_11_40 fd_11_40 (by decide)) (fun h_49 => ?_)
  refine xs_step (fun K HC => xr_aload_n HC.1 69 139 (n := 0) (ix := 0) (j := 0) (c := 11) (x := v0) rfl rfl rfl rfl) ?_
  refine xs_step (fun K HC => xr_bipush HC.1 70 141 (n := (49)) (49 : Int32) rfl rfl rfl) ?_
  refine xs_new (fun K HC hb => xr_newI HC.1 71 143 49 hb rfl rfl (by decide) rfl (Nat.le_of_ble_eq_true rfl)) (fun q_50 h_51 => ?_)
  refine xs_heap (hp_mo_sr _ _ _ _) (fun K HC => xr_putr HC.1 72 146 11 41 13 rfl rfl wf_M_64 (by decide) fb_11_41 (Or.inr ⟨fn_11_41, HC.2 rfl, rfl⟩) fc_11_41 fd_11_41 (by decide)) (fun h_52 => ?_)
  refine xs_step (fun K HC => xr_aload_n HC.1 73 147 (n := 0) (ix := 0) (j := 0) (c := 11) (x := v0) rfl rfl rfl rfl) ?_
  refine xs_step (fun K HC => xr_sipush HC.1 74 150 (n := (300)) (300 : Int32) rfl rfl rfl) ?_
  refine xs_new (fun K HC hb => xr_newI HC.1 75 152 300 hb rfl rfl (by decide) rfl (Nat.le_of_ble_eq_true rfl)) (fun q_53 h_54 => ?_)
  refine xs_heap (hp_mo_sr _ _ _ _) (fun K HC => xr_putr HC.1 76 155 11 42 13 rfl rfl wf_M_67 (by decide) fb_11_42 (Or.inr ⟨fn_11_42, HC.2 rfl, rfl⟩) fc_11_42 fd_11_42 (by decide)) (fun h_55 => ?_)
  refine xs_step (fun K HC => xr_aload_n HC.1 77 156 (n := 0) (ix := 0) (j := 0) (c := 11) (x := v0) rfl rfl rfl rfl) ?_
  refine xs_step (fun K HC => xr_bipush HC.1 78 158 (n := (70)) (70 : Int32) rfl rfl rfl) ?_
  refine xs_new (fun K HC hb => xr_newI HC.1 79 160 70 hb rfl rfl (by decide) rfl (Nat.le_of_ble_eq_true rfl)) (fun q_56 h_57 => ?_)
  refine xs_heap (hp_mo_sr _ _ _ _) (fun K HC => xr_putr HC.1 80 163 11 43 13 rfl rfl wf_M_70 (by decide) fb_11_43 (Or.inr ⟨fn_11_43, HC.2 rfl, rfl⟩) fc_11_43 fd_11_43 (by decide)) (fun h_58 => ?_)
  refine xs_step (fun K HC => xr_aload_n HC.1 81 164 (n := 0) (ix := 0) (j := 0) (c := 11) (x := v0) rfl rfl rfl rfl) ?_
  refine xs_step (fun K HC => xr_bipush HC.1 82 166 (n := (6)) (6 : Int32) rfl rfl rfl) ?_
  refine xs_new (fun K HC hb => xr_newI HC.1 83 168 6 hb rfl rfl (by decide) rfl (Nat.le_of_ble_eq_true rfl)) (fun q_59 h_60 => ?_)
  refine xs_heap (hp_mo_sr _ _ _ _) (fun K HC => xr_putr HC.1 84 171 11 47 13 rfl rfl wf_M_73 (by decide) fb_11_47 (Or.inr ⟨fn_11_47, HC.2 rfl, rfl⟩) fc_11_47 fd_11_47 (by decide)) (fun h_61 => ?_)
  refine xs_step (fun K HC => xr_aload_n HC.1 85 172 (n := 0) (ix := 0) (j := 0) (c := 11) (x := v0) rfl rfl rfl rfl) ?_
  refine xs_step (fun K HC => xr_bipush HC.1 86 174 (n := (6)) (6 : Int32) rfl rfl rfl) ?_
  refine xs_new (fun K HC hb => xr_newI HC.1 87 176 6 hb rfl rfl (by decide) rfl (Nat.le_of_ble_eq_true rfl)) (fun q_62 h_63 => ?_)
  refine xs_heap (hp_mo_sr _ _ _ _) (fun K HC => xr_putr HC.1 88 179 11 48 13 rfl rfl wf_M_76 (by decide) fb_11_48 (Or.inr ⟨fn_11_48, HC.2 rfl, rfl⟩) fc_11_48 fd_11_48 (by decide)) (fun h_64 => ?_)
  refine xs_step (fun K HC => xr_aload_n HC.1 89 180 (n := 0) (ix := 0) (j := 0) (c := 11) (x := v0) rfl rfl rfl rfl) ?_
  refine xs_step (fun K HC => xr_bipush HC.1 90 182 (n := (6)) (6 : Int32) rfl rfl rfl) ?_
  refine xs_new (fun K HC hb => xr_newI HC.1 91 184 6 hb rfl rfl (by decide) rfl (Nat.le_of_ble_eq_true rfl)) (fun q_65 h_66 => ?_)
  refine xs_heap (hp_mo_sr _ _ _ _) (fun K HC => xr_putr HC.1 92 187 11 49 13 rfl rfl wf_M_79 (by decide) fb_11_49 (Or.inr ⟨fn_11_49, HC.2 rfl, rfl⟩) fc_11_49 fd_11_49 (by decide)) (fun h_67 => ?_)
  refine xs_step (fun K HC => xr_aload_n HC.1 93 188 (n := 0) (ix := 0) (j := 0) (c := 11) (x := v0) rfl rfl rfl rfl) ?_
  refine xs_step (fun K HC => xr_bipush HC.1 94 190 (n := (6)) (6 : Int32) rfl rfl rfl) ?_
  refine xs_new (fun K HC hb => xr_newZ HC.1 95 192 6 hb rfl rfl (by decide) rfl (Nat.le_of_ble_eq_true rfl)) (fun q_68 h_69 => ?_)
  refine xs_heap (hp_mo_sr _ _ _ _) (fun K HC => xr_putr HC.1 96 195 11 50 15 rfl rfl wf_M_82 (by decide) fb_11_50 (Or.inr ⟨fn_11_50, HC.2 rfl, rfl⟩) fc_11_50 fd_11_50 (by decide)) (fun h_70 => ?_)
  refine xs_step (fun K HC => xr_aload_n HC.1 97 196 (n := 0) (ix := 0) (j := 0) (c := 11) (x := v0) rfl rfl rfl rfl) ?_
  refine xs_step (fun K HC => xr_bipush HC.1 98 198 (n := (6)) (6 : Int32) rfl rfl rfl) ?_
  refine xs_new (fun K HC hb => xr_newI HC.1 99 200 6 hb rfl rfl (by decide) rfl (Nat.le_of_ble_eq_true rfl)) (fun q_71 h_72 => ?_)
  refine xs_heap (hp_mo_sr _ _ _ _) (fun K HC => xr_putr HC.1 100 203 11 57 13 rfl rfl wf_M_85 (by decide) fb_11_57 (Or.inr ⟨fn_11_57, HC.2 rfl, rfl⟩) fc_11_57 fd_11_57 (by decide)) (fun h_73 => ?_)
  refine xs_step (fun K HC => xr_aload_n HC.1 101 204 (n := 0) (ix := 0) (j := 0) (c := 11) (x := v0) rfl rfl rfl rfl) ?_
  refine xs_step (fun K HC => xr_bipush HC.1 102 206 (n := (6)) (6 : Int32) rfl rfl rfl) ?_
  refine xs_new (fun K HC hb => xr_newI HC.1 103 208 6 hb rfl rfl (by decide) rfl (Nat.le_of_ble_eq_true rfl)) (fun q_74 h_75 => ?_)
  refine xs_heap (hp_mo_sr _ _ _ _) (fun K HC => xr_putr HC.1 104 211 11 58 13 rfl rfl wf_M_88 (by decide) fb_11_58 (Or.inr ⟨fn_11_58, HC.2 rfl, rfl⟩) fc_11_58 fd_11_58 (by decide)) (fun h_76 => ?_)
  refine xs_step (fun K HC => xr_aload_n HC.1 105 212 (n := 0) (ix := 0) (j := 0) (c := 11) (x := v0) rfl rfl rfl rfl) ?_
  refine xs_step (fun K HC => xr_bipush HC.1 106 214 (n := (6)) (6 : Int32) rfl rfl rfl) ?_
  refine xs_new (fun K HC hb => xr_newZ HC.1 107 216 6 hb rfl rfl (by decide) rfl (Nat.le_of_ble_eq_true rfl)) (fun q_77 h_78 => ?_)
  refine xs_heap (hp_mo_sr _ _ _ _) (fun K HC => xr_putr HC.1 108 219 11 59 15 rfl rfl wf_M_91 (by decide) fb_11_59 (Or.inr ⟨fn_11_59, HC.2 rfl, rfl⟩) fc_11_59 fd_11_59 (by decide)) (fun h_79 => ?_)
  refine xs_step (fun K HC => xr_aload_n HC.1 109 220 (n := 0) (ix := 0) (j := 0) (c := 11) (x := v0) rfl rfl rfl rfl) ?_
  refine xs_step (fun K HC => xr_sipush HC.1 110 223 (n := (5001)) (5001 : Int32) rfl rfl rfl) ?_
  refine xs_new (fun K HC hb => xr_newL HC.1 111 225 5001 hb rfl rfl (by decide) rfl (Nat.le_of_ble_eq_true rfl)) (fun q_80 h_81 => ?_)
  refine xs_heap (hp_mo_sr _ _ _ _) (fun K HC => xr_putr HC.1 112 228 11 62 14 rfl rfl wf_M_94 (by decide) fb_11_62 (Or.inr ⟨fn_11_62, HC.2 rfl, rfl⟩) fc_11_62 fd_11_62 (by decide)) (fun h_82 => ?_)
  refine xs_step (fun K HC => xr_aload_n HC.1 113 229 (n := 0) (ix := 0) (j := 0) (c := 11) (x := v0) rfl rfl rfl rfl) ?_
  refine xs_step (fun K HC => xr_sipush HC.1 114 232 (n := (16384)) (16384 : Int32) rfl rfl rfl) ?_
  refine xs_new (fun K HC hb => xr_newI HC.1 115 234 16384 hb rfl rfl (by decide) rfl (Nat.le_of_ble_eq_true rfl)) (fun q_83 h_84 => ?_)
  refine xs_heap (hp_mo_sr _ _ _ _) (fun K HC => xr_putr HC.1 116 237 11 63 13 rfl rfl wf_M_97 (by decide) fb_11_63 (Or.inr ⟨fn_11_63, HC.2 rfl, rfl⟩) fc_11_63 fd_11_63 (by decide)) (fun h_85 => ?_)
  refine xs_step (fun K HC => xr_aload_n HC.1 117 238 (n := 0) (ix := 0) (j := 0) (c := 11) (x := v0) rfl rfl rfl rfl) ?_
  refine xs_step (fun K HC => xr_sipush HC.1 118 241 (n := (30006)) (30006 : Int32) rfl rfl rfl) ?_
  refine xs_new (fun K HC hb => xr_newI HC.1 119 243 30006 hb rfl rfl (by decide) rfl (Nat.le_of_ble_eq_true rfl)) (fun q_86 h_87 => ?_)
  refine xs_heap (hp_mo_sr _ _ _ _) (fun K HC => xr_putr HC.1 120 246 11 64 13 rfl rfl wf_M_100 (by decide) fb_11_64 (Or.inr ⟨fn_11_64, HC.2 rfl, rfl⟩) fc_11_64 fd_11_64 (by decide)) (fun h_88 => ?_)
  refine xs_step (fun K HC => xr_aload_n HC.1 121 247 (n := 0) (ix := 0) (j := 0) (c := 11) (x := v0) rfl rfl rfl rfl) ?_
  refine xs_step (fun K HC => xr_sipush HC.1 122 250 (n := (5001)) (5001 : Int32) rfl rfl rfl) ?_
  refine xs_new (fun K HC hb => xr_newI HC.1 123 252 5001 hb rfl rfl (by decide) rfl (Nat.le_of_ble_eq_true rfl)) (fun q_89 h_90 => ?_)
  refine xs_heap (hp_mo_sr _ _ _ _) (fun K HC => xr_putr HC.1 124 255 11 68 13 rfl rfl wf_M_103 (by decide) fb_11_68 (Or.inr ⟨fn_11_68, HC.2 rfl, rfl⟩) fc_11_68 fd_11_68 (by decide)) (fun h_91 => ?_)
  refine xs_step (fun K HC => xr_aload_n HC.1 125 256 (n := 0) (ix := 0) (j := 0) (c := 11) (x := v0) rfl rfl rfl rfl) ?_
  refine xs_step (fun K HC => xr_sipush HC.1 126 259 (n := (5002)) (5002 : Int32) rfl rfl rfl) ?_
  refine xs_new (fun K HC hb => xr_newI HC.1 127 261 5002 hb rfl rfl (by decide) rfl (Nat.le_of_ble_eq_true rfl)) (fun q_92 h_93 => ?_)
  refine xs_heap (hp_mo_sr _ _ _ _) (fun K HC => xr_putr HC.1 128 264 11 69 13 rfl rfl wf_M_106 (by decide) fb_11_69 (Or.inr ⟨fn_11_69, HC.2 rfl, rfl⟩) fc_11_69 fd_11_69 (by decide)) (fun h_94 => ?_)
  refine xs_step (fun K HC => xr_aload_n HC.1 129 265 (n := 0) (ix := 0) (j := 0) (c := 11) (x := v0) rfl rfl rfl rfl) ?_
  refine xs_step (fun K HC => xr_sipush HC.1 130 268 (n := (30006)) (30006 : Int32) rfl rfl rfl) ?_
  refine xs_new (fun K HC hb => xr_newI HC.1 131 270 30006 hb rfl rfl (by decide) rfl (Nat.le_of_ble_eq_true rfl)) (fun q_95 h_96 => ?_)
  refine xs_heap (hp_mo_sr _ _ _ _) (fun K HC => xr_putr HC.1 132 273 11 70 13 rfl rfl wf_M_109 (by decide) fb_11_70 (Or.inr ⟨fn_11_70, HC.2 rfl, rfl⟩) fc_11_70 fd_11_70 (by decide)) (fun h_97 => ?_)
  refine xs_step (fun K HC => xr_aload_n HC.1 133 274 (n := 0) (ix := 0) (j := 0) (c := 11) (x := v0) rfl rfl rfl rfl) ?_
  refine xs_step (fun K HC => xr_sipush HC.1 134 277 (n := (5001)) (5001 : Int32) rfl rfl rfl) ?_
  refine xs_new (fun K HC hb => xr_newI HC.1 135 279 5001 hb rfl rfl (by decide) rfl (Nat.le_of_ble_eq_true rfl)) (fun q_98 h_99 => ?_)
  refine xs_heap (hp_mo_sr _ _ _ _) (fun K HC => xr_putr HC.1 136 282 11 71 13 rfl rfl wf_M_112 (by decide) fb_11_71 (Or.inr ⟨fn_11_71, HC.2 rfl, rfl⟩) fc_11_71 fd_11_71 (by decide)) (fun h_100 => ?_)
  refine xs_step (fun K HC => xr_aload_n HC.1 137 283 (n := 0) (ix := 0) (j := 0) (c := 11) (x := v0) rfl rfl rfl rfl) ?_
  refine xs_step (fun K HC => xr_sipush HC.1 138 286 (n := (5001)) (5001 : Int32) rfl rfl rfl) ?_
  refine xs_new (fun K HC hb => xr_newI HC.1 139 288 5001 hb rfl rfl (by decide) rfl (Nat.le_of_ble_eq_true rfl)) (fun q_101 h_102 => ?_)
  refine xs_heap (hp_mo_sr _ _ _ _) (fun K HC => xr_putr HC.1 140 291 11 72 13 rfl rfl wf_M_115 (by decide) fb_11_72 (Or.inr ⟨fn_11_72, HC.2 rfl, rfl⟩) fc_11_72 fd_11_72 (by decide)) (fun h_103 => ?_)
  refine xs_step (fun K HC => xr_aload_n HC.1 141 292 (n := 0) (ix := 0) (j := 0) (c := 11) (x := v0) rfl rfl rfl rfl) ?_
  refine xs_step (fun K HC => xr_sipush HC.1 142 295 (n := (5001)) (5001 : Int32) rfl rfl rfl) ?_
  refine xs_new (fun K HC hb => xr_newI HC.1 143 297 5001 hb rfl rfl (by decide) rfl (Nat.le_of_ble_eq_true rfl)) (fun q_104 h_105 => ?_)
  refine xs_heap (hp_mo_sr _ _ _ _) (fun K HC => xr_putr HC.1 144 300 11 73 13 rfl rfl wf_M_118 (by decide) fb_11_73 (Or.inr ⟨fn_11_73, HC.2 rfl, rfl⟩) fc_11_73 fd_11_73 (by decide)) (fun h_106 => ?_)
  refine xs_step (fun K HC => xr_aload_n HC.1 145 301 (n := 0) (ix := 0) (j := 0) (c := 11) (x := v0) rfl rfl rfl rfl) ?_
  refine xs_step (fun K HC => xr_sipush HC.1 146 304 (n := (5001)) (5001 : Int32) rfl rfl rfl) ?_
  refine xs_new (fun K HC hb => xr_newI HC.1 147 306 5001 hb rfl rfl (by decide) rfl (Nat.le_of_ble_eq_true rfl)) (fun q_107 h_108 => ?_)
  refine xs_heap (hp_mo_sr _ _ _ _) (fun K HC => xr_putr HC.1 148 309 11 74 13 rfl rfl wf_M_121 (by decide) fb_11_74 (Or.inr ⟨fn_11_74, HC.2 rfl, rfl⟩) fc_11_74 fd_11_74 (by decide)) (fun h_109 => ?_)
  refine xs_step (fun K HC => xr_aload_n HC.1 149 310 (n := 0) (ix := 0) (j := 0) (c := 11) (x := v0) rfl rfl rfl rfl) ?_
  refine xs_step (fun K HC => xr_sipush HC.1 150 313 (n := (5001)) (5001 : Int32) rfl rfl rfl) ?_
  refine xs_new (fun K HC hb => xr_newI HC.1 151 315 5001 hb rfl rfl (by decide) rfl (Nat.le_of_ble_eq_true rfl)) (fun q_110 h_111 => ?_)
  refine xs_heap (hp_mo_sr _ _ _ _) (fun K HC => xr_putr HC.1 152 318 11 75 13 rfl rfl wf_M_124 (by decide) fb_11_75 (Or.inr ⟨fn_11_75, HC.2 rfl, rfl⟩) fc_11_75 fd_11_75 (by decide)) (fun h_112 => ?_)
  refine xs_step (fun K HC => xr_aload_n HC.1 153 319 (n := 0) (ix := 0) (j := 0) (c := 11) (x := v0) rfl rfl rfl rfl) ?_
  refine xs_step (fun K HC => xr_sipush HC.1 154 322 (n := (5001)) (5001 : Int32) rfl rfl rfl) ?_
  refine xs_new (fun K HC hb => xr_newL HC.1 155 324 5001 hb rfl rfl (by decide) rfl (Nat.le_of_ble_eq_true rfl)) (fun q_113 h_114 => ?_)
  refine xs_heap (hp_mo_sr _ _ _ _) (fun K HC => xr_putr HC.1 156 327 11 76 14 rfl rfl wf_M_127 (by decide) fb_11_76 (Or.inr ⟨fn_11_76, HC.2 rfl, rfl⟩) fc_11_76 fd_11_76 (by decide)) (fun h_115 => ?_)
  refine xs_step (fun K HC => xr_aload_n HC.1 157 328 (n := 0) (ix := 0) (j := 0) (c := 11) (x := v0) rfl rfl rfl rfl) ?_
  refine xs_step (fun K HC => xr_sipush HC.1 158 331 (n := (5001)) (5001 : Int32) rfl rfl rfl) ?_
  refine xs_new (fun K HC hb => xr_newL HC.1 159 333 5001 hb rfl rfl (by decide) rfl (Nat.le_of_ble_eq_true rfl)) (fun q_116 h_117 => ?_)
  refine xs_heap (hp_mo_sr _ _ _ _) (fun K HC => xr_putr HC.1 160 336 11 77 14 rfl rfl wf_M_130 (by decide) fb_11_77 (Or.inr ⟨fn_11_77, HC.2 rfl, rfl⟩) fc_11_77 fd_11_77 (by decide)) (fun h_118 => ?_)
  refine xs_step (fun K HC => xr_aload_n HC.1 161 337 (n := 0) (ix := 0) (j := 0) (c := 11) (x := v0) rfl rfl rfl rfl) ?_
  refine xs_step (fun K HC => xr_bipush HC.1 162 339 (n := (8)) (8 : Int32) rfl rfl rfl) ?_
  refine xs_new (fun K HC hb => xr_newL HC.1 163 341 8 hb rfl rfl (by decide) rfl (Nat.le_of_ble_eq_true rfl)) (fun q_119 h_120 => ?_)
  refine xs_heap (hp_mo_sr _ _ _ _) (fun K HC => xr_putr HC.1 164 344 11 78 14 rfl rfl wf_M_133 (by decide) fb_11_78 (Or.inr ⟨fn_11_78, HC.2 rfl, rfl⟩) fc_11_78 fd_11_78 (by decide)) (fun h_121 => ?_)
  refine xs_step (fun K HC => xr_aload_n HC.1 165 345 (n := 0) (ix := 0) (j := 0) (c := 11) (x := v0) rfl rfl rfl rfl) ?_
  refine xs_step (fun K HC => xr_bipush HC.1 166 347 (n := (60)) (60 : Int32) rfl rfl rfl) ?_
  refine xs_new (fun K HC hb => xr_newI HC.1 167 349 60 hb rfl rfl (by decide) rfl (Nat.le_of_ble_eq_true rfl)) (fun q_122 h_123 => ?_)
  refine xs_heap (hp_mo_sr _ _ _ _) (fun K HC => xr_putr HC.1 168 352 11 79 13 rfl rfl wf_M_136 (by decide) fb_11_79 (Or.inr ⟨fn_11_79, HC.2 rfl, rfl⟩) fc_11_79 fd_11_79 (by decide)) (fun h_124 => ?_)
  refine xs_step (fun K HC => xr_aload_n HC.1 169 353 (n := 0) (ix := 0) (j := 0) (c := 11) (x := v0) rfl rfl rfl rfl) ?_
  refine xs_step (fun K HC => xr_bipush HC.1 170 355 (n := (60)) (60 : Int32) rfl rfl rfl) ?_
  refine xs_new (fun K HC hb => xr_newI HC.1 171 357 60 hb rfl rfl (by decide) rfl (Nat.le_of_ble_eq_true rfl)) (fun q_125 h_126 => ?_)
  refine xs_heap (hp_mo_sr _ _ _ _) (fun K HC => xr_putr HC.1 172 360 11 80 13 rfl rfl wf_M_139 (by decide) fb_11_80 (Or.inr ⟨fn_11_80, HC.2 rfl, rfl⟩) fc_11_80 fd_11_80 (by decide)) (fun h_127 => ?_)
  refine xs_step (fun K HC => xr_aload_n HC.1 173 361 (n := 0) (ix := 0) (j := 0) (c := 11) (x := v0) rfl rfl rfl rfl) ?_
  refine xs_step (fun K HC => xr_bipush HC.1 174 363 (n := (60)) (60 : Int32) rfl rfl rfl) ?_
  refine xs_new (fun K HC hb => xr_newI HC.1 175 365 60 hb rfl rfl (by decide) rfl (Nat.le_of_ble_eq_true rfl)) (fun q_128 h_129 => ?_)
  refine xs_heap (hp_mo_sr _ _ _ _) (fun K HC => xr_putr HC.1 176 368 11 81 13 rfl rfl wf_M_142 (by decide) fb_11_81 (Or.inr ⟨fn_11_81, HC.2 rfl, rfl⟩) fc_11_81 fd_11_81 (by decide)) (fun h_130 => ?_)
  refine xs_step (fun K HC => xr_aload_n HC.1 177 369 (n := 0) (ix := 0) (j := 0) (c := 11) (x := v0) rfl rfl rfl rfl) ?_
  refine xs_step (fun K HC => xr_bipush HC.1 178 371 (n := (60)) (60 : Int32) rfl rfl rfl) ?_
  refine xs_new (fun K HC hb => xr_newI HC.1 179 373 60 hb rfl rfl (by decide) rfl (Nat.le_of_ble_eq_true rfl)) (fun q_131 h_132 => ?_)
  refine xs_heap (hp_mo_sr _ _ _ _) (fun K HC => xr_putr HC.1 180 376 11 82 13 rfl rfl wf_M_145 (by decide) fb_11_82 (Or.inr ⟨fn_11_82, HC.2 rfl, rfl⟩) fc_11_82 fd_11_82 (by decide)) (fun h_133 => ?_)
  refine xs_step (fun K HC => xr_aload_n HC.1 181 377 (n := 0) (ix := 0) (j := 0) (c := 11) (x := v0) rfl rfl rfl rfl) ?_
  refine xs_step (fun K HC => xr_bipush HC.1 182 379 (n := (100)) (100 : Int32) rfl rfl rfl) ?_
  refine xs_new (fun K HC hb => xr_newI HC.1 183 381 100 hb rfl rfl (by decide) rfl (Nat.le_of_ble_eq_true rfl)) (fun q_134 h_135 => ?_)
  refine xs_heap (hp_mo_sr _ _ _ _) (fun K HC => xr_putr HC.1 184 384 11 83 13 rfl rfl wf_M_148 (by decide) fb_11_83 (Or.inr ⟨fn_11_83, HC.2 rfl, rfl⟩) fc_11_83 fd_11_83 (by decide)) (fun h_136 => ?_)
  refine xs_step (fun K HC => xr_aload_n HC.1 185 385 (n := 0) (ix := 0) (j := 0) (c := 11) (x := v0) rfl rfl rfl rfl) ?_
  refine xs_step (fun K HC => xr_bipush HC.1 186 387 (n := (100)) (100 : Int32) rfl rfl rfl) ?_
  refine xs_new (fun K HC hb => xr_newZ HC.1 187 389 100 hb rfl rfl (by decide) rfl (Nat.le_of_ble_eq_true rfl)) (fun q_137 h_138 => ?_)
  refine xs_heap (hp_mo_sr _ _ _ _) (fun K HC => xr_putr HC.1 188 392 11 84 15 rfl rfl wf_M_151 (by decide) fb_11_84 (Or.inr ⟨fn_11_84, HC.2 rfl, rfl⟩) fc_11_84 fd_11_84 (by decide)) (fun h_139 => ?_)
  refine xs_step (fun K HC => xr_aload_n HC.1 189 393 (n := 0) (ix := 0) (j := 0) (c := 11) (x := v0) rfl rfl rfl rfl) ?_
  refine xs_step (fun K HC => xr_iconst HC.1 190 394 (n := (3)) (3 : Int32) rfl rfl rfl) ?_
  refine xs_new (fun K HC hb => xr_newZ HC.1 191 396 3 hb rfl rfl (by decide) rfl (Nat.le_of_ble_eq_true rfl)) (fun q_140 h_141 => ?_)
  refine xs_heap (hp_mo_sr _ _ _ _) (fun K HC => xr_putr HC.1 192 399 11 87 15 rfl rfl wf_M_154 (by decide) fb_11_87 (Or.inr ⟨fn_11_87, HC.2 rfl, rfl⟩) fc_11_87 fd_11_87 (by decide)) (fun h_142 => ?_)
  refine xs_step (fun K HC => xr_aload_n HC.1 193 400 (n := 0) (ix := 0) (j := 0) (c := 11) (x := v0) rfl rfl rfl rfl) ?_
  refine xs_step (fun K HC => xr_iconst HC.1 194 401 (n := (3)) (3 : Int32) rfl rfl rfl) ?_
  refine xs_new (fun K HC hb => xr_newZ HC.1 195 403 3 hb rfl rfl (by decide) rfl (Nat.le_of_ble_eq_true rfl)) (fun q_143 h_144 => ?_)
  refine xs_heap (hp_mo_sr _ _ _ _) (fun K HC => xr_putr HC.1 196 406 11 88 15 rfl rfl wf_M_157 (by decide) fb_11_88 (Or.inr ⟨fn_11_88, HC.2 rfl, rfl⟩) fc_11_88 fd_11_88 (by decide)) (fun h_145 => ?_)
  refine xs_step (fun K HC => xr_aload_n HC.1 197 407 (n := 0) (ix := 0) (j := 0) (c := 11) (x := v0) rfl rfl rfl rfl) ?_
  refine xs_step (fun K HC => xr_bipush HC.1 198 409 (n := (18)) (18 : Int32) rfl rfl rfl) ?_
  refine xs_new (fun K HC hb => xr_newZ HC.1 199 411 18 hb rfl rfl (by decide) rfl (Nat.le_of_ble_eq_true rfl)) (fun q_146 h_147 => ?_)
  refine xs_heap (hp_mo_sr _ _ _ _) (fun K HC => xr_putr HC.1 200 414 11 89 15 rfl rfl wf_M_160 (by decide) fb_11_89 (Or.inr ⟨fn_11_89, HC.2 rfl, rfl⟩) fc_11_89 fd_11_89 (by decide)) (fun h_148 => ?_)
  refine xs_step (fun K HC => xr_aload_n HC.1 201 415 (n := 0) (ix := 0) (j := 0) (c := 11) (x := v0) rfl rfl rfl rfl) ?_
  refine xs_step (fun K HC => xr_bipush HC.1 202 417 (n := (18)) (18 : Int32) rfl rfl rfl) ?_
  refine xs_new (fun K HC hb => xr_newI HC.1 203 419 18 hb rfl rfl (by decide) rfl (Nat.le_of_ble_eq_true rfl)) (fun q_149 h_150 => ?_)
  refine xs_heap (hp_mo_sr _ _ _ _) (fun K HC => xr_putr HC.1 204 422 11 90 13 rfl rfl wf_M_163 (by decide) fb_11_90 (Or.inr ⟨fn_11_90, HC.2 rfl, rfl⟩) fc_11_90 fd_11_90 (by decide)) (fun h_151 => ?_)
  refine xs_step (fun K HC => xr_aload_n HC.1 205 423 (n := 0) (ix := 0) (j := 0) (c := 11) (x := v0) rfl rfl rfl rfl) ?_
  refine xs_step (fun K HC => xr_bipush HC.1 206 425 (n := (18)) (18 : Int32) rfl rfl rfl) ?_
  refine xs_new (fun K HC hb => xr_newI HC.1 207 427 18 hb rfl rfl (by decide) rfl (Nat.le_of_ble_eq_true rfl)) (fun q_152 h_153 => ?_)
  refine xs_heap (hp_mo_sr _ _ _ _) (fun K HC => xr_putr HC.1 208 430 11 91 13 rfl rfl wf_M_166 (by decide) fb_11_91 (Or.inr ⟨fn_11_91, HC.2 rfl, rfl⟩) fc_11_91 fd_11_91 (by decide)) (fun h_154 => ?_)
  refine xs_step (fun K HC => xr_aload_n HC.1 209 431 (n := 0) (ix := 0) (j := 0) (c := 11) (x := v0) rfl rfl rfl rfl) ?_
  refine xs_step (fun K HC => xr_bipush HC.1 210 433 (n := (18)) (18 : Int32) rfl rfl rfl) ?_
  refine xs_new (fun K HC hb => xr_newI HC.1 211 435 18 hb rfl rfl (by decide) rfl (Nat.le_of_ble_eq_true rfl)) (fun q_155 h_156 => ?_)
  refine xs_heap (hp_mo_sr _ _ _ _) (fun K HC => xr_putr HC.1 212 438 11 92 13 rfl rfl wf_M_169 (by decide) fb_11_92 (Or.inr ⟨fn_11_92, HC.2 rfl, rfl⟩) fc_11_92 fd_11_92 (by decide)) (fun h_157 => ?_)
  refine xs_step (fun K HC => xr_aload_n HC.1 213 439 (n := 0) (ix := 0) (j := 0) (c := 11) (x := v0) rfl rfl rfl rfl) ?_
  refine xs_step (fun K HC => xr_iconst HC.1 214 440 (n := (3)) (3 : Int32) rfl rfl rfl) ?_
  refine xs_new (fun K HC hb => xr_newI HC.1 215 442 3 hb rfl rfl (by decide) rfl (Nat.le_of_ble_eq_true rfl)) (fun q_158 h_159 => ?_)
  refine xs_heap (hp_mo_sr _ _ _ _) (fun K HC => xr_putr HC.1 216 445 11 93 13 rfl rfl wf_M_172 (by decide) fb_11_93 (Or.inr ⟨fn_11_93, HC.2 rfl, rfl⟩) fc_11_93 fd_11_93 (by decide)) (fun h_160 => ?_)
  refine xs_step (fun K HC => xr_aload_n HC.1 217 446 (n := 0) (ix := 0) (j := 0) (c := 11) (x := v0) rfl rfl rfl rfl) ?_
  refine xs_step (fun K HC => xr_iconst HC.1 218 447 (n := (3)) (3 : Int32) rfl rfl rfl) ?_
  refine xs_new (fun K HC hb => xr_newI HC.1 219 449 3 hb rfl rfl (by decide) rfl (Nat.le_of_ble_eq_true rfl)) (fun q_161 h_162 => ?_)
  refine xs_heap (hp_mo_sr _ _ _ _) (fun K HC => xr_putr HC.1 220 452 11 94 13 rfl rfl wf_M_175 (by decide) fb_11_94 (Or.inr ⟨fn_11_94, HC.2 rfl, rfl⟩) fc_11_94 fd_11_94 (by decide)) (fun h_163 => ?_)
  refine xs_step (fun K HC => xr_aload_n HC.1 221 453 (n := 0) (ix := 0) (j := 0) (c := 11) (x := v0) rfl rfl rfl rfl) ?_
  refine xs_step (fun K HC => xr_iconst HC.1 222 454 (n := (3)) (3 : Int32) rfl rfl rfl) ?_
  refine xs_new (fun K HC hb => xr_newI HC.1 223 456 3 hb rfl rfl (by decide) rfl (Nat.le_of_ble_eq_true rfl)) (fun q_164 h_165 => ?_)
  refine xs_heap (hp_mo_sr _ _ _ _) (fun K HC => xr_putr HC.1 224 459 11 95 13 rfl rfl wf_M_178 (by decide) fb_11_95 (Or.inr ⟨fn_11_95, HC.2 rfl, rfl⟩) fc_11_95 fd_11_95 (by decide)) (fun h_166 => ?_)
  refine xs_step (fun K HC => xr_aload_n HC.1 225 460 (n := 0) (ix := 0) (j := 0) (c := 11) (x := v0) rfl rfl rfl rfl) ?_
  refine xs_callv (s_M_plain v0 h_166) (fun K HC x9 hM hmo hb => xr_callV HC.1 226 463 (av := []) (st := []) (hM (kg K) (cx_l (kx K))) hmo hb rfl rfl wm_M_181 wi_M_plain ws_M_plain wc_M_plain rfl wh_M_plain (by decide) (by decide) (by decide) (Nat.le_of_ble_eq_true rfl) rfl) (fun x_167 => ?_)
  refine xs_step (fun K HC => xr_aload_n HC.1 227 464 (n := 0) (ix := 0) (j := 0) (c := 11) (x := v0) rfl rfl rfl rfl) ?_
  refine xs_step (fun K HC => xr_iconst HC.1 228 465 (n := (0)) (0 : Int32) rfl rfl rfl) ?_
  refine xs_callv (s_M_beginWith v0 (0 : Int32) x_167) (fun K HC x9 hM hmo hb => xr_callV HC.1 229 468 (av := [av_I (0 : Int32)]) (st := []) (hM (kg K) (cx_l (kx K))) hmo hb rfl rfl wm_M_184 wi_M_beginWith ws_M_beginWith wc_M_beginWith rfl wh_M_beginWith (by decide) (by decide) (by decide) (Nat.le_of_ble_eq_true rfl) rfl) (fun x_168 => ?_)
  exact xs_ret 230 rfl rfl (fun K q => q)
theorem s_M_new (v0 : Nat) (h : HP) : ∀ x, f_M_new v0 h = some x → hp_mo h x ∧ ∀ g l, xx_M g l y_M_new prog_14_method_1_code 1 none 3 [av_R 11 (some v0)] h none x :=
  xM_v (tb := tb_M_new) (b := true) (by decide +kernel) dt_M_new trivial (Nat.le_of_ble_eq_true rfl) (fun hb => rfl) (t_M_new v0 h)
def tb_M_four : TBL := [(0, .bipush 24, 2), (2, .istore_n 2, 1), (3, .iload_n 2, 1), (4, .ifCond .lt 35, 3), (7, .aload_n 0, 1), (8, .getfield 7, 3), (11, .aload_n 0, 1), (12, .getfield 188, 3), (15, .iload_n 1, 1), (16, .iload_n 2, 1), (17, .ishr, 1), (18, .sipush 255, 3), (21, .iand, 1), (22, .iastore, 1), (23, .aload_n 0, 1), (24, .dup, 1), (25, .getfield 188, 3), (28, .iconst 1, 1), (29, .iadd, 1), (30, .putfield 188, 3), (33, .iinc 2 (-8), 3), (36, .goto (-33), 3), (39, .return_, 1)]
theorem dt_M_four : ∀ q ∈ tb_M_four, decode prog_14_method_3_code q.1 = .ok (q.2.1, q.2.2) := by decide +kernel
set_option maxHeartbeats 4000000 in
set_option maxRecDepth 100000 in
theorem t_M_four_3b (v0 : Nat) (v1 : Int32) (v2 : Int32) (h : HP) : xx_S (xx_D "LampYardModel" tb_M_four 3 1 none false) (xx_z2 (fun s : (Int32 × HP) => s.2) xz_v) (fun K => xx_L2 (fun s : (Int32 × HP) => xx_X K 3 [(0, av_R 11 (some v0)), (1, av_I v1), (2, av_I s.1)] [] (s.2)) (xL_v K)) 3 [(0, av_R 11 (some v0)), (1, av_I v1), (2, av_I v2)] [] h (f_M_four_3b v0 v1 v2 h) := by
  unfold f_M_four_3b
  refine xs_step (fun K HC => xr_iload_n HC.1 2 4 (n := 2) (ix := 2) (j := 2) (x := v2) rfl rfl rfl rfl) ?_
  refine xs_ite (fun K HC => xr_if_lt HC.1 3 39 7 rfl (by decide) rfl) ?_ ?_
  · exact xs_ret 22 rfl rfl (fun K q => q)
  refine xs_step (fun K HC => xr_aload_n HC.1 4 8 (n := 0) (ix := 0) (j := 0) (c := 11) (x := v0) rfl rfl rfl rfl) ?_
  refine xs_bind (fun q_1 eq_1 => ?_)
  refine xs_step (fun K HC => xr_getr HC.1 5 11 11 0 13 eq_1 rfl rfl wf_M_7 (by decide) fb_11_0 fc_11_0 fd_11_0) ?_
  refine xs_step (fun K HC => xr_aload_n HC.1 6 12 (n := 0) (ix := 0) (j := 0) (c := 11) (x := v0) rfl rfl rfl rfl) ?_
  refine xs_step (fun K HC => xr_geti HC.1 7 15 11 1 rfl rfl wf_M_188 (by decide) fb_11_1 fc_11_1) ?_
  refine xs_step (fun K HC => xr_iload_n HC.1 8 16 (n := 1) (ix := 1) (j := 1) (x := v1) rfl rfl rfl rfl) ?_
  refine xs_step (fun K HC => xr_iload_n HC.1 9 17 (n := 2) (ix := 2) (j := 2) (x := v2) rfl rfl rfl rfl) ?_
  refine xs_step (fun K HC => xr_ishr HC.1 10 18 rfl rfl) ?_
  refine xs_step (fun K HC => xr_sipush HC.1 11 21 (n := (255)) (255 : Int32) rfl rfl rfl) ?_
  refine xs_step (fun K HC => xr_iand HC.1 12 22 rfl rfl) ?_
  refine xs_chk (fun hb_2 => ?_)
  refine xs_heap (hp_mo_si _ _ _ _) (fun K HC => xr_iast HC.1 13 23 (hp_in_vp hb_2) rfl rfl) (fun h_3 => ?_)
  refine xs_step (fun K HC => xr_aload_n HC.1 14 24 (n := 0) (ix := 0) (j := 0) (c := 11) (x := v0) rfl rfl rfl rfl) ?_
  refine xs_step (fun K HC => xr_dup HC.1 15 25 rfl rfl rfl) ?_
  refine xs_step (fun K HC => xr_geti HC.1 16 28 11 1 rfl rfl wf_M_188 (by decide) fb_11_1 fc_11_1) ?_
  refine xs_step (fun K HC => xr_iconst HC.1 17 29 (n := (1)) (1 : Int32) rfl rfl rfl) ?_
  refine xs_step (fun K HC => xr_iadd HC.1 18 30 rfl rfl) ?_
  refine xs_heap (hp_mo_si _ _ _ _) (fun K HC => xr_puti HC.1 19 33 11 1 rfl rfl wf_M_188 (by decide) fb_11_1 fn_11_1 fy_11_1) (fun h_4 => ?_)
  refine xs_gen (fun v2_5 ev2_5 => ?_)
  refine xs_step (fun K HC => xr_iinc HC.1 20 36 (ix := 2) (j := 2) (n := (-8)) (x := v2) v2_5 (lv' := [(0, av_R 11 (some v0)), (1, av_I v1), (2, av_I v2_5)]) rfl (by rw [ev2_5]; rfl) rfl rfl (by decide) rfl) ?_
  refine xs_step (fun K HC => xr_goto HC.1 21 3 rfl (by decide)) ?_
  exact xs_back rfl (fun K q => q)
theorem t_M_four_3 (v0 : Nat) (v1 : Int32) (v2 : Int32) (h : HP) : xx_S (xx_D "LampYardModel" tb_M_four 3 1 none false) xz_v (fun K => xL_v K) 3 [(0, av_R 11 (some v0)), (1, av_I v1), (2, av_I v2)] [] h (f_M_four_3 v0 v1 v2 h) :=
  xs_loop (zf := xz_v) (L := (fun K => xL_v K)) (fun s : (Int32 × HP) => [(0, av_R 11 (some v0)), (1, av_I v1), (2, av_I s.1)]) (fun s : (Int32 × HP) => s.2) (fun s => t_M_four_3b v0 v1 s.1 s.2) (v2, h)
set_option maxHeartbeats 4000000 in
set_option maxRecDepth 100000 in
theorem t_M_four (v0 : Nat) (v1 : Int32) (h : HP) : xx_S (xx_D "LampYardModel" tb_M_four 3 1 none false) xz_v (fun K => xL_v K) 0 [(0, av_R 11 (some v0)), (1, av_I v1)] [] h (f_M_four v0 v1 h) := by
  unfold f_M_four
  refine xs_step (fun K HC => xr_bipush HC.1 0 2 (n := (24)) (24 : Int32) rfl rfl rfl) ?_
  refine xs_step (fun K HC => xr_istore_n HC.1 1 3 (n := 2) (ix := 2) (lv' := [(0, av_R 11 (some v0)), (1, av_I v1), (2, av_I (24 : Int32))]) rfl rfl rfl (by decide) rfl) ?_
  exact t_M_four_3 v0 v1 (24 : Int32) h
theorem s_M_four (v0 : Nat) (v1 : Int32) (h : HP) : ∀ x, f_M_four v0 v1 h = some x → hp_mo h x ∧ ∀ g l, xx_M g l y_M_four prog_14_method_3_code 3 none 1 [av_R 11 (some v0), av_I v1] h none x :=
  xM_v (tb := tb_M_four) (b := false) (by decide +kernel) dt_M_four trivial (Nat.le_of_ble_eq_true rfl) (fun hb => by cases hb) (t_M_four v0 v1 h)
def tb_M_feed : TBL := [(0, .aload_n 0, 1), (1, .getfield 188, 3), (4, .bipush 20, 2), (6, .iadd, 1), (7, .sipush 1400, 3), (10, .if_icmp .le 5, 3), (13, .iconst (-1), 1), (14, .ireturn, 1), (15, .aload_n 0, 1), (16, .iload_n 1, 1), (17, .invokevirtual 191, 3), (20, .aload_n 0, 1), (21, .iload_n 2, 1), (22, .invokevirtual 191, 3), (25, .aload_n 0, 1), (26, .iload_n 3, 1), (27, .invokevirtual 191, 3), (30, .aload_n 0, 1), (31, .iload 4, 2), (33, .invokevirtual 191, 3), (36, .aload_n 0, 1), (37, .iload 5, 2), (39, .invokevirtual 191, 3), (42, .aload_n 0, 1), (43, .getfield 188, 3), (46, .ireturn, 1)]
theorem dt_M_feed : ∀ q ∈ tb_M_feed, decode prog_14_method_2_code q.1 = .ok (q.2.1, q.2.2) := by decide +kernel
set_option maxHeartbeats 4000000 in
set_option maxRecDepth 100000 in
theorem t_M_feed (v0 : Nat) (v1 : Int32) (v2 : Int32) (v3 : Int32) (v4 : Int32) (v5 : Int32) (h : HP) : xx_S (xx_D "LampYardModel" tb_M_feed 6 2 (some .int) false) xz_i (fun K => xL_i K) 0 [(0, av_R 11 (some v0)), (1, av_I v1), (2, av_I v2), (3, av_I v3), (4, av_I v4), (5, av_I v5)] [] h (f_M_feed v0 v1 v2 v3 v4 v5 h) := by
  unfold f_M_feed
  refine xs_step (fun K HC => xr_aload_n HC.1 0 1 (n := 0) (ix := 0) (j := 0) (c := 11) (x := v0) rfl rfl rfl rfl) ?_
  refine xs_step (fun K HC => xr_geti HC.1 1 4 11 1 rfl rfl wf_M_188 (by decide) fb_11_1 fc_11_1) ?_
  refine xs_step (fun K HC => xr_bipush HC.1 2 6 (n := (20)) (20 : Int32) rfl rfl rfl) ?_
  refine xs_step (fun K HC => xr_iadd HC.1 3 7 rfl rfl) ?_
  refine xs_step (fun K HC => xr_sipush HC.1 4 10 (n := (1400)) (1400 : Int32) rfl rfl rfl) ?_
  refine xs_ite (fun K HC => xr_icmp_le HC.1 5 15 13 rfl (by decide) rfl) ?_ ?_
  · refine xs_step (fun K HC => xr_aload_n HC.1 8 16 (n := 0) (ix := 0) (j := 0) (c := 11) (x := v0) rfl rfl rfl rfl) ?_
    refine xs_step (fun K HC => xr_iload_n HC.1 9 17 (n := 1) (ix := 1) (j := 1) (x := v1) rfl rfl rfl rfl) ?_
    refine xs_callv (s_M_four v0 v1 h) (fun K HC x9 hM hmo hb => xr_callV HC.1 10 20 (av := [av_I v1]) (st := []) (hM (kg K) (cx_l (kx K))) hmo hb rfl rfl wm_M_191 wi_M_four ws_M_four wc_M_four rfl wh_M_four (by decide) (by decide) (by decide) (Nat.le_of_ble_eq_true rfl) rfl) (fun x_1 => ?_)
    refine xs_step (fun K HC => xr_aload_n HC.1 11 21 (n := 0) (ix := 0) (j := 0) (c := 11) (x := v0) rfl rfl rfl rfl) ?_
    refine xs_step (fun K HC => xr_iload_n HC.1 12 22 (n := 2) (ix := 2) (j := 2) (x := v2) rfl rfl rfl rfl) ?_
    refine xs_callv (s_M_four v0 v2 x_1) (fun K HC x9 hM hmo hb => xr_callV HC.1 13 25 (av := [av_I v2]) (st := []) (hM (kg K) (cx_l (kx K))) hmo hb rfl rfl wm_M_191 wi_M_four ws_M_four wc_M_four rfl wh_M_four (by decide) (by decide) (by decide) (Nat.le_of_ble_eq_true rfl) rfl) (fun x_2 => ?_)
    refine xs_step (fun K HC => xr_aload_n HC.1 14 26 (n := 0) (ix := 0) (j := 0) (c := 11) (x := v0) rfl rfl rfl rfl) ?_
    refine xs_step (fun K HC => xr_iload_n HC.1 15 27 (n := 3) (ix := 3) (j := 3) (x := v3) rfl rfl rfl rfl) ?_
    refine xs_callv (s_M_four v0 v3 x_2) (fun K HC x9 hM hmo hb => xr_callV HC.1 16 30 (av := [av_I v3]) (st := []) (hM (kg K) (cx_l (kx K))) hmo hb rfl rfl wm_M_191 wi_M_four ws_M_four wc_M_four rfl wh_M_four (by decide) (by decide) (by decide) (Nat.le_of_ble_eq_true rfl) rfl) (fun x_3 => ?_)
    refine xs_step (fun K HC => xr_aload_n HC.1 17 31 (n := 0) (ix := 0) (j := 0) (c := 11) (x := v0) rfl rfl rfl rfl) ?_
    refine xs_step (fun K HC => xr_iload HC.1 18 33 (ix := 4) (j := 4) (x := v4) rfl rfl rfl) ?_
    refine xs_callv (s_M_four v0 v4 x_3) (fun K HC x9 hM hmo hb => xr_callV HC.1 19 36 (av := [av_I v4]) (st := []) (hM (kg K) (cx_l (kx K))) hmo hb rfl rfl wm_M_191 wi_M_four ws_M_four wc_M_four rfl wh_M_four (by decide) (by decide) (by decide) (Nat.le_of_ble_eq_true rfl) rfl) (fun x_4 => ?_)
    refine xs_step (fun K HC => xr_aload_n HC.1 20 37 (n := 0) (ix := 0) (j := 0) (c := 11) (x := v0) rfl rfl rfl rfl) ?_
    refine xs_step (fun K HC => xr_iload HC.1 21 39 (ix := 5) (j := 5) (x := v5) rfl rfl rfl) ?_
    refine xs_callv (s_M_four v0 v5 x_4) (fun K HC x9 hM hmo hb => xr_callV HC.1 22 42 (av := [av_I v5]) (st := []) (hM (kg K) (cx_l (kx K))) hmo hb rfl rfl wm_M_191 wi_M_four ws_M_four wc_M_four rfl wh_M_four (by decide) (by decide) (by decide) (Nat.le_of_ble_eq_true rfl) rfl) (fun x_5 => ?_)
    refine xs_step (fun K HC => xr_aload_n HC.1 23 43 (n := 0) (ix := 0) (j := 0) (c := 11) (x := v0) rfl rfl rfl rfl) ?_
    refine xs_step (fun K HC => xr_geti HC.1 24 46 11 1 rfl rfl wf_M_188 (by decide) fb_11_1 fc_11_1) ?_
    exact xs_reti 25 rfl rfl (fun K q => q) (fun ty ht => by cases ht; rfl)
  refine xs_step (fun K HC => xr_iconst HC.1 6 14 (n := (-1)) (-1 : Int32) rfl rfl rfl) ?_
  exact xs_reti 7 rfl rfl (fun K q => q) (fun ty ht => by cases ht; rfl)
theorem s_M_feed (v0 : Nat) (v1 : Int32) (v2 : Int32) (v3 : Int32) (v4 : Int32) (v5 : Int32) (h : HP) : ∀ x, f_M_feed v0 v1 v2 v3 v4 v5 h = some x → hp_mo h x.2 ∧ ∀ g l, xx_M g l y_M_feed prog_14_method_2_code 6 (some .int) 2 [av_R 11 (some v0), av_I v1, av_I v2, av_I v3, av_I v4, av_I v5] h (some (av_I x.1)) x.2 :=
  xM_i (tb := tb_M_feed) (b := false) (by decide +kernel) dt_M_feed (fun _ => trivial) (Nat.le_of_ble_eq_true rfl) (fun hb => by cases hb) (t_M_feed v0 v1 v2 v3 v4 v5 h)
def tb_M_end : TBL := [(0, .iload_n 1, 1), (1, .ifCond .lt 11, 3), (4, .iload_n 1, 1), (5, .aload_n 0, 1), (6, .getfield 188, 3), (9, .if_icmp .le 5, 3), (12, .iconst (-1), 1), (13, .ireturn, 1), (14, .aload_n 0, 1), (15, .iload_n 1, 1), (16, .putfield 188, 3), (19, .iload_n 1, 1), (20, .ireturn, 1)]
theorem dt_M_end : ∀ q ∈ tb_M_end, decode prog_14_method_4_code q.1 = .ok (q.2.1, q.2.2) := by decide +kernel
set_option maxHeartbeats 4000000 in
set_option maxRecDepth 100000 in
theorem t_M_end (v0 : Nat) (v1 : Int32) (h : HP) : xx_S (xx_D "LampYardModel" tb_M_end 2 1 (some .int) false) xz_i (fun K => xL_i K) 0 [(0, av_R 11 (some v0)), (1, av_I v1)] [] h (f_M_end v0 v1 h) := by
  unfold f_M_end
  refine xs_step (fun K HC => xr_iload_n HC.1 0 1 (n := 1) (ix := 1) (j := 1) (x := v1) rfl rfl rfl rfl) ?_
  refine xs_ite (fun K HC => xr_if_lt HC.1 1 12 4 rfl (by decide) rfl) ?_ ?_
  · refine xs_step (fun K HC => xr_iconst HC.1 6 13 (n := (-1)) (-1 : Int32) rfl rfl rfl) ?_
    exact xs_reti 7 rfl rfl (fun K q => q) (fun ty ht => by cases ht; rfl)
  refine xs_step (fun K HC => xr_iload_n HC.1 2 5 (n := 1) (ix := 1) (j := 1) (x := v1) rfl rfl rfl rfl) ?_
  refine xs_step (fun K HC => xr_aload_n HC.1 3 6 (n := 0) (ix := 0) (j := 0) (c := 11) (x := v0) rfl rfl rfl rfl) ?_
  refine xs_step (fun K HC => xr_geti HC.1 4 9 11 1 rfl rfl wf_M_188 (by decide) fb_11_1 fc_11_1) ?_
  refine xs_ite (fun K HC => xr_icmp_le HC.1 5 14 12 rfl (by decide) rfl) ?_ ?_
  · refine xs_step (fun K HC => xr_aload_n HC.1 8 15 (n := 0) (ix := 0) (j := 0) (c := 11) (x := v0) rfl rfl rfl rfl) ?_
    refine xs_step (fun K HC => xr_iload_n HC.1 9 16 (n := 1) (ix := 1) (j := 1) (x := v1) rfl rfl rfl rfl) ?_
    refine xs_heap (hp_mo_si _ _ _ _) (fun K HC => xr_puti HC.1 10 19 11 1 rfl rfl wf_M_188 (by decide) fb_11_1 fn_11_1 fy_11_1) (fun h_1 => ?_)
    refine xs_step (fun K HC => xr_iload_n HC.1 11 20 (n := 1) (ix := 1) (j := 1) (x := v1) rfl rfl rfl rfl) ?_
    exact xs_reti 12 rfl rfl (fun K q => q) (fun ty ht => by cases ht; rfl)
  refine xs_step (fun K HC => xr_iconst HC.1 6 13 (n := (-1)) (-1 : Int32) rfl rfl rfl) ?_
  exact xs_reti 7 rfl rfl (fun K q => q) (fun ty ht => by cases ht; rfl)
theorem s_M_end (v0 : Nat) (v1 : Int32) (h : HP) : ∀ x, f_M_end v0 v1 h = some x → hp_mo h x.2 ∧ ∀ g l, xx_M g l y_M_end prog_14_method_4_code 2 (some .int) 1 [av_R 11 (some v0), av_I v1] h (some (av_I x.1)) x.2 :=
  xM_i (tb := tb_M_end) (b := false) (by decide +kernel) dt_M_end (fun _ => trivial) (Nat.le_of_ble_eq_true rfl) (fun hb => by cases hb) (t_M_end v0 v1 h)
def tb_M_here : TBL := [(0, .aload_n 0, 1), (1, .getfield 194, 3), (4, .iload_n 1, 1), (5, .iadd, 1), (6, .aload_n 0, 1), (7, .getfield 197, 3), (10, .if_icmp .ge 17, 3), (13, .aload_n 0, 1), (14, .getfield 7, 3), (17, .aload_n 0, 1), (18, .getfield 194, 3), (21, .iload_n 1, 1), (22, .iadd, 1), (23, .iaload, 1), (24, .goto 4, 3), (27, .iconst (-1), 1), (28, .ireturn, 1)]
theorem dt_M_here : ∀ q ∈ tb_M_here, decode prog_14_method_5_code q.1 = .ok (q.2.1, q.2.2) := by decide +kernel
set_option maxHeartbeats 4000000 in
set_option maxRecDepth 100000 in
theorem t_M_here (v0 : Nat) (v1 : Int32) (h : HP) : xx_S (xx_D "LampYardModel" tb_M_here 2 1 (some .int) false) xz_i (fun K => xL_i K) 0 [(0, av_R 11 (some v0)), (1, av_I v1)] [] h (f_M_here v0 v1 h) := by
  unfold f_M_here
  refine xs_step (fun K HC => xr_aload_n HC.1 0 1 (n := 0) (ix := 0) (j := 0) (c := 11) (x := v0) rfl rfl rfl rfl) ?_
  refine xs_step (fun K HC => xr_geti HC.1 1 4 11 4 rfl rfl wf_M_194 (by decide) fb_11_4 fc_11_4) ?_
  refine xs_step (fun K HC => xr_iload_n HC.1 2 5 (n := 1) (ix := 1) (j := 1) (x := v1) rfl rfl rfl rfl) ?_
  refine xs_step (fun K HC => xr_iadd HC.1 3 6 rfl rfl) ?_
  refine xs_step (fun K HC => xr_aload_n HC.1 4 7 (n := 0) (ix := 0) (j := 0) (c := 11) (x := v0) rfl rfl rfl rfl) ?_
  refine xs_step (fun K HC => xr_geti HC.1 5 10 11 5 rfl rfl wf_M_197 (by decide) fb_11_5 fc_11_5) ?_
  refine xs_ite (fun K HC => xr_icmp_ge HC.1 6 27 13 rfl (by decide) rfl) ?_ ?_
  · refine xs_step (fun K HC => xr_iconst HC.1 15 28 (n := (-1)) (-1 : Int32) rfl rfl rfl) ?_
    exact xs_reti 16 rfl rfl (fun K q => q) (fun ty ht => by cases ht; rfl)
  refine xs_step (fun K HC => xr_aload_n HC.1 7 14 (n := 0) (ix := 0) (j := 0) (c := 11) (x := v0) rfl rfl rfl rfl) ?_
  refine xs_bind (fun q_1 eq_1 => ?_)
  refine xs_step (fun K HC => xr_getr HC.1 8 17 11 0 13 eq_1 rfl rfl wf_M_7 (by decide) fb_11_0 fc_11_0 fd_11_0) ?_
  refine xs_step (fun K HC => xr_aload_n HC.1 9 18 (n := 0) (ix := 0) (j := 0) (c := 11) (x := v0) rfl rfl rfl rfl) ?_
  refine xs_step (fun K HC => xr_geti HC.1 10 21 11 4 rfl rfl wf_M_194 (by decide) fb_11_4 fc_11_4) ?_
  refine xs_step (fun K HC => xr_iload_n HC.1 11 22 (n := 1) (ix := 1) (j := 1) (x := v1) rfl rfl rfl rfl) ?_
  refine xs_step (fun K HC => xr_iadd HC.1 12 23 rfl rfl) ?_
  refine xs_chk (fun hb_2 => ?_)
  refine xs_step (fun K HC => xr_iald HC.1 13 24 (hp_in_vp hb_2) rfl rfl) ?_
  refine xs_step (fun K HC => xr_goto HC.1 14 28 rfl (by decide)) ?_
  exact xs_reti 16 rfl rfl (fun K q => q) (fun ty ht => by cases ht; rfl)
theorem s_M_here (v0 : Nat) (v1 : Int32) (h : HP) : ∀ x, f_M_here v0 v1 h = some x → hp_mo h x.2 ∧ ∀ g l, xx_M g l y_M_here prog_14_method_5_code 2 (some .int) 1 [av_R 11 (some v0), av_I v1] h (some (av_I x.1)) x.2 :=
  xM_i (tb := tb_M_here) (b := false) (by decide +kernel) dt_M_here (fun _ => trivial) (Nat.le_of_ble_eq_true rfl) (fun hb => by cases hb) (t_M_here v0 v1 h)
def tb_M_isLetter : TBL := [(0, .iload_n 0, 1), (1, .bipush 97, 2), (3, .if_icmp .lt 13, 3), (6, .iload_n 0, 1), (7, .bipush 122, 2), (9, .if_icmp .gt 7, 3), (12, .iconst 1, 1), (13, .goto 4, 3), (16, .iconst 0, 1), (17, .ireturn, 1)]
theorem dt_M_isLetter : ∀ q ∈ tb_M_isLetter, decode prog_14_method_6_code q.1 = .ok (q.2.1, q.2.2) := by decide +kernel
set_option maxHeartbeats 4000000 in
set_option maxRecDepth 100000 in
theorem t_M_isLetter (v0 : Int32) (h : HP) : xx_S (xx_D "LampYardModel" tb_M_isLetter 1 1 (some .boolean) false) xz_i (fun K => xL_i K) 0 [(0, av_I v0)] [] h (f_M_isLetter v0 h) := by
  unfold f_M_isLetter
  refine xs_step (fun K HC => xr_iload_n HC.1 0 1 (n := 0) (ix := 0) (j := 0) (x := v0) rfl rfl rfl rfl) ?_
  refine xs_step (fun K HC => xr_bipush HC.1 1 3 (n := (97)) (97 : Int32) rfl rfl rfl) ?_
  refine xs_ite (fun K HC => xr_icmp_lt HC.1 2 16 6 rfl (by decide) rfl) ?_ ?_
  · refine xs_step (fun K HC => xr_iconst HC.1 8 17 (n := (0)) (0 : Int32) rfl rfl rfl) ?_
    exact xs_reti 9 rfl rfl (fun K q => q) (fun ty ht => by cases ht; rfl)
  refine xs_step (fun K HC => xr_iload_n HC.1 3 7 (n := 0) (ix := 0) (j := 0) (x := v0) rfl rfl rfl rfl) ?_
  refine xs_step (fun K HC => xr_bipush HC.1 4 9 (n := (122)) (122 : Int32) rfl rfl rfl) ?_
  refine xs_ite (fun K HC => xr_icmp_gt HC.1 5 16 12 rfl (by decide) rfl) ?_ ?_
  · refine xs_step (fun K HC => xr_iconst HC.1 8 17 (n := (0)) (0 : Int32) rfl rfl rfl) ?_
    exact xs_reti 9 rfl rfl (fun K q => q) (fun ty ht => by cases ht; rfl)
  refine xs_step (fun K HC => xr_iconst HC.1 6 13 (n := (1)) (1 : Int32) rfl rfl rfl) ?_
  refine xs_step (fun K HC => xr_goto HC.1 7 17 rfl (by decide)) ?_
  exact xs_reti 9 rfl rfl (fun K q => q) (fun ty ht => by cases ht; rfl)
theorem s_M_isLetter (v0 : Int32) (h : HP) : ∀ x, f_M_isLetter v0 h = some x → hp_mo h x.2 ∧ ∀ g l, xx_M g l y_M_isLetter prog_14_method_6_code 1 (some .boolean) 1 [av_I v0] h (some (av_I x.1)) x.2 :=
  xM_i (tb := tb_M_isLetter) (b := false) (by decide +kernel) dt_M_isLetter (fun _ => trivial) (Nat.le_of_ble_eq_true rfl) (fun hb => by cases hb) (t_M_isLetter v0 h)
def tb_M_isDigit : TBL := [(0, .iload_n 0, 1), (1, .bipush 48, 2), (3, .if_icmp .lt 13, 3), (6, .iload_n 0, 1), (7, .bipush 57, 2), (9, .if_icmp .gt 7, 3), (12, .iconst 1, 1), (13, .goto 4, 3), (16, .iconst 0, 1), (17, .ireturn, 1)]
theorem dt_M_isDigit : ∀ q ∈ tb_M_isDigit, decode prog_14_method_7_code q.1 = .ok (q.2.1, q.2.2) := by decide +kernel
set_option maxHeartbeats 4000000 in
set_option maxRecDepth 100000 in
theorem t_M_isDigit (v0 : Int32) (h : HP) : xx_S (xx_D "LampYardModel" tb_M_isDigit 1 1 (some .boolean) false) xz_i (fun K => xL_i K) 0 [(0, av_I v0)] [] h (f_M_isDigit v0 h) := by
  unfold f_M_isDigit
  refine xs_step (fun K HC => xr_iload_n HC.1 0 1 (n := 0) (ix := 0) (j := 0) (x := v0) rfl rfl rfl rfl) ?_
  refine xs_step (fun K HC => xr_bipush HC.1 1 3 (n := (48)) (48 : Int32) rfl rfl rfl) ?_
  refine xs_ite (fun K HC => xr_icmp_lt HC.1 2 16 6 rfl (by decide) rfl) ?_ ?_
  · refine xs_step (fun K HC => xr_iconst HC.1 8 17 (n := (0)) (0 : Int32) rfl rfl rfl) ?_
    exact xs_reti 9 rfl rfl (fun K q => q) (fun ty ht => by cases ht; rfl)
  refine xs_step (fun K HC => xr_iload_n HC.1 3 7 (n := 0) (ix := 0) (j := 0) (x := v0) rfl rfl rfl rfl) ?_
  refine xs_step (fun K HC => xr_bipush HC.1 4 9 (n := (57)) (57 : Int32) rfl rfl rfl) ?_
  refine xs_ite (fun K HC => xr_icmp_gt HC.1 5 16 12 rfl (by decide) rfl) ?_ ?_
  · refine xs_step (fun K HC => xr_iconst HC.1 8 17 (n := (0)) (0 : Int32) rfl rfl rfl) ?_
    exact xs_reti 9 rfl rfl (fun K q => q) (fun ty ht => by cases ht; rfl)
  refine xs_step (fun K HC => xr_iconst HC.1 6 13 (n := (1)) (1 : Int32) rfl rfl rfl) ?_
  refine xs_step (fun K HC => xr_goto HC.1 7 17 rfl (by decide)) ?_
  exact xs_reti 9 rfl rfl (fun K q => q) (fun ty ht => by cases ht; rfl)
theorem s_M_isDigit (v0 : Int32) (h : HP) : ∀ x, f_M_isDigit v0 h = some x → hp_mo h x.2 ∧ ∀ g l, xx_M g l y_M_isDigit prog_14_method_7_code 1 (some .boolean) 1 [av_I v0] h (some (av_I x.1)) x.2 :=
  xM_i (tb := tb_M_isDigit) (b := false) (by decide +kernel) dt_M_isDigit (fun _ => trivial) (Nat.le_of_ble_eq_true rfl) (fun hb => by cases hb) (t_M_isDigit v0 h)
def tb_M_isSign : TBL := [(0, .iload_n 0, 1), (1, .bipush 59, 2), (3, .if_icmp .eq 51, 3), (6, .iload_n 0, 1), (7, .bipush 40, 2), (9, .if_icmp .eq 45, 3), (12, .iload_n 0, 1), (13, .bipush 41, 2), (15, .if_icmp .eq 39, 3), (18, .iload_n 0, 1), (19, .bipush 60, 2), (21, .if_icmp .eq 33, 3), (24, .iload_n 0, 1), (25, .bipush 62, 2), (27, .if_icmp .eq 27, 3), (30, .iload_n 0, 1), (31, .bipush 61, 2), (33, .if_icmp .eq 21, 3), (36, .iload_n 0, 1), (37, .bipush 43, 2), (39, .if_icmp .eq 15, 3), (42, .iload_n 0, 1), (43, .bipush 45, 2), (45, .if_icmp .eq 9, 3), (48, .iload_n 0, 1), (49, .bipush 42, 2), (51, .if_icmp .ne 7, 3), (54, .iconst 1, 1), (55, .goto 4, 3), (58, .iconst 0, 1), (59, .ireturn, 1)]
theorem dt_M_isSign : ∀ q ∈ tb_M_isSign, decode prog_14_method_8_code q.1 = .ok (q.2.1, q.2.2) := by decide +kernel
set_option maxHeartbeats 4000000 in
set_option maxRecDepth 100000 in
theorem t_M_isSign (v0 : Int32) (h : HP) : xx_S (xx_D "LampYardModel" tb_M_isSign 1 1 (some .boolean) false) xz_i (fun K => xL_i K) 0 [(0, av_I v0)] [] h (f_M_isSign v0 h) := by
  unfold f_M_isSign
  refine xs_step (fun K HC => xr_iload_n HC.1 0 1 (n := 0) (ix := 0) (j := 0) (x := v0) rfl rfl rfl rfl) ?_
  refine xs_step (fun K HC => xr_bipush HC.1 1 3 (n := (59)) (59 : Int32) rfl rfl rfl) ?_
  refine xs_ite (fun K HC => xr_icmp_eq HC.1 2 54 6 rfl (by decide) rfl) ?_ ?_
  · refine xs_step (fun K HC => xr_iconst HC.1 27 55 (n := (1)) (1 : Int32) rfl rfl rfl) ?_
    refine xs_step (fun K HC => xr_goto HC.1 28 59 rfl (by decide)) ?_
    exact xs_reti 30 rfl rfl (fun K q => q) (fun ty ht => by cases ht; rfl)
  refine xs_step (fun K HC => xr_iload_n HC.1 3 7 (n := 0) (ix := 0) (j := 0) (x := v0) rfl rfl rfl rfl) ?_
  refine xs_step (fun K HC => xr_bipush HC.1 4 9 (n := (40)) (40 : Int32) rfl rfl rfl) ?_
  refine xs_ite (fun K HC => xr_icmp_eq HC.1 5 54 12 rfl (by decide) rfl) ?_ ?_
  · refine xs_step (fun K HC => xr_iconst HC.1 27 55 (n := (1)) (1 : Int32) rfl rfl rfl) ?_
    refine xs_step (fun K HC => xr_goto HC.1 28 59 rfl (by decide)) ?_
    exact xs_reti 30 rfl rfl (fun K q => q) (fun ty ht => by cases ht; rfl)
  refine xs_step (fun K HC => xr_iload_n HC.1 6 13 (n := 0) (ix := 0) (j := 0) (x := v0) rfl rfl rfl rfl) ?_
  refine xs_step (fun K HC => xr_bipush HC.1 7 15 (n := (41)) (41 : Int32) rfl rfl rfl) ?_
  refine xs_ite (fun K HC => xr_icmp_eq HC.1 8 54 18 rfl (by decide) rfl) ?_ ?_
  · refine xs_step (fun K HC => xr_iconst HC.1 27 55 (n := (1)) (1 : Int32) rfl rfl rfl) ?_
    refine xs_step (fun K HC => xr_goto HC.1 28 59 rfl (by decide)) ?_
    exact xs_reti 30 rfl rfl (fun K q => q) (fun ty ht => by cases ht; rfl)
  refine xs_step (fun K HC => xr_iload_n HC.1 9 19 (n := 0) (ix := 0) (j := 0) (x := v0) rfl rfl rfl rfl) ?_
  refine xs_step (fun K HC => xr_bipush HC.1 10 21 (n := (60)) (60 : Int32) rfl rfl rfl) ?_
  refine xs_ite (fun K HC => xr_icmp_eq HC.1 11 54 24 rfl (by decide) rfl) ?_ ?_
  · refine xs_step (fun K HC => xr_iconst HC.1 27 55 (n := (1)) (1 : Int32) rfl rfl rfl) ?_
    refine xs_step (fun K HC => xr_goto HC.1 28 59 rfl (by decide)) ?_
    exact xs_reti 30 rfl rfl (fun K q => q) (fun ty ht => by cases ht; rfl)
  refine xs_step (fun K HC => xr_iload_n HC.1 12 25 (n := 0) (ix := 0) (j := 0) (x := v0) rfl rfl rfl rfl) ?_
  refine xs_step (fun K HC => xr_bipush HC.1 13 27 (n := (62)) (62 : Int32) rfl rfl rfl) ?_
  refine xs_ite (fun K HC => xr_icmp_eq HC.1 14 54 30 rfl (by decide) rfl) ?_ ?_
  · refine xs_step (fun K HC => xr_iconst HC.1 27 55 (n := (1)) (1 : Int32) rfl rfl rfl) ?_
    refine xs_step (fun K HC => xr_goto HC.1 28 59 rfl (by decide)) ?_
    exact xs_reti 30 rfl rfl (fun K q => q) (fun ty ht => by cases ht; rfl)
  refine xs_step (fun K HC => xr_iload_n HC.1 15 31 (n := 0) (ix := 0) (j := 0) (x := v0) rfl rfl rfl rfl) ?_
  refine xs_step (fun K HC => xr_bipush HC.1 16 33 (n := (61)) (61 : Int32) rfl rfl rfl) ?_
  refine xs_ite (fun K HC => xr_icmp_eq HC.1 17 54 36 rfl (by decide) rfl) ?_ ?_
  · refine xs_step (fun K HC => xr_iconst HC.1 27 55 (n := (1)) (1 : Int32) rfl rfl rfl) ?_
    refine xs_step (fun K HC => xr_goto HC.1 28 59 rfl (by decide)) ?_
    exact xs_reti 30 rfl rfl (fun K q => q) (fun ty ht => by cases ht; rfl)
  refine xs_step (fun K HC => xr_iload_n HC.1 18 37 (n := 0) (ix := 0) (j := 0) (x := v0) rfl rfl rfl rfl) ?_
  refine xs_step (fun K HC => xr_bipush HC.1 19 39 (n := (43)) (43 : Int32) rfl rfl rfl) ?_
  refine xs_ite (fun K HC => xr_icmp_eq HC.1 20 54 42 rfl (by decide) rfl) ?_ ?_
  · refine xs_step (fun K HC => xr_iconst HC.1 27 55 (n := (1)) (1 : Int32) rfl rfl rfl) ?_
    refine xs_step (fun K HC => xr_goto HC.1 28 59 rfl (by decide)) ?_
    exact xs_reti 30 rfl rfl (fun K q => q) (fun ty ht => by cases ht; rfl)
  refine xs_step (fun K HC => xr_iload_n HC.1 21 43 (n := 0) (ix := 0) (j := 0) (x := v0) rfl rfl rfl rfl) ?_
  refine xs_step (fun K HC => xr_bipush HC.1 22 45 (n := (45)) (45 : Int32) rfl rfl rfl) ?_
  refine xs_ite (fun K HC => xr_icmp_eq HC.1 23 54 48 rfl (by decide) rfl) ?_ ?_
  · refine xs_step (fun K HC => xr_iconst HC.1 27 55 (n := (1)) (1 : Int32) rfl rfl rfl) ?_
    refine xs_step (fun K HC => xr_goto HC.1 28 59 rfl (by decide)) ?_
    exact xs_reti 30 rfl rfl (fun K q => q) (fun ty ht => by cases ht; rfl)
  refine xs_step (fun K HC => xr_iload_n HC.1 24 49 (n := 0) (ix := 0) (j := 0) (x := v0) rfl rfl rfl rfl) ?_
  refine xs_step (fun K HC => xr_bipush HC.1 25 51 (n := (42)) (42 : Int32) rfl rfl rfl) ?_
  refine xs_ite (fun K HC a b => xr_icmp_ne HC.1 26 58 54 rfl (by decide) rfl b a) ?_ ?_
  · refine xs_step (fun K HC => xr_iconst HC.1 27 55 (n := (1)) (1 : Int32) rfl rfl rfl) ?_
    refine xs_step (fun K HC => xr_goto HC.1 28 59 rfl (by decide)) ?_
    exact xs_reti 30 rfl rfl (fun K q => q) (fun ty ht => by cases ht; rfl)
  refine xs_step (fun K HC => xr_iconst HC.1 29 59 (n := (0)) (0 : Int32) rfl rfl rfl) ?_
  exact xs_reti 30 rfl rfl (fun K q => q) (fun ty ht => by cases ht; rfl)
theorem s_M_isSign (v0 : Int32) (h : HP) : ∀ x, f_M_isSign v0 h = some x → hp_mo h x.2 ∧ ∀ g l, xx_M g l y_M_isSign prog_14_method_8_code 1 (some .boolean) 1 [av_I v0] h (some (av_I x.1)) x.2 :=
  xM_i (tb := tb_M_isSign) (b := false) (by decide +kernel) dt_M_isSign (fun _ => trivial) (Nat.le_of_ble_eq_true rfl) (fun hb => by cases hb) (t_M_isSign v0 h)
