/-! words of the tables by their places; facts of fields and methods -/
section LYW
theorem fb_0_0 : 0 < ly_nf 0 := by decide
theorem fc_0_0 : ly_cat (ly_ty 0 0) = 2 := rfl
theorem fn_0_0 : (ly_TT 0 0).2.2.2 = true := rfl
theorem fy_0_0 : ly_ty 0 0 = .array .boolean := rfl
theorem fd_0_0 : ly_kd (ly_ty 0 0) = 15 := by decide +kernel
theorem fb_0_1 : 1 < ly_nf 0 := by decide
theorem fc_0_1 : ly_cat (ly_ty 0 1) = 2 := rfl
theorem fn_0_1 : (ly_TT 0 1).2.2.2 = true := rfl
theorem fy_0_1 : ly_ty 0 1 = .array .long := rfl
theorem fd_0_1 : ly_kd (ly_ty 0 1) = 14 := by decide +kernel
theorem fb_0_2 : 2 < ly_nf 0 := by decide
theorem fc_0_2 : ly_cat (ly_ty 0 2) = 2 := rfl
theorem fn_0_2 : (ly_TT 0 2).2.2.2 = true := rfl
theorem fy_0_2 : ly_ty 0 2 = .array .long := rfl
theorem fd_0_2 : ly_kd (ly_ty 0 2) = 14 := by decide +kernel
theorem fb_0_3 : 3 < ly_nf 0 := by decide
theorem fc_0_3 : ly_cat (ly_ty 0 3) = 2 := rfl
theorem fn_0_3 : (ly_TT 0 3).2.2.2 = false := rfl
theorem fy_0_3 : ly_ty 0 3 = .array .long := rfl
theorem fd_0_3 : ly_kd (ly_ty 0 3) = 14 := by decide +kernel
theorem fb_0_4 : 4 < ly_nf 0 := by decide
theorem fc_0_4 : ly_cat (ly_ty 0 4) = 2 := rfl
theorem fn_0_4 : (ly_TT 0 4).2.2.2 = false := rfl
theorem fy_0_4 : ly_ty 0 4 = .array .long := rfl
theorem fd_0_4 : ly_kd (ly_ty 0 4) = 14 := by decide +kernel
theorem fb_1_0 : 0 < ly_nf 1 := by decide
theorem fc_1_0 : ly_cat (ly_ty 1 0) = 1 := rfl
theorem fn_1_0 : (ly_TT 1 0).2.2.2 = false := rfl
theorem fy_1_0 : ly_ty 1 0 = .long := rfl
theorem fb_1_1 : 1 < ly_nf 1 := by decide
theorem fc_1_1 : ly_cat (ly_ty 1 1) = 0 := rfl
theorem fn_1_1 : (ly_TT 1 1).2.2.2 = false := rfl
theorem fy_1_1 : ly_ty 1 1 = .int := rfl
theorem fb_1_2 : 2 < ly_nf 1 := by decide
theorem fc_1_2 : ly_cat (ly_ty 1 2) = 0 := rfl
theorem fn_1_2 : (ly_TT 1 2).2.2.2 = false := rfl
theorem fy_1_2 : ly_ty 1 2 = .boolean := rfl
theorem fb_1_3 : 3 < ly_nf 1 := by decide
theorem fc_1_3 : ly_cat (ly_ty 1 3) = 0 := rfl
theorem fn_1_3 : (ly_TT 1 3).2.2.2 = false := rfl
theorem fy_1_3 : ly_ty 1 3 = .boolean := rfl
theorem fb_1_4 : 4 < ly_nf 1 := by decide
theorem fc_1_4 : ly_cat (ly_ty 1 4) = 2 := rfl
theorem fn_1_4 : (ly_TT 1 4).2.2.2 = true := rfl
theorem fy_1_4 : ly_ty 1 4 = .array .int := rfl
theorem fd_1_4 : ly_kd (ly_ty 1 4) = 13 := by decide +kernel
theorem fb_2_0 : 0 < ly_nf 2 := by decide
theorem fc_2_0 : ly_cat (ly_ty 2 0) = 2 := rfl
theorem fn_2_0 : (ly_TT 2 0).2.2.2 = true := rfl
theorem fy_2_0 : ly_ty 2 0 = .array .int := rfl
theorem fd_2_0 : ly_kd (ly_ty 2 0) = 13 := by decide +kernel
theorem fb_2_1 : 1 < ly_nf 2 := by decide
theorem fc_2_1 : ly_cat (ly_ty 2 1) = 2 := rfl
theorem fn_2_1 : (ly_TT 2 1).2.2.2 = true := rfl
theorem fy_2_1 : ly_ty 2 1 = .object "LampYard$StateSet" := rfl
theorem fd_2_1 : ly_kd (ly_ty 2 1) = 7 := by decide +kernel
theorem fb_2_2 : 2 < ly_nf 2 := by decide
theorem fc_2_2 : ly_cat (ly_ty 2 2) = 0 := rfl
theorem fn_2_2 : (ly_TT 2 2).2.2.2 = false := rfl
theorem fy_2_2 : ly_ty 2 2 = .boolean := rfl
theorem fb_3_0 : 0 < ly_nf 3 := by decide
theorem fc_3_0 : ly_cat (ly_ty 3 0) = 0 := rfl
theorem fn_3_0 : (ly_TT 3 0).2.2.2 = false := rfl
theorem fy_3_0 : ly_ty 3 0 = .int := rfl
theorem fb_3_1 : 1 < ly_nf 3 := by decide
theorem fc_3_1 : ly_cat (ly_ty 3 1) = 0 := rfl
theorem fn_3_1 : (ly_TT 3 1).2.2.2 = false := rfl
theorem fy_3_1 : ly_ty 3 1 = .int := rfl
theorem fb_3_2 : 2 < ly_nf 3 := by decide
theorem fc_3_2 : ly_cat (ly_ty 3 2) = 2 := rfl
theorem fn_3_2 : (ly_TT 3 2).2.2.2 = true := rfl
theorem fy_3_2 : ly_ty 3 2 = .array .int := rfl
theorem fd_3_2 : ly_kd (ly_ty 3 2) = 13 := by decide +kernel
theorem fb_3_3 : 3 < ly_nf 3 := by decide
theorem fc_3_3 : ly_cat (ly_ty 3 3) = 2 := rfl
theorem fn_3_3 : (ly_TT 3 3).2.2.2 = true := rfl
theorem fy_3_3 : ly_ty 3 3 = .array .int := rfl
theorem fd_3_3 : ly_kd (ly_ty 3 3) = 13 := by decide +kernel
theorem fb_3_4 : 4 < ly_nf 3 := by decide
theorem fc_3_4 : ly_cat (ly_ty 3 4) = 2 := rfl
theorem fn_3_4 : (ly_TT 3 4).2.2.2 = true := rfl
theorem fy_3_4 : ly_ty 3 4 = .array .int := rfl
theorem fd_3_4 : ly_kd (ly_ty 3 4) = 13 := by decide +kernel
theorem fb_3_5 : 5 < ly_nf 3 := by decide
theorem fc_3_5 : ly_cat (ly_ty 3 5) = 2 := rfl
theorem fn_3_5 : (ly_TT 3 5).2.2.2 = true := rfl
theorem fy_3_5 : ly_ty 3 5 = .array .int := rfl
theorem fd_3_5 : ly_kd (ly_ty 3 5) = 13 := by decide +kernel
theorem fb_3_6 : 6 < ly_nf 3 := by decide
theorem fc_3_6 : ly_cat (ly_ty 3 6) = 2 := rfl
theorem fn_3_6 : (ly_TT 3 6).2.2.2 = true := rfl
theorem fy_3_6 : ly_ty 3 6 = .array .int := rfl
theorem fd_3_6 : ly_kd (ly_ty 3 6) = 13 := by decide +kernel
theorem fb_3_7 : 7 < ly_nf 3 := by decide
theorem fc_3_7 : ly_cat (ly_ty 3 7) = 2 := rfl
theorem fn_3_7 : (ly_TT 3 7).2.2.2 = true := rfl
theorem fy_3_7 : ly_ty 3 7 = .array .int := rfl
theorem fd_3_7 : ly_kd (ly_ty 3 7) = 13 := by decide +kernel
theorem fb_4_0 : 0 < ly_nf 4 := by decide
theorem fc_4_0 : ly_cat (ly_ty 4 0) = 0 := rfl
theorem fn_4_0 : (ly_TT 4 0).2.2.2 = false := rfl
theorem fy_4_0 : ly_ty 4 0 = .int := rfl
theorem fb_4_1 : 1 < ly_nf 4 := by decide
theorem fc_4_1 : ly_cat (ly_ty 4 1) = 0 := rfl
theorem fn_4_1 : (ly_TT 4 1).2.2.2 = false := rfl
theorem fy_4_1 : ly_ty 4 1 = .int := rfl
theorem fb_4_2 : 2 < ly_nf 4 := by decide
theorem fc_4_2 : ly_cat (ly_ty 4 2) = 0 := rfl
theorem fn_4_2 : (ly_TT 4 2).2.2.2 = false := rfl
theorem fy_4_2 : ly_ty 4 2 = .int := rfl
theorem fb_4_3 : 3 < ly_nf 4 := by decide
theorem fc_4_3 : ly_cat (ly_ty 4 3) = 0 := rfl
theorem fn_4_3 : (ly_TT 4 3).2.2.2 = false := rfl
theorem fy_4_3 : ly_ty 4 3 = .int := rfl
theorem fb_4_4 : 4 < ly_nf 4 := by decide
theorem fc_4_4 : ly_cat (ly_ty 4 4) = 0 := rfl
theorem fn_4_4 : (ly_TT 4 4).2.2.2 = false := rfl
theorem fy_4_4 : ly_ty 4 4 = .int := rfl
theorem fb_4_5 : 5 < ly_nf 4 := by decide
theorem fc_4_5 : ly_cat (ly_ty 4 5) = 0 := rfl
theorem fn_4_5 : (ly_TT 4 5).2.2.2 = false := rfl
theorem fy_4_5 : ly_ty 4 5 = .int := rfl
theorem fb_4_6 : 6 < ly_nf 4 := by decide
theorem fc_4_6 : ly_cat (ly_ty 4 6) = 0 := rfl
theorem fn_4_6 : (ly_TT 4 6).2.2.2 = false := rfl
theorem fy_4_6 : ly_ty 4 6 = .int := rfl
theorem fb_4_7 : 7 < ly_nf 4 := by decide
theorem fc_4_7 : ly_cat (ly_ty 4 7) = 0 := rfl
theorem fn_4_7 : (ly_TT 4 7).2.2.2 = false := rfl
theorem fy_4_7 : ly_ty 4 7 = .int := rfl
theorem fb_4_8 : 8 < ly_nf 4 := by decide
theorem fc_4_8 : ly_cat (ly_ty 4 8) = 2 := rfl
theorem fn_4_8 : (ly_TT 4 8).2.2.2 = true := rfl
theorem fy_4_8 : ly_ty 4 8 = .array .int := rfl
theorem fd_4_8 : ly_kd (ly_ty 4 8) = 13 := by decide +kernel
theorem fb_4_9 : 9 < ly_nf 4 := by decide
theorem fc_4_9 : ly_cat (ly_ty 4 9) = 2 := rfl
theorem fn_4_9 : (ly_TT 4 9).2.2.2 = true := rfl
theorem fy_4_9 : ly_ty 4 9 = .array .int := rfl
theorem fd_4_9 : ly_kd (ly_ty 4 9) = 13 := by decide +kernel
theorem fb_4_10 : 10 < ly_nf 4 := by decide
theorem fc_4_10 : ly_cat (ly_ty 4 10) = 2 := rfl
theorem fn_4_10 : (ly_TT 4 10).2.2.2 = true := rfl
theorem fy_4_10 : ly_ty 4 10 = .array .int := rfl
theorem fd_4_10 : ly_kd (ly_ty 4 10) = 13 := by decide +kernel
theorem fb_4_11 : 11 < ly_nf 4 := by decide
theorem fc_4_11 : ly_cat (ly_ty 4 11) = 2 := rfl
theorem fn_4_11 : (ly_TT 4 11).2.2.2 = true := rfl
theorem fy_4_11 : ly_ty 4 11 = .array .boolean := rfl
theorem fd_4_11 : ly_kd (ly_ty 4 11) = 15 := by decide +kernel
theorem fb_4_12 : 12 < ly_nf 4 := by decide
theorem fc_4_12 : ly_cat (ly_ty 4 12) = 2 := rfl
theorem fn_4_12 : (ly_TT 4 12).2.2.2 = true := rfl
theorem fy_4_12 : ly_ty 4 12 = .array .int := rfl
theorem fd_4_12 : ly_kd (ly_ty 4 12) = 13 := by decide +kernel
theorem fb_4_13 : 13 < ly_nf 4 := by decide
theorem fc_4_13 : ly_cat (ly_ty 4 13) = 2 := rfl
theorem fn_4_13 : (ly_TT 4 13).2.2.2 = true := rfl
theorem fy_4_13 : ly_ty 4 13 = .array .int := rfl
theorem fd_4_13 : ly_kd (ly_ty 4 13) = 13 := by decide +kernel
theorem fb_4_14 : 14 < ly_nf 4 := by decide
theorem fc_4_14 : ly_cat (ly_ty 4 14) = 0 := rfl
theorem fn_4_14 : (ly_TT 4 14).2.2.2 = false := rfl
theorem fy_4_14 : ly_ty 4 14 = .int := rfl
theorem fb_4_15 : 15 < ly_nf 4 := by decide
theorem fc_4_15 : ly_cat (ly_ty 4 15) = 2 := rfl
theorem fn_4_15 : (ly_TT 4 15).2.2.2 = true := rfl
theorem fy_4_15 : ly_ty 4 15 = .array .int := rfl
theorem fd_4_15 : ly_kd (ly_ty 4 15) = 13 := by decide +kernel
theorem fb_4_16 : 16 < ly_nf 4 := by decide
theorem fc_4_16 : ly_cat (ly_ty 4 16) = 2 := rfl
theorem fn_4_16 : (ly_TT 4 16).2.2.2 = true := rfl
theorem fy_4_16 : ly_ty 4 16 = .array .int := rfl
theorem fd_4_16 : ly_kd (ly_ty 4 16) = 13 := by decide +kernel
theorem fb_5_0 : 0 < ly_nf 5 := by decide
theorem fc_5_0 : ly_cat (ly_ty 5 0) = 0 := rfl
theorem fn_5_0 : (ly_TT 5 0).2.2.2 = false := rfl
theorem fy_5_0 : ly_ty 5 0 = .int := rfl
theorem fb_5_1 : 1 < ly_nf 5 := by decide
theorem fc_5_1 : ly_cat (ly_ty 5 1) = 0 := rfl
theorem fn_5_1 : (ly_TT 5 1).2.2.2 = false := rfl
theorem fy_5_1 : ly_ty 5 1 = .int := rfl
theorem fb_5_2 : 2 < ly_nf 5 := by decide
theorem fc_5_2 : ly_cat (ly_ty 5 2) = 2 := rfl
theorem fn_5_2 : (ly_TT 5 2).2.2.2 = false := rfl
theorem fy_5_2 : ly_ty 5 2 = .array .byte := rfl
theorem fd_5_2 : ly_kd (ly_ty 5 2) = 12 := by decide +kernel
theorem fb_5_3 : 3 < ly_nf 5 := by decide
theorem fc_5_3 : ly_cat (ly_ty 5 3) = 0 := rfl
theorem fn_5_3 : (ly_TT 5 3).2.2.2 = false := rfl
theorem fy_5_3 : ly_ty 5 3 = .int := rfl
theorem fb_5_4 : 4 < ly_nf 5 := by decide
theorem fc_5_4 : ly_cat (ly_ty 5 4) = 2 := rfl
theorem fn_5_4 : (ly_TT 5 4).2.2.2 = false := rfl
theorem fy_5_4 : ly_ty 5 4 = .object "LampYard$Plan" := rfl
theorem fd_5_4 : ly_kd (ly_ty 5 4) = 4 := by decide +kernel
theorem fb_5_5 : 5 < ly_nf 5 := by decide
theorem fc_5_5 : ly_cat (ly_ty 5 5) = 2 := rfl
theorem fn_5_5 : (ly_TT 5 5).2.2.2 = true := rfl
theorem fy_5_5 : ly_ty 5 5 = .array .long := rfl
theorem fd_5_5 : ly_kd (ly_ty 5 5) = 14 := by decide +kernel
theorem fb_5_6 : 6 < ly_nf 5 := by decide
theorem fc_5_6 : ly_cat (ly_ty 5 6) = 0 := rfl
theorem fn_5_6 : (ly_TT 5 6).2.2.2 = false := rfl
theorem fy_5_6 : ly_ty 5 6 = .int := rfl
theorem fb_5_7 : 7 < ly_nf 5 := by decide
theorem fc_5_7 : ly_cat (ly_ty 5 7) = 2 := rfl
theorem fn_5_7 : (ly_TT 5 7).2.2.2 = true := rfl
theorem fy_5_7 : ly_ty 5 7 = .array .int := rfl
theorem fd_5_7 : ly_kd (ly_ty 5 7) = 13 := by decide +kernel
theorem fb_5_8 : 8 < ly_nf 5 := by decide
theorem fc_5_8 : ly_cat (ly_ty 5 8) = 2 := rfl
theorem fn_5_8 : (ly_TT 5 8).2.2.2 = true := rfl
theorem fy_5_8 : ly_ty 5 8 = .array .int := rfl
theorem fd_5_8 : ly_kd (ly_ty 5 8) = 13 := by decide +kernel
theorem fb_5_9 : 9 < ly_nf 5 := by decide
theorem fc_5_9 : ly_cat (ly_ty 5 9) = 2 := rfl
theorem fn_5_9 : (ly_TT 5 9).2.2.2 = true := rfl
theorem fy_5_9 : ly_ty 5 9 = .array .long := rfl
theorem fd_5_9 : ly_kd (ly_ty 5 9) = 14 := by decide +kernel
theorem fb_5_10 : 10 < ly_nf 5 := by decide
theorem fc_5_10 : ly_cat (ly_ty 5 10) = 0 := rfl
theorem fn_5_10 : (ly_TT 5 10).2.2.2 = false := rfl
theorem fy_5_10 : ly_ty 5 10 = .int := rfl
theorem fb_5_11 : 11 < ly_nf 5 := by decide
theorem fc_5_11 : ly_cat (ly_ty 5 11) = 0 := rfl
theorem fn_5_11 : (ly_TT 5 11).2.2.2 = false := rfl
theorem fy_5_11 : ly_ty 5 11 = .int := rfl
theorem fb_5_12 : 12 < ly_nf 5 := by decide
theorem fc_5_12 : ly_cat (ly_ty 5 12) = 0 := rfl
theorem fn_5_12 : (ly_TT 5 12).2.2.2 = false := rfl
theorem fy_5_12 : ly_ty 5 12 = .int := rfl
theorem fb_6_0 : 0 < ly_nf 6 := by decide
theorem fc_6_0 : ly_cat (ly_ty 6 0) = 2 := rfl
theorem fn_6_0 : (ly_TT 6 0).2.2.2 = false := rfl
theorem fy_6_0 : ly_ty 6 0 = .object "LampYard$Survey" := rfl
theorem fd_6_0 : ly_kd (ly_ty 6 0) = 9 := by decide +kernel
theorem fb_6_1 : 1 < ly_nf 6 := by decide
theorem fc_6_1 : ly_cat (ly_ty 6 1) = 2 := rfl
theorem fn_6_1 : (ly_TT 6 1).2.2.2 = true := rfl
theorem fy_6_1 : ly_ty 6 1 = .array .int := rfl
theorem fd_6_1 : ly_kd (ly_ty 6 1) = 13 := by decide +kernel
theorem fb_6_2 : 2 < ly_nf 6 := by decide
theorem fc_6_2 : ly_cat (ly_ty 6 2) = 2 := rfl
theorem fn_6_2 : (ly_TT 6 2).2.2.2 = true := rfl
theorem fy_6_2 : ly_ty 6 2 = .array .int := rfl
theorem fd_6_2 : ly_kd (ly_ty 6 2) = 13 := by decide +kernel
theorem fb_6_3 : 3 < ly_nf 6 := by decide
theorem fc_6_3 : ly_cat (ly_ty 6 3) = 2 := rfl
theorem fn_6_3 : (ly_TT 6 3).2.2.2 = true := rfl
theorem fy_6_3 : ly_ty 6 3 = .array .int := rfl
theorem fd_6_3 : ly_kd (ly_ty 6 3) = 13 := by decide +kernel
theorem fb_6_4 : 4 < ly_nf 6 := by decide
theorem fc_6_4 : ly_cat (ly_ty 6 4) = 2 := rfl
theorem fn_6_4 : (ly_TT 6 4).2.2.2 = true := rfl
theorem fy_6_4 : ly_ty 6 4 = .array .int := rfl
theorem fd_6_4 : ly_kd (ly_ty 6 4) = 13 := by decide +kernel
theorem fb_6_5 : 5 < ly_nf 6 := by decide
theorem fc_6_5 : ly_cat (ly_ty 6 5) = 2 := rfl
theorem fn_6_5 : (ly_TT 6 5).2.2.2 = true := rfl
theorem fy_6_5 : ly_ty 6 5 = .array .int := rfl
theorem fd_6_5 : ly_kd (ly_ty 6 5) = 13 := by decide +kernel
theorem fb_6_6 : 6 < ly_nf 6 := by decide
theorem fc_6_6 : ly_cat (ly_ty 6 6) = 2 := rfl
theorem fn_6_6 : (ly_TT 6 6).2.2.2 = true := rfl
theorem fy_6_6 : ly_ty 6 6 = .array .int := rfl
theorem fd_6_6 : ly_kd (ly_ty 6 6) = 13 := by decide +kernel
theorem fb_6_7 : 7 < ly_nf 6 := by decide
theorem fc_6_7 : ly_cat (ly_ty 6 7) = 0 := rfl
theorem fn_6_7 : (ly_TT 6 7).2.2.2 = false := rfl
theorem fy_6_7 : ly_ty 6 7 = .int := rfl
theorem fb_6_8 : 8 < ly_nf 6 := by decide
theorem fc_6_8 : ly_cat (ly_ty 6 8) = 0 := rfl
theorem fn_6_8 : (ly_TT 6 8).2.2.2 = false := rfl
theorem fy_6_8 : ly_ty 6 8 = .int := rfl
theorem fb_6_9 : 9 < ly_nf 6 := by decide
theorem fc_6_9 : ly_cat (ly_ty 6 9) = 0 := rfl
theorem fn_6_9 : (ly_TT 6 9).2.2.2 = false := rfl
theorem fy_6_9 : ly_ty 6 9 = .int := rfl
theorem fb_6_10 : 10 < ly_nf 6 := by decide
theorem fc_6_10 : ly_cat (ly_ty 6 10) = 0 := rfl
theorem fn_6_10 : (ly_TT 6 10).2.2.2 = false := rfl
theorem fy_6_10 : ly_ty 6 10 = .int := rfl
theorem fb_6_11 : 11 < ly_nf 6 := by decide
theorem fc_6_11 : ly_cat (ly_ty 6 11) = 0 := rfl
theorem fn_6_11 : (ly_TT 6 11).2.2.2 = false := rfl
theorem fy_6_11 : ly_ty 6 11 = .int := rfl
theorem fb_7_0 : 0 < ly_nf 7 := by decide
theorem fc_7_0 : ly_cat (ly_ty 7 0) = 0 := rfl
theorem fn_7_0 : (ly_TT 7 0).2.2.2 = false := rfl
theorem fy_7_0 : ly_ty 7 0 = .int := rfl
theorem fb_7_1 : 1 < ly_nf 7 := by decide
theorem fc_7_1 : ly_cat (ly_ty 7 1) = 0 := rfl
theorem fn_7_1 : (ly_TT 7 1).2.2.2 = false := rfl
theorem fy_7_1 : ly_ty 7 1 = .int := rfl
theorem fb_7_2 : 2 < ly_nf 7 := by decide
theorem fc_7_2 : ly_cat (ly_ty 7 2) = 2 := rfl
theorem fn_7_2 : (ly_TT 7 2).2.2.2 = true := rfl
theorem fy_7_2 : ly_ty 7 2 = .array .long := rfl
theorem fd_7_2 : ly_kd (ly_ty 7 2) = 14 := by decide +kernel
theorem fb_7_3 : 3 < ly_nf 7 := by decide
theorem fc_7_3 : ly_cat (ly_ty 7 3) = 2 := rfl
theorem fn_7_3 : (ly_TT 7 3).2.2.2 = true := rfl
theorem fy_7_3 : ly_ty 7 3 = .array .int := rfl
theorem fd_7_3 : ly_kd (ly_ty 7 3) = 13 := by decide +kernel
theorem fb_8_0 : 0 < ly_nf 8 := by decide
theorem fc_8_0 : ly_cat (ly_ty 8 0) = 2 := rfl
theorem fn_8_0 : (ly_TT 8 0).2.2.2 = true := rfl
theorem fy_8_0 : ly_ty 8 0 = .array .int := rfl
theorem fd_8_0 : ly_kd (ly_ty 8 0) = 13 := by decide +kernel
theorem fb_9_0 : 0 < ly_nf 9 := by decide
theorem fc_9_0 : ly_cat (ly_ty 9 0) = 2 := rfl
theorem fn_9_0 : (ly_TT 9 0).2.2.2 = true := rfl
theorem fy_9_0 : ly_ty 9 0 = .object "LampYard$Steps" := rfl
theorem fd_9_0 : ly_kd (ly_ty 9 0) = 8 := by decide +kernel
theorem fb_9_1 : 1 < ly_nf 9 := by decide
theorem fc_9_1 : ly_cat (ly_ty 9 1) = 2 := rfl
theorem fn_9_1 : (ly_TT 9 1).2.2.2 = true := rfl
theorem fy_9_1 : ly_ty 9 1 = .object "LampYard$StateSet" := rfl
theorem fd_9_1 : ly_kd (ly_ty 9 1) = 7 := by decide +kernel
theorem fb_9_2 : 2 < ly_nf 9 := by decide
theorem fc_9_2 : ly_cat (ly_ty 9 2) = 2 := rfl
theorem fn_9_2 : (ly_TT 9 2).2.2.2 = true := rfl
theorem fy_9_2 : ly_ty 9 2 = .array .int := rfl
theorem fd_9_2 : ly_kd (ly_ty 9 2) = 13 := by decide +kernel
theorem fb_9_3 : 3 < ly_nf 9 := by decide
theorem fc_9_3 : ly_cat (ly_ty 9 3) = 2 := rfl
theorem fn_9_3 : (ly_TT 9 3).2.2.2 = true := rfl
theorem fy_9_3 : ly_ty 9 3 = .array .int := rfl
theorem fd_9_3 : ly_kd (ly_ty 9 3) = 13 := by decide +kernel
theorem fb_9_4 : 4 < ly_nf 9 := by decide
theorem fc_9_4 : ly_cat (ly_ty 9 4) = 2 := rfl
theorem fn_9_4 : (ly_TT 9 4).2.2.2 = false := rfl
theorem fy_9_4 : ly_ty 9 4 = .object "LampYard$Plan" := rfl
theorem fd_9_4 : ly_kd (ly_ty 9 4) = 4 := by decide +kernel
theorem fb_9_5 : 5 < ly_nf 9 := by decide
theorem fc_9_5 : ly_cat (ly_ty 9 5) = 0 := rfl
theorem fn_9_5 : (ly_TT 9 5).2.2.2 = false := rfl
theorem fy_9_5 : ly_ty 9 5 = .boolean := rfl
theorem fb_9_6 : 6 < ly_nf 9 := by decide
theorem fc_9_6 : ly_cat (ly_ty 9 6) = 0 := rfl
theorem fn_9_6 : (ly_TT 9 6).2.2.2 = false := rfl
theorem fy_9_6 : ly_ty 9 6 = .int := rfl
theorem fb_9_7 : 7 < ly_nf 9 := by decide
theorem fc_9_7 : ly_cat (ly_ty 9 7) = 0 := rfl
theorem fn_9_7 : (ly_TT 9 7).2.2.2 = false := rfl
theorem fy_9_7 : ly_ty 9 7 = .int := rfl
theorem fb_9_8 : 8 < ly_nf 9 := by decide
theorem fc_9_8 : ly_cat (ly_ty 9 8) = 0 := rfl
theorem fn_9_8 : (ly_TT 9 8).2.2.2 = false := rfl
theorem fy_9_8 : ly_ty 9 8 = .int := rfl
theorem fb_9_9 : 9 < ly_nf 9 := by decide
theorem fc_9_9 : ly_cat (ly_ty 9 9) = 0 := rfl
theorem fn_9_9 : (ly_TT 9 9).2.2.2 = false := rfl
theorem fy_9_9 : ly_ty 9 9 = .int := rfl
theorem fb_9_10 : 10 < ly_nf 9 := by decide
theorem fc_9_10 : ly_cat (ly_ty 9 10) = 0 := rfl
theorem fn_9_10 : (ly_TT 9 10).2.2.2 = false := rfl
theorem fy_9_10 : ly_ty 9 10 = .int := rfl
theorem fb_9_11 : 11 < ly_nf 9 := by decide
theorem fc_9_11 : ly_cat (ly_ty 9 11) = 0 := rfl
theorem fn_9_11 : (ly_TT 9 11).2.2.2 = false := rfl
theorem fy_9_11 : ly_ty 9 11 = .int := rfl
theorem fb_9_12 : 12 < ly_nf 9 := by decide
theorem fc_9_12 : ly_cat (ly_ty 9 12) = 2 := rfl
theorem fn_9_12 : (ly_TT 9 12).2.2.2 = true := rfl
theorem fy_9_12 : ly_ty 9 12 = .array .int := rfl
theorem fd_9_12 : ly_kd (ly_ty 9 12) = 13 := by decide +kernel
theorem fb_9_13 : 13 < ly_nf 9 := by decide
theorem fc_9_13 : ly_cat (ly_ty 9 13) = 2 := rfl
theorem fn_9_13 : (ly_TT 9 13).2.2.2 = true := rfl
theorem fy_9_13 : ly_ty 9 13 = .array .int := rfl
theorem fd_9_13 : ly_kd (ly_ty 9 13) = 13 := by decide +kernel
theorem fb_9_14 : 14 < ly_nf 9 := by decide
theorem fc_9_14 : ly_cat (ly_ty 9 14) = 2 := rfl
theorem fn_9_14 : (ly_TT 9 14).2.2.2 = false := rfl
theorem fy_9_14 : ly_ty 9 14 = .object "LampYard$Rounds" := rfl
theorem fd_9_14 : ly_kd (ly_ty 9 14) = 6 := by decide +kernel
theorem fb_9_15 : 15 < ly_nf 9 := by decide
theorem fc_9_15 : ly_cat (ly_ty 9 15) = 0 := rfl
theorem fn_9_15 : (ly_TT 9 15).2.2.2 = false := rfl
theorem fy_9_15 : ly_ty 9 15 = .int := rfl
theorem fb_10_0 : 0 < ly_nf 10 := by decide
theorem fc_10_0 : ly_cat (ly_ty 10 0) = 2 := rfl
theorem fn_10_0 : (ly_TT 10 0).2.2.2 = true := rfl
theorem fy_10_0 : ly_ty 10 0 = .array .byte := rfl
theorem fd_10_0 : ly_kd (ly_ty 10 0) = 12 := by decide +kernel
theorem fb_10_1 : 1 < ly_nf 10 := by decide
theorem fc_10_1 : ly_cat (ly_ty 10 1) = 0 := rfl
theorem fn_10_1 : (ly_TT 10 1).2.2.2 = false := rfl
theorem fy_10_1 : ly_ty 10 1 = .int := rfl
theorem fb_10_2 : 2 < ly_nf 10 := by decide
theorem fc_10_2 : ly_cat (ly_ty 10 2) = 2 := rfl
theorem fn_10_2 : (ly_TT 10 2).2.2.2 = true := rfl
theorem fy_10_2 : ly_ty 10 2 = .object "LampYard$Reader" := rfl
theorem fd_10_2 : ly_kd (ly_ty 10 2) = 5 := by decide +kernel
theorem fb_10_3 : 3 < ly_nf 10 := by decide
theorem fc_10_3 : ly_cat (ly_ty 10 3) = 2 := rfl
theorem fn_10_3 : (ly_TT 10 3).2.2.2 = false := rfl
theorem fy_10_3 : ly_ty 10 3 = .object "LampYard$Plan" := rfl
theorem fd_10_3 : ly_kd (ly_ty 10 3) = 4 := by decide +kernel
theorem fb_10_4 : 4 < ly_nf 10 := by decide
theorem fc_10_4 : ly_cat (ly_ty 10 4) = 2 := rfl
theorem fn_10_4 : (ly_TT 10 4).2.2.2 = false := rfl
theorem fy_10_4 : ly_ty 10 4 = .object "LampYard$Plan" := rfl
theorem fd_10_4 : ly_kd (ly_ty 10 4) = 4 := by decide +kernel
theorem fb_10_5 : 5 < ly_nf 10 := by decide
theorem fc_10_5 : ly_cat (ly_ty 10 5) = 2 := rfl
theorem fn_10_5 : (ly_TT 10 5).2.2.2 = true := rfl
theorem fy_10_5 : ly_ty 10 5 = .object "LampYard$Course" := rfl
theorem fd_10_5 : ly_kd (ly_ty 10 5) = 1 := by decide +kernel
theorem fb_10_6 : 6 < ly_nf 10 := by decide
theorem fc_10_6 : ly_cat (ly_ty 10 6) = 2 := rfl
theorem fn_10_6 : (ly_TT 10 6).2.2.2 = true := rfl
theorem fy_10_6 : ly_ty 10 6 = .array (.object "LampYard$Course") := rfl
theorem fd_10_6 : ly_kd (ly_ty 10 6) = 16 := by decide +kernel
theorem fb_10_7 : 7 < ly_nf 10 := by decide
theorem fc_10_7 : ly_cat (ly_ty 10 7) = 2 := rfl
theorem fn_10_7 : (ly_TT 10 7).2.2.2 = true := rfl
theorem fy_10_7 : ly_ty 10 7 = .object "LampYard$Logs" := rfl
theorem fd_10_7 : ly_kd (ly_ty 10 7) = 3 := by decide +kernel
theorem fb_10_8 : 8 < ly_nf 10 := by decide
theorem fc_10_8 : ly_cat (ly_ty 10 8) = 2 := rfl
theorem fn_10_8 : (ly_TT 10 8).2.2.2 = false := rfl
theorem fy_10_8 : ly_ty 10 8 = .object "LampYard$Survey" := rfl
theorem fd_10_8 : ly_kd (ly_ty 10 8) = 9 := by decide +kernel
theorem fb_10_9 : 9 < ly_nf 10 := by decide
theorem fc_10_9 : ly_cat (ly_ty 10 9) = 2 := rfl
theorem fn_10_9 : (ly_TT 10 9).2.2.2 = false := rfl
theorem fy_10_9 : ly_ty 10 9 = .object "LampYard$Faults" := rfl
theorem fd_10_9 : ly_kd (ly_ty 10 9) = 2 := by decide +kernel
theorem fb_10_10 : 10 < ly_nf 10 := by decide
theorem fc_10_10 : ly_cat (ly_ty 10 10) = 2 := rfl
theorem fn_10_10 : (ly_TT 10 10).2.2.2 = false := rfl
theorem fy_10_10 : ly_ty 10 10 = .object "LampYard$Chance" := rfl
theorem fd_10_10 : ly_kd (ly_ty 10 10) = 0 := by decide +kernel
theorem fb_10_11 : 11 < ly_nf 10 := by decide
theorem fc_10_11 : ly_cat (ly_ty 10 11) = 0 := rfl
theorem fn_10_11 : (ly_TT 10 11).2.2.2 = false := rfl
theorem fy_10_11 : ly_ty 10 11 = .boolean := rfl
theorem fb_11_0 : 0 < ly_nf 11 := by decide
theorem fc_11_0 : ly_cat (ly_ty 11 0) = 2 := rfl
theorem fn_11_0 : (ly_TT 11 0).2.2.2 = true := rfl
theorem fy_11_0 : ly_ty 11 0 = .array .int := rfl
theorem fd_11_0 : ly_kd (ly_ty 11 0) = 13 := by decide +kernel
theorem fb_11_1 : 1 < ly_nf 11 := by decide
theorem fc_11_1 : ly_cat (ly_ty 11 1) = 0 := rfl
theorem fn_11_1 : (ly_TT 11 1).2.2.2 = false := rfl
theorem fy_11_1 : ly_ty 11 1 = .int := rfl
theorem fb_11_2 : 2 < ly_nf 11 := by decide
theorem fc_11_2 : ly_cat (ly_ty 11 2) = 0 := rfl
theorem fn_11_2 : (ly_TT 11 2).2.2.2 = false := rfl
theorem fy_11_2 : ly_ty 11 2 = .int := rfl
theorem fb_11_3 : 3 < ly_nf 11 := by decide
theorem fc_11_3 : ly_cat (ly_ty 11 3) = 0 := rfl
theorem fn_11_3 : (ly_TT 11 3).2.2.2 = false := rfl
theorem fy_11_3 : ly_ty 11 3 = .int := rfl
theorem fb_11_4 : 4 < ly_nf 11 := by decide
theorem fc_11_4 : ly_cat (ly_ty 11 4) = 0 := rfl
theorem fn_11_4 : (ly_TT 11 4).2.2.2 = false := rfl
theorem fy_11_4 : ly_ty 11 4 = .int := rfl
theorem fb_11_5 : 5 < ly_nf 11 := by decide
theorem fc_11_5 : ly_cat (ly_ty 11 5) = 0 := rfl
theorem fn_11_5 : (ly_TT 11 5).2.2.2 = false := rfl
theorem fy_11_5 : ly_ty 11 5 = .int := rfl
theorem fb_11_6 : 6 < ly_nf 11 := by decide
theorem fc_11_6 : ly_cat (ly_ty 11 6) = 0 := rfl
theorem fn_11_6 : (ly_TT 11 6).2.2.2 = false := rfl
theorem fy_11_6 : ly_ty 11 6 = .int := rfl
theorem fb_11_7 : 7 < ly_nf 11 := by decide
theorem fc_11_7 : ly_cat (ly_ty 11 7) = 0 := rfl
theorem fn_11_7 : (ly_TT 11 7).2.2.2 = false := rfl
theorem fy_11_7 : ly_ty 11 7 = .int := rfl
theorem fb_11_8 : 8 < ly_nf 11 := by decide
theorem fc_11_8 : ly_cat (ly_ty 11 8) = 0 := rfl
theorem fn_11_8 : (ly_TT 11 8).2.2.2 = false := rfl
theorem fy_11_8 : ly_ty 11 8 = .int := rfl
theorem fb_11_9 : 9 < ly_nf 11 := by decide
theorem fc_11_9 : ly_cat (ly_ty 11 9) = 1 := rfl
theorem fn_11_9 : (ly_TT 11 9).2.2.2 = false := rfl
theorem fy_11_9 : ly_ty 11 9 = .long := rfl
theorem fb_11_10 : 10 < ly_nf 11 := by decide
theorem fc_11_10 : ly_cat (ly_ty 11 10) = 2 := rfl
theorem fn_11_10 : (ly_TT 11 10).2.2.2 = true := rfl
theorem fy_11_10 : ly_ty 11 10 = .array .long := rfl
theorem fd_11_10 : ly_kd (ly_ty 11 10) = 14 := by decide +kernel
theorem fb_11_11 : 11 < ly_nf 11 := by decide
theorem fc_11_11 : ly_cat (ly_ty 11 11) = 2 := rfl
theorem fn_11_11 : (ly_TT 11 11).2.2.2 = true := rfl
theorem fy_11_11 : ly_ty 11 11 = .array .int := rfl
theorem fd_11_11 : ly_kd (ly_ty 11 11) = 13 := by decide +kernel
theorem fb_11_12 : 12 < ly_nf 11 := by decide
theorem fc_11_12 : ly_cat (ly_ty 11 12) = 2 := rfl
theorem fn_11_12 : (ly_TT 11 12).2.2.2 = true := rfl
theorem fy_11_12 : ly_ty 11 12 = .array .int := rfl
theorem fd_11_12 : ly_kd (ly_ty 11 12) = 13 := by decide +kernel
theorem fb_11_13 : 13 < ly_nf 11 := by decide
theorem fc_11_13 : ly_cat (ly_ty 11 13) = 2 := rfl
theorem fn_11_13 : (ly_TT 11 13).2.2.2 = true := rfl
theorem fy_11_13 : ly_ty 11 13 = .array .int := rfl
theorem fd_11_13 : ly_kd (ly_ty 11 13) = 13 := by decide +kernel
theorem fb_11_14 : 14 < ly_nf 11 := by decide
theorem fc_11_14 : ly_cat (ly_ty 11 14) = 2 := rfl
theorem fn_11_14 : (ly_TT 11 14).2.2.2 = true := rfl
theorem fy_11_14 : ly_ty 11 14 = .array .int := rfl
theorem fd_11_14 : ly_kd (ly_ty 11 14) = 13 := by decide +kernel
theorem fb_11_15 : 15 < ly_nf 11 := by decide
theorem fc_11_15 : ly_cat (ly_ty 11 15) = 2 := rfl
theorem fn_11_15 : (ly_TT 11 15).2.2.2 = true := rfl
theorem fy_11_15 : ly_ty 11 15 = .array .int := rfl
theorem fd_11_15 : ly_kd (ly_ty 11 15) = 13 := by decide +kernel
theorem fb_11_16 : 16 < ly_nf 11 := by decide
theorem fc_11_16 : ly_cat (ly_ty 11 16) = 2 := rfl
theorem fn_11_16 : (ly_TT 11 16).2.2.2 = true := rfl
theorem fy_11_16 : ly_ty 11 16 = .array .int := rfl
theorem fd_11_16 : ly_kd (ly_ty 11 16) = 13 := by decide +kernel
theorem fb_11_17 : 17 < ly_nf 11 := by decide
theorem fc_11_17 : ly_cat (ly_ty 11 17) = 2 := rfl
theorem fn_11_17 : (ly_TT 11 17).2.2.2 = true := rfl
theorem fy_11_17 : ly_ty 11 17 = .array .boolean := rfl
theorem fd_11_17 : ly_kd (ly_ty 11 17) = 15 := by decide +kernel
theorem fb_11_18 : 18 < ly_nf 11 := by decide
theorem fc_11_18 : ly_cat (ly_ty 11 18) = 2 := rfl
theorem fn_11_18 : (ly_TT 11 18).2.2.2 = true := rfl
theorem fy_11_18 : ly_ty 11 18 = .array .boolean := rfl
theorem fd_11_18 : ly_kd (ly_ty 11 18) = 15 := by decide +kernel
theorem fb_11_19 : 19 < ly_nf 11 := by decide
theorem fc_11_19 : ly_cat (ly_ty 11 19) = 2 := rfl
theorem fn_11_19 : (ly_TT 11 19).2.2.2 = true := rfl
theorem fy_11_19 : ly_ty 11 19 = .array .boolean := rfl
theorem fd_11_19 : ly_kd (ly_ty 11 19) = 15 := by decide +kernel
theorem fb_11_20 : 20 < ly_nf 11 := by decide
theorem fc_11_20 : ly_cat (ly_ty 11 20) = 0 := rfl
theorem fn_11_20 : (ly_TT 11 20).2.2.2 = false := rfl
theorem fy_11_20 : ly_ty 11 20 = .int := rfl
theorem fb_11_21 : 21 < ly_nf 11 := by decide
theorem fc_11_21 : ly_cat (ly_ty 11 21) = 0 := rfl
theorem fn_11_21 : (ly_TT 11 21).2.2.2 = false := rfl
theorem fy_11_21 : ly_ty 11 21 = .int := rfl
theorem fb_11_22 : 22 < ly_nf 11 := by decide
theorem fc_11_22 : ly_cat (ly_ty 11 22) = 0 := rfl
theorem fn_11_22 : (ly_TT 11 22).2.2.2 = false := rfl
theorem fy_11_22 : ly_ty 11 22 = .int := rfl
theorem fb_11_23 : 23 < ly_nf 11 := by decide
theorem fc_11_23 : ly_cat (ly_ty 11 23) = 0 := rfl
theorem fn_11_23 : (ly_TT 11 23).2.2.2 = false := rfl
theorem fy_11_23 : ly_ty 11 23 = .int := rfl
theorem fb_11_24 : 24 < ly_nf 11 := by decide
theorem fc_11_24 : ly_cat (ly_ty 11 24) = 0 := rfl
theorem fn_11_24 : (ly_TT 11 24).2.2.2 = false := rfl
theorem fy_11_24 : ly_ty 11 24 = .int := rfl
theorem fb_11_25 : 25 < ly_nf 11 := by decide
theorem fc_11_25 : ly_cat (ly_ty 11 25) = 0 := rfl
theorem fn_11_25 : (ly_TT 11 25).2.2.2 = false := rfl
theorem fy_11_25 : ly_ty 11 25 = .int := rfl
theorem fb_11_26 : 26 < ly_nf 11 := by decide
theorem fc_11_26 : ly_cat (ly_ty 11 26) = 0 := rfl
theorem fn_11_26 : (ly_TT 11 26).2.2.2 = false := rfl
theorem fy_11_26 : ly_ty 11 26 = .int := rfl
theorem fb_11_27 : 27 < ly_nf 11 := by decide
theorem fc_11_27 : ly_cat (ly_ty 11 27) = 0 := rfl
theorem fn_11_27 : (ly_TT 11 27).2.2.2 = false := rfl
theorem fy_11_27 : ly_ty 11 27 = .int := rfl
theorem fb_11_28 : 28 < ly_nf 11 := by decide
theorem fc_11_28 : ly_cat (ly_ty 11 28) = 0 := rfl
theorem fn_11_28 : (ly_TT 11 28).2.2.2 = false := rfl
theorem fy_11_28 : ly_ty 11 28 = .int := rfl
theorem fb_11_29 : 29 < ly_nf 11 := by decide
theorem fc_11_29 : ly_cat (ly_ty 11 29) = 0 := rfl
theorem fn_11_29 : (ly_TT 11 29).2.2.2 = false := rfl
theorem fy_11_29 : ly_ty 11 29 = .int := rfl
theorem fb_11_30 : 30 < ly_nf 11 := by decide
theorem fc_11_30 : ly_cat (ly_ty 11 30) = 0 := rfl
theorem fn_11_30 : (ly_TT 11 30).2.2.2 = false := rfl
theorem fy_11_30 : ly_ty 11 30 = .int := rfl
theorem fb_11_31 : 31 < ly_nf 11 := by decide
theorem fc_11_31 : ly_cat (ly_ty 11 31) = 0 := rfl
theorem fn_11_31 : (ly_TT 11 31).2.2.2 = false := rfl
theorem fy_11_31 : ly_ty 11 31 = .int := rfl
theorem fb_11_32 : 32 < ly_nf 11 := by decide
theorem fc_11_32 : ly_cat (ly_ty 11 32) = 0 := rfl
theorem fn_11_32 : (ly_TT 11 32).2.2.2 = false := rfl
theorem fy_11_32 : ly_ty 11 32 = .int := rfl
theorem fb_11_33 : 33 < ly_nf 11 := by decide
theorem fc_11_33 : ly_cat (ly_ty 11 33) = 0 := rfl
theorem fn_11_33 : (ly_TT 11 33).2.2.2 = false := rfl
theorem fy_11_33 : ly_ty 11 33 = .int := rfl
theorem fb_11_34 : 34 < ly_nf 11 := by decide
theorem fc_11_34 : ly_cat (ly_ty 11 34) = 0 := rfl
theorem fn_11_34 : (ly_TT 11 34).2.2.2 = false := rfl
theorem fy_11_34 : ly_ty 11 34 = .int := rfl
theorem fb_11_35 : 35 < ly_nf 11 := by decide
theorem fc_11_35 : ly_cat (ly_ty 11 35) = 0 := rfl
theorem fn_11_35 : (ly_TT 11 35).2.2.2 = false := rfl
theorem fy_11_35 : ly_ty 11 35 = .int := rfl
theorem fb_11_36 : 36 < ly_nf 11 := by decide
theorem fc_11_36 : ly_cat (ly_ty 11 36) = 2 := rfl
theorem fn_11_36 : (ly_TT 11 36).2.2.2 = true := rfl
theorem fy_11_36 : ly_ty 11 36 = .array .int := rfl
theorem fd_11_36 : ly_kd (ly_ty 11 36) = 13 := by decide +kernel
theorem fb_11_37 : 37 < ly_nf 11 := by decide
theorem fc_11_37 : ly_cat (ly_ty 11 37) = 2 := rfl
theorem fn_11_37 : (ly_TT 11 37).2.2.2 = true := rfl
theorem fy_11_37 : ly_ty 11 37 = .array .int := rfl
theorem fd_11_37 : ly_kd (ly_ty 11 37) = 13 := by decide +kernel
theorem fb_11_38 : 38 < ly_nf 11 := by decide
theorem fc_11_38 : ly_cat (ly_ty 11 38) = 2 := rfl
theorem fn_11_38 : (ly_TT 11 38).2.2.2 = true := rfl
theorem fy_11_38 : ly_ty 11 38 = .array .int := rfl
theorem fd_11_38 : ly_kd (ly_ty 11 38) = 13 := by decide +kernel
theorem fb_11_39 : 39 < ly_nf 11 := by decide
theorem fc_11_39 : ly_cat (ly_ty 11 39) = 2 := rfl
theorem fn_11_39 : (ly_TT 11 39).2.2.2 = true := rfl
theorem fy_11_39 : ly_ty 11 39 = .array .int := rfl
theorem fd_11_39 : ly_kd (ly_ty 11 39) = 13 := by decide +kernel
theorem fb_11_40 : 40 < ly_nf 11 := by decide
theorem fc_11_40 : ly_cat (ly_ty 11 40) = 2 := rfl
theorem fn_11_40 : (ly_TT 11 40).2.2.2 = true := rfl
theorem fy_11_40 : ly_ty 11 40 = .array .int := rfl
theorem fd_11_40 : ly_kd (ly_ty 11 40) = 13 := by decide +kernel
theorem fb_11_41 : 41 < ly_nf 11 := by decide
theorem fc_11_41 : ly_cat (ly_ty 11 41) = 2 := rfl
theorem fn_11_41 : (ly_TT 11 41).2.2.2 = true := rfl
theorem fy_11_41 : ly_ty 11 41 = .array .int := rfl
theorem fd_11_41 : ly_kd (ly_ty 11 41) = 13 := by decide +kernel
theorem fb_11_42 : 42 < ly_nf 11 := by decide
theorem fc_11_42 : ly_cat (ly_ty 11 42) = 2 := rfl
theorem fn_11_42 : (ly_TT 11 42).2.2.2 = true := rfl
theorem fy_11_42 : ly_ty 11 42 = .array .int := rfl
theorem fd_11_42 : ly_kd (ly_ty 11 42) = 13 := by decide +kernel
theorem fb_11_43 : 43 < ly_nf 11 := by decide
theorem fc_11_43 : ly_cat (ly_ty 11 43) = 2 := rfl
theorem fn_11_43 : (ly_TT 11 43).2.2.2 = true := rfl
theorem fy_11_43 : ly_ty 11 43 = .array .int := rfl
theorem fd_11_43 : ly_kd (ly_ty 11 43) = 13 := by decide +kernel
theorem fb_11_44 : 44 < ly_nf 11 := by decide
theorem fc_11_44 : ly_cat (ly_ty 11 44) = 0 := rfl
theorem fn_11_44 : (ly_TT 11 44).2.2.2 = false := rfl
theorem fy_11_44 : ly_ty 11 44 = .int := rfl
theorem fb_11_45 : 45 < ly_nf 11 := by decide
theorem fc_11_45 : ly_cat (ly_ty 11 45) = 0 := rfl
theorem fn_11_45 : (ly_TT 11 45).2.2.2 = false := rfl
theorem fy_11_45 : ly_ty 11 45 = .int := rfl
theorem fb_11_46 : 46 < ly_nf 11 := by decide
theorem fc_11_46 : ly_cat (ly_ty 11 46) = 0 := rfl
theorem fn_11_46 : (ly_TT 11 46).2.2.2 = false := rfl
theorem fy_11_46 : ly_ty 11 46 = .int := rfl
theorem fb_11_47 : 47 < ly_nf 11 := by decide
theorem fc_11_47 : ly_cat (ly_ty 11 47) = 2 := rfl
theorem fn_11_47 : (ly_TT 11 47).2.2.2 = true := rfl
theorem fy_11_47 : ly_ty 11 47 = .array .int := rfl
theorem fd_11_47 : ly_kd (ly_ty 11 47) = 13 := by decide +kernel
theorem fb_11_48 : 48 < ly_nf 11 := by decide
theorem fc_11_48 : ly_cat (ly_ty 11 48) = 2 := rfl
theorem fn_11_48 : (ly_TT 11 48).2.2.2 = true := rfl
theorem fy_11_48 : ly_ty 11 48 = .array .int := rfl
theorem fd_11_48 : ly_kd (ly_ty 11 48) = 13 := by decide +kernel
theorem fb_11_49 : 49 < ly_nf 11 := by decide
theorem fc_11_49 : ly_cat (ly_ty 11 49) = 2 := rfl
theorem fn_11_49 : (ly_TT 11 49).2.2.2 = true := rfl
theorem fy_11_49 : ly_ty 11 49 = .array .int := rfl
theorem fd_11_49 : ly_kd (ly_ty 11 49) = 13 := by decide +kernel
theorem fb_11_50 : 50 < ly_nf 11 := by decide
theorem fc_11_50 : ly_cat (ly_ty 11 50) = 2 := rfl
theorem fn_11_50 : (ly_TT 11 50).2.2.2 = true := rfl
theorem fy_11_50 : ly_ty 11 50 = .array .boolean := rfl
theorem fd_11_50 : ly_kd (ly_ty 11 50) = 15 := by decide +kernel
theorem fb_11_51 : 51 < ly_nf 11 := by decide
theorem fc_11_51 : ly_cat (ly_ty 11 51) = 0 := rfl
theorem fn_11_51 : (ly_TT 11 51).2.2.2 = false := rfl
theorem fy_11_51 : ly_ty 11 51 = .int := rfl
theorem fb_11_52 : 52 < ly_nf 11 := by decide
theorem fc_11_52 : ly_cat (ly_ty 11 52) = 0 := rfl
theorem fn_11_52 : (ly_TT 11 52).2.2.2 = false := rfl
theorem fy_11_52 : ly_ty 11 52 = .int := rfl
theorem fb_11_53 : 53 < ly_nf 11 := by decide
theorem fc_11_53 : ly_cat (ly_ty 11 53) = 0 := rfl
theorem fn_11_53 : (ly_TT 11 53).2.2.2 = false := rfl
theorem fy_11_53 : ly_ty 11 53 = .boolean := rfl
theorem fb_11_54 : 54 < ly_nf 11 := by decide
theorem fc_11_54 : ly_cat (ly_ty 11 54) = 0 := rfl
theorem fn_11_54 : (ly_TT 11 54).2.2.2 = false := rfl
theorem fy_11_54 : ly_ty 11 54 = .boolean := rfl
theorem fb_11_55 : 55 < ly_nf 11 := by decide
theorem fc_11_55 : ly_cat (ly_ty 11 55) = 0 := rfl
theorem fn_11_55 : (ly_TT 11 55).2.2.2 = false := rfl
theorem fy_11_55 : ly_ty 11 55 = .int := rfl
theorem fb_11_56 : 56 < ly_nf 11 := by decide
theorem fc_11_56 : ly_cat (ly_ty 11 56) = 0 := rfl
theorem fn_11_56 : (ly_TT 11 56).2.2.2 = false := rfl
theorem fy_11_56 : ly_ty 11 56 = .boolean := rfl
theorem fb_11_57 : 57 < ly_nf 11 := by decide
theorem fc_11_57 : ly_cat (ly_ty 11 57) = 2 := rfl
theorem fn_11_57 : (ly_TT 11 57).2.2.2 = true := rfl
theorem fy_11_57 : ly_ty 11 57 = .array .int := rfl
theorem fd_11_57 : ly_kd (ly_ty 11 57) = 13 := by decide +kernel
theorem fb_11_58 : 58 < ly_nf 11 := by decide
theorem fc_11_58 : ly_cat (ly_ty 11 58) = 2 := rfl
theorem fn_11_58 : (ly_TT 11 58).2.2.2 = true := rfl
theorem fy_11_58 : ly_ty 11 58 = .array .int := rfl
theorem fd_11_58 : ly_kd (ly_ty 11 58) = 13 := by decide +kernel
theorem fb_11_59 : 59 < ly_nf 11 := by decide
theorem fc_11_59 : ly_cat (ly_ty 11 59) = 2 := rfl
theorem fn_11_59 : (ly_TT 11 59).2.2.2 = true := rfl
theorem fy_11_59 : ly_ty 11 59 = .array .boolean := rfl
theorem fd_11_59 : ly_kd (ly_ty 11 59) = 15 := by decide +kernel
theorem fb_11_60 : 60 < ly_nf 11 := by decide
theorem fc_11_60 : ly_cat (ly_ty 11 60) = 0 := rfl
theorem fn_11_60 : (ly_TT 11 60).2.2.2 = false := rfl
theorem fy_11_60 : ly_ty 11 60 = .int := rfl
theorem fb_11_61 : 61 < ly_nf 11 := by decide
theorem fc_11_61 : ly_cat (ly_ty 11 61) = 0 := rfl
theorem fn_11_61 : (ly_TT 11 61).2.2.2 = false := rfl
theorem fy_11_61 : ly_ty 11 61 = .int := rfl
theorem fb_11_62 : 62 < ly_nf 11 := by decide
theorem fc_11_62 : ly_cat (ly_ty 11 62) = 2 := rfl
theorem fn_11_62 : (ly_TT 11 62).2.2.2 = true := rfl
theorem fy_11_62 : ly_ty 11 62 = .array .long := rfl
theorem fd_11_62 : ly_kd (ly_ty 11 62) = 14 := by decide +kernel
theorem fb_11_63 : 63 < ly_nf 11 := by decide
theorem fc_11_63 : ly_cat (ly_ty 11 63) = 2 := rfl
theorem fn_11_63 : (ly_TT 11 63).2.2.2 = true := rfl
theorem fy_11_63 : ly_ty 11 63 = .array .int := rfl
theorem fd_11_63 : ly_kd (ly_ty 11 63) = 13 := by decide +kernel
theorem fb_11_64 : 64 < ly_nf 11 := by decide
theorem fc_11_64 : ly_cat (ly_ty 11 64) = 2 := rfl
theorem fn_11_64 : (ly_TT 11 64).2.2.2 = true := rfl
theorem fy_11_64 : ly_ty 11 64 = .array .int := rfl
theorem fd_11_64 : ly_kd (ly_ty 11 64) = 13 := by decide +kernel
theorem fb_11_65 : 65 < ly_nf 11 := by decide
theorem fc_11_65 : ly_cat (ly_ty 11 65) = 0 := rfl
theorem fn_11_65 : (ly_TT 11 65).2.2.2 = false := rfl
theorem fy_11_65 : ly_ty 11 65 = .int := rfl
theorem fb_11_66 : 66 < ly_nf 11 := by decide
theorem fc_11_66 : ly_cat (ly_ty 11 66) = 0 := rfl
theorem fn_11_66 : (ly_TT 11 66).2.2.2 = false := rfl
theorem fy_11_66 : ly_ty 11 66 = .boolean := rfl
theorem fb_11_67 : 67 < ly_nf 11 := by decide
theorem fc_11_67 : ly_cat (ly_ty 11 67) = 0 := rfl
theorem fn_11_67 : (ly_TT 11 67).2.2.2 = false := rfl
theorem fy_11_67 : ly_ty 11 67 = .boolean := rfl
theorem fb_11_68 : 68 < ly_nf 11 := by decide
theorem fc_11_68 : ly_cat (ly_ty 11 68) = 2 := rfl
theorem fn_11_68 : (ly_TT 11 68).2.2.2 = true := rfl
theorem fy_11_68 : ly_ty 11 68 = .array .int := rfl
theorem fd_11_68 : ly_kd (ly_ty 11 68) = 13 := by decide +kernel
theorem fb_11_69 : 69 < ly_nf 11 := by decide
theorem fc_11_69 : ly_cat (ly_ty 11 69) = 2 := rfl
theorem fn_11_69 : (ly_TT 11 69).2.2.2 = true := rfl
theorem fy_11_69 : ly_ty 11 69 = .array .int := rfl
theorem fd_11_69 : ly_kd (ly_ty 11 69) = 13 := by decide +kernel
theorem fb_11_70 : 70 < ly_nf 11 := by decide
theorem fc_11_70 : ly_cat (ly_ty 11 70) = 2 := rfl
theorem fn_11_70 : (ly_TT 11 70).2.2.2 = true := rfl
theorem fy_11_70 : ly_ty 11 70 = .array .int := rfl
theorem fd_11_70 : ly_kd (ly_ty 11 70) = 13 := by decide +kernel
theorem fb_11_71 : 71 < ly_nf 11 := by decide
theorem fc_11_71 : ly_cat (ly_ty 11 71) = 2 := rfl
theorem fn_11_71 : (ly_TT 11 71).2.2.2 = true := rfl
theorem fy_11_71 : ly_ty 11 71 = .array .int := rfl
theorem fd_11_71 : ly_kd (ly_ty 11 71) = 13 := by decide +kernel
theorem fb_11_72 : 72 < ly_nf 11 := by decide
theorem fc_11_72 : ly_cat (ly_ty 11 72) = 2 := rfl
theorem fn_11_72 : (ly_TT 11 72).2.2.2 = true := rfl
theorem fy_11_72 : ly_ty 11 72 = .array .int := rfl
theorem fd_11_72 : ly_kd (ly_ty 11 72) = 13 := by decide +kernel
theorem fb_11_73 : 73 < ly_nf 11 := by decide
theorem fc_11_73 : ly_cat (ly_ty 11 73) = 2 := rfl
theorem fn_11_73 : (ly_TT 11 73).2.2.2 = true := rfl
theorem fy_11_73 : ly_ty 11 73 = .array .int := rfl
theorem fd_11_73 : ly_kd (ly_ty 11 73) = 13 := by decide +kernel
theorem fb_11_74 : 74 < ly_nf 11 := by decide
theorem fc_11_74 : ly_cat (ly_ty 11 74) = 2 := rfl
theorem fn_11_74 : (ly_TT 11 74).2.2.2 = true := rfl
theorem fy_11_74 : ly_ty 11 74 = .array .int := rfl
theorem fd_11_74 : ly_kd (ly_ty 11 74) = 13 := by decide +kernel
theorem fb_11_75 : 75 < ly_nf 11 := by decide
theorem fc_11_75 : ly_cat (ly_ty 11 75) = 2 := rfl
theorem fn_11_75 : (ly_TT 11 75).2.2.2 = true := rfl
theorem fy_11_75 : ly_ty 11 75 = .array .int := rfl
theorem fd_11_75 : ly_kd (ly_ty 11 75) = 13 := by decide +kernel
theorem fb_11_76 : 76 < ly_nf 11 := by decide
theorem fc_11_76 : ly_cat (ly_ty 11 76) = 2 := rfl
theorem fn_11_76 : (ly_TT 11 76).2.2.2 = true := rfl
theorem fy_11_76 : ly_ty 11 76 = .array .long := rfl
theorem fd_11_76 : ly_kd (ly_ty 11 76) = 14 := by decide +kernel
theorem fb_11_77 : 77 < ly_nf 11 := by decide
theorem fc_11_77 : ly_cat (ly_ty 11 77) = 2 := rfl
theorem fn_11_77 : (ly_TT 11 77).2.2.2 = true := rfl
theorem fy_11_77 : ly_ty 11 77 = .array .long := rfl
theorem fd_11_77 : ly_kd (ly_ty 11 77) = 14 := by decide +kernel
theorem fb_11_78 : 78 < ly_nf 11 := by decide
theorem fc_11_78 : ly_cat (ly_ty 11 78) = 2 := rfl
theorem fn_11_78 : (ly_TT 11 78).2.2.2 = true := rfl
theorem fy_11_78 : ly_ty 11 78 = .array .long := rfl
theorem fd_11_78 : ly_kd (ly_ty 11 78) = 14 := by decide +kernel
theorem fb_11_79 : 79 < ly_nf 11 := by decide
theorem fc_11_79 : ly_cat (ly_ty 11 79) = 2 := rfl
theorem fn_11_79 : (ly_TT 11 79).2.2.2 = true := rfl
theorem fy_11_79 : ly_ty 11 79 = .array .int := rfl
theorem fd_11_79 : ly_kd (ly_ty 11 79) = 13 := by decide +kernel
theorem fb_11_80 : 80 < ly_nf 11 := by decide
theorem fc_11_80 : ly_cat (ly_ty 11 80) = 2 := rfl
theorem fn_11_80 : (ly_TT 11 80).2.2.2 = true := rfl
theorem fy_11_80 : ly_ty 11 80 = .array .int := rfl
theorem fd_11_80 : ly_kd (ly_ty 11 80) = 13 := by decide +kernel
theorem fb_11_81 : 81 < ly_nf 11 := by decide
theorem fc_11_81 : ly_cat (ly_ty 11 81) = 2 := rfl
theorem fn_11_81 : (ly_TT 11 81).2.2.2 = true := rfl
theorem fy_11_81 : ly_ty 11 81 = .array .int := rfl
theorem fd_11_81 : ly_kd (ly_ty 11 81) = 13 := by decide +kernel
theorem fb_11_82 : 82 < ly_nf 11 := by decide
theorem fc_11_82 : ly_cat (ly_ty 11 82) = 2 := rfl
theorem fn_11_82 : (ly_TT 11 82).2.2.2 = true := rfl
theorem fy_11_82 : ly_ty 11 82 = .array .int := rfl
theorem fd_11_82 : ly_kd (ly_ty 11 82) = 13 := by decide +kernel
theorem fb_11_83 : 83 < ly_nf 11 := by decide
theorem fc_11_83 : ly_cat (ly_ty 11 83) = 2 := rfl
theorem fn_11_83 : (ly_TT 11 83).2.2.2 = true := rfl
theorem fy_11_83 : ly_ty 11 83 = .array .int := rfl
theorem fd_11_83 : ly_kd (ly_ty 11 83) = 13 := by decide +kernel
theorem fb_11_84 : 84 < ly_nf 11 := by decide
theorem fc_11_84 : ly_cat (ly_ty 11 84) = 2 := rfl
theorem fn_11_84 : (ly_TT 11 84).2.2.2 = true := rfl
theorem fy_11_84 : ly_ty 11 84 = .array .boolean := rfl
theorem fd_11_84 : ly_kd (ly_ty 11 84) = 15 := by decide +kernel
theorem fb_11_85 : 85 < ly_nf 11 := by decide
theorem fc_11_85 : ly_cat (ly_ty 11 85) = 0 := rfl
theorem fn_11_85 : (ly_TT 11 85).2.2.2 = false := rfl
theorem fy_11_85 : ly_ty 11 85 = .int := rfl
theorem fb_11_86 : 86 < ly_nf 11 := by decide
theorem fc_11_86 : ly_cat (ly_ty 11 86) = 0 := rfl
theorem fn_11_86 : (ly_TT 11 86).2.2.2 = false := rfl
theorem fy_11_86 : ly_ty 11 86 = .int := rfl
theorem fb_11_87 : 87 < ly_nf 11 := by decide
theorem fc_11_87 : ly_cat (ly_ty 11 87) = 2 := rfl
theorem fn_11_87 : (ly_TT 11 87).2.2.2 = true := rfl
theorem fy_11_87 : ly_ty 11 87 = .array .boolean := rfl
theorem fd_11_87 : ly_kd (ly_ty 11 87) = 15 := by decide +kernel
theorem fb_11_88 : 88 < ly_nf 11 := by decide
theorem fc_11_88 : ly_cat (ly_ty 11 88) = 2 := rfl
theorem fn_11_88 : (ly_TT 11 88).2.2.2 = true := rfl
theorem fy_11_88 : ly_ty 11 88 = .array .boolean := rfl
theorem fd_11_88 : ly_kd (ly_ty 11 88) = 15 := by decide +kernel
theorem fb_11_89 : 89 < ly_nf 11 := by decide
theorem fc_11_89 : ly_cat (ly_ty 11 89) = 2 := rfl
theorem fn_11_89 : (ly_TT 11 89).2.2.2 = true := rfl
theorem fy_11_89 : ly_ty 11 89 = .array .boolean := rfl
theorem fd_11_89 : ly_kd (ly_ty 11 89) = 15 := by decide +kernel
theorem fb_11_90 : 90 < ly_nf 11 := by decide
theorem fc_11_90 : ly_cat (ly_ty 11 90) = 2 := rfl
theorem fn_11_90 : (ly_TT 11 90).2.2.2 = true := rfl
theorem fy_11_90 : ly_ty 11 90 = .array .int := rfl
theorem fd_11_90 : ly_kd (ly_ty 11 90) = 13 := by decide +kernel
theorem fb_11_91 : 91 < ly_nf 11 := by decide
theorem fc_11_91 : ly_cat (ly_ty 11 91) = 2 := rfl
theorem fn_11_91 : (ly_TT 11 91).2.2.2 = true := rfl
theorem fy_11_91 : ly_ty 11 91 = .array .int := rfl
theorem fd_11_91 : ly_kd (ly_ty 11 91) = 13 := by decide +kernel
theorem fb_11_92 : 92 < ly_nf 11 := by decide
theorem fc_11_92 : ly_cat (ly_ty 11 92) = 2 := rfl
theorem fn_11_92 : (ly_TT 11 92).2.2.2 = true := rfl
theorem fy_11_92 : ly_ty 11 92 = .array .int := rfl
theorem fd_11_92 : ly_kd (ly_ty 11 92) = 13 := by decide +kernel
theorem fb_11_93 : 93 < ly_nf 11 := by decide
theorem fc_11_93 : ly_cat (ly_ty 11 93) = 2 := rfl
theorem fn_11_93 : (ly_TT 11 93).2.2.2 = true := rfl
theorem fy_11_93 : ly_ty 11 93 = .array .int := rfl
theorem fd_11_93 : ly_kd (ly_ty 11 93) = 13 := by decide +kernel
theorem fb_11_94 : 94 < ly_nf 11 := by decide
theorem fc_11_94 : ly_cat (ly_ty 11 94) = 2 := rfl
theorem fn_11_94 : (ly_TT 11 94).2.2.2 = true := rfl
theorem fy_11_94 : ly_ty 11 94 = .array .int := rfl
theorem fd_11_94 : ly_kd (ly_ty 11 94) = 13 := by decide +kernel
theorem fb_11_95 : 95 < ly_nf 11 := by decide
theorem fc_11_95 : ly_cat (ly_ty 11 95) = 2 := rfl
theorem fn_11_95 : (ly_TT 11 95).2.2.2 = true := rfl
theorem fy_11_95 : ly_ty 11 95 = .array .int := rfl
theorem fd_11_95 : ly_kd (ly_ty 11 95) = 13 := by decide +kernel
def y_Rd_unitCode : MethodName := ⟨"LampYard$Reader", "unitCode", "()I"⟩
def y_Rd_refuse : MethodName := ⟨"LampYard$Reader", "refuse", "(I)V"⟩
def y_Rd_advance : MethodName := ⟨"LampYard$Reader", "advance", "()V"⟩
def y_Rd_expect : MethodName := ⟨"LampYard$Reader", "expect", "(I)V"⟩
def y_Pl_addCode : MethodName := ⟨"LampYard$Plan", "addCode", "(I)V"⟩
def y_Rd_new : MethodName := ⟨"LampYard$Reader", "<init>", "()V"⟩
def y_Pl_empty : MethodName := ⟨"LampYard$Plan", "empty", "()V"⟩
def y_Pl_new : MethodName := ⟨"LampYard$Plan", "<init>", "()V"⟩
def y_Co_new : MethodName := ⟨"LampYard$Course", "<init>", "()V"⟩
def y_Lo_new : MethodName := ⟨"LampYard$Logs", "<init>", "()V"⟩
def y_Ar_fillI : MethodName := ⟨"java/util/Arrays", "fill", "([II)V"⟩
def y_Fa_clear : MethodName := ⟨"LampYard$Faults", "clear", "()V"⟩
def y_Ch_clear : MethodName := ⟨"LampYard$Chance", "clear", "()V"⟩
def y_St_withLamps : MethodName := ⟨"LampYard$State", "withLamps", "(JI)J"⟩
def y_Pl_roleOf : MethodName := ⟨"LampYard$Plan", "roleOf", "(I)I"⟩
def y_St_withMind : MethodName := ⟨"LampYard$State", "withMind", "(JIII)J"⟩
def y_Pl_forgotten : MethodName := ⟨"LampYard$Plan", "forgotten", "(JI)J"⟩
def y_Pl_firstState : MethodName := ⟨"LampYard$Plan", "firstState", "(I)J"⟩
def y_Co_startWith : MethodName := ⟨"LampYard$Course", "startWith", "(LLampYard$Plan;I)V"⟩
def y_X_startAnew : MethodName := ⟨"LampYard", "startAnew", "()V"⟩
def y_X_new : MethodName := ⟨"LampYard", "<init>", "()V"⟩
def y_X_putOnTape : MethodName := ⟨"LampYard", "putOnTape", "(I)V"⟩
def y_X_feed : MethodName := ⟨"LampYard", "feed", "(IIIII)I"⟩
def y_X_end : MethodName := ⟨"LampYard", "end", "(I)I"⟩
def y_Rd_byteAt : MethodName := ⟨"LampYard$Reader", "byteAt", "(I)I"⟩
def y_Rd_afterBlanks : MethodName := ⟨"LampYard$Reader", "afterBlanks", "(I)I"⟩
def y_Rd_addToken : MethodName := ⟨"LampYard$Reader", "addToken", "(IIJI)I"⟩
def y_Rd_isLetter : MethodName := ⟨"LampYard$Reader", "isLetter", "(I)Z"⟩
def y_Rd_isWord : MethodName := ⟨"LampYard$Reader", "isWord", "(III)Z"⟩
def y_Rd_kindOfWord : MethodName := ⟨"LampYard$Reader", "kindOfWord", "(II)I"⟩
def y_Rd_takeWord : MethodName := ⟨"LampYard$Reader", "takeWord", "(I)I"⟩
def y_Rd_isDigit : MethodName := ⟨"LampYard$Reader", "isDigit", "(I)Z"⟩
def y_Rd_takeNumber : MethodName := ⟨"LampYard$Reader", "takeNumber", "(I)I"⟩
def y_Rd_isSign : MethodName := ⟨"LampYard$Reader", "isSign", "(I)Z"⟩
def y_Rd_takeToken : MethodName := ⟨"LampYard$Reader", "takeToken", "(I)I"⟩
def y_Rd_splitText : MethodName := ⟨"LampYard$Reader", "splitText", "()V"⟩
def y_Rd_numberWithin : MethodName := ⟨"LampYard$Reader", "numberWithin", "(II)I"⟩
def y_Rd_readStart : MethodName := ⟨"LampYard$Reader", "readStart", "()V"⟩
def y_Rd_readSetting : MethodName := ⟨"LampYard$Reader", "readSetting", "()V"⟩
def y_Rd_roleNamed : MethodName := ⟨"LampYard$Reader", "roleNamed", "(J)I"⟩
def y_Pl_addRole : MethodName := ⟨"LampYard$Plan", "addRole", "(II)V"⟩
def y_Rd_readRole : MethodName := ⟨"LampYard$Reader", "readRole", "()V"⟩
def y_Pl_endPart : MethodName := ⟨"LampYard$Plan", "endPart", "(I)V"⟩
def y_Pl_addRule : MethodName := ⟨"LampYard$Plan", "addRule", "(IZ)V"⟩
def y_Rd_readUnit : MethodName := ⟨"LampYard$Reader", "readUnit", "(I)V"⟩
def y_Rd_readTerm : MethodName := ⟨"LampYard$Reader", "readTerm", "(I)V"⟩
def y_Rd_readSum : MethodName := ⟨"LampYard$Reader", "readSum", "(I)V"⟩
def y_Rd_readOne : MethodName := ⟨"LampYard$Reader", "readOne", "(I)V"⟩
def y_Rd_readBoth : MethodName := ⟨"LampYard$Reader", "readBoth", "(I)V"⟩
def y_Rd_readAny : MethodName := ⟨"LampYard$Reader", "readAny", "(I)V"⟩
def y_Rd_readRule : MethodName := ⟨"LampYard$Reader", "readRule", "()V"⟩
def y_Rd_readLine : MethodName := ⟨"LampYard$Reader", "readLine", "()V"⟩
def y_Rd_reads : MethodName := ⟨"LampYard$Reader", "reads", "([BILLampYard$Plan;)Z"⟩
def y_X_plan : MethodName := ⟨"LampYard", "plan", "()I"⟩
def y_X_fault : MethodName := ⟨"LampYard", "fault", "(I)I"⟩
def y_Pl_allOn : MethodName := ⟨"LampYard$Plan", "allOn", "()I"⟩
def y_Pl_canBeLamps : MethodName := ⟨"LampYard$Plan", "canBeLamps", "(I)Z"⟩
def y_X_begin : MethodName := ⟨"LampYard", "begin", "(I)Z"⟩
def y_Pl_hasMan : MethodName := ⟨"LampYard$Plan", "hasMan", "(I)Z"⟩
def y_St_dayOf : MethodName := ⟨"LampYard$State", "dayOf", "(J)I"⟩
def y_St_lampsOf : MethodName := ⟨"LampYard$State", "lampsOf", "(J)I"⟩
def y_St_heldBy : MethodName := ⟨"LampYard$State", "heldBy", "(JI)I"⟩
def y_St_visitsOf : MethodName := ⟨"LampYard$State", "visitsOf", "(JI)I"⟩
def y_Pl_push : MethodName := ⟨"LampYard$Plan", "push", "(II)I"⟩
def y_Pl_joined : MethodName := ⟨"LampYard$Plan", "joined", "(III)I"⟩
def y_Pl_valueOf : MethodName := ⟨"LampYard$Plan", "valueOf", "(II)I"⟩
def y_Pl_outcome : MethodName := ⟨"LampYard$Plan", "outcome", "(JI)I"⟩
def y_St_withDay : MethodName := ⟨"LampYard$State", "withDay", "(JI)J"⟩
def y_St_withBeen : MethodName := ⟨"LampYard$State", "withBeen", "(JI)J"⟩
def y_Pl_after : MethodName := ⟨"LampYard$Plan", "after", "(JII)J"⟩
def y_St_hasBeen : MethodName := ⟨"LampYard$State", "hasBeen", "(JI)Z"⟩
def y_Pl_haveAllBeen : MethodName := ⟨"LampYard$Plan", "haveAllBeen", "(J)Z"⟩
def y_Co_leadOut : MethodName := ⟨"LampYard$Course", "leadOut", "(LLampYard$Plan;I)I"⟩
def y_X_lead : MethodName := ⟨"LampYard", "lead", "(I)I"⟩
def y_X_forget : MethodName := ⟨"LampYard", "forget", "(I)Z"⟩
def y_X_dark : MethodName := ⟨"LampYard", "dark", "(I)I"⟩
def y_X_man : MethodName := ⟨"LampYard", "man", "(II)I"⟩
def y_Sp_new : MethodName := ⟨"LampYard$Steps", "<init>", "()V"⟩
def y_Ss_new : MethodName := ⟨"LampYard$StateSet", "<init>", "()V"⟩
def y_Sv_new : MethodName := ⟨"LampYard$Survey", "<init>", "()V"⟩
def y_Sp_clear : MethodName := ⟨"LampYard$Steps", "clear", "()V"⟩
def y_Ss_clear : MethodName := ⟨"LampYard$StateSet", "clear", "(I)V"⟩
def y_Pl_isStart : MethodName := ⟨"LampYard$Plan", "isStart", "(I)Z"⟩
def y_Ss_putIn : MethodName := ⟨"LampYard$StateSet", "putIn", "(JI)I"⟩
def y_Ss_numberOf : MethodName := ⟨"LampYard$StateSet", "numberOf", "(J)I"⟩
def y_Sv_putStarts : MethodName := ⟨"LampYard$Survey", "putStarts", "()V"⟩
def y_Ss_member : MethodName := ⟨"LampYard$StateSet", "member", "(I)J"⟩
def y_Sp_outcome : MethodName := ⟨"LampYard$Steps", "outcome", "(LLampYard$Plan;JI)I"⟩
def y_Sv_daysTo : MethodName := ⟨"LampYard$Survey", "daysTo", "(I)I"⟩
def y_Sv_keepRow : MethodName := ⟨"LampYard$Survey", "keepRow", "(II)V"⟩
def y_Sv_noteSaid : MethodName := ⟨"LampYard$Survey", "noteSaid", "(IIJ)I"⟩
def y_Sv_goOn : MethodName := ⟨"LampYard$Survey", "goOn", "(IIJ)I"⟩
def y_Sv_leadAll : MethodName := ⟨"LampYard$Survey", "leadAll", "(I)V"⟩
def y_Sv_explore : MethodName := ⟨"LampYard$Survey", "explore", "(LLampYard$Plan;)V"⟩
def y_X_surveyOfPlan : MethodName := ⟨"LampYard", "surveyOfPlan", "()LLampYard$Survey;"⟩
def y_X_states : MethodName := ⟨"LampYard", "states", "(I)I"⟩
def y_X_right : MethodName := ⟨"LampYard", "right", "()I"⟩
def y_X_shown : MethodName := ⟨"LampYard", "shown", "(I)I"⟩
def y_X_shows : MethodName := ⟨"LampYard", "shows", "(I)I"⟩
def y_X_soonest : MethodName := ⟨"LampYard", "soonest", "()I"⟩
def y_Ro_new : MethodName := ⟨"LampYard$Rounds", "<init>", "()V"⟩
def y_Ro_enter : MethodName := ⟨"LampYard$Rounds", "enter", "(I)V"⟩
def y_Sv_nextOf : MethodName := ⟨"LampYard$Survey", "nextOf", "(II)I"⟩
def y_Ro_look : MethodName := ⟨"LampYard$Rounds", "look", "(II)V"⟩
def y_Ro_menLedWithin : MethodName := ⟨"LampYard$Rounds", "menLedWithin", "(I)I"⟩
def y_Ro_tieKnot : MethodName := ⟨"LampYard$Rounds", "tieKnot", "(I)V"⟩
def y_Ro_leave : MethodName := ⟨"LampYard$Rounds", "leave", "(I)V"⟩
def y_Ro_goFrom : MethodName := ⟨"LampYard$Rounds", "goFrom", "(I)V"⟩
def y_Ro_countStates : MethodName := ⟨"LampYard$Rounds", "countStates", "(LLampYard$Survey;)I"⟩
def y_Sv_statesInRounds : MethodName := ⟨"LampYard$Survey", "statesInRounds", "()I"⟩
def y_X_ends : MethodName := ⟨"LampYard", "ends", "()I"⟩
def y_X_endless : MethodName := ⟨"LampYard", "endless", "()I"⟩
def y_X_idle : MethodName := ⟨"LampYard", "idle", "()I"⟩
def y_X_most : MethodName := ⟨"LampYard", "most", "(I)I"⟩
def y_Fa_new : MethodName := ⟨"LampYard$Faults", "<init>", "()V"⟩
def y_Fa_putBehind : MethodName := ⟨"LampYard$Faults", "putBehind", "(J)V"⟩
def y_Fa_putFaulty : MethodName := ⟨"LampYard$Faults", "putFaulty", "(LLampYard$Plan;JI)V"⟩
def y_Fa_saysWrongly : MethodName := ⟨"LampYard$Faults", "saysWrongly", "(LLampYard$Survey;J)Z"⟩
def y_Fa_lookThrough : MethodName := ⟨"LampYard$Faults", "lookThrough", "(LLampYard$Survey;I)I"⟩
def y_Fa_borne : MethodName := ⟨"LampYard$Faults", "borne", "(LLampYard$Survey;I)I"⟩
def y_X_bears : MethodName := ⟨"LampYard", "bears", "(I)I"⟩
def y_Ch_new : MethodName := ⟨"LampYard$Chance", "<init>", "()V"⟩
def y_Ar_fillJ : MethodName := ⟨"java/util/Arrays", "fill", "([JJ)V"⟩
def y_Ch_goOneDay : MethodName := ⟨"LampYard$Chance", "goOneDay", "(LLampYard$Survey;I)V"⟩
def y_Ch_countWays : MethodName := ⟨"LampYard$Chance", "countWays", "(LLampYard$Survey;I)V"⟩
def y_Ch_waysSaid : MethodName := ⟨"LampYard$Chance", "waysSaid", "(LLampYard$Survey;III)J"⟩
def y_Ch_power : MethodName := ⟨"LampYard$Chance", "power", "(II)J"⟩
def y_Ch_partOf : MethodName := ⟨"LampYard$Chance", "partOf", "(JJI)J"⟩
def y_X_said : MethodName := ⟨"LampYard", "said", "(IIII)J"⟩
def y_Ch_waysAllBeen : MethodName := ⟨"LampYard$Chance", "waysAllBeen", "(II)J"⟩
def y_X_all : MethodName := ⟨"LampYard", "all", "(III)J"⟩
def y_Ch_daysEnough : MethodName := ⟨"LampYard$Chance", "daysEnough", "(II)I"⟩
def y_X_guess : MethodName := ⟨"LampYard", "guess", "(II)I"⟩
def y_Ch_sixtyMeans : MethodName := ⟨"LampYard$Chance", "sixtyMeans", "(I)J"⟩
def y_X_mean : MethodName := ⟨"LampYard", "mean", "(II)J"⟩
def y_X_counter : MethodName := ⟨"LampYard", "counter", "(IIII)I"⟩
def y_Co_unevenness : MethodName := ⟨"LampYard$Course", "unevenness", "(I)I"⟩
def y_X_fair : MethodName := ⟨"LampYard", "fair", "()I"⟩
def y_Lo_tell : MethodName := ⟨"LampYard$Logs", "tell", "(II)I"⟩
def y_X_log : MethodName := ⟨"LampYard", "log", "(II)I"⟩
def y_Lo_takeBack : MethodName := ⟨"LampYard$Logs", "takeBack", "(I)Z"⟩
def y_X_untell : MethodName := ⟨"LampYard", "untell", "(I)Z"⟩
def y_Lo_goOn : MethodName := ⟨"LampYard$Logs", "goOn", "(I)I"⟩
def y_X_later : MethodName := ⟨"LampYard", "later", "(I)I"⟩
def y_Lo_gather : MethodName := ⟨"LampYard$Logs", "gather", "(I)V"⟩
def y_Lo_dayByWhichAll : MethodName := ⟨"LampYard$Logs", "dayByWhichAll", "(II)I"⟩
def y_In_bitCount : MethodName := ⟨"java/lang/Integer", "bitCount", "(I)I"⟩
def y_Lo_clashes : MethodName := ⟨"LampYard$Logs", "clashes", "(I)I"⟩
def y_X_logged : MethodName := ⟨"LampYard", "logged", "(II)I"⟩
def y_Lo_latestOf : MethodName := ⟨"LampYard$Logs", "latestOf", "(II)I"⟩
def y_X_last : MethodName := ⟨"LampYard", "last", "(II)I"⟩
def y_Lo_latestWithoutGap : MethodName := ⟨"LampYard$Logs", "latestWithoutGap", "(I)I"⟩
def y_Lo_agreement : MethodName := ⟨"LampYard$Logs", "agreement", "(LLampYard$Plan;II)I"⟩
def y_X_agrees : MethodName := ⟨"LampYard", "agrees", "(II)I"⟩
def y_Co_copy : MethodName := ⟨"LampYard$Course", "copy", "(LLampYard$Course;)V"⟩
def y_X_image : MethodName := ⟨"LampYard", "image", "(I)I"⟩
def y_X_back : MethodName := ⟨"LampYard", "back", "(I)I"⟩
def y_X_about : MethodName := ⟨"LampYard", "about", "(I)I"⟩
def y_M_plain : MethodName := ⟨"LampYardModel", "plain", "()V"⟩
def y_M_fresh : MethodName := ⟨"LampYardModel", "fresh", "(I)V"⟩
def y_M_beginWith : MethodName := ⟨"LampYardModel", "beginWith", "(I)V"⟩
def y_M_new : MethodName := ⟨"LampYardModel", "<init>", "()V"⟩
def y_M_four : MethodName := ⟨"LampYardModel", "four", "(I)V"⟩
def y_M_feed : MethodName := ⟨"LampYardModel", "feed", "(IIIII)I"⟩
def y_M_end : MethodName := ⟨"LampYardModel", "end", "(I)I"⟩
def y_M_here : MethodName := ⟨"LampYardModel", "here", "(I)I"⟩
def y_M_isLetter : MethodName := ⟨"LampYardModel", "isLetter", "(I)Z"⟩
def y_M_isDigit : MethodName := ⟨"LampYardModel", "isDigit", "(I)Z"⟩
def y_M_isSign : MethodName := ⟨"LampYardModel", "isSign", "(I)Z"⟩
def y_M_token : MethodName := ⟨"LampYardModel", "token", "()V"⟩
def y_M_wrong : MethodName := ⟨"LampYardModel", "wrong", "(I)V"⟩
def y_M_isWord : MethodName := ⟨"LampYardModel", "isWord", "(J)Z"⟩
def y_M_isName : MethodName := ⟨"LampYardModel", "isName", "()Z"⟩
def y_M_want : MethodName := ⟨"LampYardModel", "want", "(J)V"⟩
def y_M_toldNumber : MethodName := ⟨"LampYardModel", "toldNumber", "(II)I"⟩
def y_M_told : MethodName := ⟨"LampYardModel", "told", "(JII)I"⟩
def y_M_note : MethodName := ⟨"LampYardModel", "note", "(II)V"⟩
def y_M_upper : MethodName := ⟨"LampYardModel", "upper", "()I"⟩
def y_M_hold : MethodName := ⟨"LampYardModel", "hold", "(I)V"⟩
def y_M_pop : MethodName := ⟨"LampYardModel", "pop", "()V"⟩
def y_M_settle : MethodName := ⟨"LampYardModel", "settle", "(I)V"⟩
def y_M_isOpen : MethodName := ⟨"LampYardModel", "isOpen", "()Z"⟩
def y_M_rank : MethodName := ⟨"LampYardModel", "rank", "(I)I"⟩
def y_M_known : MethodName := ⟨"LampYardModel", "known", "()I"⟩
def y_M_operand : MethodName := ⟨"LampYardModel", "operand", "(I)I"⟩
def y_M_sign : MethodName := ⟨"LampYardModel", "sign", "()I"⟩
def y_M_isAfter : MethodName := ⟨"LampYardModel", "isAfter", "(I)Z"⟩
def y_M_readPart : MethodName := ⟨"LampYardModel", "readPart", "(I)V"⟩
def y_M_roleNumber : MethodName := ⟨"LampYardModel", "roleNumber", "(J)I"⟩
def y_M_readRole : MethodName := ⟨"LampYardModel", "readRole", "()V"⟩
def y_M_readRule : MethodName := ⟨"LampYardModel", "readRule", "()V"⟩
def y_M_readStart : MethodName := ⟨"LampYardModel", "readStart", "()V"⟩
def y_M_lineOf : MethodName := ⟨"LampYardModel", "lineOf", "()I"⟩
def y_M_readLine : MethodName := ⟨"LampYardModel", "readLine", "()V"⟩
def y_M_plan : MethodName := ⟨"LampYardModel", "plan", "()I"⟩
def y_M_fault : MethodName := ⟨"LampYardModel", "fault", "(I)I"⟩
def y_M_full : MethodName := ⟨"LampYardModel", "full", "()I"⟩
def y_M_isAll : MethodName := ⟨"LampYardModel", "isAll", "()Z"⟩
def y_M_worked : MethodName := ⟨"LampYardModel", "worked", "(III)I"⟩
def y_M_asked : MethodName := ⟨"LampYardModel", "asked", "(II)I"⟩
def y_M_worth : MethodName := ⟨"LampYardModel", "worth", "(III)I"⟩
def y_M_doRules : MethodName := ⟨"LampYardModel", "doRules", "(I)Z"⟩
def y_M_go : MethodName := ⟨"LampYardModel", "go", "(I)I"⟩
def y_M_forgetAt : MethodName := ⟨"LampYardModel", "forgetAt", "(I)V"⟩
def y_M_put : MethodName := ⟨"LampYardModel", "put", "()V"⟩
def y_M_bring : MethodName := ⟨"LampYardModel", "bring", "()V"⟩
def y_M_isLight : MethodName := ⟨"LampYardModel", "isLight", "(I)Z"⟩
def y_M_isMan : MethodName := ⟨"LampYardModel", "isMan", "(I)Z"⟩
def y_M_begin : MethodName := ⟨"LampYardModel", "begin", "(I)Z"⟩
def y_M_lead : MethodName := ⟨"LampYardModel", "lead", "(I)I"⟩
def y_M_forget : MethodName := ⟨"LampYardModel", "forget", "(I)Z"⟩
def y_M_dark : MethodName := ⟨"LampYardModel", "dark", "(I)I"⟩
def y_M_man : MethodName := ⟨"LampYardModel", "man", "(II)I"⟩
def y_M_packed : MethodName := ⟨"LampYardModel", "packed", "()J"⟩
def y_M_unpack : MethodName := ⟨"LampYardModel", "unpack", "(J)V"⟩
def y_M_slotOf : MethodName := ⟨"LampYardModel", "slotOf", "(J)I"⟩
def y_M_number : MethodName := ⟨"LampYardModel", "number", "()I"⟩
def y_M_isStart : MethodName := ⟨"LampYardModel", "isStart", "(I)Z"⟩
def y_M_doFault : MethodName := ⟨"LampYardModel", "doFault", "(II)V"⟩
def y_M_follow : MethodName := ⟨"LampYardModel", "follow", "(II)V"⟩
def y_M_layStates : MethodName := ⟨"LampYardModel", "layStates", "(I)Z"⟩
def y_M_layPlan : MethodName := ⟨"LampYardModel", "layPlan", "(I)Z"⟩
def y_M_leads : MethodName := ⟨"LampYardModel", "leads", "(I)I"⟩
def y_M_states : MethodName := ⟨"LampYardModel", "states", "(I)I"⟩
def y_M_right : MethodName := ⟨"LampYardModel", "right", "()I"⟩
def y_M_bears : MethodName := ⟨"LampYardModel", "bears", "(I)I"⟩
def y_M_isNear : MethodName := ⟨"LampYardModel", "isNear", "(III)Z"⟩
def y_M_laySoon : MethodName := ⟨"LampYardModel", "laySoon", "(I)V"⟩
def y_M_startNumber : MethodName := ⟨"LampYardModel", "startNumber", "(I)I"⟩
def y_M_soonStart : MethodName := ⟨"LampYardModel", "soonStart", "(I)I"⟩
def y_M_shown : MethodName := ⟨"LampYardModel", "shown", "(I)I"⟩
def y_M_shows : MethodName := ⟨"LampYardModel", "shows", "(I)I"⟩
def y_M_soonest : MethodName := ⟨"LampYardModel", "soonest", "()I"⟩
def y_M_layBack : MethodName := ⟨"LampYardModel", "layBack", "()V"⟩
def y_M_layOrder : MethodName := ⟨"LampYardModel", "layOrder", "()V"⟩
def y_M_layParts : MethodName := ⟨"LampYardModel", "layParts", "()V"⟩
def y_M_endlessMany : MethodName := ⟨"LampYardModel", "endlessMany", "()I"⟩
def y_M_ends : MethodName := ⟨"LampYardModel", "ends", "()I"⟩
def y_M_endless : MethodName := ⟨"LampYardModel", "endless", "()I"⟩
def y_M_idle : MethodName := ⟨"LampYardModel", "idle", "()I"⟩
def y_M_most : MethodName := ⟨"LampYardModel", "most", "(I)I"⟩
def y_M_common : MethodName := ⟨"LampYardModel", "common", "(JJ)J"⟩
def y_M_partOf : MethodName := ⟨"LampYardModel", "partOf", "(JJI)J"⟩
def y_M_isPart : MethodName := ⟨"LampYardModel", "isPart", "(I)Z"⟩
def y_M_said : MethodName := ⟨"LampYardModel", "said", "(IIII)J"⟩
def y_M_layRows : MethodName := ⟨"LampYardModel", "layRows", "(II)J"⟩
def y_M_isMany : MethodName := ⟨"LampYardModel", "isMany", "(I)Z"⟩
def y_M_all : MethodName := ⟨"LampYardModel", "all", "(III)J"⟩
def y_M_guess : MethodName := ⟨"LampYardModel", "guess", "(II)I"⟩
def y_M_mean : MethodName := ⟨"LampYardModel", "mean", "(II)J"⟩
def y_M_counter : MethodName := ⟨"LampYardModel", "counter", "(IIII)I"⟩
def y_M_fair : MethodName := ⟨"LampYardModel", "fair", "()I"⟩
def y_M_log : MethodName := ⟨"LampYardModel", "log", "(II)I"⟩
def y_M_untell : MethodName := ⟨"LampYardModel", "untell", "(I)Z"⟩
def y_M_later : MethodName := ⟨"LampYardModel", "later", "(I)I"⟩
def y_M_layLogs : MethodName := ⟨"LampYardModel", "layLogs", "(I)I"⟩
def y_M_logged : MethodName := ⟨"LampYardModel", "logged", "(II)I"⟩
def y_M_last : MethodName := ⟨"LampYardModel", "last", "(II)I"⟩
def y_M_agrees : MethodName := ⟨"LampYardModel", "agrees", "(II)I"⟩
def y_M_isBox : MethodName := ⟨"LampYardModel", "isBox", "(I)Z"⟩
def y_M_image : MethodName := ⟨"LampYardModel", "image", "(I)I"⟩
def y_M_back : MethodName := ⟨"LampYardModel", "back", "(I)I"⟩
def y_M_about : MethodName := ⟨"LampYardModel", "about", "(I)I"⟩
def y_Lw_law : MethodName := ⟨"LampYardLaw", "law", "([I)Z"⟩
theorem wc_X_13 : Cond.classLink "LampYard" 13 (ly_cn 5) ∈ ly_T := ly_at 30 (by decide +kernel) rfl
theorem wc_X_20 : Cond.classLink "LampYard" 20 (ly_cn 4) ∈ ly_T := ly_at 81 (by decide +kernel) rfl
theorem wc_X_30 : Cond.classLink "LampYard" 30 (ly_cn 1) ∈ ly_T := ly_at 160 (by decide +kernel) rfl
theorem wc_X_41 : Cond.classLink "LampYard" 41 (ly_cn 3) ∈ ly_T := ly_at 187 (by decide +kernel) rfl
theorem wc_X_135 : Cond.classLink "LampYard" 135 (ly_cn 9) ∈ ly_T := ly_at 598 (by decide +kernel) rfl
theorem wc_X_176 : Cond.classLink "LampYard" 176 (ly_cn 2) ∈ ly_T := ly_at 897 (by decide +kernel) rfl
theorem wc_X_190 : Cond.classLink "LampYard" 190 (ly_cn 0) ∈ ly_T := ly_at 952 (by decide +kernel) rfl
theorem wc_Fa_15 : Cond.classLink "LampYard$Faults" 15 (ly_cn 7) ∈ ly_T := ly_at 903 (by decide +kernel) rfl
theorem wc_Sv_9 : Cond.classLink "LampYard$Survey" 9 (ly_cn 8) ∈ ly_T := ly_at 604 (by decide +kernel) rfl
theorem wc_Sv_18 : Cond.classLink "LampYard$Survey" 18 (ly_cn 7) ∈ ly_T := ly_at 614 (by decide +kernel) rfl
theorem wc_Sv_98 : Cond.classLink "LampYard$Survey" 98 (ly_cn 6) ∈ ly_T := ly_at 803 (by decide +kernel) rfl
theorem wf_X_9 : Cond.fieldLink "LampYard" 9 (ly_cn 10) (ly_TT 10 0).2.1 (ly_TT 10 0).2.2.1 ∈ ly_T := ly_at 261 (by decide +kernel) rfl
theorem wf_X_16 : Cond.fieldLink "LampYard" 16 (ly_cn 10) (ly_TT 10 2).2.1 (ly_TT 10 2).2.2.1 ∈ ly_T := ly_at 263 (by decide +kernel) rfl
theorem wf_X_23 : Cond.fieldLink "LampYard" 23 (ly_cn 10) (ly_TT 10 3).2.1 (ly_TT 10 3).2.2.1 ∈ ly_T := ly_at 264 (by decide +kernel) rfl
theorem wf_X_27 : Cond.fieldLink "LampYard" 27 (ly_cn 10) (ly_TT 10 4).2.1 (ly_TT 10 4).2.2.1 ∈ ly_T := ly_at 265 (by decide +kernel) rfl
theorem wf_X_33 : Cond.fieldLink "LampYard" 33 (ly_cn 10) (ly_TT 10 5).2.1 (ly_TT 10 5).2.2.1 ∈ ly_T := ly_at 266 (by decide +kernel) rfl
theorem wf_X_37 : Cond.fieldLink "LampYard" 37 (ly_cn 10) (ly_TT 10 6).2.1 (ly_TT 10 6).2.2.1 ∈ ly_T := ly_at 267 (by decide +kernel) rfl
theorem wf_X_44 : Cond.fieldLink "LampYard" 44 (ly_cn 10) (ly_TT 10 7).2.1 (ly_TT 10 7).2.2.1 ∈ ly_T := ly_at 268 (by decide +kernel) rfl
theorem wf_X_51 : Cond.fieldLink "LampYard" 51 (ly_cn 10) (ly_TT 10 1).2.1 (ly_TT 10 1).2.2.1 ∈ ly_T := ly_at 262 (by decide +kernel) rfl
theorem wf_X_63 : Cond.fieldLink "LampYard" 63 (ly_cn 4) (ly_TT 4 5).2.1 (ly_TT 4 5).2.2.1 ∈ ly_T := ly_at 105 (by decide +kernel) rfl
theorem wf_X_66 : Cond.fieldLink "LampYard" 66 (ly_cn 5) (ly_TT 5 0).2.1 (ly_TT 5 0).2.2.1 ∈ ly_T := ly_at 37 (by decide +kernel) rfl
theorem wf_X_69 : Cond.fieldLink "LampYard" 69 (ly_cn 5) (ly_TT 5 1).2.1 (ly_TT 5 1).2.2.1 ∈ ly_T := ly_at 39 (by decide +kernel) rfl
theorem wf_X_83 : Cond.fieldLink "LampYard" 83 (ly_cn 1) (ly_TT 1 2).2.1 (ly_TT 1 2).2.2.1 ∈ ly_T := ly_at 171 (by decide +kernel) rfl
theorem wf_X_87 : Cond.fieldLink "LampYard" 87 (ly_cn 1) (ly_TT 1 1).2.1 (ly_TT 1 1).2.2.1 ∈ ly_T := ly_at 169 (by decide +kernel) rfl
theorem wf_X_94 : Cond.fieldLink "LampYard" 94 (ly_cn 1) (ly_TT 1 0).2.1 (ly_TT 1 0).2.2.1 ∈ ly_T := ly_at 167 (by decide +kernel) rfl
theorem wf_X_126 : Cond.fieldLink "LampYard" 126 (ly_cn 1) (ly_TT 1 4).2.1 (ly_TT 1 4).2.2.1 ∈ ly_T := ly_at 174 (by decide +kernel) rfl
theorem wf_X_134 : Cond.fieldLink "LampYard" 134 (ly_cn 9) (ly_TT 9 5).2.1 (ly_TT 9 5).2.2.1 ∈ ly_T := ly_at 654 (by decide +kernel) rfl
theorem wf_X_139 : Cond.fieldLink "LampYard" 139 (ly_cn 9) (ly_TT 9 1).2.1 (ly_TT 9 1).2.2.1 ∈ ly_T := ly_at 644 (by decide +kernel) rfl
theorem wf_X_143 : Cond.fieldLink "LampYard" 143 (ly_cn 7) (ly_TT 7 0).2.1 (ly_TT 7 0).2.2.1 ∈ ly_T := ly_at 625 (by decide +kernel) rfl
theorem wf_X_148 : Cond.fieldLink "LampYard" 148 (ly_cn 9) (ly_TT 9 6).2.1 (ly_TT 9 6).2.2.1 ∈ ly_T := ly_at 656 (by decide +kernel) rfl
theorem wf_X_151 : Cond.fieldLink "LampYard" 151 (ly_cn 9) (ly_TT 9 7).2.1 (ly_TT 9 7).2.2.1 ∈ ly_T := ly_at 659 (by decide +kernel) rfl
theorem wf_X_154 : Cond.fieldLink "LampYard" 154 (ly_cn 9) (ly_TT 9 9).2.1 (ly_TT 9 9).2.2.1 ∈ ly_T := ly_at 663 (by decide +kernel) rfl
theorem wf_X_157 : Cond.fieldLink "LampYard" 157 (ly_cn 9) (ly_TT 9 10).2.1 (ly_TT 9 10).2.2.1 ∈ ly_T := ly_at 665 (by decide +kernel) rfl
theorem wf_X_160 : Cond.fieldLink "LampYard" 160 (ly_cn 9) (ly_TT 9 2).2.1 (ly_TT 9 2).2.2.1 ∈ ly_T := ly_at 646 (by decide +kernel) rfl
theorem wf_X_163 : Cond.fieldLink "LampYard" 163 (ly_cn 9) (ly_TT 9 8).2.1 (ly_TT 9 8).2.2.1 ∈ ly_T := ly_at 661 (by decide +kernel) rfl
theorem wf_X_170 : Cond.fieldLink "LampYard" 170 (ly_cn 9) (ly_TT 9 11).2.1 (ly_TT 9 11).2.2.1 ∈ ly_T := ly_at 667 (by decide +kernel) rfl
theorem wf_X_173 : Cond.fieldLink "LampYard" 173 (ly_cn 9) (ly_TT 9 3).2.1 (ly_TT 9 3).2.2.1 ∈ ly_T := ly_at 648 (by decide +kernel) rfl
theorem wf_X_178 : Cond.fieldLink "LampYard" 178 (ly_cn 10) (ly_TT 10 9).2.1 (ly_TT 10 9).2.2.1 ∈ ly_T := ly_at 270 (by decide +kernel) rfl
theorem wf_X_196 : Cond.fieldLink "LampYard" 196 (ly_cn 10) (ly_TT 10 10).2.1 (ly_TT 10 10).2.2.1 ∈ ly_T := ly_at 271 (by decide +kernel) rfl
theorem wf_X_255 : Cond.fieldLink "LampYard" 255 (ly_cn 1) (ly_TT 1 3).2.1 (ly_TT 1 3).2.2.1 ∈ ly_T := ly_at 172 (by decide +kernel) rfl
theorem wf_X_258 : Cond.fieldLink "LampYard" 258 (ly_cn 4) (ly_TT 4 4).2.1 (ly_TT 4 4).2.2.1 ∈ ly_T := ly_at 101 (by decide +kernel) rfl
theorem wf_X_261 : Cond.fieldLink "LampYard" 261 (ly_cn 4) (ly_TT 4 6).2.1 (ly_TT 4 6).2.2.1 ∈ ly_T := ly_at 111 (by decide +kernel) rfl
theorem wf_X_264 : Cond.fieldLink "LampYard" 264 (ly_cn 3) (ly_TT 3 0).2.1 (ly_TT 3 0).2.2.1 ∈ ly_T := ly_at 194 (by decide +kernel) rfl
theorem wf_X_267 : Cond.fieldLink "LampYard" 267 (ly_cn 3) (ly_TT 3 1).2.1 (ly_TT 3 1).2.2.1 ∈ ly_T := ly_at 196 (by decide +kernel) rfl
theorem wf_X_270 : Cond.fieldLink "LampYard" 270 (ly_cn 4) (ly_TT 4 7).2.1 (ly_TT 4 7).2.2.1 ∈ ly_T := ly_at 114 (by decide +kernel) rfl
theorem wf_X_273 : Cond.fieldLink "LampYard" 273 (ly_cn 10) (ly_TT 10 11).2.1 (ly_TT 10 11).2.2.1 ∈ ly_T := ly_at 272 (by decide +kernel) rfl
theorem wf_X_280 : Cond.fieldLink "LampYard" 280 (ly_cn 10) (ly_TT 10 8).2.1 (ly_TT 10 8).2.2.1 ∈ ly_T := ly_at 269 (by decide +kernel) rfl
theorem wf_Ch_11 : Cond.fieldLink "LampYard$Chance" 11 (ly_cn 0) (ly_TT 0 0).2.1 (ly_TT 0 0).2.2.1 ∈ ly_T := ly_at 958 (by decide +kernel) rfl
theorem wf_Ch_15 : Cond.fieldLink "LampYard$Chance" 15 (ly_cn 0) (ly_TT 0 1).2.1 (ly_TT 0 1).2.2.1 ∈ ly_T := ly_at 959 (by decide +kernel) rfl
theorem wf_Ch_19 : Cond.fieldLink "LampYard$Chance" 19 (ly_cn 0) (ly_TT 0 2).2.1 (ly_TT 0 2).2.2.1 ∈ ly_T := ly_at 960 (by decide +kernel) rfl
theorem wf_Ch_22 : Cond.fieldLink "LampYard$Chance" 22 (ly_cn 0) (ly_TT 0 3).2.1 (ly_TT 0 3).2.2.1 ∈ ly_T := ly_at 961 (by decide +kernel) rfl
theorem wf_Ch_25 : Cond.fieldLink "LampYard$Chance" 25 (ly_cn 0) (ly_TT 0 4).2.1 (ly_TT 0 4).2.2.1 ∈ ly_T := ly_at 962 (by decide +kernel) rfl
theorem wf_Ch_38 : Cond.fieldLink "LampYard$Chance" 38 (ly_cn 9) (ly_TT 9 1).2.1 (ly_TT 9 1).2.2.1 ∈ ly_T := ly_at 643 (by decide +kernel) rfl
theorem wf_Ch_44 : Cond.fieldLink "LampYard$Chance" 44 (ly_cn 9) (ly_TT 9 4).2.1 (ly_TT 9 4).2.2.1 ∈ ly_T := ly_at 651 (by decide +kernel) rfl
theorem wf_Ch_60 : Cond.fieldLink "LampYard$Chance" 60 (ly_cn 4) (ly_TT 4 5).2.1 (ly_TT 4 5).2.2.1 ∈ ly_T := ly_at 106 (by decide +kernel) rfl
theorem wf_Ch_67 : Cond.fieldLink "LampYard$Chance" 67 (ly_cn 7) (ly_TT 7 0).2.1 (ly_TT 7 0).2.2.1 ∈ ly_T := ly_at 624 (by decide +kernel) rfl
theorem wf_Co_9 : Cond.fieldLink "LampYard$Course" 9 (ly_cn 1) (ly_TT 1 4).2.1 (ly_TT 1 4).2.2.1 ∈ ly_T := ly_at 173 (by decide +kernel) rfl
theorem wf_Co_21 : Cond.fieldLink "LampYard$Course" 21 (ly_cn 1) (ly_TT 1 0).2.1 (ly_TT 1 0).2.2.1 ∈ ly_T := ly_at 166 (by decide +kernel) rfl
theorem wf_Co_25 : Cond.fieldLink "LampYard$Course" 25 (ly_cn 1) (ly_TT 1 1).2.1 (ly_TT 1 1).2.2.1 ∈ ly_T := ly_at 168 (by decide +kernel) rfl
theorem wf_Co_29 : Cond.fieldLink "LampYard$Course" 29 (ly_cn 1) (ly_TT 1 2).2.1 (ly_TT 1 2).2.2.1 ∈ ly_T := ly_at 170 (by decide +kernel) rfl
theorem wf_Fa_11 : Cond.fieldLink "LampYard$Faults" 11 (ly_cn 2) (ly_TT 2 0).2.1 (ly_TT 2 0).2.2.1 ∈ ly_T := ly_at 906 (by decide +kernel) rfl
theorem wf_Fa_18 : Cond.fieldLink "LampYard$Faults" 18 (ly_cn 2) (ly_TT 2 1).2.1 (ly_TT 2 1).2.2.1 ∈ ly_T := ly_at 907 (by decide +kernel) rfl
theorem wf_Fa_35 : Cond.fieldLink "LampYard$Faults" 35 (ly_cn 9) (ly_TT 9 1).2.1 (ly_TT 9 1).2.2.1 ∈ ly_T := ly_at 642 (by decide +kernel) rfl
theorem wf_Fa_40 : Cond.fieldLink "LampYard$Faults" 40 (ly_cn 7) (ly_TT 7 0).2.1 (ly_TT 7 0).2.2.1 ∈ ly_T := ly_at 623 (by decide +kernel) rfl
theorem wf_Fa_47 : Cond.fieldLink "LampYard$Faults" 47 (ly_cn 2) (ly_TT 2 2).2.1 (ly_TT 2 2).2.2.1 ∈ ly_T := ly_at 908 (by decide +kernel) rfl
theorem wf_Fa_51 : Cond.fieldLink "LampYard$Faults" 51 (ly_cn 9) (ly_TT 9 4).2.1 (ly_TT 9 4).2.2.1 ∈ ly_T := ly_at 652 (by decide +kernel) rfl
theorem wf_Fa_63 : Cond.fieldLink "LampYard$Faults" 63 (ly_cn 9) (ly_TT 9 7).2.1 (ly_TT 9 7).2.2.1 ∈ ly_T := ly_at 658 (by decide +kernel) rfl
theorem wf_Fa_70 : Cond.fieldLink "LampYard$Faults" 70 (ly_cn 4) (ly_TT 4 5).2.1 (ly_TT 4 5).2.2.1 ∈ ly_T := ly_at 107 (by decide +kernel) rfl
theorem wf_Fa_95 : Cond.fieldLink "LampYard$Faults" 95 (ly_cn 9) (ly_TT 9 0).2.1 (ly_TT 9 0).2.2.1 ∈ ly_T := ly_at 639 (by decide +kernel) rfl
theorem wf_Lo_11 : Cond.fieldLink "LampYard$Logs" 11 (ly_cn 3) (ly_TT 3 2).2.1 (ly_TT 3 2).2.2.1 ∈ ly_T := ly_at 197 (by decide +kernel) rfl
theorem wf_Lo_15 : Cond.fieldLink "LampYard$Logs" 15 (ly_cn 3) (ly_TT 3 3).2.1 (ly_TT 3 3).2.2.1 ∈ ly_T := ly_at 198 (by decide +kernel) rfl
theorem wf_Lo_18 : Cond.fieldLink "LampYard$Logs" 18 (ly_cn 3) (ly_TT 3 4).2.1 (ly_TT 3 4).2.2.1 ∈ ly_T := ly_at 199 (by decide +kernel) rfl
theorem wf_Lo_21 : Cond.fieldLink "LampYard$Logs" 21 (ly_cn 3) (ly_TT 3 5).2.1 (ly_TT 3 5).2.2.1 ∈ ly_T := ly_at 200 (by decide +kernel) rfl
theorem wf_Lo_24 : Cond.fieldLink "LampYard$Logs" 24 (ly_cn 3) (ly_TT 3 6).2.1 (ly_TT 3 6).2.2.1 ∈ ly_T := ly_at 201 (by decide +kernel) rfl
theorem wf_Lo_27 : Cond.fieldLink "LampYard$Logs" 27 (ly_cn 3) (ly_TT 3 7).2.1 (ly_TT 3 7).2.2.1 ∈ ly_T := ly_at 202 (by decide +kernel) rfl
theorem wf_Lo_30 : Cond.fieldLink "LampYard$Logs" 30 (ly_cn 3) (ly_TT 3 0).2.1 (ly_TT 3 0).2.2.1 ∈ ly_T := ly_at 193 (by decide +kernel) rfl
theorem wf_Lo_34 : Cond.fieldLink "LampYard$Logs" 34 (ly_cn 3) (ly_TT 3 1).2.1 (ly_TT 3 1).2.2.1 ∈ ly_T := ly_at 195 (by decide +kernel) rfl
theorem wf_Pl_11 : Cond.fieldLink "LampYard$Plan" 11 (ly_cn 4) (ly_TT 4 8).2.1 (ly_TT 4 8).2.2.1 ∈ ly_T := ly_at 115 (by decide +kernel) rfl
theorem wf_Pl_15 : Cond.fieldLink "LampYard$Plan" 15 (ly_cn 4) (ly_TT 4 9).2.1 (ly_TT 4 9).2.2.1 ∈ ly_T := ly_at 116 (by decide +kernel) rfl
theorem wf_Pl_18 : Cond.fieldLink "LampYard$Plan" 18 (ly_cn 4) (ly_TT 4 10).2.1 (ly_TT 4 10).2.2.1 ∈ ly_T := ly_at 117 (by decide +kernel) rfl
theorem wf_Pl_21 : Cond.fieldLink "LampYard$Plan" 21 (ly_cn 4) (ly_TT 4 11).2.1 (ly_TT 4 11).2.2.1 ∈ ly_T := ly_at 118 (by decide +kernel) rfl
theorem wf_Pl_25 : Cond.fieldLink "LampYard$Plan" 25 (ly_cn 4) (ly_TT 4 12).2.1 (ly_TT 4 12).2.2.1 ∈ ly_T := ly_at 119 (by decide +kernel) rfl
theorem wf_Pl_28 : Cond.fieldLink "LampYard$Plan" 28 (ly_cn 4) (ly_TT 4 13).2.1 (ly_TT 4 13).2.2.1 ∈ ly_T := ly_at 120 (by decide +kernel) rfl
theorem wf_Pl_31 : Cond.fieldLink "LampYard$Plan" 31 (ly_cn 4) (ly_TT 4 15).2.1 (ly_TT 4 15).2.2.1 ∈ ly_T := ly_at 122 (by decide +kernel) rfl
theorem wf_Pl_34 : Cond.fieldLink "LampYard$Plan" 34 (ly_cn 4) (ly_TT 4 16).2.1 (ly_TT 4 16).2.2.1 ∈ ly_T := ly_at 123 (by decide +kernel) rfl
theorem wf_Pl_40 : Cond.fieldLink "LampYard$Plan" 40 (ly_cn 4) (ly_TT 4 0).2.1 (ly_TT 4 0).2.2.1 ∈ ly_T := ly_at 91 (by decide +kernel) rfl
theorem wf_Pl_44 : Cond.fieldLink "LampYard$Plan" 44 (ly_cn 4) (ly_TT 4 1).2.1 (ly_TT 4 1).2.2.1 ∈ ly_T := ly_at 93 (by decide +kernel) rfl
theorem wf_Pl_47 : Cond.fieldLink "LampYard$Plan" 47 (ly_cn 4) (ly_TT 4 2).2.1 (ly_TT 4 2).2.2.1 ∈ ly_T := ly_at 95 (by decide +kernel) rfl
theorem wf_Pl_50 : Cond.fieldLink "LampYard$Plan" 50 (ly_cn 4) (ly_TT 4 3).2.1 (ly_TT 4 3).2.2.1 ∈ ly_T := ly_at 97 (by decide +kernel) rfl
theorem wf_Pl_53 : Cond.fieldLink "LampYard$Plan" 53 (ly_cn 4) (ly_TT 4 4).2.1 (ly_TT 4 4).2.2.1 ∈ ly_T := ly_at 99 (by decide +kernel) rfl
theorem wf_Pl_56 : Cond.fieldLink "LampYard$Plan" 56 (ly_cn 4) (ly_TT 4 5).2.1 (ly_TT 4 5).2.2.1 ∈ ly_T := ly_at 102 (by decide +kernel) rfl
theorem wf_Pl_59 : Cond.fieldLink "LampYard$Plan" 59 (ly_cn 4) (ly_TT 4 6).2.1 (ly_TT 4 6).2.2.1 ∈ ly_T := ly_at 109 (by decide +kernel) rfl
theorem wf_Pl_62 : Cond.fieldLink "LampYard$Plan" 62 (ly_cn 4) (ly_TT 4 7).2.1 (ly_TT 4 7).2.2.1 ∈ ly_T := ly_at 112 (by decide +kernel) rfl
theorem wf_Pl_65 : Cond.fieldLink "LampYard$Plan" 65 (ly_cn 4) (ly_TT 4 14).2.1 (ly_TT 4 14).2.2.1 ∈ ly_T := ly_at 121 (by decide +kernel) rfl
theorem wf_Rd_11 : Cond.fieldLink "LampYard$Reader" 11 (ly_cn 5) (ly_TT 5 5).2.1 (ly_TT 5 5).2.2.1 ∈ ly_T := ly_at 43 (by decide +kernel) rfl
theorem wf_Rd_17 : Cond.fieldLink "LampYard$Reader" 17 (ly_cn 5) (ly_TT 5 7).2.1 (ly_TT 5 7).2.2.1 ∈ ly_T := ly_at 45 (by decide +kernel) rfl
theorem wf_Rd_21 : Cond.fieldLink "LampYard$Reader" 21 (ly_cn 5) (ly_TT 5 8).2.1 (ly_TT 5 8).2.2.1 ∈ ly_T := ly_at 46 (by decide +kernel) rfl
theorem wf_Rd_24 : Cond.fieldLink "LampYard$Reader" 24 (ly_cn 5) (ly_TT 5 9).2.1 (ly_TT 5 9).2.2.1 ∈ ly_T := ly_at 47 (by decide +kernel) rfl
theorem wf_Rd_27 : Cond.fieldLink "LampYard$Reader" 27 (ly_cn 5) (ly_TT 5 1).2.1 (ly_TT 5 1).2.2.1 ∈ ly_T := ly_at 38 (by decide +kernel) rfl
theorem wf_Rd_31 : Cond.fieldLink "LampYard$Reader" 31 (ly_cn 5) (ly_TT 5 2).2.1 (ly_TT 5 2).2.2.1 ∈ ly_T := ly_at 40 (by decide +kernel) rfl
theorem wf_Rd_41 : Cond.fieldLink "LampYard$Reader" 41 (ly_cn 5) (ly_TT 5 3).2.1 (ly_TT 5 3).2.2.1 ∈ ly_T := ly_at 41 (by decide +kernel) rfl
theorem wf_Rd_44 : Cond.fieldLink "LampYard$Reader" 44 (ly_cn 5) (ly_TT 5 4).2.1 (ly_TT 5 4).2.2.1 ∈ ly_T := ly_at 42 (by decide +kernel) rfl
theorem wf_Rd_51 : Cond.fieldLink "LampYard$Reader" 51 (ly_cn 5) (ly_TT 5 0).2.1 (ly_TT 5 0).2.2.1 ∈ ly_T := ly_at 36 (by decide +kernel) rfl
theorem wf_Rd_54 : Cond.fieldLink "LampYard$Reader" 54 (ly_cn 5) (ly_TT 5 6).2.1 (ly_TT 5 6).2.2.1 ∈ ly_T := ly_at 44 (by decide +kernel) rfl
theorem wf_Rd_60 : Cond.fieldLink "LampYard$Reader" 60 (ly_cn 5) (ly_TT 5 11).2.1 (ly_TT 5 11).2.2.1 ∈ ly_T := ly_at 49 (by decide +kernel) rfl
theorem wf_Rd_66 : Cond.fieldLink "LampYard$Reader" 66 (ly_cn 5) (ly_TT 5 12).2.1 (ly_TT 5 12).2.2.1 ∈ ly_T := ly_at 50 (by decide +kernel) rfl
theorem wf_Rd_72 : Cond.fieldLink "LampYard$Reader" 72 (ly_cn 5) (ly_TT 5 10).2.1 (ly_TT 5 10).2.2.1 ∈ ly_T := ly_at 48 (by decide +kernel) rfl
theorem wf_Rd_141 : Cond.fieldLink "LampYard$Reader" 141 (ly_cn 4) (ly_TT 4 0).2.1 (ly_TT 4 0).2.2.1 ∈ ly_T := ly_at 92 (by decide +kernel) rfl
theorem wf_Rd_144 : Cond.fieldLink "LampYard$Reader" 144 (ly_cn 4) (ly_TT 4 1).2.1 (ly_TT 4 1).2.2.1 ∈ ly_T := ly_at 94 (by decide +kernel) rfl
theorem wf_Rd_147 : Cond.fieldLink "LampYard$Reader" 147 (ly_cn 4) (ly_TT 4 2).2.1 (ly_TT 4 2).2.2.1 ∈ ly_T := ly_at 96 (by decide +kernel) rfl
theorem wf_Rd_153 : Cond.fieldLink "LampYard$Reader" 153 (ly_cn 4) (ly_TT 4 3).2.1 (ly_TT 4 3).2.2.1 ∈ ly_T := ly_at 98 (by decide +kernel) rfl
theorem wf_Rd_156 : Cond.fieldLink "LampYard$Reader" 156 (ly_cn 4) (ly_TT 4 4).2.1 (ly_TT 4 4).2.2.1 ∈ ly_T := ly_at 100 (by decide +kernel) rfl
theorem wf_Rd_163 : Cond.fieldLink "LampYard$Reader" 163 (ly_cn 4) (ly_TT 4 5).2.1 (ly_TT 4 5).2.2.1 ∈ ly_T := ly_at 108 (by decide +kernel) rfl
theorem wf_Rd_170 : Cond.fieldLink "LampYard$Reader" 170 (ly_cn 4) (ly_TT 4 6).2.1 (ly_TT 4 6).2.2.1 ∈ ly_T := ly_at 110 (by decide +kernel) rfl
theorem wf_Rd_205 : Cond.fieldLink "LampYard$Reader" 205 (ly_cn 4) (ly_TT 4 7).2.1 (ly_TT 4 7).2.2.1 ∈ ly_T := ly_at 113 (by decide +kernel) rfl
theorem wf_Ro_9 : Cond.fieldLink "LampYard$Rounds" 9 (ly_cn 6) (ly_TT 6 1).2.1 (ly_TT 6 1).2.2.1 ∈ ly_T := ly_at 810 (by decide +kernel) rfl
theorem wf_Ro_15 : Cond.fieldLink "LampYard$Rounds" 15 (ly_cn 6) (ly_TT 6 2).2.1 (ly_TT 6 2).2.2.1 ∈ ly_T := ly_at 811 (by decide +kernel) rfl
theorem wf_Ro_18 : Cond.fieldLink "LampYard$Rounds" 18 (ly_cn 6) (ly_TT 6 3).2.1 (ly_TT 6 3).2.2.1 ∈ ly_T := ly_at 812 (by decide +kernel) rfl
theorem wf_Ro_21 : Cond.fieldLink "LampYard$Rounds" 21 (ly_cn 6) (ly_TT 6 4).2.1 (ly_TT 6 4).2.2.1 ∈ ly_T := ly_at 813 (by decide +kernel) rfl
theorem wf_Ro_24 : Cond.fieldLink "LampYard$Rounds" 24 (ly_cn 6) (ly_TT 6 5).2.1 (ly_TT 6 5).2.2.1 ∈ ly_T := ly_at 814 (by decide +kernel) rfl
theorem wf_Ro_27 : Cond.fieldLink "LampYard$Rounds" 27 (ly_cn 6) (ly_TT 6 6).2.1 (ly_TT 6 6).2.2.1 ∈ ly_T := ly_at 815 (by decide +kernel) rfl
theorem wf_Ro_30 : Cond.fieldLink "LampYard$Rounds" 30 (ly_cn 6) (ly_TT 6 0).2.1 (ly_TT 6 0).2.2.1 ∈ ly_T := ly_at 809 (by decide +kernel) rfl
theorem wf_Ro_40 : Cond.fieldLink "LampYard$Rounds" 40 (ly_cn 6) (ly_TT 6 7).2.1 (ly_TT 6 7).2.2.1 ∈ ly_T := ly_at 816 (by decide +kernel) rfl
theorem wf_Ro_44 : Cond.fieldLink "LampYard$Rounds" 44 (ly_cn 6) (ly_TT 6 8).2.1 (ly_TT 6 8).2.2.1 ∈ ly_T := ly_at 817 (by decide +kernel) rfl
theorem wf_Ro_47 : Cond.fieldLink "LampYard$Rounds" 47 (ly_cn 6) (ly_TT 6 9).2.1 (ly_TT 6 9).2.2.1 ∈ ly_T := ly_at 818 (by decide +kernel) rfl
theorem wf_Ro_50 : Cond.fieldLink "LampYard$Rounds" 50 (ly_cn 6) (ly_TT 6 10).2.1 (ly_TT 6 10).2.2.1 ∈ ly_T := ly_at 819 (by decide +kernel) rfl
theorem wf_Ro_53 : Cond.fieldLink "LampYard$Rounds" 53 (ly_cn 6) (ly_TT 6 11).2.1 (ly_TT 6 11).2.2.1 ∈ ly_T := ly_at 820 (by decide +kernel) rfl
theorem wf_Ro_56 : Cond.fieldLink "LampYard$Rounds" 56 (ly_cn 9) (ly_TT 9 1).2.1 (ly_TT 9 1).2.2.1 ∈ ly_T := ly_at 641 (by decide +kernel) rfl
theorem wf_Ro_62 : Cond.fieldLink "LampYard$Rounds" 62 (ly_cn 7) (ly_TT 7 0).2.1 (ly_TT 7 0).2.2.1 ∈ ly_T := ly_at 621 (by decide +kernel) rfl
theorem wf_Ro_75 : Cond.fieldLink "LampYard$Rounds" 75 (ly_cn 9) (ly_TT 9 4).2.1 (ly_TT 9 4).2.2.1 ∈ ly_T := ly_at 650 (by decide +kernel) rfl
theorem wf_Ro_79 : Cond.fieldLink "LampYard$Rounds" 79 (ly_cn 4) (ly_TT 4 5).2.1 (ly_TT 4 5).2.2.1 ∈ ly_T := ly_at 104 (by decide +kernel) rfl
theorem wf_Ss_9 : Cond.fieldLink "LampYard$StateSet" 9 (ly_cn 7) (ly_TT 7 2).2.1 (ly_TT 7 2).2.2.1 ∈ ly_T := ly_at 627 (by decide +kernel) rfl
theorem wf_Ss_15 : Cond.fieldLink "LampYard$StateSet" 15 (ly_cn 7) (ly_TT 7 3).2.1 (ly_TT 7 3).2.2.1 ∈ ly_T := ly_at 628 (by decide +kernel) rfl
theorem wf_Ss_19 : Cond.fieldLink "LampYard$StateSet" 19 (ly_cn 7) (ly_TT 7 0).2.1 (ly_TT 7 0).2.2.1 ∈ ly_T := ly_at 620 (by decide +kernel) rfl
theorem wf_Ss_29 : Cond.fieldLink "LampYard$StateSet" 29 (ly_cn 7) (ly_TT 7 1).2.1 (ly_TT 7 1).2.2.1 ∈ ly_T := ly_at 626 (by decide +kernel) rfl
theorem wf_Sp_11 : Cond.fieldLink "LampYard$Steps" 11 (ly_cn 8) (ly_TT 8 0).2.1 (ly_TT 8 0).2.2.1 ∈ ly_T := ly_at 610 (by decide +kernel) rfl
theorem wf_Sv_12 : Cond.fieldLink "LampYard$Survey" 12 (ly_cn 9) (ly_TT 9 0).2.1 (ly_TT 9 0).2.2.1 ∈ ly_T := ly_at 638 (by decide +kernel) rfl
theorem wf_Sv_21 : Cond.fieldLink "LampYard$Survey" 21 (ly_cn 9) (ly_TT 9 1).2.1 (ly_TT 9 1).2.2.1 ∈ ly_T := ly_at 640 (by decide +kernel) rfl
theorem wf_Sv_25 : Cond.fieldLink "LampYard$Survey" 25 (ly_cn 9) (ly_TT 9 2).2.1 (ly_TT 9 2).2.2.1 ∈ ly_T := ly_at 645 (by decide +kernel) rfl
theorem wf_Sv_29 : Cond.fieldLink "LampYard$Survey" 29 (ly_cn 9) (ly_TT 9 3).2.1 (ly_TT 9 3).2.2.1 ∈ ly_T := ly_at 647 (by decide +kernel) rfl
theorem wf_Sv_32 : Cond.fieldLink "LampYard$Survey" 32 (ly_cn 9) (ly_TT 9 12).2.1 (ly_TT 9 12).2.2.1 ∈ ly_T := ly_at 668 (by decide +kernel) rfl
theorem wf_Sv_35 : Cond.fieldLink "LampYard$Survey" 35 (ly_cn 9) (ly_TT 9 13).2.1 (ly_TT 9 13).2.2.1 ∈ ly_T := ly_at 669 (by decide +kernel) rfl
theorem wf_Sv_38 : Cond.fieldLink "LampYard$Survey" 38 (ly_cn 9) (ly_TT 9 4).2.1 (ly_TT 9 4).2.2.1 ∈ ly_T := ly_at 649 (by decide +kernel) rfl
theorem wf_Sv_48 : Cond.fieldLink "LampYard$Survey" 48 (ly_cn 9) (ly_TT 9 5).2.1 (ly_TT 9 5).2.2.1 ∈ ly_T := ly_at 653 (by decide +kernel) rfl
theorem wf_Sv_52 : Cond.fieldLink "LampYard$Survey" 52 (ly_cn 9) (ly_TT 9 6).2.1 (ly_TT 9 6).2.2.1 ∈ ly_T := ly_at 655 (by decide +kernel) rfl
theorem wf_Sv_56 : Cond.fieldLink "LampYard$Survey" 56 (ly_cn 9) (ly_TT 9 7).2.1 (ly_TT 9 7).2.2.1 ∈ ly_T := ly_at 657 (by decide +kernel) rfl
theorem wf_Sv_59 : Cond.fieldLink "LampYard$Survey" 59 (ly_cn 9) (ly_TT 9 8).2.1 (ly_TT 9 8).2.2.1 ∈ ly_T := ly_at 660 (by decide +kernel) rfl
theorem wf_Sv_62 : Cond.fieldLink "LampYard$Survey" 62 (ly_cn 9) (ly_TT 9 9).2.1 (ly_TT 9 9).2.2.1 ∈ ly_T := ly_at 662 (by decide +kernel) rfl
theorem wf_Sv_65 : Cond.fieldLink "LampYard$Survey" 65 (ly_cn 9) (ly_TT 9 10).2.1 (ly_TT 9 10).2.2.1 ∈ ly_T := ly_at 664 (by decide +kernel) rfl
theorem wf_Sv_68 : Cond.fieldLink "LampYard$Survey" 68 (ly_cn 4) (ly_TT 4 5).2.1 (ly_TT 4 5).2.2.1 ∈ ly_T := ly_at 103 (by decide +kernel) rfl
theorem wf_Sv_73 : Cond.fieldLink "LampYard$Survey" 73 (ly_cn 9) (ly_TT 9 11).2.1 (ly_TT 9 11).2.2.1 ∈ ly_T := ly_at 666 (by decide +kernel) rfl
theorem wf_Sv_82 : Cond.fieldLink "LampYard$Survey" 82 (ly_cn 9) (ly_TT 9 15).2.1 (ly_TT 9 15).2.2.1 ∈ ly_T := ly_at 671 (by decide +kernel) rfl
theorem wf_Sv_88 : Cond.fieldLink "LampYard$Survey" 88 (ly_cn 7) (ly_TT 7 0).2.1 (ly_TT 7 0).2.2.1 ∈ ly_T := ly_at 622 (by decide +kernel) rfl
theorem wf_Sv_94 : Cond.fieldLink "LampYard$Survey" 94 (ly_cn 9) (ly_TT 9 14).2.1 (ly_TT 9 14).2.2.1 ∈ ly_T := ly_at 670 (by decide +kernel) rfl
theorem wf_M_7 : Cond.fieldLink "LampYardModel" 7 (ly_cn 11) (ly_TT 11 0).2.1 (ly_TT 11 0).2.2.1 ∈ ly_T := ly_at 1147 (by decide +kernel) rfl
theorem wf_M_13 : Cond.fieldLink "LampYardModel" 13 (ly_cn 11) (ly_TT 11 3).2.1 (ly_TT 11 3).2.2.1 ∈ ly_T := ly_at 1150 (by decide +kernel) rfl
theorem wf_M_17 : Cond.fieldLink "LampYardModel" 17 (ly_cn 11) (ly_TT 11 10).2.1 (ly_TT 11 10).2.2.1 ∈ ly_T := ly_at 1157 (by decide +kernel) rfl
theorem wf_M_21 : Cond.fieldLink "LampYardModel" 21 (ly_cn 11) (ly_TT 11 11).2.1 (ly_TT 11 11).2.2.1 ∈ ly_T := ly_at 1158 (by decide +kernel) rfl
theorem wf_M_24 : Cond.fieldLink "LampYardModel" 24 (ly_cn 11) (ly_TT 11 12).2.1 (ly_TT 11 12).2.2.1 ∈ ly_T := ly_at 1159 (by decide +kernel) rfl
theorem wf_M_27 : Cond.fieldLink "LampYardModel" 27 (ly_cn 11) (ly_TT 11 13).2.1 (ly_TT 11 13).2.2.1 ∈ ly_T := ly_at 1160 (by decide +kernel) rfl
theorem wf_M_30 : Cond.fieldLink "LampYardModel" 30 (ly_cn 11) (ly_TT 11 14).2.1 (ly_TT 11 14).2.2.1 ∈ ly_T := ly_at 1161 (by decide +kernel) rfl
theorem wf_M_33 : Cond.fieldLink "LampYardModel" 33 (ly_cn 11) (ly_TT 11 15).2.1 (ly_TT 11 15).2.2.1 ∈ ly_T := ly_at 1162 (by decide +kernel) rfl
theorem wf_M_36 : Cond.fieldLink "LampYardModel" 36 (ly_cn 11) (ly_TT 11 16).2.1 (ly_TT 11 16).2.2.1 ∈ ly_T := ly_at 1163 (by decide +kernel) rfl
theorem wf_M_39 : Cond.fieldLink "LampYardModel" 39 (ly_cn 11) (ly_TT 11 17).2.1 (ly_TT 11 17).2.2.1 ∈ ly_T := ly_at 1164 (by decide +kernel) rfl
theorem wf_M_43 : Cond.fieldLink "LampYardModel" 43 (ly_cn 11) (ly_TT 11 18).2.1 (ly_TT 11 18).2.2.1 ∈ ly_T := ly_at 1165 (by decide +kernel) rfl
theorem wf_M_46 : Cond.fieldLink "LampYardModel" 46 (ly_cn 11) (ly_TT 11 19).2.1 (ly_TT 11 19).2.2.1 ∈ ly_T := ly_at 1166 (by decide +kernel) rfl
theorem wf_M_49 : Cond.fieldLink "LampYardModel" 49 (ly_cn 11) (ly_TT 11 36).2.1 (ly_TT 11 36).2.2.1 ∈ ly_T := ly_at 1183 (by decide +kernel) rfl
theorem wf_M_52 : Cond.fieldLink "LampYardModel" 52 (ly_cn 11) (ly_TT 11 37).2.1 (ly_TT 11 37).2.2.1 ∈ ly_T := ly_at 1184 (by decide +kernel) rfl
theorem wf_M_55 : Cond.fieldLink "LampYardModel" 55 (ly_cn 11) (ly_TT 11 38).2.1 (ly_TT 11 38).2.2.1 ∈ ly_T := ly_at 1185 (by decide +kernel) rfl
theorem wf_M_58 : Cond.fieldLink "LampYardModel" 58 (ly_cn 11) (ly_TT 11 39).2.1 (ly_TT 11 39).2.2.1 ∈ ly_T := ly_at 1186 (by decide +kernel) rfl
theorem wf_M_61 : Cond.fieldLink "LampYardModel" 61 (ly_cn 11) (ly_TT 11 40).2.1 (ly_TT 11 40).2.2.1 ∈ ly_T := ly_at 1187 (by decide +kernel) rfl
theorem wf_M_64 : Cond.fieldLink "LampYardModel" 64 (ly_cn 11) (ly_TT 11 41).2.1 (ly_TT 11 41).2.2.1 ∈ ly_T := ly_at 1188 (by decide +kernel) rfl
theorem wf_M_67 : Cond.fieldLink "LampYardModel" 67 (ly_cn 11) (ly_TT 11 42).2.1 (ly_TT 11 42).2.2.1 ∈ ly_T := ly_at 1189 (by decide +kernel) rfl
theorem wf_M_70 : Cond.fieldLink "LampYardModel" 70 (ly_cn 11) (ly_TT 11 43).2.1 (ly_TT 11 43).2.2.1 ∈ ly_T := ly_at 1190 (by decide +kernel) rfl
theorem wf_M_73 : Cond.fieldLink "LampYardModel" 73 (ly_cn 11) (ly_TT 11 47).2.1 (ly_TT 11 47).2.2.1 ∈ ly_T := ly_at 1194 (by decide +kernel) rfl
theorem wf_M_76 : Cond.fieldLink "LampYardModel" 76 (ly_cn 11) (ly_TT 11 48).2.1 (ly_TT 11 48).2.2.1 ∈ ly_T := ly_at 1195 (by decide +kernel) rfl
theorem wf_M_79 : Cond.fieldLink "LampYardModel" 79 (ly_cn 11) (ly_TT 11 49).2.1 (ly_TT 11 49).2.2.1 ∈ ly_T := ly_at 1196 (by decide +kernel) rfl
theorem wf_M_82 : Cond.fieldLink "LampYardModel" 82 (ly_cn 11) (ly_TT 11 50).2.1 (ly_TT 11 50).2.2.1 ∈ ly_T := ly_at 1197 (by decide +kernel) rfl
theorem wf_M_85 : Cond.fieldLink "LampYardModel" 85 (ly_cn 11) (ly_TT 11 57).2.1 (ly_TT 11 57).2.2.1 ∈ ly_T := ly_at 1204 (by decide +kernel) rfl
theorem wf_M_88 : Cond.fieldLink "LampYardModel" 88 (ly_cn 11) (ly_TT 11 58).2.1 (ly_TT 11 58).2.2.1 ∈ ly_T := ly_at 1205 (by decide +kernel) rfl
theorem wf_M_91 : Cond.fieldLink "LampYardModel" 91 (ly_cn 11) (ly_TT 11 59).2.1 (ly_TT 11 59).2.2.1 ∈ ly_T := ly_at 1206 (by decide +kernel) rfl
theorem wf_M_94 : Cond.fieldLink "LampYardModel" 94 (ly_cn 11) (ly_TT 11 62).2.1 (ly_TT 11 62).2.2.1 ∈ ly_T := ly_at 1209 (by decide +kernel) rfl
theorem wf_M_97 : Cond.fieldLink "LampYardModel" 97 (ly_cn 11) (ly_TT 11 63).2.1 (ly_TT 11 63).2.2.1 ∈ ly_T := ly_at 1210 (by decide +kernel) rfl
theorem wf_M_100 : Cond.fieldLink "LampYardModel" 100 (ly_cn 11) (ly_TT 11 64).2.1 (ly_TT 11 64).2.2.1 ∈ ly_T := ly_at 1211 (by decide +kernel) rfl
theorem wf_M_103 : Cond.fieldLink "LampYardModel" 103 (ly_cn 11) (ly_TT 11 68).2.1 (ly_TT 11 68).2.2.1 ∈ ly_T := ly_at 1215 (by decide +kernel) rfl
theorem wf_M_106 : Cond.fieldLink "LampYardModel" 106 (ly_cn 11) (ly_TT 11 69).2.1 (ly_TT 11 69).2.2.1 ∈ ly_T := ly_at 1216 (by decide +kernel) rfl
theorem wf_M_109 : Cond.fieldLink "LampYardModel" 109 (ly_cn 11) (ly_TT 11 70).2.1 (ly_TT 11 70).2.2.1 ∈ ly_T := ly_at 1217 (by decide +kernel) rfl
theorem wf_M_112 : Cond.fieldLink "LampYardModel" 112 (ly_cn 11) (ly_TT 11 71).2.1 (ly_TT 11 71).2.2.1 ∈ ly_T := ly_at 1218 (by decide +kernel) rfl
theorem wf_M_115 : Cond.fieldLink "LampYardModel" 115 (ly_cn 11) (ly_TT 11 72).2.1 (ly_TT 11 72).2.2.1 ∈ ly_T := ly_at 1219 (by decide +kernel) rfl
theorem wf_M_118 : Cond.fieldLink "LampYardModel" 118 (ly_cn 11) (ly_TT 11 73).2.1 (ly_TT 11 73).2.2.1 ∈ ly_T := ly_at 1220 (by decide +kernel) rfl
theorem wf_M_121 : Cond.fieldLink "LampYardModel" 121 (ly_cn 11) (ly_TT 11 74).2.1 (ly_TT 11 74).2.2.1 ∈ ly_T := ly_at 1221 (by decide +kernel) rfl
theorem wf_M_124 : Cond.fieldLink "LampYardModel" 124 (ly_cn 11) (ly_TT 11 75).2.1 (ly_TT 11 75).2.2.1 ∈ ly_T := ly_at 1222 (by decide +kernel) rfl
theorem wf_M_127 : Cond.fieldLink "LampYardModel" 127 (ly_cn 11) (ly_TT 11 76).2.1 (ly_TT 11 76).2.2.1 ∈ ly_T := ly_at 1223 (by decide +kernel) rfl
theorem wf_M_130 : Cond.fieldLink "LampYardModel" 130 (ly_cn 11) (ly_TT 11 77).2.1 (ly_TT 11 77).2.2.1 ∈ ly_T := ly_at 1224 (by decide +kernel) rfl
theorem wf_M_133 : Cond.fieldLink "LampYardModel" 133 (ly_cn 11) (ly_TT 11 78).2.1 (ly_TT 11 78).2.2.1 ∈ ly_T := ly_at 1225 (by decide +kernel) rfl
theorem wf_M_136 : Cond.fieldLink "LampYardModel" 136 (ly_cn 11) (ly_TT 11 79).2.1 (ly_TT 11 79).2.2.1 ∈ ly_T := ly_at 1226 (by decide +kernel) rfl
theorem wf_M_139 : Cond.fieldLink "LampYardModel" 139 (ly_cn 11) (ly_TT 11 80).2.1 (ly_TT 11 80).2.2.1 ∈ ly_T := ly_at 1227 (by decide +kernel) rfl
theorem wf_M_142 : Cond.fieldLink "LampYardModel" 142 (ly_cn 11) (ly_TT 11 81).2.1 (ly_TT 11 81).2.2.1 ∈ ly_T := ly_at 1228 (by decide +kernel) rfl
theorem wf_M_145 : Cond.fieldLink "LampYardModel" 145 (ly_cn 11) (ly_TT 11 82).2.1 (ly_TT 11 82).2.2.1 ∈ ly_T := ly_at 1229 (by decide +kernel) rfl
theorem wf_M_148 : Cond.fieldLink "LampYardModel" 148 (ly_cn 11) (ly_TT 11 83).2.1 (ly_TT 11 83).2.2.1 ∈ ly_T := ly_at 1230 (by decide +kernel) rfl
theorem wf_M_151 : Cond.fieldLink "LampYardModel" 151 (ly_cn 11) (ly_TT 11 84).2.1 (ly_TT 11 84).2.2.1 ∈ ly_T := ly_at 1231 (by decide +kernel) rfl
theorem wf_M_154 : Cond.fieldLink "LampYardModel" 154 (ly_cn 11) (ly_TT 11 87).2.1 (ly_TT 11 87).2.2.1 ∈ ly_T := ly_at 1234 (by decide +kernel) rfl
theorem wf_M_157 : Cond.fieldLink "LampYardModel" 157 (ly_cn 11) (ly_TT 11 88).2.1 (ly_TT 11 88).2.2.1 ∈ ly_T := ly_at 1235 (by decide +kernel) rfl
theorem wf_M_160 : Cond.fieldLink "LampYardModel" 160 (ly_cn 11) (ly_TT 11 89).2.1 (ly_TT 11 89).2.2.1 ∈ ly_T := ly_at 1236 (by decide +kernel) rfl
theorem wf_M_163 : Cond.fieldLink "LampYardModel" 163 (ly_cn 11) (ly_TT 11 90).2.1 (ly_TT 11 90).2.2.1 ∈ ly_T := ly_at 1237 (by decide +kernel) rfl
theorem wf_M_166 : Cond.fieldLink "LampYardModel" 166 (ly_cn 11) (ly_TT 11 91).2.1 (ly_TT 11 91).2.2.1 ∈ ly_T := ly_at 1238 (by decide +kernel) rfl
theorem wf_M_169 : Cond.fieldLink "LampYardModel" 169 (ly_cn 11) (ly_TT 11 92).2.1 (ly_TT 11 92).2.2.1 ∈ ly_T := ly_at 1239 (by decide +kernel) rfl
theorem wf_M_172 : Cond.fieldLink "LampYardModel" 172 (ly_cn 11) (ly_TT 11 93).2.1 (ly_TT 11 93).2.2.1 ∈ ly_T := ly_at 1240 (by decide +kernel) rfl
theorem wf_M_175 : Cond.fieldLink "LampYardModel" 175 (ly_cn 11) (ly_TT 11 94).2.1 (ly_TT 11 94).2.2.1 ∈ ly_T := ly_at 1241 (by decide +kernel) rfl
theorem wf_M_178 : Cond.fieldLink "LampYardModel" 178 (ly_cn 11) (ly_TT 11 95).2.1 (ly_TT 11 95).2.2.1 ∈ ly_T := ly_at 1242 (by decide +kernel) rfl
theorem wf_M_188 : Cond.fieldLink "LampYardModel" 188 (ly_cn 11) (ly_TT 11 1).2.1 (ly_TT 11 1).2.2.1 ∈ ly_T := ly_at 1148 (by decide +kernel) rfl
theorem wf_M_194 : Cond.fieldLink "LampYardModel" 194 (ly_cn 11) (ly_TT 11 4).2.1 (ly_TT 11 4).2.2.1 ∈ ly_T := ly_at 1151 (by decide +kernel) rfl
theorem wf_M_197 : Cond.fieldLink "LampYardModel" 197 (ly_cn 11) (ly_TT 11 5).2.1 (ly_TT 11 5).2.2.1 ∈ ly_T := ly_at 1152 (by decide +kernel) rfl
theorem wf_M_204 : Cond.fieldLink "LampYardModel" 204 (ly_cn 11) (ly_TT 11 7).2.1 (ly_TT 11 7).2.2.1 ∈ ly_T := ly_at 1154 (by decide +kernel) rfl
theorem wf_M_207 : Cond.fieldLink "LampYardModel" 207 (ly_cn 11) (ly_TT 11 9).2.1 (ly_TT 11 9).2.2.1 ∈ ly_T := ly_at 1156 (by decide +kernel) rfl
theorem wf_M_211 : Cond.fieldLink "LampYardModel" 211 (ly_cn 11) (ly_TT 11 8).2.1 (ly_TT 11 8).2.2.1 ∈ ly_T := ly_at 1155 (by decide +kernel) rfl
theorem wf_M_214 : Cond.fieldLink "LampYardModel" 214 (ly_cn 11) (ly_TT 11 6).2.1 (ly_TT 11 6).2.2.1 ∈ ly_T := ly_at 1153 (by decide +kernel) rfl
theorem wf_M_227 : Cond.fieldLink "LampYardModel" 227 (ly_cn 11) (ly_TT 11 2).2.1 (ly_TT 11 2).2.2.1 ∈ ly_T := ly_at 1149 (by decide +kernel) rfl
theorem wf_M_288 : Cond.fieldLink "LampYardModel" 288 (ly_cn 11) (ly_TT 11 44).2.1 (ly_TT 11 44).2.2.1 ∈ ly_T := ly_at 1191 (by decide +kernel) rfl
theorem wf_M_291 : Cond.fieldLink "LampYardModel" 291 (ly_cn 11) (ly_TT 11 45).2.1 (ly_TT 11 45).2.2.1 ∈ ly_T := ly_at 1192 (by decide +kernel) rfl
theorem wf_M_294 : Cond.fieldLink "LampYardModel" 294 (ly_cn 11) (ly_TT 11 46).2.1 (ly_TT 11 46).2.2.1 ∈ ly_T := ly_at 1193 (by decide +kernel) rfl
theorem wf_M_311 : Cond.fieldLink "LampYardModel" 311 (ly_cn 11) (ly_TT 11 27).2.1 (ly_TT 11 27).2.2.1 ∈ ly_T := ly_at 1174 (by decide +kernel) rfl
theorem wf_M_327 : Cond.fieldLink "LampYardModel" 327 (ly_cn 11) (ly_TT 11 26).2.1 (ly_TT 11 26).2.2.1 ∈ ly_T := ly_at 1173 (by decide +kernel) rfl
theorem wf_M_339 : Cond.fieldLink "LampYardModel" 339 (ly_cn 11) (ly_TT 11 24).2.1 (ly_TT 11 24).2.2.1 ∈ ly_T := ly_at 1171 (by decide +kernel) rfl
theorem wf_M_349 : Cond.fieldLink "LampYardModel" 349 (ly_cn 11) (ly_TT 11 25).2.1 (ly_TT 11 25).2.2.1 ∈ ly_T := ly_at 1172 (by decide +kernel) rfl
theorem wf_M_359 : Cond.fieldLink "LampYardModel" 359 (ly_cn 11) (ly_TT 11 23).2.1 (ly_TT 11 23).2.2.1 ∈ ly_T := ly_at 1170 (by decide +kernel) rfl
theorem wf_M_365 : Cond.fieldLink "LampYardModel" 365 (ly_cn 11) (ly_TT 11 20).2.1 (ly_TT 11 20).2.2.1 ∈ ly_T := ly_at 1167 (by decide +kernel) rfl
theorem wf_M_368 : Cond.fieldLink "LampYardModel" 368 (ly_cn 11) (ly_TT 11 21).2.1 (ly_TT 11 21).2.2.1 ∈ ly_T := ly_at 1168 (by decide +kernel) rfl
theorem wf_M_371 : Cond.fieldLink "LampYardModel" 371 (ly_cn 11) (ly_TT 11 22).2.1 (ly_TT 11 22).2.2.1 ∈ ly_T := ly_at 1169 (by decide +kernel) rfl
theorem wf_M_383 : Cond.fieldLink "LampYardModel" 383 (ly_cn 11) (ly_TT 11 28).2.1 (ly_TT 11 28).2.2.1 ∈ ly_T := ly_at 1175 (by decide +kernel) rfl
theorem wf_M_386 : Cond.fieldLink "LampYardModel" 386 (ly_cn 11) (ly_TT 11 29).2.1 (ly_TT 11 29).2.2.1 ∈ ly_T := ly_at 1176 (by decide +kernel) rfl
theorem wf_M_389 : Cond.fieldLink "LampYardModel" 389 (ly_cn 11) (ly_TT 11 30).2.1 (ly_TT 11 30).2.2.1 ∈ ly_T := ly_at 1177 (by decide +kernel) rfl
theorem wf_M_392 : Cond.fieldLink "LampYardModel" 392 (ly_cn 11) (ly_TT 11 31).2.1 (ly_TT 11 31).2.2.1 ∈ ly_T := ly_at 1178 (by decide +kernel) rfl
theorem wf_M_398 : Cond.fieldLink "LampYardModel" 398 (ly_cn 11) (ly_TT 11 32).2.1 (ly_TT 11 32).2.2.1 ∈ ly_T := ly_at 1179 (by decide +kernel) rfl
theorem wf_M_401 : Cond.fieldLink "LampYardModel" 401 (ly_cn 11) (ly_TT 11 33).2.1 (ly_TT 11 33).2.2.1 ∈ ly_T := ly_at 1180 (by decide +kernel) rfl
theorem wf_M_404 : Cond.fieldLink "LampYardModel" 404 (ly_cn 11) (ly_TT 11 34).2.1 (ly_TT 11 34).2.2.1 ∈ ly_T := ly_at 1181 (by decide +kernel) rfl
theorem wf_M_407 : Cond.fieldLink "LampYardModel" 407 (ly_cn 11) (ly_TT 11 35).2.1 (ly_TT 11 35).2.2.1 ∈ ly_T := ly_at 1182 (by decide +kernel) rfl
theorem wf_M_410 : Cond.fieldLink "LampYardModel" 410 (ly_cn 11) (ly_TT 11 85).2.1 (ly_TT 11 85).2.2.1 ∈ ly_T := ly_at 1232 (by decide +kernel) rfl
theorem wf_M_413 : Cond.fieldLink "LampYardModel" 413 (ly_cn 11) (ly_TT 11 51).2.1 (ly_TT 11 51).2.2.1 ∈ ly_T := ly_at 1198 (by decide +kernel) rfl
theorem wf_M_416 : Cond.fieldLink "LampYardModel" 416 (ly_cn 11) (ly_TT 11 52).2.1 (ly_TT 11 52).2.2.1 ∈ ly_T := ly_at 1199 (by decide +kernel) rfl
theorem wf_M_429 : Cond.fieldLink "LampYardModel" 429 (ly_cn 11) (ly_TT 11 53).2.1 (ly_TT 11 53).2.2.1 ∈ ly_T := ly_at 1200 (by decide +kernel) rfl
theorem wf_M_436 : Cond.fieldLink "LampYardModel" 436 (ly_cn 11) (ly_TT 11 54).2.1 (ly_TT 11 54).2.2.1 ∈ ly_T := ly_at 1201 (by decide +kernel) rfl
theorem wf_M_442 : Cond.fieldLink "LampYardModel" 442 (ly_cn 11) (ly_TT 11 60).2.1 (ly_TT 11 60).2.2.1 ∈ ly_T := ly_at 1207 (by decide +kernel) rfl
theorem wf_M_445 : Cond.fieldLink "LampYardModel" 445 (ly_cn 11) (ly_TT 11 61).2.1 (ly_TT 11 61).2.2.1 ∈ ly_T := ly_at 1208 (by decide +kernel) rfl
theorem wf_M_451 : Cond.fieldLink "LampYardModel" 451 (ly_cn 11) (ly_TT 11 55).2.1 (ly_TT 11 55).2.2.1 ∈ ly_T := ly_at 1202 (by decide +kernel) rfl
theorem wf_M_454 : Cond.fieldLink "LampYardModel" 454 (ly_cn 11) (ly_TT 11 56).2.1 (ly_TT 11 56).2.2.1 ∈ ly_T := ly_at 1203 (by decide +kernel) rfl
theorem wf_M_469 : Cond.fieldLink "LampYardModel" 469 (ly_cn 11) (ly_TT 11 67).2.1 (ly_TT 11 67).2.2.1 ∈ ly_T := ly_at 1214 (by decide +kernel) rfl
theorem wf_M_489 : Cond.fieldLink "LampYardModel" 489 (ly_cn 11) (ly_TT 11 65).2.1 (ly_TT 11 65).2.2.1 ∈ ly_T := ly_at 1212 (by decide +kernel) rfl
theorem wf_M_492 : Cond.fieldLink "LampYardModel" 492 (ly_cn 11) (ly_TT 11 66).2.1 (ly_TT 11 66).2.2.1 ∈ ly_T := ly_at 1213 (by decide +kernel) rfl
theorem wf_M_580 : Cond.fieldLink "LampYardModel" 580 (ly_cn 11) (ly_TT 11 86).2.1 (ly_TT 11 86).2.2.1 ∈ ly_T := ly_at 1233 (by decide +kernel) rfl
theorem wk_X_192 : Cond.constantLong "LampYard" 192 (-1 : Int64) ∈ ly_T := ly_at 950 (by decide +kernel) rfl
theorem wk_X_194 : Cond.constantLong "LampYard" 194 (-2 : Int64) ∈ ly_T := ly_at 951 (by decide +kernel) rfl
theorem wk_X_224 : Cond.constantLong "LampYard" 224 (60 : Int64) ∈ ly_T := ly_at 1023 (by decide +kernel) rfl
theorem wk_Ch_81 : Cond.constantLong "LampYard$Chance" 81 (1000 : Int64) ∈ ly_T := ly_at 1014 (by decide +kernel) rfl
theorem wk_Ch_83 : Cond.constantLong "LampYard$Chance" 83 (60 : Int64) ∈ ly_T := ly_at 1022 (by decide +kernel) rfl
theorem wk_Lo_37 : Cond.constant "LampYard$Logs" 37 (100000 : Int32) ∈ ly_T := ly_at 1062 (by decide +kernel) rfl
theorem wk_Rd_105 : Cond.constantLong "LampYard$Reader" 105 (32 : Int64) ∈ ly_T := ly_at 349 (by decide +kernel) rfl
theorem wk_Ro_74 : Cond.constant "LampYard$Rounds" 74 (35000 : Int32) ∈ ly_T := ly_at 859 (by decide +kernel) rfl
theorem wk_St_11 : Cond.constantLong "LampYard$State" 11 (-4 : Int64) ∈ ly_T := ly_at 246 (by decide +kernel) rfl
theorem wk_St_13 : Cond.constantLong "LampYard$State" 13 (-61 : Int64) ∈ ly_T := ly_at 559 (by decide +kernel) rfl
theorem wk_St_15 : Cond.constantLong "LampYard$State" 15 (15 : Int64) ∈ ly_T := ly_at 560 (by decide +kernel) rfl
theorem wk_St_17 : Cond.constantLong "LampYard$State" 17 (127 : Int64) ∈ ly_T := ly_at 258 (by decide +kernel) rfl
theorem wk_St_19 : Cond.constantLong "LampYard$State" 19 (-1 : Int64) ∈ ly_T := ly_at 259 (by decide +kernel) rfl
theorem wk_Ss_38 : Cond.constantLong "LampYard$StateSet" 38 (-7046029254386353131 : Int64) ∈ ly_T := ly_at 735 (by decide +kernel) rfl
theorem wk_M_230 : Cond.constantLong "LampYardModel" 230 (465491030131 : Int64) ∈ ly_T := ly_at 1477 (by decide +kernel) rfl
theorem wk_M_232 : Cond.constantLong "LampYardModel" 232 (427238321253 : Int64) ∈ ly_T := ly_at 1482 (by decide +kernel) rfl
theorem wk_M_234 : Cond.constantLong "LampYardModel" 234 (439720963187 : Int64) ∈ ly_T := ly_at 1483 (by decide +kernel) rfl
theorem wk_M_236 : Cond.constantLong "LampYardModel" 236 (495873782388 : Int64) ∈ ly_T := ly_at 1484 (by decide +kernel) rfl
theorem wk_M_238 : Cond.constantLong "LampYardModel" 238 (7300710 : Int64) ∈ ly_T := ly_at 1497 (by decide +kernel) rfl
theorem wk_M_240 : Cond.constantLong "LampYardModel" 240 (28526 : Int64) ∈ ly_T := ly_at 1498 (by decide +kernel) rfl
theorem wk_M_242 : Cond.constantLong "LampYardModel" 242 (6385273 : Int64) ∈ ly_T := ly_at 1499 (by decide +kernel) rfl
theorem wk_M_244 : Cond.constantLong "LampYardModel" 244 (1919904869 : Int64) ∈ ly_T := ly_at 1500 (by decide +kernel) rfl
theorem wk_M_246 : Cond.constantLong "LampYardModel" 246 (7169390 : Int64) ∈ ly_T := ly_at 1509 (by decide +kernel) rfl
theorem wk_M_248 : Cond.constantLong "LampYardModel" 248 (448545973363 : Int64) ∈ ly_T := ly_at 1510 (by decide +kernel) rfl
theorem wk_M_250 : Cond.constantLong "LampYardModel" 250 (1920298085 : Int64) ∈ ly_T := ly_at 1511 (by decide +kernel) rfl
theorem wk_M_252 : Cond.constantLong "LampYardModel" 252 (2003330414 : Int64) ∈ ly_T := ly_at 1512 (by decide +kernel) rfl
theorem wk_M_254 : Cond.constantLong "LampYardModel" 254 (7562612 : Int64) ∈ ly_T := ly_at 1513 (by decide +kernel) rfl
theorem wk_M_256 : Cond.constantLong "LampYardModel" 256 (1752132708 : Int64) ∈ ly_T := ly_at 1514 (by decide +kernel) rfl
theorem wk_M_258 : Cond.constantLong "LampYardModel" 258 (7561593 : Int64) ∈ ly_T := ly_at 1515 (by decide +kernel) rfl
theorem wk_M_260 : Cond.constantLong "LampYardModel" 260 (6578553 : Int64) ∈ ly_T := ly_at 1516 (by decide +kernel) rfl
theorem wk_M_262 : Cond.constantLong "LampYardModel" 262 (130195279934579 : Int64) ∈ ly_T := ly_at 1517 (by decide +kernel) rfl
theorem wk_M_264 : Cond.constantLong "LampYardModel" 264 (6385252 : Int64) ∈ ly_T := ly_at 1518 (by decide +kernel) rfl
theorem wk_M_266 : Cond.constantLong "LampYardModel" 266 (28530 : Int64) ∈ ly_T := ly_at 1519 (by decide +kernel) rfl
theorem wk_M_268 : Cond.constantLong "LampYardModel" 268 (7237492 : Int64) ∈ ly_T := ly_at 1520 (by decide +kernel) rfl
theorem wk_M_472 : Cond.constantLong "LampYardModel" 472 (64 : Int64) ∈ ly_T := ly_at 1675 (by decide +kernel) rfl
theorem wk_M_474 : Cond.constantLong "LampYardModel" 474 (3 : Int64) ∈ ly_T := ly_at 1688 (by decide +kernel) rfl
theorem wk_M_476 : Cond.constantLong "LampYardModel" 476 (15 : Int64) ∈ ly_T := ly_at 1689 (by decide +kernel) rfl
theorem wk_M_478 : Cond.constantLong "LampYardModel" 478 (255 : Int64) ∈ ly_T := ly_at 1690 (by decide +kernel) rfl
theorem wk_M_480 : Cond.constantLong "LampYardModel" 480 (-7046029254386353131 : Int64) ∈ ly_T := ly_at 1679 (by decide +kernel) rfl
theorem wk_M_552 : Cond.constantLong "LampYardModel" 552 (31 : Int64) ∈ ly_T := ly_at 1771 (by decide +kernel) rfl
theorem wk_M_561 : Cond.constantLong "LampYardModel" 561 (-1 : Int64) ∈ ly_T := ly_at 1779 (by decide +kernel) rfl
theorem wk_M_563 : Cond.constantLong "LampYardModel" 563 (-2 : Int64) ∈ ly_T := ly_at 1780 (by decide +kernel) rfl
theorem wk_M_576 : Cond.constantLong "LampYardModel" 576 (1000 : Int64) ∈ ly_T := ly_at 1802 (by decide +kernel) rfl
theorem wk_M_578 : Cond.constantLong "LampYardModel" 578 (60 : Int64) ∈ ly_T := ly_at 1807 (by decide +kernel) rfl
theorem wk_M_583 : Cond.constant "LampYardModel" 583 (100000 : Int32) ∈ ly_T := ly_at 1828 (by decide +kernel) rfl
theorem wk_In_265 : Cond.constant "java/lang/Integer" 265 (1431655765 : Int32) ∈ ly_T := ly_at 1083 (by decide +kernel) rfl
theorem wk_In_266 : Cond.constant "java/lang/Integer" 266 (858993459 : Int32) ∈ ly_T := ly_at 1084 (by decide +kernel) rfl
theorem wk_In_267 : Cond.constant "java/lang/Integer" 267 (252645135 : Int32) ∈ ly_T := ly_at 1085 (by decide +kernel) rfl
theorem wm_X_1 : Cond.methodLink "LampYard" 1 Lib.objectInit ∈ ly_T := ly_at 27 (by decide +kernel) rfl
theorem wm_X_15 : Cond.methodLink "LampYard" 15 y_Rd_new ∈ ly_T := ly_at 32 (by decide +kernel) rfl
theorem wm_X_22 : Cond.methodLink "LampYard" 22 y_Pl_new ∈ ly_T := ly_at 83 (by decide +kernel) rfl
theorem wm_X_32 : Cond.methodLink "LampYard" 32 y_Co_new ∈ ly_T := ly_at 162 (by decide +kernel) rfl
theorem wm_X_43 : Cond.methodLink "LampYard" 43 y_Lo_new ∈ ly_T := ly_at 189 (by decide +kernel) rfl
theorem wm_X_48 : Cond.methodLink "LampYard" 48 y_X_startAnew ∈ ly_T := ly_at 220 (by decide +kernel) rfl
theorem wm_X_55 : Cond.methodLink "LampYard" 55 y_X_putOnTape ∈ ly_T := ly_at 302 (by decide +kernel) rfl
theorem wm_X_59 : Cond.methodLink "LampYard" 59 y_Rd_reads ∈ ly_T := ly_at 314 (by decide +kernel) rfl
theorem wm_X_72 : Cond.methodLink "LampYard" 72 y_Pl_canBeLamps ∈ ly_T := ly_at 501 (by decide +kernel) rfl
theorem wm_X_76 : Cond.methodLink "LampYard" 76 y_Co_startWith ∈ ly_T := ly_at 235 (by decide +kernel) rfl
theorem wm_X_80 : Cond.methodLink "LampYard" 80 y_Pl_hasMan ∈ ly_T := ly_at 513 (by decide +kernel) rfl
theorem wm_X_90 : Cond.methodLink "LampYard" 90 y_Co_leadOut ∈ ly_T := ly_at 517 (by decide +kernel) rfl
theorem wm_X_98 : Cond.methodLink "LampYard" 98 y_Pl_forgotten ∈ ly_T := ly_at 575 (by decide +kernel) rfl
theorem wm_X_102 : Cond.methodLink "LampYard" 102 y_St_lampsOf ∈ ly_T := ly_at 580 (by decide +kernel) rfl
theorem wm_X_108 : Cond.methodLink "LampYard" 108 y_St_withLamps ∈ ly_T := ly_at 581 (by decide +kernel) rfl
theorem wm_X_111 : Cond.methodLink "LampYard" 111 y_Pl_roleOf ∈ ly_T := ly_at 586 (by decide +kernel) rfl
theorem wm_X_115 : Cond.methodLink "LampYard" 115 y_St_heldBy ∈ ly_T := ly_at 587 (by decide +kernel) rfl
theorem wm_X_119 : Cond.methodLink "LampYard" 119 y_St_visitsOf ∈ ly_T := ly_at 588 (by decide +kernel) rfl
theorem wm_X_122 : Cond.methodLink "LampYard" 122 y_St_hasBeen ∈ ly_T := ly_at 589 (by decide +kernel) rfl
theorem wm_X_130 : Cond.methodLink "LampYard" 130 y_X_surveyOfPlan ∈ ly_T := ly_at 594 (by decide +kernel) rfl
theorem wm_X_166 : Cond.methodLink "LampYard" 166 y_Sv_statesInRounds ∈ ly_T := ly_at 799 (by decide +kernel) rfl
theorem wm_X_182 : Cond.methodLink "LampYard" 182 y_Fa_new ∈ ly_T := ly_at 899 (by decide +kernel) rfl
theorem wm_X_183 : Cond.methodLink "LampYard" 183 y_Fa_borne ∈ ly_T := ly_at 916 (by decide +kernel) rfl
theorem wm_X_187 : Cond.methodLink "LampYard" 187 y_Pl_isStart ∈ ly_T := ly_at 949 (by decide +kernel) rfl
theorem wm_X_200 : Cond.methodLink "LampYard" 200 y_Ch_new ∈ ly_T := ly_at 954 (by decide +kernel) rfl
theorem wm_X_201 : Cond.methodLink "LampYard" 201 y_Ch_waysSaid ∈ ly_T := ly_at 974 (by decide +kernel) rfl
theorem wm_X_205 : Cond.methodLink "LampYard" 205 y_Ch_power ∈ ly_T := ly_at 992 (by decide +kernel) rfl
theorem wm_X_209 : Cond.methodLink "LampYard" 209 y_Ch_partOf ∈ ly_T := ly_at 995 (by decide +kernel) rfl
theorem wm_X_213 : Cond.methodLink "LampYard" 213 y_Ch_waysAllBeen ∈ ly_T := ly_at 1002 (by decide +kernel) rfl
theorem wm_X_216 : Cond.methodLink "LampYard" 216 y_Ch_daysEnough ∈ ly_T := ly_at 1010 (by decide +kernel) rfl
theorem wm_X_220 : Cond.methodLink "LampYard" 220 y_Ch_sixtyMeans ∈ ly_T := ly_at 1019 (by decide +kernel) rfl
theorem wm_X_226 : Cond.methodLink "LampYard" 226 y_Co_unevenness ∈ ly_T := ly_at 1032 (by decide +kernel) rfl
theorem wm_X_229 : Cond.methodLink "LampYard" 229 y_Lo_tell ∈ ly_T := ly_at 1042 (by decide +kernel) rfl
theorem wm_X_232 : Cond.methodLink "LampYard" 232 y_Lo_takeBack ∈ ly_T := ly_at 1050 (by decide +kernel) rfl
theorem wm_X_235 : Cond.methodLink "LampYard" 235 y_Lo_goOn ∈ ly_T := ly_at 1058 (by decide +kernel) rfl
theorem wm_X_238 : Cond.methodLink "LampYard" 238 y_Lo_dayByWhichAll ∈ ly_T := ly_at 1067 (by decide +kernel) rfl
theorem wm_X_241 : Cond.methodLink "LampYard" 241 y_Lo_clashes ∈ ly_T := ly_at 1076 (by decide +kernel) rfl
theorem wm_X_244 : Cond.methodLink "LampYard" 244 y_Lo_latestOf ∈ ly_T := ly_at 1090 (by decide +kernel) rfl
theorem wm_X_247 : Cond.methodLink "LampYard" 247 y_Lo_agreement ∈ ly_T := ly_at 1098 (by decide +kernel) rfl
theorem wm_X_251 : Cond.methodLink "LampYard" 251 y_Co_copy ∈ ly_T := ly_at 1114 (by decide +kernel) rfl
theorem wm_X_276 : Cond.methodLink "LampYard" 276 y_Fa_clear ∈ ly_T := ly_at 224 (by decide +kernel) rfl
theorem wm_X_279 : Cond.methodLink "LampYard" 279 y_Ch_clear ∈ ly_T := ly_at 231 (by decide +kernel) rfl
theorem wm_X_284 : Cond.methodLink "LampYard" 284 y_Sv_new ∈ ly_T := ly_at 600 (by decide +kernel) rfl
theorem wm_X_285 : Cond.methodLink "LampYard" 285 y_Sv_explore ∈ ly_T := ly_at 705 (by decide +kernel) rfl
theorem wm_Ch_5 : Cond.methodLink "LampYard$Chance" 5 Lib.objectInit ∈ ly_T := ly_at 957 (by decide +kernel) rfl
theorem wm_Ch_28 : Cond.methodLink "LampYard$Chance" 28 y_Ch_countWays ∈ ly_T := ly_at 978 (by decide +kernel) rfl
theorem wm_Ch_32 : Cond.methodLink "LampYard$Chance" 32 y_Ar_fillJ ∈ ly_T := ly_at 982 (by decide +kernel) rfl
theorem wm_Ch_48 : Cond.methodLink "LampYard$Chance" 48 y_Pl_firstState ∈ ly_T := ly_at 985 (by decide +kernel) rfl
theorem wm_Ch_54 : Cond.methodLink "LampYard$Chance" 54 y_Ss_numberOf ∈ ly_T := ly_at 986 (by decide +kernel) rfl
theorem wm_Ch_64 : Cond.methodLink "LampYard$Chance" 64 y_Ch_goOneDay ∈ ly_T := ly_at 987 (by decide +kernel) rfl
theorem wm_Ch_70 : Cond.methodLink "LampYard$Chance" 70 y_Sv_nextOf ∈ ly_T := ly_at 991 (by decide +kernel) rfl
theorem wm_Ch_74 : Cond.methodLink "LampYard$Chance" 74 y_Ch_power ∈ ly_T := ly_at 1005 (by decide +kernel) rfl
theorem wm_Ch_78 : Cond.methodLink "LampYard$Chance" 78 y_Ch_waysAllBeen ∈ ly_T := ly_at 1013 (by decide +kernel) rfl
theorem wm_Co_3 : Cond.methodLink "LampYard$Course" 3 Lib.objectInit ∈ ly_T := ly_at 165 (by decide +kernel) rfl
theorem wm_Co_15 : Cond.methodLink "LampYard$Course" 15 y_Pl_firstState ∈ ly_T := ly_at 239 (by decide +kernel) rfl
theorem wm_Co_33 : Cond.methodLink "LampYard$Course" 33 y_Ar_fillI ∈ ly_T := ly_at 260 (by decide +kernel) rfl
theorem wm_Co_39 : Cond.methodLink "LampYard$Course" 39 arraycopyName ∈ ly_T := ly_at 1118 (by decide +kernel) rfl
theorem wm_Co_45 : Cond.methodLink "LampYard$Course" 45 y_Pl_outcome ∈ ly_T := ly_at 521 (by decide +kernel) rfl
theorem wm_Co_49 : Cond.methodLink "LampYard$Course" 49 y_Pl_after ∈ ly_T := ly_at 552 (by decide +kernel) rfl
theorem wm_Co_53 : Cond.methodLink "LampYard$Course" 53 y_Pl_haveAllBeen ∈ ly_T := ly_at 564 (by decide +kernel) rfl
theorem wm_Co_57 : Cond.methodLink "LampYard$Course" 57 Lib.Math.min.name ∈ ly_T := ly_at 1036 (by decide +kernel) rfl
theorem wm_Co_63 : Cond.methodLink "LampYard$Course" 63 Lib.Math.max.name ∈ ly_T := ly_at 1037 (by decide +kernel) rfl
theorem wm_Fa_3 : Cond.methodLink "LampYard$Faults" 3 Lib.objectInit ∈ ly_T := ly_at 902 (by decide +kernel) rfl
theorem wm_Fa_17 : Cond.methodLink "LampYard$Faults" 17 y_Ss_new ∈ ly_T := ly_at 904 (by decide +kernel) rfl
theorem wm_Fa_22 : Cond.methodLink "LampYard$Faults" 22 y_Fa_clear ∈ ly_T := ly_at 905 (by decide +kernel) rfl
theorem wm_Fa_25 : Cond.methodLink "LampYard$Faults" 25 y_Ar_fillI ∈ ly_T := ly_at 228 (by decide +kernel) rfl
theorem wm_Fa_31 : Cond.methodLink "LampYard$Faults" 31 y_Fa_lookThrough ∈ ly_T := ly_at 920 (by decide +kernel) rfl
theorem wm_Fa_44 : Cond.methodLink "LampYard$Faults" 44 y_Ss_clear ∈ ly_T := ly_at 924 (by decide +kernel) rfl
theorem wm_Fa_55 : Cond.methodLink "LampYard$Faults" 55 y_Ss_member ∈ ly_T := ly_at 925 (by decide +kernel) rfl
theorem wm_Fa_59 : Cond.methodLink "LampYard$Faults" 59 y_Fa_putFaulty ∈ ly_T := ly_at 926 (by decide +kernel) rfl
theorem wm_Fa_66 : Cond.methodLink "LampYard$Faults" 66 y_Fa_saysWrongly ∈ ly_T := ly_at 938 (by decide +kernel) rfl
theorem wm_Fa_75 : Cond.methodLink "LampYard$Faults" 75 y_Pl_forgotten ∈ ly_T := ly_at 930 (by decide +kernel) rfl
theorem wm_Fa_79 : Cond.methodLink "LampYard$Faults" 79 y_Fa_putBehind ∈ ly_T := ly_at 931 (by decide +kernel) rfl
theorem wm_Fa_83 : Cond.methodLink "LampYard$Faults" 83 y_St_lampsOf ∈ ly_T := ly_at 936 (by decide +kernel) rfl
theorem wm_Fa_89 : Cond.methodLink "LampYard$Faults" 89 y_St_withLamps ∈ ly_T := ly_at 937 (by decide +kernel) rfl
theorem wm_Fa_92 : Cond.methodLink "LampYard$Faults" 92 y_Ss_numberOf ∈ ly_T := ly_at 935 (by decide +kernel) rfl
theorem wm_Fa_99 : Cond.methodLink "LampYard$Faults" 99 y_Sp_outcome ∈ ly_T := ly_at 942 (by decide +kernel) rfl
theorem wm_Fa_105 : Cond.methodLink "LampYard$Faults" 105 y_Pl_after ∈ ly_T := ly_at 943 (by decide +kernel) rfl
theorem wm_Fa_109 : Cond.methodLink "LampYard$Faults" 109 y_Pl_haveAllBeen ∈ ly_T := ly_at 944 (by decide +kernel) rfl
theorem wm_Lo_3 : Cond.methodLink "LampYard$Logs" 3 Lib.objectInit ∈ ly_T := ly_at 192 (by decide +kernel) rfl
theorem wm_Lo_38 : Cond.methodLink "LampYard$Logs" 38 y_Lo_gather ∈ ly_T := ly_at 1071 (by decide +kernel) rfl
theorem wm_Lo_42 : Cond.methodLink "LampYard$Logs" 42 y_In_bitCount ∈ ly_T := ly_at 1080 (by decide +kernel) rfl
theorem wm_Lo_48 : Cond.methodLink "LampYard$Logs" 48 y_Lo_latestWithoutGap ∈ ly_T := ly_at 1102 (by decide +kernel) rfl
theorem wm_Lo_51 : Cond.methodLink "LampYard$Logs" 51 y_Pl_firstState ∈ ly_T := ly_at 1106 (by decide +kernel) rfl
theorem wm_Lo_57 : Cond.methodLink "LampYard$Logs" 57 y_Pl_outcome ∈ ly_T := ly_at 1107 (by decide +kernel) rfl
theorem wm_Lo_61 : Cond.methodLink "LampYard$Logs" 61 y_Pl_after ∈ ly_T := ly_at 1108 (by decide +kernel) rfl
theorem wm_Lo_65 : Cond.methodLink "LampYard$Logs" 65 y_Pl_haveAllBeen ∈ ly_T := ly_at 1109 (by decide +kernel) rfl
theorem wm_Lo_69 : Cond.methodLink "LampYard$Logs" 69 y_Ar_fillI ∈ ly_T := ly_at 1075 (by decide +kernel) rfl
theorem wm_Pl_3 : Cond.methodLink "LampYard$Plan" 3 Lib.objectInit ∈ ly_T := ly_at 86 (by decide +kernel) rfl
theorem wm_Pl_37 : Cond.methodLink "LampYard$Plan" 37 y_Pl_empty ∈ ly_T := ly_at 87 (by decide +kernel) rfl
theorem wm_Pl_68 : Cond.methodLink "LampYard$Plan" 68 y_Pl_allOn ∈ ly_T := ly_at 505 (by decide +kernel) rfl
theorem wm_Pl_72 : Cond.methodLink "LampYard$Plan" 72 y_Pl_canBeLamps ∈ ly_T := ly_at 729 (by decide +kernel) rfl
theorem wm_Pl_76 : Cond.methodLink "LampYard$Plan" 76 y_St_withLamps ∈ ly_T := ly_at 243 (by decide +kernel) rfl
theorem wm_Pl_82 : Cond.methodLink "LampYard$Plan" 82 y_Pl_forgotten ∈ ly_T := ly_at 247 (by decide +kernel) rfl
theorem wm_Pl_85 : Cond.methodLink "LampYard$Plan" 85 y_Pl_roleOf ∈ ly_T := ly_at 251 (by decide +kernel) rfl
theorem wm_Pl_89 : Cond.methodLink "LampYard$Plan" 89 y_St_withMind ∈ ly_T := ly_at 255 (by decide +kernel) rfl
theorem wm_Pl_93 : Cond.methodLink "LampYard$Plan" 93 y_St_hasBeen ∈ ly_T := ly_at 568 (by decide +kernel) rfl
theorem wm_Pl_97 : Cond.methodLink "LampYard$Plan" 97 y_St_dayOf ∈ ly_T := ly_at 525 (by decide +kernel) rfl
theorem wm_Pl_101 : Cond.methodLink "LampYard$Plan" 101 y_St_lampsOf ∈ ly_T := ly_at 528 (by decide +kernel) rfl
theorem wm_Pl_104 : Cond.methodLink "LampYard$Plan" 104 y_St_heldBy ∈ ly_T := ly_at 531 (by decide +kernel) rfl
theorem wm_Pl_108 : Cond.methodLink "LampYard$Plan" 108 y_St_visitsOf ∈ ly_T := ly_at 534 (by decide +kernel) rfl
theorem wm_Pl_111 : Cond.methodLink "LampYard$Plan" 111 y_Pl_valueOf ∈ ly_T := ly_at 537 (by decide +kernel) rfl
theorem wm_Pl_115 : Cond.methodLink "LampYard$Plan" 115 Lib.Math.min.name ∈ ly_T := ly_at 548 (by decide +kernel) rfl
theorem wm_Pl_120 : Cond.methodLink "LampYard$Plan" 120 Lib.Math.max.name ∈ ly_T := ly_at 549 (by decide +kernel) rfl
theorem wm_Pl_123 : Cond.methodLink "LampYard$Plan" 123 y_St_withDay ∈ ly_T := ly_at 556 (by decide +kernel) rfl
theorem wm_Pl_126 : Cond.methodLink "LampYard$Plan" 126 y_St_withBeen ∈ ly_T := ly_at 561 (by decide +kernel) rfl
theorem wm_Pl_129 : Cond.methodLink "LampYard$Plan" 129 y_Pl_push ∈ ly_T := ly_at 541 (by decide +kernel) rfl
theorem wm_Pl_132 : Cond.methodLink "LampYard$Plan" 132 y_Pl_joined ∈ ly_T := ly_at 545 (by decide +kernel) rfl
theorem wm_Rd_3 : Cond.methodLink "LampYard$Reader" 3 Lib.objectInit ∈ ly_T := ly_at 35 (by decide +kernel) rfl
theorem wm_Rd_35 : Cond.methodLink "LampYard$Reader" 35 Lib.Math.min.name ∈ ly_T := ly_at 318 (by decide +kernel) rfl
theorem wm_Rd_48 : Cond.methodLink "LampYard$Reader" 48 y_Pl_empty ∈ ly_T := ly_at 321 (by decide +kernel) rfl
theorem wm_Rd_57 : Cond.methodLink "LampYard$Reader" 57 y_Rd_splitText ∈ ly_T := ly_at 322 (by decide +kernel) rfl
theorem wm_Rd_63 : Cond.methodLink "LampYard$Reader" 63 y_Rd_advance ∈ ly_T := ly_at 409 (by decide +kernel) rfl
theorem wm_Rd_69 : Cond.methodLink "LampYard$Reader" 69 y_Rd_readLine ∈ ly_T := ly_at 417 (by decide +kernel) rfl
theorem wm_Rd_75 : Cond.methodLink "LampYard$Reader" 75 y_Rd_afterBlanks ∈ ly_T := ly_at 326 (by decide +kernel) rfl
theorem wm_Rd_79 : Cond.methodLink "LampYard$Reader" 79 y_Rd_takeToken ∈ ly_T := ly_at 334 (by decide +kernel) rfl
theorem wm_Rd_82 : Cond.methodLink "LampYard$Reader" 82 y_Rd_byteAt ∈ ly_T := ly_at 330 (by decide +kernel) rfl
theorem wm_Rd_85 : Cond.methodLink "LampYard$Reader" 85 y_Rd_addToken ∈ ly_T := ly_at 338 (by decide +kernel) rfl
theorem wm_Rd_89 : Cond.methodLink "LampYard$Reader" 89 y_Rd_isLetter ∈ ly_T := ly_at 342 (by decide +kernel) rfl
theorem wm_Rd_93 : Cond.methodLink "LampYard$Reader" 93 y_Rd_takeWord ∈ ly_T := ly_at 345 (by decide +kernel) rfl
theorem wm_Rd_96 : Cond.methodLink "LampYard$Reader" 96 y_Rd_isDigit ∈ ly_T := ly_at 399 (by decide +kernel) rfl
theorem wm_Rd_99 : Cond.methodLink "LampYard$Reader" 99 y_Rd_takeNumber ∈ ly_T := ly_at 402 (by decide +kernel) rfl
theorem wm_Rd_102 : Cond.methodLink "LampYard$Reader" 102 y_Rd_isSign ∈ ly_T := ly_at 406 (by decide +kernel) rfl
theorem wm_Rd_107 : Cond.methodLink "LampYard$Reader" 107 y_Rd_kindOfWord ∈ ly_T := ly_at 350 (by decide +kernel) rfl
theorem wm_Rd_110 : Cond.methodLink "LampYard$Reader" 110 y_Rd_isWord ∈ ly_T := ly_at 354 (by decide +kernel) rfl
theorem wm_Rd_116 : Cond.methodLink "LampYard$Reader" 116 ⟨"java/lang/String", "charAt", "(I)C"⟩ ∈ ly_T := ly_at 359 (by decide +kernel) rfl
theorem wm_Rd_122 : Cond.methodLink "LampYard$Reader" 122 y_Rd_readSetting ∈ ly_T := ly_at 421 (by decide +kernel) rfl
theorem wm_Rd_125 : Cond.methodLink "LampYard$Reader" 125 y_Rd_readRole ∈ ly_T := ly_at 433 (by decide +kernel) rfl
theorem wm_Rd_128 : Cond.methodLink "LampYard$Reader" 128 y_Rd_readRule ∈ ly_T := ly_at 449 (by decide +kernel) rfl
theorem wm_Rd_131 : Cond.methodLink "LampYard$Reader" 131 y_Rd_refuse ∈ ly_T := ly_at 413 (by decide +kernel) rfl
theorem wm_Rd_135 : Cond.methodLink "LampYard$Reader" 135 y_Rd_expect ∈ ly_T := ly_at 441 (by decide +kernel) rfl
theorem wm_Rd_138 : Cond.methodLink "LampYard$Reader" 138 y_Rd_numberWithin ∈ ly_T := ly_at 425 (by decide +kernel) rfl
theorem wm_Rd_150 : Cond.methodLink "LampYard$Reader" 150 y_Rd_readStart ∈ ly_T := ly_at 429 (by decide +kernel) rfl
theorem wm_Rd_159 : Cond.methodLink "LampYard$Reader" 159 y_Rd_roleNamed ∈ ly_T := ly_at 437 (by decide +kernel) rfl
theorem wm_Rd_166 : Cond.methodLink "LampYard$Reader" 166 y_Pl_addRole ∈ ly_T := ly_at 445 (by decide +kernel) rfl
theorem wm_Rd_173 : Cond.methodLink "LampYard$Reader" 173 y_Rd_readAny ∈ ly_T := ly_at 453 (by decide +kernel) rfl
theorem wm_Rd_176 : Cond.methodLink "LampYard$Reader" 176 y_Pl_endPart ∈ ly_T := ly_at 485 (by decide +kernel) rfl
theorem wm_Rd_179 : Cond.methodLink "LampYard$Reader" 179 y_Pl_addRule ∈ ly_T := ly_at 489 (by decide +kernel) rfl
theorem wm_Rd_183 : Cond.methodLink "LampYard$Reader" 183 y_Rd_readBoth ∈ ly_T := ly_at 457 (by decide +kernel) rfl
theorem wm_Rd_186 : Cond.methodLink "LampYard$Reader" 186 y_Pl_addCode ∈ ly_T := ly_at 465 (by decide +kernel) rfl
theorem wm_Rd_189 : Cond.methodLink "LampYard$Reader" 189 y_Rd_readOne ∈ ly_T := ly_at 461 (by decide +kernel) rfl
theorem wm_Rd_192 : Cond.methodLink "LampYard$Reader" 192 y_Rd_readSum ∈ ly_T := ly_at 469 (by decide +kernel) rfl
theorem wm_Rd_195 : Cond.methodLink "LampYard$Reader" 195 y_Rd_readTerm ∈ ly_T := ly_at 473 (by decide +kernel) rfl
theorem wm_Rd_198 : Cond.methodLink "LampYard$Reader" 198 y_Rd_readUnit ∈ ly_T := ly_at 477 (by decide +kernel) rfl
theorem wm_Rd_201 : Cond.methodLink "LampYard$Reader" 201 y_Rd_unitCode ∈ ly_T := ly_at 481 (by decide +kernel) rfl
theorem wm_Ro_3 : Cond.methodLink "LampYard$Rounds" 3 Lib.objectInit ∈ ly_T := ly_at 808 (by decide +kernel) rfl
theorem wm_Ro_34 : Cond.methodLink "LampYard$Rounds" 34 y_Ar_fillI ∈ ly_T := ly_at 850 (by decide +kernel) rfl
theorem wm_Ro_67 : Cond.methodLink "LampYard$Rounds" 67 y_Ro_goFrom ∈ ly_T := ly_at 851 (by decide +kernel) rfl
theorem wm_Ro_71 : Cond.methodLink "LampYard$Rounds" 71 y_Ro_enter ∈ ly_T := ly_at 855 (by decide +kernel) rfl
theorem wm_Ro_84 : Cond.methodLink "LampYard$Rounds" 84 y_Sv_nextOf ∈ ly_T := ly_at 860 (by decide +kernel) rfl
theorem wm_Ro_88 : Cond.methodLink "LampYard$Rounds" 88 y_Ro_look ∈ ly_T := ly_at 864 (by decide +kernel) rfl
theorem wm_Ro_92 : Cond.methodLink "LampYard$Rounds" 92 y_Ro_leave ∈ ly_T := ly_at 869 (by decide +kernel) rfl
theorem wm_Ro_95 : Cond.methodLink "LampYard$Rounds" 95 Lib.Math.min.name ∈ ly_T := ly_at 868 (by decide +kernel) rfl
theorem wm_Ro_100 : Cond.methodLink "LampYard$Rounds" 100 y_Ro_tieKnot ∈ ly_T := ly_at 873 (by decide +kernel) rfl
theorem wm_Ro_103 : Cond.methodLink "LampYard$Rounds" 103 y_Ro_menLedWithin ∈ ly_T := ly_at 877 (by decide +kernel) rfl
theorem wm_Ss_3 : Cond.methodLink "LampYard$StateSet" 3 Lib.objectInit ∈ ly_T := ly_at 619 (by decide +kernel) rfl
theorem wm_Ss_23 : Cond.methodLink "LampYard$StateSet" 23 Lib.Math.min.name ∈ ly_T := ly_at 718 (by decide +kernel) rfl
theorem wm_Ss_32 : Cond.methodLink "LampYard$StateSet" 32 y_Ar_fillI ∈ ly_T := ly_at 719 (by decide +kernel) rfl
theorem wm_Ss_40 : Cond.methodLink "LampYard$StateSet" 40 y_Ss_putIn ∈ ly_T := ly_at 736 (by decide +kernel) rfl
theorem wm_Sp_3 : Cond.methodLink "LampYard$Steps" 3 Lib.objectInit ∈ ly_T := ly_at 609 (by decide +kernel) rfl
theorem wm_Sp_15 : Cond.methodLink "LampYard$Steps" 15 y_Ar_fillI ∈ ly_T := ly_at 713 (by decide +kernel) rfl
theorem wm_Sp_21 : Cond.methodLink "LampYard$Steps" 21 y_Pl_roleOf ∈ ly_T := ly_at 754 (by decide +kernel) rfl
theorem wm_Sp_25 : Cond.methodLink "LampYard$Steps" 25 y_St_dayOf ∈ ly_T := ly_at 755 (by decide +kernel) rfl
theorem wm_Sp_31 : Cond.methodLink "LampYard$Steps" 31 y_St_lampsOf ∈ ly_T := ly_at 756 (by decide +kernel) rfl
theorem wm_Sp_34 : Cond.methodLink "LampYard$Steps" 34 y_St_heldBy ∈ ly_T := ly_at 757 (by decide +kernel) rfl
theorem wm_Sp_38 : Cond.methodLink "LampYard$Steps" 38 y_St_visitsOf ∈ ly_T := ly_at 758 (by decide +kernel) rfl
theorem wm_Sp_41 : Cond.methodLink "LampYard$Steps" 41 y_Pl_outcome ∈ ly_T := ly_at 759 (by decide +kernel) rfl
theorem wm_Sv_3 : Cond.methodLink "LampYard$Survey" 3 Lib.objectInit ∈ ly_T := ly_at 603 (by decide +kernel) rfl
theorem wm_Sv_11 : Cond.methodLink "LampYard$Survey" 11 y_Sp_new ∈ ly_T := ly_at 606 (by decide +kernel) rfl
theorem wm_Sv_20 : Cond.methodLink "LampYard$Survey" 20 y_Ss_new ∈ ly_T := ly_at 616 (by decide +kernel) rfl
theorem wm_Sv_42 : Cond.methodLink "LampYard$Survey" 42 y_Sp_clear ∈ ly_T := ly_at 709 (by decide +kernel) rfl
theorem wm_Sv_45 : Cond.methodLink "LampYard$Survey" 45 y_Ss_clear ∈ ly_T := ly_at 714 (by decide +kernel) rfl
theorem wm_Sv_76 : Cond.methodLink "LampYard$Survey" 76 y_Ar_fillI ∈ ly_T := ly_at 720 (by decide +kernel) rfl
theorem wm_Sv_85 : Cond.methodLink "LampYard$Survey" 85 y_Sv_putStarts ∈ ly_T := ly_at 721 (by decide +kernel) rfl
theorem wm_Sv_91 : Cond.methodLink "LampYard$Survey" 91 y_Sv_leadAll ∈ ly_T := ly_at 740 (by decide +kernel) rfl
theorem wm_Sv_100 : Cond.methodLink "LampYard$Survey" 100 y_Ro_new ∈ ly_T := ly_at 805 (by decide +kernel) rfl
theorem wm_Sv_101 : Cond.methodLink "LampYard$Survey" 101 y_Ro_countStates ∈ ly_T := ly_at 846 (by decide +kernel) rfl
theorem wm_Sv_105 : Cond.methodLink "LampYard$Survey" 105 y_Pl_isStart ∈ ly_T := ly_at 725 (by decide +kernel) rfl
theorem wm_Sv_109 : Cond.methodLink "LampYard$Survey" 109 y_Pl_firstState ∈ ly_T := ly_at 730 (by decide +kernel) rfl
theorem wm_Sv_113 : Cond.methodLink "LampYard$Survey" 113 y_Ss_numberOf ∈ ly_T := ly_at 731 (by decide +kernel) rfl
theorem wm_Sv_117 : Cond.methodLink "LampYard$Survey" 117 y_Ss_member ∈ ly_T := ly_at 744 (by decide +kernel) rfl
theorem wm_Sv_120 : Cond.methodLink "LampYard$Survey" 120 y_St_heldBy ∈ ly_T := ly_at 748 (by decide +kernel) rfl
theorem wm_Sv_126 : Cond.methodLink "LampYard$Survey" 126 Lib.Math.max.name ∈ ly_T := ly_at 749 (by decide +kernel) rfl
theorem wm_Sv_132 : Cond.methodLink "LampYard$Survey" 132 y_Sp_outcome ∈ ly_T := ly_at 750 (by decide +kernel) rfl
theorem wm_Sv_136 : Cond.methodLink "LampYard$Survey" 136 y_Pl_after ∈ ly_T := ly_at 760 (by decide +kernel) rfl
theorem wm_Sv_140 : Cond.methodLink "LampYard$Survey" 140 y_Sv_noteSaid ∈ ly_T := ly_at 761 (by decide +kernel) rfl
theorem wm_Sv_144 : Cond.methodLink "LampYard$Survey" 144 y_Sv_goOn ∈ ly_T := ly_at 775 (by decide +kernel) rfl
theorem wm_Sv_147 : Cond.methodLink "LampYard$Survey" 147 y_Pl_haveAllBeen ∈ ly_T := ly_at 765 (by decide +kernel) rfl
theorem wm_Sv_151 : Cond.methodLink "LampYard$Survey" 151 y_Sv_daysTo ∈ ly_T := ly_at 766 (by decide +kernel) rfl
theorem wm_Sv_155 : Cond.methodLink "LampYard$Survey" 155 y_Sv_keepRow ∈ ly_T := ly_at 770 (by decide +kernel) rfl
theorem wm_Sv_159 : Cond.methodLink "LampYard$Survey" 159 y_St_lampsOf ∈ ly_T := ly_at 774 (by decide +kernel) rfl
theorem wm_M_1 : Cond.methodLink "LampYardModel" 1 Lib.objectInit ∈ ly_T := ly_at 1134 (by decide +kernel) rfl
theorem wm_M_181 : Cond.methodLink "LampYardModel" 181 y_M_plain ∈ ly_T := ly_at 1135 (by decide +kernel) rfl
theorem wm_M_184 : Cond.methodLink "LampYardModel" 184 y_M_beginWith ∈ ly_T := ly_at 1139 (by decide +kernel) rfl
theorem wm_M_191 : Cond.methodLink "LampYardModel" 191 y_M_four ∈ ly_T := ly_at 1440 (by decide +kernel) rfl
theorem wm_M_200 : Cond.methodLink "LampYardModel" 200 y_M_here ∈ ly_T := ly_at 1456 (by decide +kernel) rfl
theorem wm_M_217 : Cond.methodLink "LampYardModel" 217 y_M_isLetter ∈ ly_T := ly_at 1460 (by decide +kernel) rfl
theorem wm_M_221 : Cond.methodLink "LampYardModel" 221 y_M_isDigit ∈ ly_T := ly_at 1463 (by decide +kernel) rfl
theorem wm_M_224 : Cond.methodLink "LampYardModel" 224 y_M_isSign ∈ ly_T := ly_at 1466 (by decide +kernel) rfl
theorem wm_M_270 : Cond.methodLink "LampYardModel" 270 y_M_isWord ∈ ly_T := ly_at 1478 (by decide +kernel) rfl
theorem wm_M_274 : Cond.methodLink "LampYardModel" 274 y_M_wrong ∈ ly_T := ly_at 1489 (by decide +kernel) rfl
theorem wm_M_277 : Cond.methodLink "LampYardModel" 277 y_M_token ∈ ly_T := ly_at 1452 (by decide +kernel) rfl
theorem wm_M_280 : Cond.methodLink "LampYardModel" 280 y_M_want ∈ ly_T := ly_at 1529 (by decide +kernel) rfl
theorem wm_M_284 : Cond.methodLink "LampYardModel" 284 y_M_toldNumber ∈ ly_T := ly_at 1485 (by decide +kernel) rfl
theorem wm_M_297 : Cond.methodLink "LampYardModel" 297 y_M_note ∈ ly_T := ly_at 1565 (by decide +kernel) rfl
theorem wm_M_301 : Cond.methodLink "LampYardModel" 301 y_M_upper ∈ ly_T := ly_at 1557 (by decide +kernel) rfl
theorem wm_M_305 : Cond.methodLink "LampYardModel" 305 y_M_pop ∈ ly_T := ly_at 1561 (by decide +kernel) rfl
theorem wm_M_308 : Cond.methodLink "LampYardModel" 308 y_M_known ∈ ly_T := ly_at 1580 (by decide +kernel) rfl
theorem wm_M_314 : Cond.methodLink "LampYardModel" 314 y_M_hold ∈ ly_T := ly_at 1572 (by decide +kernel) rfl
theorem wm_M_317 : Cond.methodLink "LampYardModel" 317 y_M_isOpen ∈ ly_T := ly_at 1545 (by decide +kernel) rfl
theorem wm_M_321 : Cond.methodLink "LampYardModel" 321 y_M_settle ∈ ly_T := ly_at 1553 (by decide +kernel) rfl
theorem wm_M_324 : Cond.methodLink "LampYardModel" 324 y_M_rank ∈ ly_T := ly_at 1569 (by decide +kernel) rfl
theorem wm_M_330 : Cond.methodLink "LampYardModel" 330 y_M_isAfter ∈ ly_T := ly_at 1541 (by decide +kernel) rfl
theorem wm_M_333 : Cond.methodLink "LampYardModel" 333 y_M_sign ∈ ly_T := ly_at 1549 (by decide +kernel) rfl
theorem wm_M_336 : Cond.methodLink "LampYardModel" 336 y_M_operand ∈ ly_T := ly_at 1576 (by decide +kernel) rfl
theorem wm_M_342 : Cond.methodLink "LampYardModel" 342 y_M_isName ∈ ly_T := ly_at 1505 (by decide +kernel) rfl
theorem wm_M_345 : Cond.methodLink "LampYardModel" 345 y_M_roleNumber ∈ ly_T := ly_at 1521 (by decide +kernel) rfl
theorem wm_M_352 : Cond.methodLink "LampYardModel" 352 y_M_told ∈ ly_T := ly_at 1525 (by decide +kernel) rfl
theorem wm_M_356 : Cond.methodLink "LampYardModel" 356 y_M_readPart ∈ ly_T := ly_at 1537 (by decide +kernel) rfl
theorem wm_M_362 : Cond.methodLink "LampYardModel" 362 y_M_lineOf ∈ ly_T := ly_at 1473 (by decide +kernel) rfl
theorem wm_M_374 : Cond.methodLink "LampYardModel" 374 y_M_readStart ∈ ly_T := ly_at 1493 (by decide +kernel) rfl
theorem wm_M_377 : Cond.methodLink "LampYardModel" 377 y_M_readRole ∈ ly_T := ly_at 1501 (by decide +kernel) rfl
theorem wm_M_380 : Cond.methodLink "LampYardModel" 380 y_M_readRule ∈ ly_T := ly_at 1533 (by decide +kernel) rfl
theorem wm_M_395 : Cond.methodLink "LampYardModel" 395 y_M_readLine ∈ ly_T := ly_at 1469 (by decide +kernel) rfl
theorem wm_M_419 : Cond.methodLink "LampYardModel" 419 y_M_asked ∈ ly_T := ly_at 1616 (by decide +kernel) rfl
theorem wm_M_422 : Cond.methodLink "LampYardModel" 422 y_M_worked ∈ ly_T := ly_at 1620 (by decide +kernel) rfl
theorem wm_M_426 : Cond.methodLink "LampYardModel" 426 y_M_worth ∈ ly_T := ly_at 1612 (by decide +kernel) rfl
theorem wm_M_433 : Cond.methodLink "LampYardModel" 433 y_M_doRules ∈ ly_T := ly_at 1608 (by decide +kernel) rfl
theorem wm_M_439 : Cond.methodLink "LampYardModel" 439 y_M_isAll ∈ ly_T := ly_at 1623 (by decide +kernel) rfl
theorem wm_M_448 : Cond.methodLink "LampYardModel" 448 y_M_fresh ∈ ly_T := ly_at 1143 (by decide +kernel) rfl
theorem wm_M_457 : Cond.methodLink "LampYardModel" 457 y_M_isLight ∈ ly_T := ly_at 1592 (by decide +kernel) rfl
theorem wm_M_460 : Cond.methodLink "LampYardModel" 460 y_M_isMan ∈ ly_T := ly_at 1600 (by decide +kernel) rfl
theorem wm_M_463 : Cond.methodLink "LampYardModel" 463 y_M_go ∈ ly_T := ly_at 1604 (by decide +kernel) rfl
theorem wm_M_466 : Cond.methodLink "LampYardModel" 466 y_M_forgetAt ∈ ly_T := ly_at 1631 (by decide +kernel) rfl
theorem wm_M_482 : Cond.methodLink "LampYardModel" 482 y_M_packed ∈ ly_T := ly_at 1671 (by decide +kernel) rfl
theorem wm_M_486 : Cond.methodLink "LampYardModel" 486 y_M_slotOf ∈ ly_T := ly_at 1676 (by decide +kernel) rfl
theorem wm_M_495 : Cond.methodLink "LampYardModel" 495 y_M_full ∈ ly_T := ly_at 1659 (by decide +kernel) rfl
theorem wm_M_498 : Cond.methodLink "LampYardModel" 498 y_M_unpack ∈ ly_T := ly_at 1684 (by decide +kernel) rfl
theorem wm_M_501 : Cond.methodLink "LampYardModel" 501 y_M_number ∈ ly_T := ly_at 1667 (by decide +kernel) rfl
theorem wm_M_503 : Cond.methodLink "LampYardModel" 503 y_M_doFault ∈ ly_T := ly_at 1691 (by decide +kernel) rfl
theorem wm_M_506 : Cond.methodLink "LampYardModel" 506 y_M_isStart ∈ ly_T := ly_at 1663 (by decide +kernel) rfl
theorem wm_M_509 : Cond.methodLink "LampYardModel" 509 y_M_follow ∈ ly_T := ly_at 1680 (by decide +kernel) rfl
theorem wm_M_512 : Cond.methodLink "LampYardModel" 512 y_M_put ∈ ly_T := ly_at 1651 (by decide +kernel) rfl
theorem wm_M_515 : Cond.methodLink "LampYardModel" 515 y_M_layStates ∈ ly_T := ly_at 1655 (by decide +kernel) rfl
theorem wm_M_518 : Cond.methodLink "LampYardModel" 518 y_M_bring ∈ ly_T := ly_at 1695 (by decide +kernel) rfl
theorem wm_M_521 : Cond.methodLink "LampYardModel" 521 y_M_layPlan ∈ ly_T := ly_at 1647 (by decide +kernel) rfl
theorem wm_M_524 : Cond.methodLink "LampYardModel" 524 y_M_leads ∈ ly_T := ly_at 1699 (by decide +kernel) rfl
theorem wm_M_527 : Cond.methodLink "LampYardModel" 527 y_M_isNear ∈ ly_T := ly_at 1723 (by decide +kernel) rfl
theorem wm_M_531 : Cond.methodLink "LampYardModel" 531 y_M_laySoon ∈ ly_T := ly_at 1719 (by decide +kernel) rfl
theorem wm_M_534 : Cond.methodLink "LampYardModel" 534 y_M_startNumber ∈ ly_T := ly_at 1727 (by decide +kernel) rfl
theorem wm_M_537 : Cond.methodLink "LampYardModel" 537 y_M_soonStart ∈ ly_T := ly_at 1715 (by decide +kernel) rfl
theorem wm_M_540 : Cond.methodLink "LampYardModel" 540 y_M_layBack ∈ ly_T := ly_at 1751 (by decide +kernel) rfl
theorem wm_M_543 : Cond.methodLink "LampYardModel" 543 y_M_layOrder ∈ ly_T := ly_at 1755 (by decide +kernel) rfl
theorem wm_M_546 : Cond.methodLink "LampYardModel" 546 y_M_layParts ∈ ly_T := ly_at 1747 (by decide +kernel) rfl
theorem wm_M_549 : Cond.methodLink "LampYardModel" 549 y_M_endlessMany ∈ ly_T := ly_at 1743 (by decide +kernel) rfl
theorem wm_M_554 : Cond.methodLink "LampYardModel" 554 y_M_common ∈ ly_T := ly_at 1784 (by decide +kernel) rfl
theorem wm_M_558 : Cond.methodLink "LampYardModel" 558 y_M_isPart ∈ ly_T := ly_at 1776 (by decide +kernel) rfl
theorem wm_M_565 : Cond.methodLink "LampYardModel" 565 y_M_partOf ∈ ly_T := ly_at 1781 (by decide +kernel) rfl
theorem wm_M_569 : Cond.methodLink "LampYardModel" 569 y_M_isMany ∈ ly_T := ly_at 1791 (by decide +kernel) rfl
theorem wm_M_572 : Cond.methodLink "LampYardModel" 572 y_M_layRows ∈ ly_T := ly_at 1794 (by decide +kernel) rfl
theorem wm_M_584 : Cond.methodLink "LampYardModel" 584 y_M_layLogs ∈ ly_T := ly_at 1833 (by decide +kernel) rfl
theorem wm_M_587 : Cond.methodLink "LampYardModel" 587 y_M_isBox ∈ ly_T := ly_at 1849 (by decide +kernel) rfl
theorem wc_Rd_refuse : Cond.code y_Rd_refuse prog_7_method_31_code 2 none ∈ ly_T := ly_at 416 (by decide +kernel) rfl
theorem wh_Rd_refuse : xh_mh y_Rd_refuse 1 := ⟨by decide, by decide, by decide +kernel⟩
theorem wn_Rd_refuse : Cond.initialized y_Rd_refuse.cls ∈ ly_T := ly_at 2 (by decide +kernel) rfl
theorem wi_Rd_refuse : Cond.instanceMethod y_Rd_refuse ∈ ly_T := ly_at 415 (by decide +kernel) rfl
theorem ws_Rd_refuse : Cond.selects (ly_cn 5) y_Rd_refuse y_Rd_refuse ∈ ly_T := ly_sel (q := (y_Rd_refuse, 13)) (List.mem_of_getElem? (i := 12) (by decide +kernel))
theorem wc_Rd_advance : Cond.code y_Rd_advance prog_7_method_30_code 1 none ∈ ly_T := ly_at 412 (by decide +kernel) rfl
theorem wh_Rd_advance : xh_mh y_Rd_advance 0 := ⟨by decide, by decide, by decide +kernel⟩
theorem wn_Rd_advance : Cond.initialized y_Rd_advance.cls ∈ ly_T := ly_at 2 (by decide +kernel) rfl
theorem wi_Rd_advance : Cond.instanceMethod y_Rd_advance ∈ ly_T := ly_at 411 (by decide +kernel) rfl
theorem ws_Rd_advance : Cond.selects (ly_cn 5) y_Rd_advance y_Rd_advance ∈ ly_T := ly_sel (q := (y_Rd_advance, 13)) (List.mem_of_getElem? (i := 11) (by decide +kernel))
theorem wc_Pl_empty : Cond.code y_Pl_empty prog_6_method_2_code 1 none ∈ ly_T := ly_at 90 (by decide +kernel) rfl
theorem wh_Pl_empty : xh_mh y_Pl_empty 0 := ⟨by decide, by decide, by decide +kernel⟩
theorem wn_Pl_empty : Cond.initialized y_Pl_empty.cls ∈ ly_T := ly_at 3 (by decide +kernel) rfl
theorem wi_Pl_empty : Cond.instanceMethod y_Pl_empty ∈ ly_T := ly_at 88 (by decide +kernel) rfl
theorem ws_Pl_empty : Cond.selects (ly_cn 4) y_Pl_empty y_Pl_empty ∈ ly_T := ly_at 89 (by decide +kernel) rfl
theorem wc_Ar_fillI : Cond.code y_Ar_fillI prog_21_method_103_code 4 none ∈ ly_T := ly_at 230 (by decide +kernel) rfl
theorem wh_Ar_fillI : xh_mh y_Ar_fillI 2 := ⟨by decide, by decide, by decide +kernel⟩
theorem wn_Ar_fillI : Cond.initialized y_Ar_fillI.cls ∈ ly_T := ly_at 6 (by decide +kernel) rfl
theorem wt_Ar_fillI : Cond.static y_Ar_fillI ∈ ly_T := ly_at 229 (by decide +kernel) rfl
theorem wc_Pl_roleOf : Cond.code y_Pl_roleOf prog_6_method_8_code 2 (some .int) ∈ ly_T := ly_at 254 (by decide +kernel) rfl
theorem wh_Pl_roleOf : xh_mh y_Pl_roleOf 1 := ⟨by decide, by decide, by decide +kernel⟩
theorem wn_Pl_roleOf : Cond.initialized y_Pl_roleOf.cls ∈ ly_T := ly_at 3 (by decide +kernel) rfl
theorem wi_Pl_roleOf : Cond.instanceMethod y_Pl_roleOf ∈ ly_T := ly_at 252 (by decide +kernel) rfl
theorem ws_Pl_roleOf : Cond.selects (ly_cn 4) y_Pl_roleOf y_Pl_roleOf ∈ ly_T := ly_at 253 (by decide +kernel) rfl
theorem wc_St_withMind : Cond.code y_St_withMind prog_9_method_9_code 8 (some .long) ∈ ly_T := ly_at 257 (by decide +kernel) rfl
theorem wh_St_withMind : xh_mh y_St_withMind 4 := ⟨by decide, by decide, by decide +kernel⟩
theorem wn_St_withMind : Cond.initialized y_St_withMind.cls ∈ ly_T := ly_at 7 (by decide +kernel) rfl
theorem wt_St_withMind : Cond.static y_St_withMind ∈ ly_T := ly_at 256 (by decide +kernel) rfl
theorem wc_St_withLamps : Cond.code y_St_withLamps prog_9_method_7_code 3 (some .long) ∈ ly_T := ly_at 245 (by decide +kernel) rfl
theorem wh_St_withLamps : xh_mh y_St_withLamps 2 := ⟨by decide, by decide, by decide +kernel⟩
theorem wn_St_withLamps : Cond.initialized y_St_withLamps.cls ∈ ly_T := ly_at 7 (by decide +kernel) rfl
theorem wt_St_withLamps : Cond.static y_St_withLamps ∈ ly_T := ly_at 244 (by decide +kernel) rfl
theorem wc_Pl_forgotten : Cond.code y_Pl_forgotten prog_6_method_12_code 4 (some .long) ∈ ly_T := ly_at 250 (by decide +kernel) rfl
theorem wh_Pl_forgotten : xh_mh y_Pl_forgotten 2 := ⟨by decide, by decide, by decide +kernel⟩
theorem wn_Pl_forgotten : Cond.initialized y_Pl_forgotten.cls ∈ ly_T := ly_at 3 (by decide +kernel) rfl
theorem wi_Pl_forgotten : Cond.instanceMethod y_Pl_forgotten ∈ ly_T := ly_at 248 (by decide +kernel) rfl
theorem ws_Pl_forgotten : Cond.selects (ly_cn 4) y_Pl_forgotten y_Pl_forgotten ∈ ly_T := ly_at 249 (by decide +kernel) rfl
theorem wc_Pl_firstState : Cond.code y_Pl_firstState prog_6_method_11_code 5 (some .long) ∈ ly_T := ly_at 242 (by decide +kernel) rfl
theorem wh_Pl_firstState : xh_mh y_Pl_firstState 1 := ⟨by decide, by decide, by decide +kernel⟩
theorem wn_Pl_firstState : Cond.initialized y_Pl_firstState.cls ∈ ly_T := ly_at 3 (by decide +kernel) rfl
theorem wi_Pl_firstState : Cond.instanceMethod y_Pl_firstState ∈ ly_T := ly_at 240 (by decide +kernel) rfl
theorem ws_Pl_firstState : Cond.selects (ly_cn 4) y_Pl_firstState y_Pl_firstState ∈ ly_T := ly_at 241 (by decide +kernel) rfl
theorem wc_Co_startWith : Cond.code y_Co_startWith prog_3_method_2_code 3 none ∈ ly_T := ly_at 238 (by decide +kernel) rfl
theorem wh_Co_startWith : xh_mh y_Co_startWith 2 := ⟨by decide, by decide, by decide +kernel⟩
theorem wn_Co_startWith : Cond.initialized y_Co_startWith.cls ∈ ly_T := ly_at 4 (by decide +kernel) rfl
theorem wi_Co_startWith : Cond.instanceMethod y_Co_startWith ∈ ly_T := ly_at 236 (by decide +kernel) rfl
theorem ws_Co_startWith : Cond.selects (ly_cn 1) y_Co_startWith y_Co_startWith ∈ ly_T := ly_at 237 (by decide +kernel) rfl
theorem wc_Ch_clear : Cond.code y_Ch_clear prog_2_method_2_code 2 none ∈ ly_T := ly_at 234 (by decide +kernel) rfl
theorem wh_Ch_clear : xh_mh y_Ch_clear 0 := ⟨by decide, by decide, by decide +kernel⟩
theorem wn_Ch_clear : Cond.initialized y_Ch_clear.cls ∈ ly_T := ly_at 19 (by decide +kernel) rfl
theorem wi_Ch_clear : Cond.instanceMethod y_Ch_clear ∈ ly_T := ly_at 232 (by decide +kernel) rfl
theorem ws_Ch_clear : Cond.selects (ly_cn 0) y_Ch_clear y_Ch_clear ∈ ly_T := ly_at 233 (by decide +kernel) rfl
theorem wc_Fa_clear : Cond.code y_Fa_clear prog_4_method_2_code 1 none ∈ ly_T := ly_at 227 (by decide +kernel) rfl
theorem wh_Fa_clear : xh_mh y_Fa_clear 0 := ⟨by decide, by decide, by decide +kernel⟩
theorem wn_Fa_clear : Cond.initialized y_Fa_clear.cls ∈ ly_T := ly_at 18 (by decide +kernel) rfl
theorem wi_Fa_clear : Cond.instanceMethod y_Fa_clear ∈ ly_T := ly_at 225 (by decide +kernel) rfl
theorem ws_Fa_clear : Cond.selects (ly_cn 2) y_Fa_clear y_Fa_clear ∈ ly_T := ly_at 226 (by decide +kernel) rfl
theorem wc_Rd_new : Cond.code y_Rd_new prog_7_method_1_code 1 none ∈ ly_T := ly_at 34 (by decide +kernel) rfl
theorem wh_Rd_new : xh_mh y_Rd_new 0 := ⟨by decide, by decide, by decide +kernel⟩
theorem wn_Rd_new : Cond.initialized y_Rd_new.cls ∈ ly_T := ly_at 2 (by decide +kernel) rfl
theorem wi_Rd_new : Cond.instanceMethod y_Rd_new ∈ ly_T := ly_at 33 (by decide +kernel) rfl
theorem wc_Pl_new : Cond.code y_Pl_new prog_6_method_1_code 1 none ∈ ly_T := ly_at 85 (by decide +kernel) rfl
theorem wh_Pl_new : xh_mh y_Pl_new 0 := ⟨by decide, by decide, by decide +kernel⟩
theorem wn_Pl_new : Cond.initialized y_Pl_new.cls ∈ ly_T := ly_at 3 (by decide +kernel) rfl
theorem wi_Pl_new : Cond.instanceMethod y_Pl_new ∈ ly_T := ly_at 84 (by decide +kernel) rfl
theorem wc_Co_new : Cond.code y_Co_new prog_3_method_1_code 1 none ∈ ly_T := ly_at 164 (by decide +kernel) rfl
theorem wh_Co_new : xh_mh y_Co_new 0 := ⟨by decide, by decide, by decide +kernel⟩
theorem wn_Co_new : Cond.initialized y_Co_new.cls ∈ ly_T := ly_at 4 (by decide +kernel) rfl
theorem wi_Co_new : Cond.instanceMethod y_Co_new ∈ ly_T := ly_at 163 (by decide +kernel) rfl
theorem wc_Lo_new : Cond.code y_Lo_new prog_5_method_1_code 1 none ∈ ly_T := ly_at 191 (by decide +kernel) rfl
theorem wh_Lo_new : xh_mh y_Lo_new 0 := ⟨by decide, by decide, by decide +kernel⟩
theorem wn_Lo_new : Cond.initialized y_Lo_new.cls ∈ ly_T := ly_at 5 (by decide +kernel) rfl
theorem wi_Lo_new : Cond.instanceMethod y_Lo_new ∈ ly_T := ly_at 190 (by decide +kernel) rfl
theorem wc_X_startAnew : Cond.code y_X_startAnew prog_1_method_37_code 2 none ∈ ly_T := ly_at 223 (by decide +kernel) rfl
theorem wh_X_startAnew : xh_mh y_X_startAnew 0 := ⟨by decide, by decide, by decide +kernel⟩
theorem wn_X_startAnew : Cond.initialized y_X_startAnew.cls ∈ ly_T := ly_at 1 (by decide +kernel) rfl
theorem wi_X_startAnew : Cond.instanceMethod y_X_startAnew ∈ ly_T := ly_at 222 (by decide +kernel) rfl
theorem ws_X_startAnew : Cond.selects (ly_cn 10) y_X_startAnew y_X_startAnew ∈ ly_T := ly_sel (q := (y_X_startAnew, 12)) (List.mem_of_getElem? (i := 0) (by decide +kernel))
theorem wc_X_putOnTape : Cond.code y_X_putOnTape prog_1_method_36_code 3 none ∈ ly_T := ly_at 305 (by decide +kernel) rfl
theorem wh_X_putOnTape : xh_mh y_X_putOnTape 1 := ⟨by decide, by decide, by decide +kernel⟩
theorem wn_X_putOnTape : Cond.initialized y_X_putOnTape.cls ∈ ly_T := ly_at 1 (by decide +kernel) rfl
theorem wi_X_putOnTape : Cond.instanceMethod y_X_putOnTape ∈ ly_T := ly_at 304 (by decide +kernel) rfl
theorem ws_X_putOnTape : Cond.selects (ly_cn 10) y_X_putOnTape y_X_putOnTape ∈ ly_T := ly_sel (q := (y_X_putOnTape, 12)) (List.mem_of_getElem? (i := 1) (by decide +kernel))
theorem wc_Rd_byteAt : Cond.code y_Rd_byteAt prog_7_method_11_code 2 (some .int) ∈ ly_T := ly_at 333 (by decide +kernel) rfl
theorem wh_Rd_byteAt : xh_mh y_Rd_byteAt 1 := ⟨by decide, by decide, by decide +kernel⟩
theorem wn_Rd_byteAt : Cond.initialized y_Rd_byteAt.cls ∈ ly_T := ly_at 2 (by decide +kernel) rfl
theorem wi_Rd_byteAt : Cond.instanceMethod y_Rd_byteAt ∈ ly_T := ly_at 332 (by decide +kernel) rfl
theorem ws_Rd_byteAt : Cond.selects (ly_cn 5) y_Rd_byteAt y_Rd_byteAt ∈ ly_T := ly_sel (q := (y_Rd_byteAt, 13)) (List.mem_of_getElem? (i := 4) (by decide +kernel))
theorem wc_Rd_isWord : Cond.code y_Rd_isWord prog_7_method_10_code 6 (some .boolean) ∈ ly_T := ly_at 357 (by decide +kernel) rfl
theorem wh_Rd_isWord : xh_mh y_Rd_isWord 3 := ⟨by decide, by decide, by decide +kernel⟩
theorem wn_Rd_isWord : Cond.initialized y_Rd_isWord.cls ∈ ly_T := ly_at 2 (by decide +kernel) rfl
theorem wi_Rd_isWord : Cond.instanceMethod y_Rd_isWord ∈ ly_T := ly_at 356 (by decide +kernel) rfl
theorem ws_Rd_isWord : Cond.selects (ly_cn 5) y_Rd_isWord y_Rd_isWord ∈ ly_T := ly_sel (q := (y_Rd_isWord, 13)) (List.mem_of_getElem? (i := 9) (by decide +kernel))
theorem wc_Rd_kindOfWord : Cond.code y_Rd_kindOfWord prog_7_method_9_code 4 (some .int) ∈ ly_T := ly_at 353 (by decide +kernel) rfl
theorem wh_Rd_kindOfWord : xh_mh y_Rd_kindOfWord 2 := ⟨by decide, by decide, by decide +kernel⟩
theorem wn_Rd_kindOfWord : Cond.initialized y_Rd_kindOfWord.cls ∈ ly_T := ly_at 2 (by decide +kernel) rfl
theorem wi_Rd_kindOfWord : Cond.instanceMethod y_Rd_kindOfWord ∈ ly_T := ly_at 352 (by decide +kernel) rfl
theorem ws_Rd_kindOfWord : Cond.selects (ly_cn 5) y_Rd_kindOfWord y_Rd_kindOfWord ∈ ly_T := ly_sel (q := (y_Rd_kindOfWord, 13)) (List.mem_of_getElem? (i := 8) (by decide +kernel))
theorem wc_Rd_addToken : Cond.code y_Rd_addToken prog_7_method_8_code 6 (some .int) ∈ ly_T := ly_at 341 (by decide +kernel) rfl
theorem wh_Rd_addToken : xh_mh y_Rd_addToken 4 := ⟨by decide, by decide, by decide +kernel⟩
theorem wn_Rd_addToken : Cond.initialized y_Rd_addToken.cls ∈ ly_T := ly_at 2 (by decide +kernel) rfl
theorem wi_Rd_addToken : Cond.instanceMethod y_Rd_addToken ∈ ly_T := ly_at 340 (by decide +kernel) rfl
theorem ws_Rd_addToken : Cond.selects (ly_cn 5) y_Rd_addToken y_Rd_addToken ∈ ly_T := ly_sel (q := (y_Rd_addToken, 13)) (List.mem_of_getElem? (i := 6) (by decide +kernel))
theorem wc_Rd_isLetter : Cond.code y_Rd_isLetter prog_7_method_12_code 1 (some .boolean) ∈ ly_T := ly_at 344 (by decide +kernel) rfl
theorem wh_Rd_isLetter : xh_mh y_Rd_isLetter 1 := ⟨by decide, by decide, by decide +kernel⟩
theorem wn_Rd_isLetter : Cond.initialized y_Rd_isLetter.cls ∈ ly_T := ly_at 2 (by decide +kernel) rfl
theorem wt_Rd_isLetter : Cond.static y_Rd_isLetter ∈ ly_T := ly_at 343 (by decide +kernel) rfl
theorem wc_Rd_isDigit : Cond.code y_Rd_isDigit prog_7_method_13_code 1 (some .boolean) ∈ ly_T := ly_at 401 (by decide +kernel) rfl
theorem wh_Rd_isDigit : xh_mh y_Rd_isDigit 1 := ⟨by decide, by decide, by decide +kernel⟩
theorem wn_Rd_isDigit : Cond.initialized y_Rd_isDigit.cls ∈ ly_T := ly_at 2 (by decide +kernel) rfl
theorem wt_Rd_isDigit : Cond.static y_Rd_isDigit ∈ ly_T := ly_at 400 (by decide +kernel) rfl
theorem wc_Rd_isSign : Cond.code y_Rd_isSign prog_7_method_14_code 1 (some .boolean) ∈ ly_T := ly_at 408 (by decide +kernel) rfl
theorem wh_Rd_isSign : xh_mh y_Rd_isSign 1 := ⟨by decide, by decide, by decide +kernel⟩
theorem wn_Rd_isSign : Cond.initialized y_Rd_isSign.cls ∈ ly_T := ly_at 2 (by decide +kernel) rfl
theorem wt_Rd_isSign : Cond.static y_Rd_isSign ∈ ly_T := ly_at 407 (by decide +kernel) rfl
theorem wc_Rd_takeNumber : Cond.code y_Rd_takeNumber prog_7_method_7_code 5 (some .int) ∈ ly_T := ly_at 405 (by decide +kernel) rfl
theorem wh_Rd_takeNumber : xh_mh y_Rd_takeNumber 1 := ⟨by decide, by decide, by decide +kernel⟩
theorem wn_Rd_takeNumber : Cond.initialized y_Rd_takeNumber.cls ∈ ly_T := ly_at 2 (by decide +kernel) rfl
theorem wi_Rd_takeNumber : Cond.instanceMethod y_Rd_takeNumber ∈ ly_T := ly_at 404 (by decide +kernel) rfl
theorem ws_Rd_takeNumber : Cond.selects (ly_cn 5) y_Rd_takeNumber y_Rd_takeNumber ∈ ly_T := ly_sel (q := (y_Rd_takeNumber, 13)) (List.mem_of_getElem? (i := 10) (by decide +kernel))
theorem wc_Rd_takeWord : Cond.code y_Rd_takeWord prog_7_method_6_code 6 (some .int) ∈ ly_T := ly_at 348 (by decide +kernel) rfl
theorem wh_Rd_takeWord : xh_mh y_Rd_takeWord 1 := ⟨by decide, by decide, by decide +kernel⟩
theorem wn_Rd_takeWord : Cond.initialized y_Rd_takeWord.cls ∈ ly_T := ly_at 2 (by decide +kernel) rfl
theorem wi_Rd_takeWord : Cond.instanceMethod y_Rd_takeWord ∈ ly_T := ly_at 347 (by decide +kernel) rfl
theorem ws_Rd_takeWord : Cond.selects (ly_cn 5) y_Rd_takeWord y_Rd_takeWord ∈ ly_T := ly_sel (q := (y_Rd_takeWord, 13)) (List.mem_of_getElem? (i := 7) (by decide +kernel))
theorem wc_Rd_afterBlanks : Cond.code y_Rd_afterBlanks prog_7_method_4_code 4 (some .int) ∈ ly_T := ly_at 329 (by decide +kernel) rfl
theorem wh_Rd_afterBlanks : xh_mh y_Rd_afterBlanks 1 := ⟨by decide, by decide, by decide +kernel⟩
theorem wn_Rd_afterBlanks : Cond.initialized y_Rd_afterBlanks.cls ∈ ly_T := ly_at 2 (by decide +kernel) rfl
theorem wi_Rd_afterBlanks : Cond.instanceMethod y_Rd_afterBlanks ∈ ly_T := ly_at 328 (by decide +kernel) rfl
theorem ws_Rd_afterBlanks : Cond.selects (ly_cn 5) y_Rd_afterBlanks y_Rd_afterBlanks ∈ ly_T := ly_sel (q := (y_Rd_afterBlanks, 13)) (List.mem_of_getElem? (i := 3) (by decide +kernel))
theorem wc_Rd_takeToken : Cond.code y_Rd_takeToken prog_7_method_5_code 3 (some .int) ∈ ly_T := ly_at 337 (by decide +kernel) rfl
theorem wh_Rd_takeToken : xh_mh y_Rd_takeToken 1 := ⟨by decide, by decide, by decide +kernel⟩
theorem wn_Rd_takeToken : Cond.initialized y_Rd_takeToken.cls ∈ ly_T := ly_at 2 (by decide +kernel) rfl
theorem wi_Rd_takeToken : Cond.instanceMethod y_Rd_takeToken ∈ ly_T := ly_at 336 (by decide +kernel) rfl
theorem ws_Rd_takeToken : Cond.selects (ly_cn 5) y_Rd_takeToken y_Rd_takeToken ∈ ly_T := ly_sel (q := (y_Rd_takeToken, 13)) (List.mem_of_getElem? (i := 5) (by decide +kernel))
theorem wc_Rd_numberWithin : Cond.code y_Rd_numberWithin prog_7_method_27_code 4 (some .int) ∈ ly_T := ly_at 428 (by decide +kernel) rfl
theorem wh_Rd_numberWithin : xh_mh y_Rd_numberWithin 2 := ⟨by decide, by decide, by decide +kernel⟩
theorem wn_Rd_numberWithin : Cond.initialized y_Rd_numberWithin.cls ∈ ly_T := ly_at 2 (by decide +kernel) rfl
theorem wi_Rd_numberWithin : Cond.instanceMethod y_Rd_numberWithin ∈ ly_T := ly_at 427 (by decide +kernel) rfl
theorem ws_Rd_numberWithin : Cond.selects (ly_cn 5) y_Rd_numberWithin y_Rd_numberWithin ∈ ly_T := ly_sel (q := (y_Rd_numberWithin, 13)) (List.mem_of_getElem? (i := 15) (by decide +kernel))
theorem wc_Rd_readStart : Cond.code y_Rd_readStart prog_7_method_17_code 1 none ∈ ly_T := ly_at 432 (by decide +kernel) rfl
theorem wh_Rd_readStart : xh_mh y_Rd_readStart 0 := ⟨by decide, by decide, by decide +kernel⟩
theorem wn_Rd_readStart : Cond.initialized y_Rd_readStart.cls ∈ ly_T := ly_at 2 (by decide +kernel) rfl
theorem wi_Rd_readStart : Cond.instanceMethod y_Rd_readStart ∈ ly_T := ly_at 431 (by decide +kernel) rfl
theorem ws_Rd_readStart : Cond.selects (ly_cn 5) y_Rd_readStart y_Rd_readStart ∈ ly_T := ly_sel (q := (y_Rd_readStart, 13)) (List.mem_of_getElem? (i := 16) (by decide +kernel))
theorem wc_Rd_roleNamed : Cond.code y_Rd_roleNamed prog_7_method_28_code 4 (some .int) ∈ ly_T := ly_at 440 (by decide +kernel) rfl
theorem wh_Rd_roleNamed : xh_mh y_Rd_roleNamed 1 := ⟨by decide, by decide, by decide +kernel⟩
theorem wn_Rd_roleNamed : Cond.initialized y_Rd_roleNamed.cls ∈ ly_T := ly_at 2 (by decide +kernel) rfl
theorem wi_Rd_roleNamed : Cond.instanceMethod y_Rd_roleNamed ∈ ly_T := ly_at 439 (by decide +kernel) rfl
theorem ws_Rd_roleNamed : Cond.selects (ly_cn 5) y_Rd_roleNamed y_Rd_roleNamed ∈ ly_T := ly_sel (q := (y_Rd_roleNamed, 13)) (List.mem_of_getElem? (i := 18) (by decide +kernel))
theorem wc_Rd_expect : Cond.code y_Rd_expect prog_7_method_29_code 2 none ∈ ly_T := ly_at 444 (by decide +kernel) rfl
theorem wh_Rd_expect : xh_mh y_Rd_expect 1 := ⟨by decide, by decide, by decide +kernel⟩
theorem wn_Rd_expect : Cond.initialized y_Rd_expect.cls ∈ ly_T := ly_at 2 (by decide +kernel) rfl
theorem wi_Rd_expect : Cond.instanceMethod y_Rd_expect ∈ ly_T := ly_at 443 (by decide +kernel) rfl
theorem ws_Rd_expect : Cond.selects (ly_cn 5) y_Rd_expect y_Rd_expect ∈ ly_T := ly_sel (q := (y_Rd_expect, 13)) (List.mem_of_getElem? (i := 19) (by decide +kernel))
theorem wc_Pl_addRole : Cond.code y_Pl_addRole prog_6_method_3_code 4 none ∈ ly_T := ly_at 448 (by decide +kernel) rfl
theorem wh_Pl_addRole : xh_mh y_Pl_addRole 2 := ⟨by decide, by decide, by decide +kernel⟩
theorem wn_Pl_addRole : Cond.initialized y_Pl_addRole.cls ∈ ly_T := ly_at 3 (by decide +kernel) rfl
theorem wi_Pl_addRole : Cond.instanceMethod y_Pl_addRole ∈ ly_T := ly_at 446 (by decide +kernel) rfl
theorem ws_Pl_addRole : Cond.selects (ly_cn 4) y_Pl_addRole y_Pl_addRole ∈ ly_T := ly_at 447 (by decide +kernel) rfl
theorem wc_Rd_unitCode : Cond.code y_Rd_unitCode prog_7_method_26_code 1 (some .int) ∈ ly_T := ly_at 484 (by decide +kernel) rfl
theorem wh_Rd_unitCode : xh_mh y_Rd_unitCode 0 := ⟨by decide, by decide, by decide +kernel⟩
theorem wn_Rd_unitCode : Cond.initialized y_Rd_unitCode.cls ∈ ly_T := ly_at 2 (by decide +kernel) rfl
theorem wi_Rd_unitCode : Cond.instanceMethod y_Rd_unitCode ∈ ly_T := ly_at 483 (by decide +kernel) rfl
theorem ws_Rd_unitCode : Cond.selects (ly_cn 5) y_Rd_unitCode y_Rd_unitCode ∈ ly_T := ly_sel (q := (y_Rd_unitCode, 13)) (List.mem_of_getElem? (i := 27) (by decide +kernel))
theorem wc_Rd_readAny : Cond.code y_Rd_readAny prog_7_method_20_code 3 none ∈ ly_T := ly_at 456 (by decide +kernel) rfl
theorem wh_Rd_readAny : xh_mh y_Rd_readAny 1 := ⟨by decide, by decide, by decide +kernel⟩
theorem wn_Rd_readAny : Cond.initialized y_Rd_readAny.cls ∈ ly_T := ly_at 2 (by decide +kernel) rfl
theorem wi_Rd_readAny : Cond.instanceMethod y_Rd_readAny ∈ ly_T := ly_at 455 (by decide +kernel) rfl
theorem ws_Rd_readAny : Cond.selects (ly_cn 5) y_Rd_readAny y_Rd_readAny ∈ ly_T := ly_sel (q := (y_Rd_readAny, 13)) (List.mem_of_getElem? (i := 21) (by decide +kernel))
theorem wc_Pl_addCode : Cond.code y_Pl_addCode prog_6_method_4_code 2 none ∈ ly_T := ly_at 468 (by decide +kernel) rfl
theorem wh_Pl_addCode : xh_mh y_Pl_addCode 1 := ⟨by decide, by decide, by decide +kernel⟩
theorem wn_Pl_addCode : Cond.initialized y_Pl_addCode.cls ∈ ly_T := ly_at 3 (by decide +kernel) rfl
theorem wi_Pl_addCode : Cond.instanceMethod y_Pl_addCode ∈ ly_T := ly_at 466 (by decide +kernel) rfl
theorem ws_Pl_addCode : Cond.selects (ly_cn 4) y_Pl_addCode y_Pl_addCode ∈ ly_T := ly_at 467 (by decide +kernel) rfl
theorem wc_Rd_readUnit : Cond.code y_Rd_readUnit prog_7_method_25_code 3 none ∈ ly_T := ly_at 480 (by decide +kernel) rfl
theorem wh_Rd_readUnit : xh_mh y_Rd_readUnit 1 := ⟨by decide, by decide, by decide +kernel⟩
theorem wn_Rd_readUnit : Cond.initialized y_Rd_readUnit.cls ∈ ly_T := ly_at 2 (by decide +kernel) rfl
theorem wi_Rd_readUnit : Cond.instanceMethod y_Rd_readUnit ∈ ly_T := ly_at 479 (by decide +kernel) rfl
theorem ws_Rd_readUnit : Cond.selects (ly_cn 5) y_Rd_readUnit y_Rd_readUnit ∈ ly_T := ly_sel (q := (y_Rd_readUnit, 13)) (List.mem_of_getElem? (i := 26) (by decide +kernel))
theorem wc_Rd_readTerm : Cond.code y_Rd_readTerm prog_7_method_24_code 3 none ∈ ly_T := ly_at 476 (by decide +kernel) rfl
theorem wh_Rd_readTerm : xh_mh y_Rd_readTerm 1 := ⟨by decide, by decide, by decide +kernel⟩
theorem wn_Rd_readTerm : Cond.initialized y_Rd_readTerm.cls ∈ ly_T := ly_at 2 (by decide +kernel) rfl
theorem wi_Rd_readTerm : Cond.instanceMethod y_Rd_readTerm ∈ ly_T := ly_at 475 (by decide +kernel) rfl
theorem ws_Rd_readTerm : Cond.selects (ly_cn 5) y_Rd_readTerm y_Rd_readTerm ∈ ly_T := ly_sel (q := (y_Rd_readTerm, 13)) (List.mem_of_getElem? (i := 25) (by decide +kernel))
theorem wc_Rd_readOne : Cond.code y_Rd_readOne prog_7_method_22_code 3 none ∈ ly_T := ly_at 464 (by decide +kernel) rfl
theorem wh_Rd_readOne : xh_mh y_Rd_readOne 1 := ⟨by decide, by decide, by decide +kernel⟩
theorem wn_Rd_readOne : Cond.initialized y_Rd_readOne.cls ∈ ly_T := ly_at 2 (by decide +kernel) rfl
theorem wi_Rd_readOne : Cond.instanceMethod y_Rd_readOne ∈ ly_T := ly_at 463 (by decide +kernel) rfl
theorem ws_Rd_readOne : Cond.selects (ly_cn 5) y_Rd_readOne y_Rd_readOne ∈ ly_T := ly_sel (q := (y_Rd_readOne, 13)) (List.mem_of_getElem? (i := 23) (by decide +kernel))
theorem wc_Rd_readSum : Cond.code y_Rd_readSum prog_7_method_23_code 4 none ∈ ly_T := ly_at 472 (by decide +kernel) rfl
theorem wh_Rd_readSum : xh_mh y_Rd_readSum 1 := ⟨by decide, by decide, by decide +kernel⟩
theorem wn_Rd_readSum : Cond.initialized y_Rd_readSum.cls ∈ ly_T := ly_at 2 (by decide +kernel) rfl
theorem wi_Rd_readSum : Cond.instanceMethod y_Rd_readSum ∈ ly_T := ly_at 471 (by decide +kernel) rfl
theorem ws_Rd_readSum : Cond.selects (ly_cn 5) y_Rd_readSum y_Rd_readSum ∈ ly_T := ly_sel (q := (y_Rd_readSum, 13)) (List.mem_of_getElem? (i := 24) (by decide +kernel))
theorem wc_Rd_readBoth : Cond.code y_Rd_readBoth prog_7_method_21_code 3 none ∈ ly_T := ly_at 460 (by decide +kernel) rfl
theorem wh_Rd_readBoth : xh_mh y_Rd_readBoth 1 := ⟨by decide, by decide, by decide +kernel⟩
theorem wn_Rd_readBoth : Cond.initialized y_Rd_readBoth.cls ∈ ly_T := ly_at 2 (by decide +kernel) rfl
theorem wi_Rd_readBoth : Cond.instanceMethod y_Rd_readBoth ∈ ly_T := ly_at 459 (by decide +kernel) rfl
theorem ws_Rd_readBoth : Cond.selects (ly_cn 5) y_Rd_readBoth y_Rd_readBoth ∈ ly_T := ly_sel (q := (y_Rd_readBoth, 13)) (List.mem_of_getElem? (i := 22) (by decide +kernel))
theorem wc_Pl_addRule : Cond.code y_Pl_addRule prog_6_method_6_code 3 none ∈ ly_T := ly_at 492 (by decide +kernel) rfl
theorem wh_Pl_addRule : xh_mh y_Pl_addRule 2 := ⟨by decide, by decide, by decide +kernel⟩
theorem wn_Pl_addRule : Cond.initialized y_Pl_addRule.cls ∈ ly_T := ly_at 3 (by decide +kernel) rfl
theorem wi_Pl_addRule : Cond.instanceMethod y_Pl_addRule ∈ ly_T := ly_at 490 (by decide +kernel) rfl
theorem ws_Pl_addRule : Cond.selects (ly_cn 4) y_Pl_addRule y_Pl_addRule ∈ ly_T := ly_at 491 (by decide +kernel) rfl
theorem wc_Pl_endPart : Cond.code y_Pl_endPart prog_6_method_5_code 3 none ∈ ly_T := ly_at 488 (by decide +kernel) rfl
theorem wh_Pl_endPart : xh_mh y_Pl_endPart 1 := ⟨by decide, by decide, by decide +kernel⟩
theorem wn_Pl_endPart : Cond.initialized y_Pl_endPart.cls ∈ ly_T := ly_at 3 (by decide +kernel) rfl
theorem wi_Pl_endPart : Cond.instanceMethod y_Pl_endPart ∈ ly_T := ly_at 486 (by decide +kernel) rfl
theorem ws_Pl_endPart : Cond.selects (ly_cn 4) y_Pl_endPart y_Pl_endPart ∈ ly_T := ly_at 487 (by decide +kernel) rfl
theorem wc_Rd_readSetting : Cond.code y_Rd_readSetting prog_7_method_16_code 2 none ∈ ly_T := ly_at 424 (by decide +kernel) rfl
theorem wh_Rd_readSetting : xh_mh y_Rd_readSetting 0 := ⟨by decide, by decide, by decide +kernel⟩
theorem wn_Rd_readSetting : Cond.initialized y_Rd_readSetting.cls ∈ ly_T := ly_at 2 (by decide +kernel) rfl
theorem wi_Rd_readSetting : Cond.instanceMethod y_Rd_readSetting ∈ ly_T := ly_at 423 (by decide +kernel) rfl
theorem ws_Rd_readSetting : Cond.selects (ly_cn 5) y_Rd_readSetting y_Rd_readSetting ∈ ly_T := ly_sel (q := (y_Rd_readSetting, 13)) (List.mem_of_getElem? (i := 14) (by decide +kernel))
theorem wc_Rd_readRole : Cond.code y_Rd_readRole prog_7_method_18_code 3 none ∈ ly_T := ly_at 436 (by decide +kernel) rfl
theorem wh_Rd_readRole : xh_mh y_Rd_readRole 0 := ⟨by decide, by decide, by decide +kernel⟩
theorem wn_Rd_readRole : Cond.initialized y_Rd_readRole.cls ∈ ly_T := ly_at 2 (by decide +kernel) rfl
theorem wi_Rd_readRole : Cond.instanceMethod y_Rd_readRole ∈ ly_T := ly_at 435 (by decide +kernel) rfl
theorem ws_Rd_readRole : Cond.selects (ly_cn 5) y_Rd_readRole y_Rd_readRole ∈ ly_T := ly_sel (q := (y_Rd_readRole, 13)) (List.mem_of_getElem? (i := 17) (by decide +kernel))
theorem wc_Rd_readRule : Cond.code y_Rd_readRule prog_7_method_19_code 3 none ∈ ly_T := ly_at 452 (by decide +kernel) rfl
theorem wh_Rd_readRule : xh_mh y_Rd_readRule 0 := ⟨by decide, by decide, by decide +kernel⟩
theorem wn_Rd_readRule : Cond.initialized y_Rd_readRule.cls ∈ ly_T := ly_at 2 (by decide +kernel) rfl
theorem wi_Rd_readRule : Cond.instanceMethod y_Rd_readRule ∈ ly_T := ly_at 451 (by decide +kernel) rfl
theorem ws_Rd_readRule : Cond.selects (ly_cn 5) y_Rd_readRule y_Rd_readRule ∈ ly_T := ly_sel (q := (y_Rd_readRule, 13)) (List.mem_of_getElem? (i := 20) (by decide +kernel))
theorem wc_Rd_splitText : Cond.code y_Rd_splitText prog_7_method_3_code 3 none ∈ ly_T := ly_at 325 (by decide +kernel) rfl
theorem wh_Rd_splitText : xh_mh y_Rd_splitText 0 := ⟨by decide, by decide, by decide +kernel⟩
theorem wn_Rd_splitText : Cond.initialized y_Rd_splitText.cls ∈ ly_T := ly_at 2 (by decide +kernel) rfl
theorem wi_Rd_splitText : Cond.instanceMethod y_Rd_splitText ∈ ly_T := ly_at 324 (by decide +kernel) rfl
theorem ws_Rd_splitText : Cond.selects (ly_cn 5) y_Rd_splitText y_Rd_splitText ∈ ly_T := ly_sel (q := (y_Rd_splitText, 13)) (List.mem_of_getElem? (i := 2) (by decide +kernel))
theorem wc_Rd_readLine : Cond.code y_Rd_readLine prog_7_method_15_code 1 none ∈ ly_T := ly_at 420 (by decide +kernel) rfl
theorem wh_Rd_readLine : xh_mh y_Rd_readLine 0 := ⟨by decide, by decide, by decide +kernel⟩
theorem wn_Rd_readLine : Cond.initialized y_Rd_readLine.cls ∈ ly_T := ly_at 2 (by decide +kernel) rfl
theorem wi_Rd_readLine : Cond.instanceMethod y_Rd_readLine ∈ ly_T := ly_at 419 (by decide +kernel) rfl
theorem ws_Rd_readLine : Cond.selects (ly_cn 5) y_Rd_readLine y_Rd_readLine ∈ ly_T := ly_sel (q := (y_Rd_readLine, 13)) (List.mem_of_getElem? (i := 13) (by decide +kernel))
theorem wc_Rd_reads : Cond.code y_Rd_reads prog_7_method_2_code 5 (some .boolean) ∈ ly_T := ly_at 317 (by decide +kernel) rfl
theorem wh_Rd_reads : xh_mh y_Rd_reads 3 := ⟨by decide, by decide, by decide +kernel⟩
theorem wn_Rd_reads : Cond.initialized y_Rd_reads.cls ∈ ly_T := ly_at 2 (by decide +kernel) rfl
theorem wi_Rd_reads : Cond.instanceMethod y_Rd_reads ∈ ly_T := ly_at 315 (by decide +kernel) rfl
theorem ws_Rd_reads : Cond.selects (ly_cn 5) y_Rd_reads y_Rd_reads ∈ ly_T := ly_at 316 (by decide +kernel) rfl
theorem wc_Pl_allOn : Cond.code y_Pl_allOn prog_6_method_16_code 1 (some .int) ∈ ly_T := ly_at 508 (by decide +kernel) rfl
theorem wh_Pl_allOn : xh_mh y_Pl_allOn 0 := ⟨by decide, by decide, by decide +kernel⟩
theorem wn_Pl_allOn : Cond.initialized y_Pl_allOn.cls ∈ ly_T := ly_at 3 (by decide +kernel) rfl
theorem wi_Pl_allOn : Cond.instanceMethod y_Pl_allOn ∈ ly_T := ly_at 507 (by decide +kernel) rfl
theorem ws_Pl_allOn : Cond.selects (ly_cn 4) y_Pl_allOn y_Pl_allOn ∈ ly_T := ly_sel (q := (y_Pl_allOn, 17)) (List.mem_of_getElem? (i := 28) (by decide +kernel))
theorem wc_Pl_canBeLamps : Cond.code y_Pl_canBeLamps prog_6_method_9_code 2 (some .boolean) ∈ ly_T := ly_at 504 (by decide +kernel) rfl
theorem wh_Pl_canBeLamps : xh_mh y_Pl_canBeLamps 1 := ⟨by decide, by decide, by decide +kernel⟩
theorem wn_Pl_canBeLamps : Cond.initialized y_Pl_canBeLamps.cls ∈ ly_T := ly_at 3 (by decide +kernel) rfl
theorem wi_Pl_canBeLamps : Cond.instanceMethod y_Pl_canBeLamps ∈ ly_T := ly_at 502 (by decide +kernel) rfl
theorem ws_Pl_canBeLamps : Cond.selects (ly_cn 4) y_Pl_canBeLamps y_Pl_canBeLamps ∈ ly_T := ly_at 503 (by decide +kernel) rfl
theorem wc_Pl_joined : Cond.code y_Pl_joined prog_6_method_19_code 3 (some .int) ∈ ly_T := ly_at 547 (by decide +kernel) rfl
theorem wh_Pl_joined : xh_mh y_Pl_joined 3 := ⟨by decide, by decide, by decide +kernel⟩
theorem wn_Pl_joined : Cond.initialized y_Pl_joined.cls ∈ ly_T := ly_at 3 (by decide +kernel) rfl
theorem wt_Pl_joined : Cond.static y_Pl_joined ∈ ly_T := ly_at 546 (by decide +kernel) rfl
theorem wc_Pl_push : Cond.code y_Pl_push prog_6_method_18_code 3 (some .int) ∈ ly_T := ly_at 544 (by decide +kernel) rfl
theorem wh_Pl_push : xh_mh y_Pl_push 2 := ⟨by decide, by decide, by decide +kernel⟩
theorem wn_Pl_push : Cond.initialized y_Pl_push.cls ∈ ly_T := ly_at 3 (by decide +kernel) rfl
theorem wi_Pl_push : Cond.instanceMethod y_Pl_push ∈ ly_T := ly_at 543 (by decide +kernel) rfl
theorem ws_Pl_push : Cond.selects (ly_cn 4) y_Pl_push y_Pl_push ∈ ly_T := ly_sel (q := (y_Pl_push, 17)) (List.mem_of_getElem? (i := 30) (by decide +kernel))
theorem wc_St_dayOf : Cond.code y_St_dayOf prog_9_method_3_code 2 (some .int) ∈ ly_T := ly_at 527 (by decide +kernel) rfl
theorem wh_St_dayOf : xh_mh y_St_dayOf 1 := ⟨by decide, by decide, by decide +kernel⟩
theorem wn_St_dayOf : Cond.initialized y_St_dayOf.cls ∈ ly_T := ly_at 7 (by decide +kernel) rfl
theorem wt_St_dayOf : Cond.static y_St_dayOf ∈ ly_T := ly_at 526 (by decide +kernel) rfl
theorem wc_St_heldBy : Cond.code y_St_heldBy prog_9_method_4_code 3 (some .int) ∈ ly_T := ly_at 533 (by decide +kernel) rfl
theorem wh_St_heldBy : xh_mh y_St_heldBy 2 := ⟨by decide, by decide, by decide +kernel⟩
theorem wn_St_heldBy : Cond.initialized y_St_heldBy.cls ∈ ly_T := ly_at 7 (by decide +kernel) rfl
theorem wt_St_heldBy : Cond.static y_St_heldBy ∈ ly_T := ly_at 532 (by decide +kernel) rfl
theorem wc_St_visitsOf : Cond.code y_St_visitsOf prog_9_method_5_code 3 (some .int) ∈ ly_T := ly_at 536 (by decide +kernel) rfl
theorem wh_St_visitsOf : xh_mh y_St_visitsOf 2 := ⟨by decide, by decide, by decide +kernel⟩
theorem wn_St_visitsOf : Cond.initialized y_St_visitsOf.cls ∈ ly_T := ly_at 7 (by decide +kernel) rfl
theorem wt_St_visitsOf : Cond.static y_St_visitsOf ∈ ly_T := ly_at 535 (by decide +kernel) rfl
theorem wc_Pl_valueOf : Cond.code y_Pl_valueOf prog_6_method_17_code 8 (some .int) ∈ ly_T := ly_at 540 (by decide +kernel) rfl
theorem wh_Pl_valueOf : xh_mh y_Pl_valueOf 2 := ⟨by decide, by decide, by decide +kernel⟩
theorem wn_Pl_valueOf : Cond.initialized y_Pl_valueOf.cls ∈ ly_T := ly_at 3 (by decide +kernel) rfl
theorem wi_Pl_valueOf : Cond.instanceMethod y_Pl_valueOf ∈ ly_T := ly_at 539 (by decide +kernel) rfl
theorem ws_Pl_valueOf : Cond.selects (ly_cn 4) y_Pl_valueOf y_Pl_valueOf ∈ ly_T := ly_sel (q := (y_Pl_valueOf, 17)) (List.mem_of_getElem? (i := 29) (by decide +kernel))
theorem wc_St_lampsOf : Cond.code y_St_lampsOf prog_9_method_2_code 2 (some .int) ∈ ly_T := ly_at 530 (by decide +kernel) rfl
theorem wh_St_lampsOf : xh_mh y_St_lampsOf 1 := ⟨by decide, by decide, by decide +kernel⟩
theorem wn_St_lampsOf : Cond.initialized y_St_lampsOf.cls ∈ ly_T := ly_at 7 (by decide +kernel) rfl
theorem wt_St_lampsOf : Cond.static y_St_lampsOf ∈ ly_T := ly_at 529 (by decide +kernel) rfl
theorem wc_St_withDay : Cond.code y_St_withDay prog_9_method_8_code 3 (some .long) ∈ ly_T := ly_at 558 (by decide +kernel) rfl
theorem wh_St_withDay : xh_mh y_St_withDay 2 := ⟨by decide, by decide, by decide +kernel⟩
theorem wn_St_withDay : Cond.initialized y_St_withDay.cls ∈ ly_T := ly_at 7 (by decide +kernel) rfl
theorem wt_St_withDay : Cond.static y_St_withDay ∈ ly_T := ly_at 557 (by decide +kernel) rfl
theorem wc_St_withBeen : Cond.code y_St_withBeen prog_9_method_10_code 3 (some .long) ∈ ly_T := ly_at 563 (by decide +kernel) rfl
theorem wh_St_withBeen : xh_mh y_St_withBeen 2 := ⟨by decide, by decide, by decide +kernel⟩
theorem wn_St_withBeen : Cond.initialized y_St_withBeen.cls ∈ ly_T := ly_at 7 (by decide +kernel) rfl
theorem wt_St_withBeen : Cond.static y_St_withBeen ∈ ly_T := ly_at 562 (by decide +kernel) rfl
theorem wc_St_hasBeen : Cond.code y_St_hasBeen prog_9_method_6_code 3 (some .boolean) ∈ ly_T := ly_at 570 (by decide +kernel) rfl
theorem wh_St_hasBeen : xh_mh y_St_hasBeen 2 := ⟨by decide, by decide, by decide +kernel⟩
theorem wn_St_hasBeen : Cond.initialized y_St_hasBeen.cls ∈ ly_T := ly_at 7 (by decide +kernel) rfl
theorem wt_St_hasBeen : Cond.static y_St_hasBeen ∈ ly_T := ly_at 569 (by decide +kernel) rfl
theorem wc_Pl_outcome : Cond.code y_Pl_outcome prog_6_method_14_code 11 (some .int) ∈ ly_T := ly_at 524 (by decide +kernel) rfl
theorem wh_Pl_outcome : xh_mh y_Pl_outcome 2 := ⟨by decide, by decide, by decide +kernel⟩
theorem wn_Pl_outcome : Cond.initialized y_Pl_outcome.cls ∈ ly_T := ly_at 3 (by decide +kernel) rfl
theorem wi_Pl_outcome : Cond.instanceMethod y_Pl_outcome ∈ ly_T := ly_at 522 (by decide +kernel) rfl
theorem ws_Pl_outcome : Cond.selects (ly_cn 4) y_Pl_outcome y_Pl_outcome ∈ ly_T := ly_at 523 (by decide +kernel) rfl
theorem wc_Pl_after : Cond.code y_Pl_after prog_6_method_15_code 9 (some .long) ∈ ly_T := ly_at 555 (by decide +kernel) rfl
theorem wh_Pl_after : xh_mh y_Pl_after 3 := ⟨by decide, by decide, by decide +kernel⟩
theorem wn_Pl_after : Cond.initialized y_Pl_after.cls ∈ ly_T := ly_at 3 (by decide +kernel) rfl
theorem wi_Pl_after : Cond.instanceMethod y_Pl_after ∈ ly_T := ly_at 553 (by decide +kernel) rfl
theorem ws_Pl_after : Cond.selects (ly_cn 4) y_Pl_after y_Pl_after ∈ ly_T := ly_at 554 (by decide +kernel) rfl
theorem wc_Pl_haveAllBeen : Cond.code y_Pl_haveAllBeen prog_6_method_13_code 5 (some .boolean) ∈ ly_T := ly_at 567 (by decide +kernel) rfl
theorem wh_Pl_haveAllBeen : xh_mh y_Pl_haveAllBeen 1 := ⟨by decide, by decide, by decide +kernel⟩
theorem wn_Pl_haveAllBeen : Cond.initialized y_Pl_haveAllBeen.cls ∈ ly_T := ly_at 3 (by decide +kernel) rfl
theorem wi_Pl_haveAllBeen : Cond.instanceMethod y_Pl_haveAllBeen ∈ ly_T := ly_at 565 (by decide +kernel) rfl
theorem ws_Pl_haveAllBeen : Cond.selects (ly_cn 4) y_Pl_haveAllBeen y_Pl_haveAllBeen ∈ ly_T := ly_at 566 (by decide +kernel) rfl
theorem wc_Pl_hasMan : Cond.code y_Pl_hasMan prog_6_method_7_code 2 (some .boolean) ∈ ly_T := ly_at 516 (by decide +kernel) rfl
theorem wh_Pl_hasMan : xh_mh y_Pl_hasMan 1 := ⟨by decide, by decide, by decide +kernel⟩
theorem wn_Pl_hasMan : Cond.initialized y_Pl_hasMan.cls ∈ ly_T := ly_at 3 (by decide +kernel) rfl
theorem wi_Pl_hasMan : Cond.instanceMethod y_Pl_hasMan ∈ ly_T := ly_at 514 (by decide +kernel) rfl
theorem ws_Pl_hasMan : Cond.selects (ly_cn 4) y_Pl_hasMan y_Pl_hasMan ∈ ly_T := ly_at 515 (by decide +kernel) rfl
theorem wc_Co_leadOut : Cond.code y_Co_leadOut prog_3_method_4_code 4 (some .int) ∈ ly_T := ly_at 520 (by decide +kernel) rfl
theorem wh_Co_leadOut : xh_mh y_Co_leadOut 2 := ⟨by decide, by decide, by decide +kernel⟩
theorem wn_Co_leadOut : Cond.initialized y_Co_leadOut.cls ∈ ly_T := ly_at 4 (by decide +kernel) rfl
theorem wi_Co_leadOut : Cond.instanceMethod y_Co_leadOut ∈ ly_T := ly_at 518 (by decide +kernel) rfl
theorem ws_Co_leadOut : Cond.selects (ly_cn 1) y_Co_leadOut y_Co_leadOut ∈ ly_T := ly_at 519 (by decide +kernel) rfl
theorem wc_Sp_new : Cond.code y_Sp_new prog_11_method_1_code 1 none ∈ ly_T := ly_at 608 (by decide +kernel) rfl
theorem wh_Sp_new : xh_mh y_Sp_new 0 := ⟨by decide, by decide, by decide +kernel⟩
theorem wn_Sp_new : Cond.initialized y_Sp_new.cls ∈ ly_T := ly_at 15 (by decide +kernel) rfl
theorem wi_Sp_new : Cond.instanceMethod y_Sp_new ∈ ly_T := ly_at 607 (by decide +kernel) rfl
theorem wc_Ss_new : Cond.code y_Ss_new prog_10_method_1_code 1 none ∈ ly_T := ly_at 618 (by decide +kernel) rfl
theorem wh_Ss_new : xh_mh y_Ss_new 0 := ⟨by decide, by decide, by decide +kernel⟩
theorem wn_Ss_new : Cond.initialized y_Ss_new.cls ∈ ly_T := ly_at 16 (by decide +kernel) rfl
theorem wi_Ss_new : Cond.instanceMethod y_Ss_new ∈ ly_T := ly_at 617 (by decide +kernel) rfl
theorem wc_Ss_putIn : Cond.code y_Ss_putIn prog_10_method_5_code 4 (some .int) ∈ ly_T := ly_at 739 (by decide +kernel) rfl
theorem wh_Ss_putIn : xh_mh y_Ss_putIn 2 := ⟨by decide, by decide, by decide +kernel⟩
theorem wn_Ss_putIn : Cond.initialized y_Ss_putIn.cls ∈ ly_T := ly_at 16 (by decide +kernel) rfl
theorem wi_Ss_putIn : Cond.instanceMethod y_Ss_putIn ∈ ly_T := ly_at 738 (by decide +kernel) rfl
theorem ws_Ss_putIn : Cond.selects (ly_cn 7) y_Ss_putIn y_Ss_putIn ∈ ly_T := ly_sel (q := (y_Ss_putIn, 4)) (List.mem_of_getElem? (i := 33) (by decide +kernel))
theorem wc_Pl_isStart : Cond.code y_Pl_isStart prog_6_method_10_code 2 (some .boolean) ∈ ly_T := ly_at 728 (by decide +kernel) rfl
theorem wh_Pl_isStart : xh_mh y_Pl_isStart 1 := ⟨by decide, by decide, by decide +kernel⟩
theorem wn_Pl_isStart : Cond.initialized y_Pl_isStart.cls ∈ ly_T := ly_at 3 (by decide +kernel) rfl
theorem wi_Pl_isStart : Cond.instanceMethod y_Pl_isStart ∈ ly_T := ly_at 726 (by decide +kernel) rfl
theorem ws_Pl_isStart : Cond.selects (ly_cn 4) y_Pl_isStart y_Pl_isStart ∈ ly_T := ly_at 727 (by decide +kernel) rfl
theorem wc_Ss_numberOf : Cond.code y_Ss_numberOf prog_10_method_4_code 6 (some .int) ∈ ly_T := ly_at 734 (by decide +kernel) rfl
theorem wh_Ss_numberOf : xh_mh y_Ss_numberOf 1 := ⟨by decide, by decide, by decide +kernel⟩
theorem wn_Ss_numberOf : Cond.initialized y_Ss_numberOf.cls ∈ ly_T := ly_at 16 (by decide +kernel) rfl
theorem wi_Ss_numberOf : Cond.instanceMethod y_Ss_numberOf ∈ ly_T := ly_at 732 (by decide +kernel) rfl
theorem ws_Ss_numberOf : Cond.selects (ly_cn 7) y_Ss_numberOf y_Ss_numberOf ∈ ly_T := ly_at 733 (by decide +kernel) rfl
theorem wc_Sv_daysTo : Cond.code y_Sv_daysTo prog_12_method_9_code 4 (some .int) ∈ ly_T := ly_at 769 (by decide +kernel) rfl
theorem wh_Sv_daysTo : xh_mh y_Sv_daysTo 1 := ⟨by decide, by decide, by decide +kernel⟩
theorem wn_Sv_daysTo : Cond.initialized y_Sv_daysTo.cls ∈ ly_T := ly_at 14 (by decide +kernel) rfl
theorem wi_Sv_daysTo : Cond.instanceMethod y_Sv_daysTo ∈ ly_T := ly_at 768 (by decide +kernel) rfl
theorem ws_Sv_daysTo : Cond.selects (ly_cn 9) y_Sv_daysTo y_Sv_daysTo ∈ ly_T := ly_sel (q := (y_Sv_daysTo, 16)) (List.mem_of_getElem? (i := 36) (by decide +kernel))
theorem wc_Ss_member : Cond.code y_Ss_member prog_10_method_3_code 2 (some .long) ∈ ly_T := ly_at 747 (by decide +kernel) rfl
theorem wh_Ss_member : xh_mh y_Ss_member 1 := ⟨by decide, by decide, by decide +kernel⟩
theorem wn_Ss_member : Cond.initialized y_Ss_member.cls ∈ ly_T := ly_at 16 (by decide +kernel) rfl
theorem wi_Ss_member : Cond.instanceMethod y_Ss_member ∈ ly_T := ly_at 745 (by decide +kernel) rfl
theorem ws_Ss_member : Cond.selects (ly_cn 7) y_Ss_member y_Ss_member ∈ ly_T := ly_at 746 (by decide +kernel) rfl
theorem wc_Sv_keepRow : Cond.code y_Sv_keepRow prog_12_method_10_code 5 none ∈ ly_T := ly_at 773 (by decide +kernel) rfl
theorem wh_Sv_keepRow : xh_mh y_Sv_keepRow 2 := ⟨by decide, by decide, by decide +kernel⟩
theorem wn_Sv_keepRow : Cond.initialized y_Sv_keepRow.cls ∈ ly_T := ly_at 14 (by decide +kernel) rfl
theorem wi_Sv_keepRow : Cond.instanceMethod y_Sv_keepRow ∈ ly_T := ly_at 772 (by decide +kernel) rfl
theorem ws_Sv_keepRow : Cond.selects (ly_cn 9) y_Sv_keepRow y_Sv_keepRow ∈ ly_T := ly_sel (q := (y_Sv_keepRow, 16)) (List.mem_of_getElem? (i := 37) (by decide +kernel))
theorem wc_Sp_outcome : Cond.code y_Sp_outcome prog_11_method_3_code 6 (some .int) ∈ ly_T := ly_at 753 (by decide +kernel) rfl
theorem wh_Sp_outcome : xh_mh y_Sp_outcome 3 := ⟨by decide, by decide, by decide +kernel⟩
theorem wn_Sp_outcome : Cond.initialized y_Sp_outcome.cls ∈ ly_T := ly_at 15 (by decide +kernel) rfl
theorem wi_Sp_outcome : Cond.instanceMethod y_Sp_outcome ∈ ly_T := ly_at 751 (by decide +kernel) rfl
theorem ws_Sp_outcome : Cond.selects (ly_cn 8) y_Sp_outcome y_Sp_outcome ∈ ly_T := ly_at 752 (by decide +kernel) rfl
theorem wc_Sv_goOn : Cond.code y_Sv_goOn prog_12_method_8_code 7 (some .int) ∈ ly_T := ly_at 778 (by decide +kernel) rfl
theorem wh_Sv_goOn : xh_mh y_Sv_goOn 3 := ⟨by decide, by decide, by decide +kernel⟩
theorem wn_Sv_goOn : Cond.initialized y_Sv_goOn.cls ∈ ly_T := ly_at 14 (by decide +kernel) rfl
theorem wi_Sv_goOn : Cond.instanceMethod y_Sv_goOn ∈ ly_T := ly_at 777 (by decide +kernel) rfl
theorem ws_Sv_goOn : Cond.selects (ly_cn 9) y_Sv_goOn y_Sv_goOn ∈ ly_T := ly_sel (q := (y_Sv_goOn, 16)) (List.mem_of_getElem? (i := 38) (by decide +kernel))
theorem wc_Sv_noteSaid : Cond.code y_Sv_noteSaid prog_12_method_7_code 5 (some .int) ∈ ly_T := ly_at 764 (by decide +kernel) rfl
theorem wh_Sv_noteSaid : xh_mh y_Sv_noteSaid 3 := ⟨by decide, by decide, by decide +kernel⟩
theorem wn_Sv_noteSaid : Cond.initialized y_Sv_noteSaid.cls ∈ ly_T := ly_at 14 (by decide +kernel) rfl
theorem wi_Sv_noteSaid : Cond.instanceMethod y_Sv_noteSaid ∈ ly_T := ly_at 763 (by decide +kernel) rfl
theorem ws_Sv_noteSaid : Cond.selects (ly_cn 9) y_Sv_noteSaid y_Sv_noteSaid ∈ ly_T := ly_sel (q := (y_Sv_noteSaid, 16)) (List.mem_of_getElem? (i := 35) (by decide +kernel))
theorem wc_Sp_clear : Cond.code y_Sp_clear prog_11_method_2_code 1 none ∈ ly_T := ly_at 712 (by decide +kernel) rfl
theorem wh_Sp_clear : xh_mh y_Sp_clear 0 := ⟨by decide, by decide, by decide +kernel⟩
theorem wn_Sp_clear : Cond.initialized y_Sp_clear.cls ∈ ly_T := ly_at 15 (by decide +kernel) rfl
theorem wi_Sp_clear : Cond.instanceMethod y_Sp_clear ∈ ly_T := ly_at 710 (by decide +kernel) rfl
theorem ws_Sp_clear : Cond.selects (ly_cn 8) y_Sp_clear y_Sp_clear ∈ ly_T := ly_at 711 (by decide +kernel) rfl
theorem wc_Ss_clear : Cond.code y_Ss_clear prog_10_method_2_code 2 none ∈ ly_T := ly_at 717 (by decide +kernel) rfl
theorem wh_Ss_clear : xh_mh y_Ss_clear 1 := ⟨by decide, by decide, by decide +kernel⟩
theorem wn_Ss_clear : Cond.initialized y_Ss_clear.cls ∈ ly_T := ly_at 16 (by decide +kernel) rfl
theorem wi_Ss_clear : Cond.instanceMethod y_Ss_clear ∈ ly_T := ly_at 715 (by decide +kernel) rfl
theorem ws_Ss_clear : Cond.selects (ly_cn 7) y_Ss_clear y_Ss_clear ∈ ly_T := ly_at 716 (by decide +kernel) rfl
theorem wc_Sv_putStarts : Cond.code y_Sv_putStarts prog_12_method_5_code 3 none ∈ ly_T := ly_at 724 (by decide +kernel) rfl
theorem wh_Sv_putStarts : xh_mh y_Sv_putStarts 0 := ⟨by decide, by decide, by decide +kernel⟩
theorem wn_Sv_putStarts : Cond.initialized y_Sv_putStarts.cls ∈ ly_T := ly_at 14 (by decide +kernel) rfl
theorem wi_Sv_putStarts : Cond.instanceMethod y_Sv_putStarts ∈ ly_T := ly_at 723 (by decide +kernel) rfl
theorem ws_Sv_putStarts : Cond.selects (ly_cn 9) y_Sv_putStarts y_Sv_putStarts ∈ ly_T := ly_sel (q := (y_Sv_putStarts, 16)) (List.mem_of_getElem? (i := 32) (by decide +kernel))
theorem wc_Sv_leadAll : Cond.code y_Sv_leadAll prog_12_method_6_code 9 none ∈ ly_T := ly_at 743 (by decide +kernel) rfl
theorem wh_Sv_leadAll : xh_mh y_Sv_leadAll 1 := ⟨by decide, by decide, by decide +kernel⟩
theorem wn_Sv_leadAll : Cond.initialized y_Sv_leadAll.cls ∈ ly_T := ly_at 14 (by decide +kernel) rfl
theorem wi_Sv_leadAll : Cond.instanceMethod y_Sv_leadAll ∈ ly_T := ly_at 742 (by decide +kernel) rfl
theorem ws_Sv_leadAll : Cond.selects (ly_cn 9) y_Sv_leadAll y_Sv_leadAll ∈ ly_T := ly_sel (q := (y_Sv_leadAll, 16)) (List.mem_of_getElem? (i := 34) (by decide +kernel))
theorem wc_Sv_new : Cond.code y_Sv_new prog_12_method_1_code 1 none ∈ ly_T := ly_at 602 (by decide +kernel) rfl
theorem wh_Sv_new : xh_mh y_Sv_new 0 := ⟨by decide, by decide, by decide +kernel⟩
theorem wn_Sv_new : Cond.initialized y_Sv_new.cls ∈ ly_T := ly_at 14 (by decide +kernel) rfl
theorem wi_Sv_new : Cond.instanceMethod y_Sv_new ∈ ly_T := ly_at 601 (by decide +kernel) rfl
theorem wc_Sv_explore : Cond.code y_Sv_explore prog_12_method_2_code 3 none ∈ ly_T := ly_at 708 (by decide +kernel) rfl
theorem wh_Sv_explore : xh_mh y_Sv_explore 1 := ⟨by decide, by decide, by decide +kernel⟩
theorem wn_Sv_explore : Cond.initialized y_Sv_explore.cls ∈ ly_T := ly_at 14 (by decide +kernel) rfl
theorem wi_Sv_explore : Cond.instanceMethod y_Sv_explore ∈ ly_T := ly_at 706 (by decide +kernel) rfl
theorem ws_Sv_explore : Cond.selects (ly_cn 9) y_Sv_explore y_Sv_explore ∈ ly_T := ly_at 707 (by decide +kernel) rfl
theorem wc_X_surveyOfPlan : Cond.code y_X_surveyOfPlan prog_1_method_38_code 1 (some (.object "LampYard$Survey")) ∈ ly_T := ly_at 597 (by decide +kernel) rfl
theorem wh_X_surveyOfPlan : xh_mh y_X_surveyOfPlan 0 := ⟨by decide, by decide, by decide +kernel⟩
theorem wn_X_surveyOfPlan : Cond.initialized y_X_surveyOfPlan.cls ∈ ly_T := ly_at 1 (by decide +kernel) rfl
theorem wi_X_surveyOfPlan : Cond.instanceMethod y_X_surveyOfPlan ∈ ly_T := ly_at 596 (by decide +kernel) rfl
theorem ws_X_surveyOfPlan : Cond.selects (ly_cn 10) y_X_surveyOfPlan y_X_surveyOfPlan ∈ ly_T := ly_sel (q := (y_X_surveyOfPlan, 12)) (List.mem_of_getElem? (i := 31) (by decide +kernel))
theorem wc_Ro_enter : Cond.code y_Ro_enter prog_8_method_4_code 2 none ∈ ly_T := ly_at 858 (by decide +kernel) rfl
theorem wh_Ro_enter : xh_mh y_Ro_enter 1 := ⟨by decide, by decide, by decide +kernel⟩
theorem wn_Ro_enter : Cond.initialized y_Ro_enter.cls ∈ ly_T := ly_at 17 (by decide +kernel) rfl
theorem wi_Ro_enter : Cond.instanceMethod y_Ro_enter ∈ ly_T := ly_at 857 (by decide +kernel) rfl
theorem ws_Ro_enter : Cond.selects (ly_cn 6) y_Ro_enter y_Ro_enter ∈ ly_T := ly_sel (q := (y_Ro_enter, 12)) (List.mem_of_getElem? (i := 40) (by decide +kernel))
theorem wc_Sv_nextOf : Cond.code y_Sv_nextOf prog_12_method_3_code 3 (some .int) ∈ ly_T := ly_at 863 (by decide +kernel) rfl
theorem wh_Sv_nextOf : xh_mh y_Sv_nextOf 2 := ⟨by decide, by decide, by decide +kernel⟩
theorem wn_Sv_nextOf : Cond.initialized y_Sv_nextOf.cls ∈ ly_T := ly_at 14 (by decide +kernel) rfl
theorem wi_Sv_nextOf : Cond.instanceMethod y_Sv_nextOf ∈ ly_T := ly_at 861 (by decide +kernel) rfl
theorem ws_Sv_nextOf : Cond.selects (ly_cn 9) y_Sv_nextOf y_Sv_nextOf ∈ ly_T := ly_at 862 (by decide +kernel) rfl
theorem wc_Ro_menLedWithin : Cond.code y_Ro_menLedWithin prog_8_method_8_code 5 (some .int) ∈ ly_T := ly_at 880 (by decide +kernel) rfl
theorem wh_Ro_menLedWithin : xh_mh y_Ro_menLedWithin 1 := ⟨by decide, by decide, by decide +kernel⟩
theorem wn_Ro_menLedWithin : Cond.initialized y_Ro_menLedWithin.cls ∈ ly_T := ly_at 17 (by decide +kernel) rfl
theorem wi_Ro_menLedWithin : Cond.instanceMethod y_Ro_menLedWithin ∈ ly_T := ly_at 879 (by decide +kernel) rfl
theorem ws_Ro_menLedWithin : Cond.selects (ly_cn 6) y_Ro_menLedWithin y_Ro_menLedWithin ∈ ly_T := ly_sel (q := (y_Ro_menLedWithin, 12)) (List.mem_of_getElem? (i := 44) (by decide +kernel))
theorem wc_Ro_tieKnot : Cond.code y_Ro_tieKnot prog_8_method_7_code 5 none ∈ ly_T := ly_at 876 (by decide +kernel) rfl
theorem wh_Ro_tieKnot : xh_mh y_Ro_tieKnot 1 := ⟨by decide, by decide, by decide +kernel⟩
theorem wn_Ro_tieKnot : Cond.initialized y_Ro_tieKnot.cls ∈ ly_T := ly_at 17 (by decide +kernel) rfl
theorem wi_Ro_tieKnot : Cond.instanceMethod y_Ro_tieKnot ∈ ly_T := ly_at 875 (by decide +kernel) rfl
theorem ws_Ro_tieKnot : Cond.selects (ly_cn 6) y_Ro_tieKnot y_Ro_tieKnot ∈ ly_T := ly_sel (q := (y_Ro_tieKnot, 12)) (List.mem_of_getElem? (i := 43) (by decide +kernel))
theorem wc_Ro_leave : Cond.code y_Ro_leave prog_8_method_6_code 3 none ∈ ly_T := ly_at 872 (by decide +kernel) rfl
theorem wh_Ro_leave : xh_mh y_Ro_leave 1 := ⟨by decide, by decide, by decide +kernel⟩
theorem wn_Ro_leave : Cond.initialized y_Ro_leave.cls ∈ ly_T := ly_at 17 (by decide +kernel) rfl
theorem wi_Ro_leave : Cond.instanceMethod y_Ro_leave ∈ ly_T := ly_at 871 (by decide +kernel) rfl
theorem ws_Ro_leave : Cond.selects (ly_cn 6) y_Ro_leave y_Ro_leave ∈ ly_T := ly_sel (q := (y_Ro_leave, 12)) (List.mem_of_getElem? (i := 42) (by decide +kernel))
theorem wc_Ro_look : Cond.code y_Ro_look prog_8_method_5_code 3 none ∈ ly_T := ly_at 867 (by decide +kernel) rfl
theorem wh_Ro_look : xh_mh y_Ro_look 2 := ⟨by decide, by decide, by decide +kernel⟩
theorem wn_Ro_look : Cond.initialized y_Ro_look.cls ∈ ly_T := ly_at 17 (by decide +kernel) rfl
theorem wi_Ro_look : Cond.instanceMethod y_Ro_look ∈ ly_T := ly_at 866 (by decide +kernel) rfl
theorem ws_Ro_look : Cond.selects (ly_cn 6) y_Ro_look y_Ro_look ∈ ly_T := ly_sel (q := (y_Ro_look, 12)) (List.mem_of_getElem? (i := 41) (by decide +kernel))
theorem wc_Ro_goFrom : Cond.code y_Ro_goFrom prog_8_method_3_code 4 none ∈ ly_T := ly_at 854 (by decide +kernel) rfl
theorem wh_Ro_goFrom : xh_mh y_Ro_goFrom 1 := ⟨by decide, by decide, by decide +kernel⟩
theorem wn_Ro_goFrom : Cond.initialized y_Ro_goFrom.cls ∈ ly_T := ly_at 17 (by decide +kernel) rfl
theorem wi_Ro_goFrom : Cond.instanceMethod y_Ro_goFrom ∈ ly_T := ly_at 853 (by decide +kernel) rfl
theorem ws_Ro_goFrom : Cond.selects (ly_cn 6) y_Ro_goFrom y_Ro_goFrom ∈ ly_T := ly_sel (q := (y_Ro_goFrom, 12)) (List.mem_of_getElem? (i := 39) (by decide +kernel))
theorem wc_Ro_new : Cond.code y_Ro_new prog_8_method_1_code 1 none ∈ ly_T := ly_at 807 (by decide +kernel) rfl
theorem wh_Ro_new : xh_mh y_Ro_new 0 := ⟨by decide, by decide, by decide +kernel⟩
theorem wn_Ro_new : Cond.initialized y_Ro_new.cls ∈ ly_T := ly_at 17 (by decide +kernel) rfl
theorem wi_Ro_new : Cond.instanceMethod y_Ro_new ∈ ly_T := ly_at 806 (by decide +kernel) rfl
theorem wc_Ro_countStates : Cond.code y_Ro_countStates prog_8_method_2_code 3 (some .int) ∈ ly_T := ly_at 849 (by decide +kernel) rfl
theorem wh_Ro_countStates : xh_mh y_Ro_countStates 1 := ⟨by decide, by decide, by decide +kernel⟩
theorem wn_Ro_countStates : Cond.initialized y_Ro_countStates.cls ∈ ly_T := ly_at 17 (by decide +kernel) rfl
theorem wi_Ro_countStates : Cond.instanceMethod y_Ro_countStates ∈ ly_T := ly_at 847 (by decide +kernel) rfl
theorem ws_Ro_countStates : Cond.selects (ly_cn 6) y_Ro_countStates y_Ro_countStates ∈ ly_T := ly_at 848 (by decide +kernel) rfl
theorem wc_Sv_statesInRounds : Cond.code y_Sv_statesInRounds prog_12_method_4_code 1 (some .int) ∈ ly_T := ly_at 802 (by decide +kernel) rfl
theorem wh_Sv_statesInRounds : xh_mh y_Sv_statesInRounds 0 := ⟨by decide, by decide, by decide +kernel⟩
theorem wn_Sv_statesInRounds : Cond.initialized y_Sv_statesInRounds.cls ∈ ly_T := ly_at 14 (by decide +kernel) rfl
theorem wi_Sv_statesInRounds : Cond.instanceMethod y_Sv_statesInRounds ∈ ly_T := ly_at 800 (by decide +kernel) rfl
theorem ws_Sv_statesInRounds : Cond.selects (ly_cn 9) y_Sv_statesInRounds y_Sv_statesInRounds ∈ ly_T := ly_at 801 (by decide +kernel) rfl
theorem wc_Fa_putBehind : Cond.code y_Fa_putBehind prog_4_method_6_code 3 none ∈ ly_T := ly_at 934 (by decide +kernel) rfl
theorem wh_Fa_putBehind : xh_mh y_Fa_putBehind 1 := ⟨by decide, by decide, by decide +kernel⟩
theorem wn_Fa_putBehind : Cond.initialized y_Fa_putBehind.cls ∈ ly_T := ly_at 18 (by decide +kernel) rfl
theorem wi_Fa_putBehind : Cond.instanceMethod y_Fa_putBehind ∈ ly_T := ly_at 933 (by decide +kernel) rfl
theorem ws_Fa_putBehind : Cond.selects (ly_cn 2) y_Fa_putBehind y_Fa_putBehind ∈ ly_T := ly_sel (q := (y_Fa_putBehind, 3)) (List.mem_of_getElem? (i := 47) (by decide +kernel))
theorem wc_Fa_saysWrongly : Cond.code y_Fa_saysWrongly prog_4_method_7_code 10 (some .boolean) ∈ ly_T := ly_at 941 (by decide +kernel) rfl
theorem wh_Fa_saysWrongly : xh_mh y_Fa_saysWrongly 2 := ⟨by decide, by decide, by decide +kernel⟩
theorem wn_Fa_saysWrongly : Cond.initialized y_Fa_saysWrongly.cls ∈ ly_T := ly_at 18 (by decide +kernel) rfl
theorem wi_Fa_saysWrongly : Cond.instanceMethod y_Fa_saysWrongly ∈ ly_T := ly_at 940 (by decide +kernel) rfl
theorem ws_Fa_saysWrongly : Cond.selects (ly_cn 2) y_Fa_saysWrongly y_Fa_saysWrongly ∈ ly_T := ly_sel (q := (y_Fa_saysWrongly, 3)) (List.mem_of_getElem? (i := 48) (by decide +kernel))
theorem wc_Fa_putFaulty : Cond.code y_Fa_putFaulty prog_4_method_5_code 6 none ∈ ly_T := ly_at 929 (by decide +kernel) rfl
theorem wh_Fa_putFaulty : xh_mh y_Fa_putFaulty 3 := ⟨by decide, by decide, by decide +kernel⟩
theorem wn_Fa_putFaulty : Cond.initialized y_Fa_putFaulty.cls ∈ ly_T := ly_at 18 (by decide +kernel) rfl
theorem wi_Fa_putFaulty : Cond.instanceMethod y_Fa_putFaulty ∈ ly_T := ly_at 928 (by decide +kernel) rfl
theorem ws_Fa_putFaulty : Cond.selects (ly_cn 2) y_Fa_putFaulty y_Fa_putFaulty ∈ ly_T := ly_sel (q := (y_Fa_putFaulty, 3)) (List.mem_of_getElem? (i := 46) (by decide +kernel))
theorem wc_Fa_lookThrough : Cond.code y_Fa_lookThrough prog_4_method_4_code 5 (some .int) ∈ ly_T := ly_at 923 (by decide +kernel) rfl
theorem wh_Fa_lookThrough : xh_mh y_Fa_lookThrough 2 := ⟨by decide, by decide, by decide +kernel⟩
theorem wn_Fa_lookThrough : Cond.initialized y_Fa_lookThrough.cls ∈ ly_T := ly_at 18 (by decide +kernel) rfl
theorem wi_Fa_lookThrough : Cond.instanceMethod y_Fa_lookThrough ∈ ly_T := ly_at 922 (by decide +kernel) rfl
theorem ws_Fa_lookThrough : Cond.selects (ly_cn 2) y_Fa_lookThrough y_Fa_lookThrough ∈ ly_T := ly_sel (q := (y_Fa_lookThrough, 3)) (List.mem_of_getElem? (i := 45) (by decide +kernel))
theorem wc_Fa_new : Cond.code y_Fa_new prog_4_method_1_code 1 none ∈ ly_T := ly_at 901 (by decide +kernel) rfl
theorem wh_Fa_new : xh_mh y_Fa_new 0 := ⟨by decide, by decide, by decide +kernel⟩
theorem wn_Fa_new : Cond.initialized y_Fa_new.cls ∈ ly_T := ly_at 18 (by decide +kernel) rfl
theorem wi_Fa_new : Cond.instanceMethod y_Fa_new ∈ ly_T := ly_at 900 (by decide +kernel) rfl
theorem wc_Fa_borne : Cond.code y_Fa_borne prog_4_method_3_code 3 (some .int) ∈ ly_T := ly_at 919 (by decide +kernel) rfl
theorem wh_Fa_borne : xh_mh y_Fa_borne 2 := ⟨by decide, by decide, by decide +kernel⟩
theorem wn_Fa_borne : Cond.initialized y_Fa_borne.cls ∈ ly_T := ly_at 18 (by decide +kernel) rfl
theorem wi_Fa_borne : Cond.instanceMethod y_Fa_borne ∈ ly_T := ly_at 917 (by decide +kernel) rfl
theorem ws_Fa_borne : Cond.selects (ly_cn 2) y_Fa_borne y_Fa_borne ∈ ly_T := ly_at 918 (by decide +kernel) rfl
theorem wc_Ar_fillJ : Cond.code y_Ar_fillJ prog_21_method_101_code 5 none ∈ ly_T := ly_at 984 (by decide +kernel) rfl
theorem wh_Ar_fillJ : xh_mh y_Ar_fillJ 2 := ⟨by decide, by decide, by decide +kernel⟩
theorem wn_Ar_fillJ : Cond.initialized y_Ar_fillJ.cls ∈ ly_T := ly_at 6 (by decide +kernel) rfl
theorem wt_Ar_fillJ : Cond.static y_Ar_fillJ ∈ ly_T := ly_at 983 (by decide +kernel) rfl
theorem wc_Ch_goOneDay : Cond.code y_Ch_goOneDay prog_2_method_5_code 8 none ∈ ly_T := ly_at 990 (by decide +kernel) rfl
theorem wh_Ch_goOneDay : xh_mh y_Ch_goOneDay 2 := ⟨by decide, by decide, by decide +kernel⟩
theorem wn_Ch_goOneDay : Cond.initialized y_Ch_goOneDay.cls ∈ ly_T := ly_at 19 (by decide +kernel) rfl
theorem wi_Ch_goOneDay : Cond.instanceMethod y_Ch_goOneDay ∈ ly_T := ly_at 989 (by decide +kernel) rfl
theorem ws_Ch_goOneDay : Cond.selects (ly_cn 0) y_Ch_goOneDay y_Ch_goOneDay ∈ ly_T := ly_sel (q := (y_Ch_goOneDay, 5)) (List.mem_of_getElem? (i := 50) (by decide +kernel))
theorem wc_Ch_countWays : Cond.code y_Ch_countWays prog_2_method_4_code 7 none ∈ ly_T := ly_at 981 (by decide +kernel) rfl
theorem wh_Ch_countWays : xh_mh y_Ch_countWays 2 := ⟨by decide, by decide, by decide +kernel⟩
theorem wn_Ch_countWays : Cond.initialized y_Ch_countWays.cls ∈ ly_T := ly_at 19 (by decide +kernel) rfl
theorem wi_Ch_countWays : Cond.instanceMethod y_Ch_countWays ∈ ly_T := ly_at 980 (by decide +kernel) rfl
theorem ws_Ch_countWays : Cond.selects (ly_cn 0) y_Ch_countWays y_Ch_countWays ∈ ly_T := ly_sel (q := (y_Ch_countWays, 5)) (List.mem_of_getElem? (i := 49) (by decide +kernel))
theorem wc_Ch_new : Cond.code y_Ch_new prog_2_method_1_code 1 none ∈ ly_T := ly_at 956 (by decide +kernel) rfl
theorem wh_Ch_new : xh_mh y_Ch_new 0 := ⟨by decide, by decide, by decide +kernel⟩
theorem wn_Ch_new : Cond.initialized y_Ch_new.cls ∈ ly_T := ly_at 19 (by decide +kernel) rfl
theorem wi_Ch_new : Cond.instanceMethod y_Ch_new ∈ ly_T := ly_at 955 (by decide +kernel) rfl
theorem wc_Ch_waysSaid : Cond.code y_Ch_waysSaid prog_2_method_3_code 5 (some .long) ∈ ly_T := ly_at 977 (by decide +kernel) rfl
theorem wh_Ch_waysSaid : xh_mh y_Ch_waysSaid 4 := ⟨by decide, by decide, by decide +kernel⟩
theorem wn_Ch_waysSaid : Cond.initialized y_Ch_waysSaid.cls ∈ ly_T := ly_at 19 (by decide +kernel) rfl
theorem wi_Ch_waysSaid : Cond.instanceMethod y_Ch_waysSaid ∈ ly_T := ly_at 975 (by decide +kernel) rfl
theorem ws_Ch_waysSaid : Cond.selects (ly_cn 0) y_Ch_waysSaid y_Ch_waysSaid ∈ ly_T := ly_at 976 (by decide +kernel) rfl
theorem wc_Ch_power : Cond.code y_Ch_power prog_2_method_9_code 5 (some .long) ∈ ly_T := ly_at 994 (by decide +kernel) rfl
theorem wh_Ch_power : xh_mh y_Ch_power 2 := ⟨by decide, by decide, by decide +kernel⟩
theorem wn_Ch_power : Cond.initialized y_Ch_power.cls ∈ ly_T := ly_at 19 (by decide +kernel) rfl
theorem wt_Ch_power : Cond.static y_Ch_power ∈ ly_T := ly_at 993 (by decide +kernel) rfl
theorem wc_Ch_partOf : Cond.code y_Ch_partOf prog_2_method_10_code 12 (some .long) ∈ ly_T := ly_at 997 (by decide +kernel) rfl
theorem wh_Ch_partOf : xh_mh y_Ch_partOf 3 := ⟨by decide, by decide, by decide +kernel⟩
theorem wn_Ch_partOf : Cond.initialized y_Ch_partOf.cls ∈ ly_T := ly_at 19 (by decide +kernel) rfl
theorem wt_Ch_partOf : Cond.static y_Ch_partOf ∈ ly_T := ly_at 996 (by decide +kernel) rfl
theorem wc_Ch_waysAllBeen : Cond.code y_Ch_waysAllBeen prog_2_method_6_code 9 (some .long) ∈ ly_T := ly_at 1004 (by decide +kernel) rfl
theorem wh_Ch_waysAllBeen : xh_mh y_Ch_waysAllBeen 2 := ⟨by decide, by decide, by decide +kernel⟩
theorem wn_Ch_waysAllBeen : Cond.initialized y_Ch_waysAllBeen.cls ∈ ly_T := ly_at 19 (by decide +kernel) rfl
theorem wt_Ch_waysAllBeen : Cond.static y_Ch_waysAllBeen ∈ ly_T := ly_at 1003 (by decide +kernel) rfl
theorem wc_Ch_daysEnough : Cond.code y_Ch_daysEnough prog_2_method_7_code 5 (some .int) ∈ ly_T := ly_at 1012 (by decide +kernel) rfl
theorem wh_Ch_daysEnough : xh_mh y_Ch_daysEnough 2 := ⟨by decide, by decide, by decide +kernel⟩
theorem wn_Ch_daysEnough : Cond.initialized y_Ch_daysEnough.cls ∈ ly_T := ly_at 19 (by decide +kernel) rfl
theorem wt_Ch_daysEnough : Cond.static y_Ch_daysEnough ∈ ly_T := ly_at 1011 (by decide +kernel) rfl
theorem wc_Ch_sixtyMeans : Cond.code y_Ch_sixtyMeans prog_2_method_8_code 4 (some .long) ∈ ly_T := ly_at 1021 (by decide +kernel) rfl
theorem wh_Ch_sixtyMeans : xh_mh y_Ch_sixtyMeans 1 := ⟨by decide, by decide, by decide +kernel⟩
theorem wn_Ch_sixtyMeans : Cond.initialized y_Ch_sixtyMeans.cls ∈ ly_T := ly_at 19 (by decide +kernel) rfl
theorem wt_Ch_sixtyMeans : Cond.static y_Ch_sixtyMeans ∈ ly_T := ly_at 1020 (by decide +kernel) rfl
theorem wc_Co_unevenness : Cond.code y_Co_unevenness prog_3_method_5_code 5 (some .int) ∈ ly_T := ly_at 1035 (by decide +kernel) rfl
theorem wh_Co_unevenness : xh_mh y_Co_unevenness 1 := ⟨by decide, by decide, by decide +kernel⟩
theorem wn_Co_unevenness : Cond.initialized y_Co_unevenness.cls ∈ ly_T := ly_at 4 (by decide +kernel) rfl
theorem wi_Co_unevenness : Cond.instanceMethod y_Co_unevenness ∈ ly_T := ly_at 1033 (by decide +kernel) rfl
theorem ws_Co_unevenness : Cond.selects (ly_cn 1) y_Co_unevenness y_Co_unevenness ∈ ly_T := ly_at 1034 (by decide +kernel) rfl
theorem wc_Lo_tell : Cond.code y_Lo_tell prog_5_method_2_code 3 (some .int) ∈ ly_T := ly_at 1045 (by decide +kernel) rfl
theorem wh_Lo_tell : xh_mh y_Lo_tell 2 := ⟨by decide, by decide, by decide +kernel⟩
theorem wn_Lo_tell : Cond.initialized y_Lo_tell.cls ∈ ly_T := ly_at 5 (by decide +kernel) rfl
theorem wi_Lo_tell : Cond.instanceMethod y_Lo_tell ∈ ly_T := ly_at 1043 (by decide +kernel) rfl
theorem ws_Lo_tell : Cond.selects (ly_cn 3) y_Lo_tell y_Lo_tell ∈ ly_T := ly_at 1044 (by decide +kernel) rfl
theorem wc_Lo_takeBack : Cond.code y_Lo_takeBack prog_5_method_3_code 2 (some .boolean) ∈ ly_T := ly_at 1053 (by decide +kernel) rfl
theorem wh_Lo_takeBack : xh_mh y_Lo_takeBack 1 := ⟨by decide, by decide, by decide +kernel⟩
theorem wn_Lo_takeBack : Cond.initialized y_Lo_takeBack.cls ∈ ly_T := ly_at 5 (by decide +kernel) rfl
theorem wi_Lo_takeBack : Cond.instanceMethod y_Lo_takeBack ∈ ly_T := ly_at 1051 (by decide +kernel) rfl
theorem ws_Lo_takeBack : Cond.selects (ly_cn 3) y_Lo_takeBack y_Lo_takeBack ∈ ly_T := ly_at 1052 (by decide +kernel) rfl
theorem wc_Lo_goOn : Cond.code y_Lo_goOn prog_5_method_4_code 2 (some .int) ∈ ly_T := ly_at 1061 (by decide +kernel) rfl
theorem wh_Lo_goOn : xh_mh y_Lo_goOn 1 := ⟨by decide, by decide, by decide +kernel⟩
theorem wn_Lo_goOn : Cond.initialized y_Lo_goOn.cls ∈ ly_T := ly_at 5 (by decide +kernel) rfl
theorem wi_Lo_goOn : Cond.instanceMethod y_Lo_goOn ∈ ly_T := ly_at 1059 (by decide +kernel) rfl
theorem ws_Lo_goOn : Cond.selects (ly_cn 3) y_Lo_goOn y_Lo_goOn ∈ ly_T := ly_at 1060 (by decide +kernel) rfl
theorem wc_Lo_gather : Cond.code y_Lo_gather prog_5_method_10_code 4 none ∈ ly_T := ly_at 1074 (by decide +kernel) rfl
theorem wh_Lo_gather : xh_mh y_Lo_gather 1 := ⟨by decide, by decide, by decide +kernel⟩
theorem wn_Lo_gather : Cond.initialized y_Lo_gather.cls ∈ ly_T := ly_at 5 (by decide +kernel) rfl
theorem wi_Lo_gather : Cond.instanceMethod y_Lo_gather ∈ ly_T := ly_at 1073 (by decide +kernel) rfl
theorem ws_Lo_gather : Cond.selects (ly_cn 3) y_Lo_gather y_Lo_gather ∈ ly_T := ly_sel (q := (y_Lo_gather, 8)) (List.mem_of_getElem? (i := 51) (by decide +kernel))
theorem wc_In_bitCount : Cond.code y_In_bitCount prog_15_method_49_code 1 (some .int) ∈ ly_T := ly_at 1082 (by decide +kernel) rfl
theorem wh_In_bitCount : xh_mh y_In_bitCount 1 := ⟨by decide, by decide, by decide +kernel⟩
theorem wn_In_bitCount : Cond.initialized y_In_bitCount.cls ∈ ly_T := ly_at 20 (by decide +kernel) rfl
theorem wt_In_bitCount : Cond.static y_In_bitCount ∈ ly_T := ly_at 1081 (by decide +kernel) rfl
theorem wc_Lo_dayByWhichAll : Cond.code y_Lo_dayByWhichAll prog_5_method_5_code 6 (some .int) ∈ ly_T := ly_at 1070 (by decide +kernel) rfl
theorem wh_Lo_dayByWhichAll : xh_mh y_Lo_dayByWhichAll 2 := ⟨by decide, by decide, by decide +kernel⟩
theorem wn_Lo_dayByWhichAll : Cond.initialized y_Lo_dayByWhichAll.cls ∈ ly_T := ly_at 5 (by decide +kernel) rfl
theorem wi_Lo_dayByWhichAll : Cond.instanceMethod y_Lo_dayByWhichAll ∈ ly_T := ly_at 1068 (by decide +kernel) rfl
theorem ws_Lo_dayByWhichAll : Cond.selects (ly_cn 3) y_Lo_dayByWhichAll y_Lo_dayByWhichAll ∈ ly_T := ly_at 1069 (by decide +kernel) rfl
theorem wc_Lo_clashes : Cond.code y_Lo_clashes prog_5_method_6_code 4 (some .int) ∈ ly_T := ly_at 1079 (by decide +kernel) rfl
theorem wh_Lo_clashes : xh_mh y_Lo_clashes 1 := ⟨by decide, by decide, by decide +kernel⟩
theorem wn_Lo_clashes : Cond.initialized y_Lo_clashes.cls ∈ ly_T := ly_at 5 (by decide +kernel) rfl
theorem wi_Lo_clashes : Cond.instanceMethod y_Lo_clashes ∈ ly_T := ly_at 1077 (by decide +kernel) rfl
theorem ws_Lo_clashes : Cond.selects (ly_cn 3) y_Lo_clashes y_Lo_clashes ∈ ly_T := ly_at 1078 (by decide +kernel) rfl
theorem wc_Lo_latestOf : Cond.code y_Lo_latestOf prog_5_method_7_code 5 (some .int) ∈ ly_T := ly_at 1093 (by decide +kernel) rfl
theorem wh_Lo_latestOf : xh_mh y_Lo_latestOf 2 := ⟨by decide, by decide, by decide +kernel⟩
theorem wn_Lo_latestOf : Cond.initialized y_Lo_latestOf.cls ∈ ly_T := ly_at 5 (by decide +kernel) rfl
theorem wi_Lo_latestOf : Cond.instanceMethod y_Lo_latestOf ∈ ly_T := ly_at 1091 (by decide +kernel) rfl
theorem ws_Lo_latestOf : Cond.selects (ly_cn 3) y_Lo_latestOf y_Lo_latestOf ∈ ly_T := ly_at 1092 (by decide +kernel) rfl
theorem wc_Lo_latestWithoutGap : Cond.code y_Lo_latestWithoutGap prog_5_method_9_code 5 (some .int) ∈ ly_T := ly_at 1105 (by decide +kernel) rfl
theorem wh_Lo_latestWithoutGap : xh_mh y_Lo_latestWithoutGap 1 := ⟨by decide, by decide, by decide +kernel⟩
theorem wn_Lo_latestWithoutGap : Cond.initialized y_Lo_latestWithoutGap.cls ∈ ly_T := ly_at 5 (by decide +kernel) rfl
theorem wi_Lo_latestWithoutGap : Cond.instanceMethod y_Lo_latestWithoutGap ∈ ly_T := ly_at 1104 (by decide +kernel) rfl
theorem ws_Lo_latestWithoutGap : Cond.selects (ly_cn 3) y_Lo_latestWithoutGap y_Lo_latestWithoutGap ∈ ly_T := ly_sel (q := (y_Lo_latestWithoutGap, 8)) (List.mem_of_getElem? (i := 52) (by decide +kernel))
theorem wc_Lo_agreement : Cond.code y_Lo_agreement prog_5_method_8_code 9 (some .int) ∈ ly_T := ly_at 1101 (by decide +kernel) rfl
theorem wh_Lo_agreement : xh_mh y_Lo_agreement 3 := ⟨by decide, by decide, by decide +kernel⟩
theorem wn_Lo_agreement : Cond.initialized y_Lo_agreement.cls ∈ ly_T := ly_at 5 (by decide +kernel) rfl
theorem wi_Lo_agreement : Cond.instanceMethod y_Lo_agreement ∈ ly_T := ly_at 1099 (by decide +kernel) rfl
theorem ws_Lo_agreement : Cond.selects (ly_cn 3) y_Lo_agreement y_Lo_agreement ∈ ly_T := ly_at 1100 (by decide +kernel) rfl
theorem wc_Co_copy : Cond.code y_Co_copy prog_3_method_3_code 2 none ∈ ly_T := ly_at 1117 (by decide +kernel) rfl
theorem wh_Co_copy : xh_mh y_Co_copy 1 := ⟨by decide, by decide, by decide +kernel⟩
theorem wn_Co_copy : Cond.initialized y_Co_copy.cls ∈ ly_T := ly_at 4 (by decide +kernel) rfl
theorem wi_Co_copy : Cond.instanceMethod y_Co_copy ∈ ly_T := ly_at 1115 (by decide +kernel) rfl
theorem ws_Co_copy : Cond.selects (ly_cn 1) y_Co_copy y_Co_copy ∈ ly_T := ly_at 1116 (by decide +kernel) rfl
theorem wc_M_fresh : Cond.code y_M_fresh prog_14_method_45_code 3 none ∈ ly_T := ly_at 1146 (by decide +kernel) rfl
theorem wh_M_fresh : xh_mh y_M_fresh 1 := ⟨by decide, by decide, by decide +kernel⟩
theorem wn_M_fresh : Cond.initialized y_M_fresh.cls ∈ ly_T := ly_at 8 (by decide +kernel) rfl
theorem wi_M_fresh : Cond.instanceMethod y_M_fresh ∈ ly_T := ly_at 1145 (by decide +kernel) rfl
theorem ws_M_fresh : Cond.selects (ly_cn 11) y_M_fresh y_M_fresh ∈ ly_T := ly_sel (q := (y_M_fresh, 96)) (List.mem_of_getElem? (i := 55) (by decide +kernel))
theorem wc_M_plain : Cond.code y_M_plain prog_14_method_34_code 1 none ∈ ly_T := ly_at 1138 (by decide +kernel) rfl
theorem wh_M_plain : xh_mh y_M_plain 0 := ⟨by decide, by decide, by decide +kernel⟩
theorem wn_M_plain : Cond.initialized y_M_plain.cls ∈ ly_T := ly_at 8 (by decide +kernel) rfl
theorem wi_M_plain : Cond.instanceMethod y_M_plain ∈ ly_T := ly_at 1137 (by decide +kernel) rfl
theorem ws_M_plain : Cond.selects (ly_cn 11) y_M_plain y_M_plain ∈ ly_T := ly_sel (q := (y_M_plain, 96)) (List.mem_of_getElem? (i := 53) (by decide +kernel))
theorem wc_M_beginWith : Cond.code y_M_beginWith prog_14_method_48_code 3 none ∈ ly_T := ly_at 1142 (by decide +kernel) rfl
theorem wh_M_beginWith : xh_mh y_M_beginWith 1 := ⟨by decide, by decide, by decide +kernel⟩
theorem wn_M_beginWith : Cond.initialized y_M_beginWith.cls ∈ ly_T := ly_at 8 (by decide +kernel) rfl
theorem wi_M_beginWith : Cond.instanceMethod y_M_beginWith ∈ ly_T := ly_at 1141 (by decide +kernel) rfl
theorem ws_M_beginWith : Cond.selects (ly_cn 11) y_M_beginWith y_M_beginWith ∈ ly_T := ly_sel (q := (y_M_beginWith, 96)) (List.mem_of_getElem? (i := 54) (by decide +kernel))
theorem wc_M_four : Cond.code y_M_four prog_14_method_3_code 3 none ∈ ly_T := ly_at 1443 (by decide +kernel) rfl
theorem wh_M_four : xh_mh y_M_four 1 := ⟨by decide, by decide, by decide +kernel⟩
theorem wn_M_four : Cond.initialized y_M_four.cls ∈ ly_T := ly_at 8 (by decide +kernel) rfl
theorem wi_M_four : Cond.instanceMethod y_M_four ∈ ly_T := ly_at 1442 (by decide +kernel) rfl
theorem ws_M_four : Cond.selects (ly_cn 11) y_M_four y_M_four ∈ ly_T := ly_sel (q := (y_M_four, 96)) (List.mem_of_getElem? (i := 56) (by decide +kernel))
theorem wc_M_here : Cond.code y_M_here prog_14_method_5_code 2 (some .int) ∈ ly_T := ly_at 1459 (by decide +kernel) rfl
theorem wh_M_here : xh_mh y_M_here 1 := ⟨by decide, by decide, by decide +kernel⟩
theorem wn_M_here : Cond.initialized y_M_here.cls ∈ ly_T := ly_at 8 (by decide +kernel) rfl
theorem wi_M_here : Cond.instanceMethod y_M_here ∈ ly_T := ly_at 1458 (by decide +kernel) rfl
theorem ws_M_here : Cond.selects (ly_cn 11) y_M_here y_M_here ∈ ly_T := ly_sel (q := (y_M_here, 96)) (List.mem_of_getElem? (i := 58) (by decide +kernel))
theorem wc_M_isLetter : Cond.code y_M_isLetter prog_14_method_6_code 1 (some .boolean) ∈ ly_T := ly_at 1462 (by decide +kernel) rfl
theorem wh_M_isLetter : xh_mh y_M_isLetter 1 := ⟨by decide, by decide, by decide +kernel⟩
theorem wn_M_isLetter : Cond.initialized y_M_isLetter.cls ∈ ly_T := ly_at 8 (by decide +kernel) rfl
theorem wt_M_isLetter : Cond.static y_M_isLetter ∈ ly_T := ly_at 1461 (by decide +kernel) rfl
theorem wc_M_isDigit : Cond.code y_M_isDigit prog_14_method_7_code 1 (some .boolean) ∈ ly_T := ly_at 1465 (by decide +kernel) rfl
theorem wh_M_isDigit : xh_mh y_M_isDigit 1 := ⟨by decide, by decide, by decide +kernel⟩
theorem wn_M_isDigit : Cond.initialized y_M_isDigit.cls ∈ ly_T := ly_at 8 (by decide +kernel) rfl
theorem wt_M_isDigit : Cond.static y_M_isDigit ∈ ly_T := ly_at 1464 (by decide +kernel) rfl
theorem wc_M_isSign : Cond.code y_M_isSign prog_14_method_8_code 1 (some .boolean) ∈ ly_T := ly_at 1468 (by decide +kernel) rfl
theorem wh_M_isSign : xh_mh y_M_isSign 1 := ⟨by decide, by decide, by decide +kernel⟩
theorem wn_M_isSign : Cond.initialized y_M_isSign.cls ∈ ly_T := ly_at 8 (by decide +kernel) rfl
theorem wt_M_isSign : Cond.static y_M_isSign ∈ ly_T := ly_at 1467 (by decide +kernel) rfl
theorem wc_M_isWord : Cond.code y_M_isWord prog_14_method_11_code 3 (some .boolean) ∈ ly_T := ly_at 1481 (by decide +kernel) rfl
theorem wh_M_isWord : xh_mh y_M_isWord 1 := ⟨by decide, by decide, by decide +kernel⟩
theorem wn_M_isWord : Cond.initialized y_M_isWord.cls ∈ ly_T := ly_at 8 (by decide +kernel) rfl
theorem wi_M_isWord : Cond.instanceMethod y_M_isWord ∈ ly_T := ly_at 1480 (by decide +kernel) rfl
theorem ws_M_isWord : Cond.selects (ly_cn 11) y_M_isWord y_M_isWord ∈ ly_T := ly_sel (q := (y_M_isWord, 96)) (List.mem_of_getElem? (i := 61) (by decide +kernel))
theorem wc_M_wrong : Cond.code y_M_wrong prog_14_method_10_code 2 none ∈ ly_T := ly_at 1492 (by decide +kernel) rfl
theorem wh_M_wrong : xh_mh y_M_wrong 1 := ⟨by decide, by decide, by decide +kernel⟩
theorem wn_M_wrong : Cond.initialized y_M_wrong.cls ∈ ly_T := ly_at 8 (by decide +kernel) rfl
theorem wi_M_wrong : Cond.instanceMethod y_M_wrong ∈ ly_T := ly_at 1491 (by decide +kernel) rfl
theorem ws_M_wrong : Cond.selects (ly_cn 11) y_M_wrong y_M_wrong ∈ ly_T := ly_sel (q := (y_M_wrong, 96)) (List.mem_of_getElem? (i := 63) (by decide +kernel))
theorem wc_M_token : Cond.code y_M_token prog_14_method_9_code 3 none ∈ ly_T := ly_at 1455 (by decide +kernel) rfl
theorem wh_M_token : xh_mh y_M_token 0 := ⟨by decide, by decide, by decide +kernel⟩
theorem wn_M_token : Cond.initialized y_M_token.cls ∈ ly_T := ly_at 8 (by decide +kernel) rfl
theorem wi_M_token : Cond.instanceMethod y_M_token ∈ ly_T := ly_at 1454 (by decide +kernel) rfl
theorem ws_M_token : Cond.selects (ly_cn 11) y_M_token y_M_token ∈ ly_T := ly_sel (q := (y_M_token, 96)) (List.mem_of_getElem? (i := 57) (by decide +kernel))
theorem wc_M_want : Cond.code y_M_want prog_14_method_13_code 3 none ∈ ly_T := ly_at 1532 (by decide +kernel) rfl
theorem wh_M_want : xh_mh y_M_want 1 := ⟨by decide, by decide, by decide +kernel⟩
theorem wn_M_want : Cond.initialized y_M_want.cls ∈ ly_T := ly_at 8 (by decide +kernel) rfl
theorem wi_M_want : Cond.instanceMethod y_M_want ∈ ly_T := ly_at 1531 (by decide +kernel) rfl
theorem ws_M_want : Cond.selects (ly_cn 11) y_M_want y_M_want ∈ ly_T := ly_sel (q := (y_M_want, 96)) (List.mem_of_getElem? (i := 69) (by decide +kernel))
theorem wc_M_toldNumber : Cond.code y_M_toldNumber prog_14_method_14_code 4 (some .int) ∈ ly_T := ly_at 1488 (by decide +kernel) rfl
theorem wh_M_toldNumber : xh_mh y_M_toldNumber 2 := ⟨by decide, by decide, by decide +kernel⟩
theorem wn_M_toldNumber : Cond.initialized y_M_toldNumber.cls ∈ ly_T := ly_at 8 (by decide +kernel) rfl
theorem wi_M_toldNumber : Cond.instanceMethod y_M_toldNumber ∈ ly_T := ly_at 1487 (by decide +kernel) rfl
theorem ws_M_toldNumber : Cond.selects (ly_cn 11) y_M_toldNumber y_M_toldNumber ∈ ly_T := ly_sel (q := (y_M_toldNumber, 96)) (List.mem_of_getElem? (i := 62) (by decide +kernel))
theorem wc_M_note : Cond.code y_M_note prog_14_method_16_code 3 none ∈ ly_T := ly_at 1568 (by decide +kernel) rfl
theorem wh_M_note : xh_mh y_M_note 2 := ⟨by decide, by decide, by decide +kernel⟩
theorem wn_M_note : Cond.initialized y_M_note.cls ∈ ly_T := ly_at 8 (by decide +kernel) rfl
theorem wi_M_note : Cond.instanceMethod y_M_note ∈ ly_T := ly_at 1567 (by decide +kernel) rfl
theorem ws_M_note : Cond.selects (ly_cn 11) y_M_note y_M_note ∈ ly_T := ly_sel (q := (y_M_note, 96)) (List.mem_of_getElem? (i := 78) (by decide +kernel))
theorem wc_M_upper : Cond.code y_M_upper prog_14_method_17_code 1 (some .int) ∈ ly_T := ly_at 1560 (by decide +kernel) rfl
theorem wh_M_upper : xh_mh y_M_upper 0 := ⟨by decide, by decide, by decide +kernel⟩
theorem wn_M_upper : Cond.initialized y_M_upper.cls ∈ ly_T := ly_at 8 (by decide +kernel) rfl
theorem wi_M_upper : Cond.instanceMethod y_M_upper ∈ ly_T := ly_at 1559 (by decide +kernel) rfl
theorem ws_M_upper : Cond.selects (ly_cn 11) y_M_upper y_M_upper ∈ ly_T := ly_sel (q := (y_M_upper, 96)) (List.mem_of_getElem? (i := 76) (by decide +kernel))
theorem wc_M_pop : Cond.code y_M_pop prog_14_method_19_code 1 none ∈ ly_T := ly_at 1564 (by decide +kernel) rfl
theorem wh_M_pop : xh_mh y_M_pop 0 := ⟨by decide, by decide, by decide +kernel⟩
theorem wn_M_pop : Cond.initialized y_M_pop.cls ∈ ly_T := ly_at 8 (by decide +kernel) rfl
theorem wi_M_pop : Cond.instanceMethod y_M_pop ∈ ly_T := ly_at 1563 (by decide +kernel) rfl
theorem ws_M_pop : Cond.selects (ly_cn 11) y_M_pop y_M_pop ∈ ly_T := ly_sel (q := (y_M_pop, 96)) (List.mem_of_getElem? (i := 77) (by decide +kernel))
theorem wc_M_known : Cond.code y_M_known prog_14_method_23_code 1 (some .int) ∈ ly_T := ly_at 1583 (by decide +kernel) rfl
theorem wh_M_known : xh_mh y_M_known 0 := ⟨by decide, by decide, by decide +kernel⟩
theorem wn_M_known : Cond.initialized y_M_known.cls ∈ ly_T := ly_at 8 (by decide +kernel) rfl
theorem wi_M_known : Cond.instanceMethod y_M_known ∈ ly_T := ly_at 1582 (by decide +kernel) rfl
theorem ws_M_known : Cond.selects (ly_cn 11) y_M_known y_M_known ∈ ly_T := ly_sel (q := (y_M_known, 96)) (List.mem_of_getElem? (i := 81) (by decide +kernel))
theorem wc_M_hold : Cond.code y_M_hold prog_14_method_18_code 2 none ∈ ly_T := ly_at 1575 (by decide +kernel) rfl
theorem wh_M_hold : xh_mh y_M_hold 1 := ⟨by decide, by decide, by decide +kernel⟩
theorem wn_M_hold : Cond.initialized y_M_hold.cls ∈ ly_T := ly_at 8 (by decide +kernel) rfl
theorem wi_M_hold : Cond.instanceMethod y_M_hold ∈ ly_T := ly_at 1574 (by decide +kernel) rfl
theorem ws_M_hold : Cond.selects (ly_cn 11) y_M_hold y_M_hold ∈ ly_T := ly_sel (q := (y_M_hold, 96)) (List.mem_of_getElem? (i := 79) (by decide +kernel))
theorem wc_M_isOpen : Cond.code y_M_isOpen prog_14_method_21_code 3 (some .boolean) ∈ ly_T := ly_at 1548 (by decide +kernel) rfl
theorem wh_M_isOpen : xh_mh y_M_isOpen 0 := ⟨by decide, by decide, by decide +kernel⟩
theorem wn_M_isOpen : Cond.initialized y_M_isOpen.cls ∈ ly_T := ly_at 8 (by decide +kernel) rfl
theorem wi_M_isOpen : Cond.instanceMethod y_M_isOpen ∈ ly_T := ly_at 1547 (by decide +kernel) rfl
theorem ws_M_isOpen : Cond.selects (ly_cn 11) y_M_isOpen y_M_isOpen ∈ ly_T := ly_sel (q := (y_M_isOpen, 96)) (List.mem_of_getElem? (i := 73) (by decide +kernel))
theorem wc_M_rank : Cond.code y_M_rank prog_14_method_22_code 1 (some .int) ∈ ly_T := ly_at 1571 (by decide +kernel) rfl
theorem wh_M_rank : xh_mh y_M_rank 1 := ⟨by decide, by decide, by decide +kernel⟩
theorem wn_M_rank : Cond.initialized y_M_rank.cls ∈ ly_T := ly_at 8 (by decide +kernel) rfl
theorem wt_M_rank : Cond.static y_M_rank ∈ ly_T := ly_at 1570 (by decide +kernel) rfl
theorem wc_M_settle : Cond.code y_M_settle prog_14_method_20_code 2 none ∈ ly_T := ly_at 1556 (by decide +kernel) rfl
theorem wh_M_settle : xh_mh y_M_settle 1 := ⟨by decide, by decide, by decide +kernel⟩
theorem wn_M_settle : Cond.initialized y_M_settle.cls ∈ ly_T := ly_at 8 (by decide +kernel) rfl
theorem wi_M_settle : Cond.instanceMethod y_M_settle ∈ ly_T := ly_at 1555 (by decide +kernel) rfl
theorem ws_M_settle : Cond.selects (ly_cn 11) y_M_settle y_M_settle ∈ ly_T := ly_sel (q := (y_M_settle, 96)) (List.mem_of_getElem? (i := 75) (by decide +kernel))
theorem wc_M_isAfter : Cond.code y_M_isAfter prog_14_method_26_code 2 (some .boolean) ∈ ly_T := ly_at 1544 (by decide +kernel) rfl
theorem wh_M_isAfter : xh_mh y_M_isAfter 1 := ⟨by decide, by decide, by decide +kernel⟩
theorem wn_M_isAfter : Cond.initialized y_M_isAfter.cls ∈ ly_T := ly_at 8 (by decide +kernel) rfl
theorem wi_M_isAfter : Cond.instanceMethod y_M_isAfter ∈ ly_T := ly_at 1543 (by decide +kernel) rfl
theorem ws_M_isAfter : Cond.selects (ly_cn 11) y_M_isAfter y_M_isAfter ∈ ly_T := ly_sel (q := (y_M_isAfter, 96)) (List.mem_of_getElem? (i := 72) (by decide +kernel))
theorem wc_M_sign : Cond.code y_M_sign prog_14_method_25_code 2 (some .int) ∈ ly_T := ly_at 1552 (by decide +kernel) rfl
theorem wh_M_sign : xh_mh y_M_sign 0 := ⟨by decide, by decide, by decide +kernel⟩
theorem wn_M_sign : Cond.initialized y_M_sign.cls ∈ ly_T := ly_at 8 (by decide +kernel) rfl
theorem wi_M_sign : Cond.instanceMethod y_M_sign ∈ ly_T := ly_at 1551 (by decide +kernel) rfl
theorem ws_M_sign : Cond.selects (ly_cn 11) y_M_sign y_M_sign ∈ ly_T := ly_sel (q := (y_M_sign, 96)) (List.mem_of_getElem? (i := 74) (by decide +kernel))
theorem wc_M_operand : Cond.code y_M_operand prog_14_method_24_code 5 (some .int) ∈ ly_T := ly_at 1579 (by decide +kernel) rfl
theorem wh_M_operand : xh_mh y_M_operand 1 := ⟨by decide, by decide, by decide +kernel⟩
theorem wn_M_operand : Cond.initialized y_M_operand.cls ∈ ly_T := ly_at 8 (by decide +kernel) rfl
theorem wi_M_operand : Cond.instanceMethod y_M_operand ∈ ly_T := ly_at 1578 (by decide +kernel) rfl
theorem ws_M_operand : Cond.selects (ly_cn 11) y_M_operand y_M_operand ∈ ly_T := ly_sel (q := (y_M_operand, 96)) (List.mem_of_getElem? (i := 80) (by decide +kernel))
theorem wc_M_isName : Cond.code y_M_isName prog_14_method_12_code 2 (some .boolean) ∈ ly_T := ly_at 1508 (by decide +kernel) rfl
theorem wh_M_isName : xh_mh y_M_isName 0 := ⟨by decide, by decide, by decide +kernel⟩
theorem wn_M_isName : Cond.initialized y_M_isName.cls ∈ ly_T := ly_at 8 (by decide +kernel) rfl
theorem wi_M_isName : Cond.instanceMethod y_M_isName ∈ ly_T := ly_at 1507 (by decide +kernel) rfl
theorem ws_M_isName : Cond.selects (ly_cn 11) y_M_isName y_M_isName ∈ ly_T := ly_sel (q := (y_M_isName, 96)) (List.mem_of_getElem? (i := 66) (by decide +kernel))
theorem wc_M_told : Cond.code y_M_told prog_14_method_15_code 5 (some .int) ∈ ly_T := ly_at 1528 (by decide +kernel) rfl
theorem wh_M_told : xh_mh y_M_told 3 := ⟨by decide, by decide, by decide +kernel⟩
theorem wn_M_told : Cond.initialized y_M_told.cls ∈ ly_T := ly_at 8 (by decide +kernel) rfl
theorem wi_M_told : Cond.instanceMethod y_M_told ∈ ly_T := ly_at 1527 (by decide +kernel) rfl
theorem ws_M_told : Cond.selects (ly_cn 11) y_M_told y_M_told ∈ ly_T := ly_sel (q := (y_M_told, 96)) (List.mem_of_getElem? (i := 68) (by decide +kernel))
theorem wc_M_roleNumber : Cond.code y_M_roleNumber prog_14_method_28_code 5 (some .int) ∈ ly_T := ly_at 1524 (by decide +kernel) rfl
theorem wh_M_roleNumber : xh_mh y_M_roleNumber 1 := ⟨by decide, by decide, by decide +kernel⟩
theorem wn_M_roleNumber : Cond.initialized y_M_roleNumber.cls ∈ ly_T := ly_at 8 (by decide +kernel) rfl
theorem wi_M_roleNumber : Cond.instanceMethod y_M_roleNumber ∈ ly_T := ly_at 1523 (by decide +kernel) rfl
theorem ws_M_roleNumber : Cond.selects (ly_cn 11) y_M_roleNumber y_M_roleNumber ∈ ly_T := ly_sel (q := (y_M_roleNumber, 96)) (List.mem_of_getElem? (i := 67) (by decide +kernel))
theorem wc_M_readPart : Cond.code y_M_readPart prog_14_method_27_code 3 none ∈ ly_T := ly_at 1540 (by decide +kernel) rfl
theorem wh_M_readPart : xh_mh y_M_readPart 1 := ⟨by decide, by decide, by decide +kernel⟩
theorem wn_M_readPart : Cond.initialized y_M_readPart.cls ∈ ly_T := ly_at 8 (by decide +kernel) rfl
theorem wi_M_readPart : Cond.instanceMethod y_M_readPart ∈ ly_T := ly_at 1539 (by decide +kernel) rfl
theorem ws_M_readPart : Cond.selects (ly_cn 11) y_M_readPart y_M_readPart ∈ ly_T := ly_sel (q := (y_M_readPart, 96)) (List.mem_of_getElem? (i := 71) (by decide +kernel))
theorem wc_M_lineOf : Cond.code y_M_lineOf prog_14_method_32_code 2 (some .int) ∈ ly_T := ly_at 1476 (by decide +kernel) rfl
theorem wh_M_lineOf : xh_mh y_M_lineOf 0 := ⟨by decide, by decide, by decide +kernel⟩
theorem wn_M_lineOf : Cond.initialized y_M_lineOf.cls ∈ ly_T := ly_at 8 (by decide +kernel) rfl
theorem wi_M_lineOf : Cond.instanceMethod y_M_lineOf ∈ ly_T := ly_at 1475 (by decide +kernel) rfl
theorem ws_M_lineOf : Cond.selects (ly_cn 11) y_M_lineOf y_M_lineOf ∈ ly_T := ly_sel (q := (y_M_lineOf, 96)) (List.mem_of_getElem? (i := 60) (by decide +kernel))
theorem wc_M_readStart : Cond.code y_M_readStart prog_14_method_31_code 1 none ∈ ly_T := ly_at 1496 (by decide +kernel) rfl
theorem wh_M_readStart : xh_mh y_M_readStart 0 := ⟨by decide, by decide, by decide +kernel⟩
theorem wn_M_readStart : Cond.initialized y_M_readStart.cls ∈ ly_T := ly_at 8 (by decide +kernel) rfl
theorem wi_M_readStart : Cond.instanceMethod y_M_readStart ∈ ly_T := ly_at 1495 (by decide +kernel) rfl
theorem ws_M_readStart : Cond.selects (ly_cn 11) y_M_readStart y_M_readStart ∈ ly_T := ly_sel (q := (y_M_readStart, 96)) (List.mem_of_getElem? (i := 64) (by decide +kernel))
theorem wc_M_readRule : Cond.code y_M_readRule prog_14_method_30_code 1 none ∈ ly_T := ly_at 1536 (by decide +kernel) rfl
theorem wh_M_readRule : xh_mh y_M_readRule 0 := ⟨by decide, by decide, by decide +kernel⟩
theorem wn_M_readRule : Cond.initialized y_M_readRule.cls ∈ ly_T := ly_at 8 (by decide +kernel) rfl
theorem wi_M_readRule : Cond.instanceMethod y_M_readRule ∈ ly_T := ly_at 1535 (by decide +kernel) rfl
theorem ws_M_readRule : Cond.selects (ly_cn 11) y_M_readRule y_M_readRule ∈ ly_T := ly_sel (q := (y_M_readRule, 96)) (List.mem_of_getElem? (i := 70) (by decide +kernel))
theorem wc_M_readRole : Cond.code y_M_readRole prog_14_method_29_code 5 none ∈ ly_T := ly_at 1504 (by decide +kernel) rfl
theorem wh_M_readRole : xh_mh y_M_readRole 0 := ⟨by decide, by decide, by decide +kernel⟩
theorem wn_M_readRole : Cond.initialized y_M_readRole.cls ∈ ly_T := ly_at 8 (by decide +kernel) rfl
theorem wi_M_readRole : Cond.instanceMethod y_M_readRole ∈ ly_T := ly_at 1503 (by decide +kernel) rfl
theorem ws_M_readRole : Cond.selects (ly_cn 11) y_M_readRole y_M_readRole ∈ ly_T := ly_sel (q := (y_M_readRole, 96)) (List.mem_of_getElem? (i := 65) (by decide +kernel))
theorem wc_M_readLine : Cond.code y_M_readLine prog_14_method_33_code 2 none ∈ ly_T := ly_at 1472 (by decide +kernel) rfl
theorem wh_M_readLine : xh_mh y_M_readLine 0 := ⟨by decide, by decide, by decide +kernel⟩
theorem wn_M_readLine : Cond.initialized y_M_readLine.cls ∈ ly_T := ly_at 8 (by decide +kernel) rfl
theorem wi_M_readLine : Cond.instanceMethod y_M_readLine ∈ ly_T := ly_at 1471 (by decide +kernel) rfl
theorem ws_M_readLine : Cond.selects (ly_cn 11) y_M_readLine y_M_readLine ∈ ly_T := ly_sel (q := (y_M_readLine, 96)) (List.mem_of_getElem? (i := 59) (by decide +kernel))
theorem wc_M_worked : Cond.code y_M_worked prog_14_method_39_code 3 (some .int) ∈ ly_T := ly_at 1622 (by decide +kernel) rfl
theorem wh_M_worked : xh_mh y_M_worked 3 := ⟨by decide, by decide, by decide +kernel⟩
theorem wn_M_worked : Cond.initialized y_M_worked.cls ∈ ly_T := ly_at 8 (by decide +kernel) rfl
theorem wt_M_worked : Cond.static y_M_worked ∈ ly_T := ly_at 1621 (by decide +kernel) rfl
theorem wc_M_asked : Cond.code y_M_asked prog_14_method_40_code 3 (some .int) ∈ ly_T := ly_at 1619 (by decide +kernel) rfl
theorem wh_M_asked : xh_mh y_M_asked 2 := ⟨by decide, by decide, by decide +kernel⟩
theorem wn_M_asked : Cond.initialized y_M_asked.cls ∈ ly_T := ly_at 8 (by decide +kernel) rfl
theorem wi_M_asked : Cond.instanceMethod y_M_asked ∈ ly_T := ly_at 1618 (by decide +kernel) rfl
theorem ws_M_asked : Cond.selects (ly_cn 11) y_M_asked y_M_asked ∈ ly_T := ly_sel (q := (y_M_asked, 96)) (List.mem_of_getElem? (i := 87) (by decide +kernel))
theorem wc_M_worth : Cond.code y_M_worth prog_14_method_41_code 6 (some .int) ∈ ly_T := ly_at 1615 (by decide +kernel) rfl
theorem wh_M_worth : xh_mh y_M_worth 3 := ⟨by decide, by decide, by decide +kernel⟩
theorem wn_M_worth : Cond.initialized y_M_worth.cls ∈ ly_T := ly_at 8 (by decide +kernel) rfl
theorem wi_M_worth : Cond.instanceMethod y_M_worth ∈ ly_T := ly_at 1614 (by decide +kernel) rfl
theorem ws_M_worth : Cond.selects (ly_cn 11) y_M_worth y_M_worth ∈ ly_T := ly_sel (q := (y_M_worth, 96)) (List.mem_of_getElem? (i := 86) (by decide +kernel))
theorem wc_M_doRules : Cond.code y_M_doRules prog_14_method_42_code 5 (some .boolean) ∈ ly_T := ly_at 1611 (by decide +kernel) rfl
theorem wh_M_doRules : xh_mh y_M_doRules 1 := ⟨by decide, by decide, by decide +kernel⟩
theorem wn_M_doRules : Cond.initialized y_M_doRules.cls ∈ ly_T := ly_at 8 (by decide +kernel) rfl
theorem wi_M_doRules : Cond.instanceMethod y_M_doRules ∈ ly_T := ly_at 1610 (by decide +kernel) rfl
theorem ws_M_doRules : Cond.selects (ly_cn 11) y_M_doRules y_M_doRules ∈ ly_T := ly_sel (q := (y_M_doRules, 96)) (List.mem_of_getElem? (i := 85) (by decide +kernel))
theorem wc_M_isAll : Cond.code y_M_isAll prog_14_method_38_code 3 (some .boolean) ∈ ly_T := ly_at 1626 (by decide +kernel) rfl
theorem wh_M_isAll : xh_mh y_M_isAll 0 := ⟨by decide, by decide, by decide +kernel⟩
theorem wn_M_isAll : Cond.initialized y_M_isAll.cls ∈ ly_T := ly_at 8 (by decide +kernel) rfl
theorem wi_M_isAll : Cond.instanceMethod y_M_isAll ∈ ly_T := ly_at 1625 (by decide +kernel) rfl
theorem ws_M_isAll : Cond.selects (ly_cn 11) y_M_isAll y_M_isAll ∈ ly_T := ly_sel (q := (y_M_isAll, 96)) (List.mem_of_getElem? (i := 88) (by decide +kernel))
theorem wc_M_isLight : Cond.code y_M_isLight prog_14_method_49_code 2 (some .boolean) ∈ ly_T := ly_at 1595 (by decide +kernel) rfl
theorem wh_M_isLight : xh_mh y_M_isLight 1 := ⟨by decide, by decide, by decide +kernel⟩
theorem wn_M_isLight : Cond.initialized y_M_isLight.cls ∈ ly_T := ly_at 8 (by decide +kernel) rfl
theorem wi_M_isLight : Cond.instanceMethod y_M_isLight ∈ ly_T := ly_at 1594 (by decide +kernel) rfl
theorem ws_M_isLight : Cond.selects (ly_cn 11) y_M_isLight y_M_isLight ∈ ly_T := ly_sel (q := (y_M_isLight, 96)) (List.mem_of_getElem? (i := 82) (by decide +kernel))
theorem wc_M_isMan : Cond.code y_M_isMan prog_14_method_50_code 2 (some .boolean) ∈ ly_T := ly_at 1603 (by decide +kernel) rfl
theorem wh_M_isMan : xh_mh y_M_isMan 1 := ⟨by decide, by decide, by decide +kernel⟩
theorem wn_M_isMan : Cond.initialized y_M_isMan.cls ∈ ly_T := ly_at 8 (by decide +kernel) rfl
theorem wi_M_isMan : Cond.instanceMethod y_M_isMan ∈ ly_T := ly_at 1602 (by decide +kernel) rfl
theorem ws_M_isMan : Cond.selects (ly_cn 11) y_M_isMan y_M_isMan ∈ ly_T := ly_sel (q := (y_M_isMan, 96)) (List.mem_of_getElem? (i := 83) (by decide +kernel))
theorem wc_M_go : Cond.code y_M_go prog_14_method_43_code 4 (some .int) ∈ ly_T := ly_at 1607 (by decide +kernel) rfl
theorem wh_M_go : xh_mh y_M_go 1 := ⟨by decide, by decide, by decide +kernel⟩
theorem wn_M_go : Cond.initialized y_M_go.cls ∈ ly_T := ly_at 8 (by decide +kernel) rfl
theorem wi_M_go : Cond.instanceMethod y_M_go ∈ ly_T := ly_at 1606 (by decide +kernel) rfl
theorem ws_M_go : Cond.selects (ly_cn 11) y_M_go y_M_go ∈ ly_T := ly_sel (q := (y_M_go, 96)) (List.mem_of_getElem? (i := 84) (by decide +kernel))
theorem wc_M_forgetAt : Cond.code y_M_forgetAt prog_14_method_44_code 2 none ∈ ly_T := ly_at 1634 (by decide +kernel) rfl
theorem wh_M_forgetAt : xh_mh y_M_forgetAt 1 := ⟨by decide, by decide, by decide +kernel⟩
theorem wn_M_forgetAt : Cond.initialized y_M_forgetAt.cls ∈ ly_T := ly_at 8 (by decide +kernel) rfl
theorem wi_M_forgetAt : Cond.instanceMethod y_M_forgetAt ∈ ly_T := ly_at 1633 (by decide +kernel) rfl
theorem ws_M_forgetAt : Cond.selects (ly_cn 11) y_M_forgetAt y_M_forgetAt ∈ ly_T := ly_sel (q := (y_M_forgetAt, 96)) (List.mem_of_getElem? (i := 89) (by decide +kernel))
theorem wc_M_packed : Cond.code y_M_packed prog_14_method_56_code 4 (some .long) ∈ ly_T := ly_at 1674 (by decide +kernel) rfl
theorem wh_M_packed : xh_mh y_M_packed 0 := ⟨by decide, by decide, by decide +kernel⟩
theorem wn_M_packed : Cond.initialized y_M_packed.cls ∈ ly_T := ly_at 8 (by decide +kernel) rfl
theorem wi_M_packed : Cond.instanceMethod y_M_packed ∈ ly_T := ly_at 1673 (by decide +kernel) rfl
theorem ws_M_packed : Cond.selects (ly_cn 11) y_M_packed y_M_packed ∈ ly_T := ly_sel (q := (y_M_packed, 96)) (List.mem_of_getElem? (i := 96) (by decide +kernel))
theorem wc_M_slotOf : Cond.code y_M_slotOf prog_14_method_58_code 4 (some .int) ∈ ly_T := ly_at 1678 (by decide +kernel) rfl
theorem wh_M_slotOf : xh_mh y_M_slotOf 1 := ⟨by decide, by decide, by decide +kernel⟩
theorem wn_M_slotOf : Cond.initialized y_M_slotOf.cls ∈ ly_T := ly_at 8 (by decide +kernel) rfl
theorem wt_M_slotOf : Cond.static y_M_slotOf ∈ ly_T := ly_at 1677 (by decide +kernel) rfl
theorem wc_M_full : Cond.code y_M_full prog_14_method_37_code 1 (some .int) ∈ ly_T := ly_at 1662 (by decide +kernel) rfl
theorem wh_M_full : xh_mh y_M_full 0 := ⟨by decide, by decide, by decide +kernel⟩
theorem wn_M_full : Cond.initialized y_M_full.cls ∈ ly_T := ly_at 8 (by decide +kernel) rfl
theorem wi_M_full : Cond.instanceMethod y_M_full ∈ ly_T := ly_at 1661 (by decide +kernel) rfl
theorem ws_M_full : Cond.selects (ly_cn 11) y_M_full y_M_full ∈ ly_T := ly_sel (q := (y_M_full, 96)) (List.mem_of_getElem? (i := 93) (by decide +kernel))
theorem wc_M_unpack : Cond.code y_M_unpack prog_14_method_57_code 5 none ∈ ly_T := ly_at 1687 (by decide +kernel) rfl
theorem wh_M_unpack : xh_mh y_M_unpack 1 := ⟨by decide, by decide, by decide +kernel⟩
theorem wn_M_unpack : Cond.initialized y_M_unpack.cls ∈ ly_T := ly_at 8 (by decide +kernel) rfl
theorem wi_M_unpack : Cond.instanceMethod y_M_unpack ∈ ly_T := ly_at 1686 (by decide +kernel) rfl
theorem ws_M_unpack : Cond.selects (ly_cn 11) y_M_unpack y_M_unpack ∈ ly_T := ly_sel (q := (y_M_unpack, 96)) (List.mem_of_getElem? (i := 98) (by decide +kernel))
theorem wc_M_doFault : Cond.code y_M_doFault prog_14_method_61_code 3 none ∈ ly_T := ly_at 1694 (by decide +kernel) rfl
theorem wh_M_doFault : xh_mh y_M_doFault 2 := ⟨by decide, by decide, by decide +kernel⟩
theorem wn_M_doFault : Cond.initialized y_M_doFault.cls ∈ ly_T := ly_at 8 (by decide +kernel) rfl
theorem wi_M_doFault : Cond.instanceMethod y_M_doFault ∈ ly_T := ly_at 1693 (by decide +kernel) rfl
theorem ws_M_doFault : Cond.selects (ly_cn 11) y_M_doFault y_M_doFault ∈ ly_T := ly_sel (q := (y_M_doFault, 96)) (List.mem_of_getElem? (i := 99) (by decide +kernel))
theorem wc_M_number : Cond.code y_M_number prog_14_method_59_code 4 (some .int) ∈ ly_T := ly_at 1670 (by decide +kernel) rfl
theorem wh_M_number : xh_mh y_M_number 0 := ⟨by decide, by decide, by decide +kernel⟩
theorem wn_M_number : Cond.initialized y_M_number.cls ∈ ly_T := ly_at 8 (by decide +kernel) rfl
theorem wi_M_number : Cond.instanceMethod y_M_number ∈ ly_T := ly_at 1669 (by decide +kernel) rfl
theorem ws_M_number : Cond.selects (ly_cn 11) y_M_number y_M_number ∈ ly_T := ly_sel (q := (y_M_number, 96)) (List.mem_of_getElem? (i := 95) (by decide +kernel))
theorem wc_M_follow : Cond.code y_M_follow prog_14_method_62_code 8 none ∈ ly_T := ly_at 1683 (by decide +kernel) rfl
theorem wh_M_follow : xh_mh y_M_follow 2 := ⟨by decide, by decide, by decide +kernel⟩
theorem wn_M_follow : Cond.initialized y_M_follow.cls ∈ ly_T := ly_at 8 (by decide +kernel) rfl
theorem wi_M_follow : Cond.instanceMethod y_M_follow ∈ ly_T := ly_at 1682 (by decide +kernel) rfl
theorem ws_M_follow : Cond.selects (ly_cn 11) y_M_follow y_M_follow ∈ ly_T := ly_sel (q := (y_M_follow, 96)) (List.mem_of_getElem? (i := 97) (by decide +kernel))
theorem wc_M_isStart : Cond.code y_M_isStart prog_14_method_60_code 2 (some .boolean) ∈ ly_T := ly_at 1666 (by decide +kernel) rfl
theorem wh_M_isStart : xh_mh y_M_isStart 1 := ⟨by decide, by decide, by decide +kernel⟩
theorem wn_M_isStart : Cond.initialized y_M_isStart.cls ∈ ly_T := ly_at 8 (by decide +kernel) rfl
theorem wi_M_isStart : Cond.instanceMethod y_M_isStart ∈ ly_T := ly_at 1665 (by decide +kernel) rfl
theorem ws_M_isStart : Cond.selects (ly_cn 11) y_M_isStart y_M_isStart ∈ ly_T := ly_sel (q := (y_M_isStart, 96)) (List.mem_of_getElem? (i := 94) (by decide +kernel))
theorem wc_M_put : Cond.code y_M_put prog_14_method_46_code 2 none ∈ ly_T := ly_at 1654 (by decide +kernel) rfl
theorem wh_M_put : xh_mh y_M_put 0 := ⟨by decide, by decide, by decide +kernel⟩
theorem wn_M_put : Cond.initialized y_M_put.cls ∈ ly_T := ly_at 8 (by decide +kernel) rfl
theorem wi_M_put : Cond.instanceMethod y_M_put ∈ ly_T := ly_at 1653 (by decide +kernel) rfl
theorem ws_M_put : Cond.selects (ly_cn 11) y_M_put y_M_put ∈ ly_T := ly_sel (q := (y_M_put, 96)) (List.mem_of_getElem? (i := 91) (by decide +kernel))
theorem wc_M_layStates : Cond.code y_M_layStates prog_14_method_63_code 4 (some .boolean) ∈ ly_T := ly_at 1658 (by decide +kernel) rfl
theorem wh_M_layStates : xh_mh y_M_layStates 1 := ⟨by decide, by decide, by decide +kernel⟩
theorem wn_M_layStates : Cond.initialized y_M_layStates.cls ∈ ly_T := ly_at 8 (by decide +kernel) rfl
theorem wi_M_layStates : Cond.instanceMethod y_M_layStates ∈ ly_T := ly_at 1657 (by decide +kernel) rfl
theorem ws_M_layStates : Cond.selects (ly_cn 11) y_M_layStates y_M_layStates ∈ ly_T := ly_sel (q := (y_M_layStates, 96)) (List.mem_of_getElem? (i := 92) (by decide +kernel))
theorem wc_M_bring : Cond.code y_M_bring prog_14_method_47_code 2 none ∈ ly_T := ly_at 1698 (by decide +kernel) rfl
theorem wh_M_bring : xh_mh y_M_bring 0 := ⟨by decide, by decide, by decide +kernel⟩
theorem wn_M_bring : Cond.initialized y_M_bring.cls ∈ ly_T := ly_at 8 (by decide +kernel) rfl
theorem wi_M_bring : Cond.instanceMethod y_M_bring ∈ ly_T := ly_at 1697 (by decide +kernel) rfl
theorem ws_M_bring : Cond.selects (ly_cn 11) y_M_bring y_M_bring ∈ ly_T := ly_sel (q := (y_M_bring, 96)) (List.mem_of_getElem? (i := 100) (by decide +kernel))
theorem wc_M_layPlan : Cond.code y_M_layPlan prog_14_method_64_code 3 (some .boolean) ∈ ly_T := ly_at 1650 (by decide +kernel) rfl
theorem wh_M_layPlan : xh_mh y_M_layPlan 1 := ⟨by decide, by decide, by decide +kernel⟩
theorem wn_M_layPlan : Cond.initialized y_M_layPlan.cls ∈ ly_T := ly_at 8 (by decide +kernel) rfl
theorem wi_M_layPlan : Cond.instanceMethod y_M_layPlan ∈ ly_T := ly_at 1649 (by decide +kernel) rfl
theorem ws_M_layPlan : Cond.selects (ly_cn 11) y_M_layPlan y_M_layPlan ∈ ly_T := ly_sel (q := (y_M_layPlan, 96)) (List.mem_of_getElem? (i := 90) (by decide +kernel))
theorem wc_M_leads : Cond.code y_M_leads prog_14_method_65_code 5 (some .int) ∈ ly_T := ly_at 1702 (by decide +kernel) rfl
theorem wh_M_leads : xh_mh y_M_leads 1 := ⟨by decide, by decide, by decide +kernel⟩
theorem wn_M_leads : Cond.initialized y_M_leads.cls ∈ ly_T := ly_at 8 (by decide +kernel) rfl
theorem wi_M_leads : Cond.instanceMethod y_M_leads ∈ ly_T := ly_at 1701 (by decide +kernel) rfl
theorem ws_M_leads : Cond.selects (ly_cn 11) y_M_leads y_M_leads ∈ ly_T := ly_sel (q := (y_M_leads, 96)) (List.mem_of_getElem? (i := 101) (by decide +kernel))
theorem wc_M_isNear : Cond.code y_M_isNear prog_14_method_69_code 6 (some .boolean) ∈ ly_T := ly_at 1726 (by decide +kernel) rfl
theorem wh_M_isNear : xh_mh y_M_isNear 3 := ⟨by decide, by decide, by decide +kernel⟩
theorem wn_M_isNear : Cond.initialized y_M_isNear.cls ∈ ly_T := ly_at 8 (by decide +kernel) rfl
theorem wi_M_isNear : Cond.instanceMethod y_M_isNear ∈ ly_T := ly_at 1725 (by decide +kernel) rfl
theorem ws_M_isNear : Cond.selects (ly_cn 11) y_M_isNear y_M_isNear ∈ ly_T := ly_sel (q := (y_M_isNear, 96)) (List.mem_of_getElem? (i := 104) (by decide +kernel))
theorem wc_M_laySoon : Cond.code y_M_laySoon prog_14_method_70_code 5 none ∈ ly_T := ly_at 1722 (by decide +kernel) rfl
theorem wh_M_laySoon : xh_mh y_M_laySoon 1 := ⟨by decide, by decide, by decide +kernel⟩
theorem wn_M_laySoon : Cond.initialized y_M_laySoon.cls ∈ ly_T := ly_at 8 (by decide +kernel) rfl
theorem wi_M_laySoon : Cond.instanceMethod y_M_laySoon ∈ ly_T := ly_at 1721 (by decide +kernel) rfl
theorem ws_M_laySoon : Cond.selects (ly_cn 11) y_M_laySoon y_M_laySoon ∈ ly_T := ly_sel (q := (y_M_laySoon, 96)) (List.mem_of_getElem? (i := 103) (by decide +kernel))
theorem wc_M_startNumber : Cond.code y_M_startNumber prog_14_method_71_code 4 (some .int) ∈ ly_T := ly_at 1730 (by decide +kernel) rfl
theorem wh_M_startNumber : xh_mh y_M_startNumber 1 := ⟨by decide, by decide, by decide +kernel⟩
theorem wn_M_startNumber : Cond.initialized y_M_startNumber.cls ∈ ly_T := ly_at 8 (by decide +kernel) rfl
theorem wi_M_startNumber : Cond.instanceMethod y_M_startNumber ∈ ly_T := ly_at 1729 (by decide +kernel) rfl
theorem ws_M_startNumber : Cond.selects (ly_cn 11) y_M_startNumber y_M_startNumber ∈ ly_T := ly_sel (q := (y_M_startNumber, 96)) (List.mem_of_getElem? (i := 105) (by decide +kernel))
theorem wc_M_soonStart : Cond.code y_M_soonStart prog_14_method_72_code 5 (some .int) ∈ ly_T := ly_at 1718 (by decide +kernel) rfl
theorem wh_M_soonStart : xh_mh y_M_soonStart 1 := ⟨by decide, by decide, by decide +kernel⟩
theorem wn_M_soonStart : Cond.initialized y_M_soonStart.cls ∈ ly_T := ly_at 8 (by decide +kernel) rfl
theorem wi_M_soonStart : Cond.instanceMethod y_M_soonStart ∈ ly_T := ly_at 1717 (by decide +kernel) rfl
theorem ws_M_soonStart : Cond.selects (ly_cn 11) y_M_soonStart y_M_soonStart ∈ ly_T := ly_sel (q := (y_M_soonStart, 96)) (List.mem_of_getElem? (i := 102) (by decide +kernel))
theorem wc_M_layBack : Cond.code y_M_layBack prog_14_method_76_code 2 none ∈ ly_T := ly_at 1754 (by decide +kernel) rfl
theorem wh_M_layBack : xh_mh y_M_layBack 0 := ⟨by decide, by decide, by decide +kernel⟩
theorem wn_M_layBack : Cond.initialized y_M_layBack.cls ∈ ly_T := ly_at 8 (by decide +kernel) rfl
theorem wi_M_layBack : Cond.instanceMethod y_M_layBack ∈ ly_T := ly_at 1753 (by decide +kernel) rfl
theorem ws_M_layBack : Cond.selects (ly_cn 11) y_M_layBack y_M_layBack ∈ ly_T := ly_sel (q := (y_M_layBack, 96)) (List.mem_of_getElem? (i := 108) (by decide +kernel))
theorem wc_M_layOrder : Cond.code y_M_layOrder prog_14_method_77_code 6 none ∈ ly_T := ly_at 1758 (by decide +kernel) rfl
theorem wh_M_layOrder : xh_mh y_M_layOrder 0 := ⟨by decide, by decide, by decide +kernel⟩
theorem wn_M_layOrder : Cond.initialized y_M_layOrder.cls ∈ ly_T := ly_at 8 (by decide +kernel) rfl
theorem wi_M_layOrder : Cond.instanceMethod y_M_layOrder ∈ ly_T := ly_at 1757 (by decide +kernel) rfl
theorem ws_M_layOrder : Cond.selects (ly_cn 11) y_M_layOrder y_M_layOrder ∈ ly_T := ly_sel (q := (y_M_layOrder, 96)) (List.mem_of_getElem? (i := 109) (by decide +kernel))
theorem wc_M_layParts : Cond.code y_M_layParts prog_14_method_78_code 5 none ∈ ly_T := ly_at 1750 (by decide +kernel) rfl
theorem wh_M_layParts : xh_mh y_M_layParts 0 := ⟨by decide, by decide, by decide +kernel⟩
theorem wn_M_layParts : Cond.initialized y_M_layParts.cls ∈ ly_T := ly_at 8 (by decide +kernel) rfl
theorem wi_M_layParts : Cond.instanceMethod y_M_layParts ∈ ly_T := ly_at 1749 (by decide +kernel) rfl
theorem ws_M_layParts : Cond.selects (ly_cn 11) y_M_layParts y_M_layParts ∈ ly_T := ly_sel (q := (y_M_layParts, 96)) (List.mem_of_getElem? (i := 107) (by decide +kernel))
theorem wc_M_endlessMany : Cond.code y_M_endlessMany prog_14_method_79_code 4 (some .int) ∈ ly_T := ly_at 1746 (by decide +kernel) rfl
theorem wh_M_endlessMany : xh_mh y_M_endlessMany 0 := ⟨by decide, by decide, by decide +kernel⟩
theorem wn_M_endlessMany : Cond.initialized y_M_endlessMany.cls ∈ ly_T := ly_at 8 (by decide +kernel) rfl
theorem wi_M_endlessMany : Cond.instanceMethod y_M_endlessMany ∈ ly_T := ly_at 1745 (by decide +kernel) rfl
theorem ws_M_endlessMany : Cond.selects (ly_cn 11) y_M_endlessMany y_M_endlessMany ∈ ly_T := ly_sel (q := (y_M_endlessMany, 96)) (List.mem_of_getElem? (i := 106) (by decide +kernel))
theorem wc_M_common : Cond.code y_M_common prog_14_method_84_code 10 (some .long) ∈ ly_T := ly_at 1786 (by decide +kernel) rfl
theorem wh_M_common : xh_mh y_M_common 2 := ⟨by decide, by decide, by decide +kernel⟩
theorem wn_M_common : Cond.initialized y_M_common.cls ∈ ly_T := ly_at 8 (by decide +kernel) rfl
theorem wt_M_common : Cond.static y_M_common ∈ ly_T := ly_at 1785 (by decide +kernel) rfl
theorem wc_M_isPart : Cond.code y_M_isPart prog_14_method_86_code 1 (some .boolean) ∈ ly_T := ly_at 1778 (by decide +kernel) rfl
theorem wh_M_isPart : xh_mh y_M_isPart 1 := ⟨by decide, by decide, by decide +kernel⟩
theorem wn_M_isPart : Cond.initialized y_M_isPart.cls ∈ ly_T := ly_at 8 (by decide +kernel) rfl
theorem wt_M_isPart : Cond.static y_M_isPart ∈ ly_T := ly_at 1777 (by decide +kernel) rfl
theorem wc_M_partOf : Cond.code y_M_partOf prog_14_method_85_code 7 (some .long) ∈ ly_T := ly_at 1783 (by decide +kernel) rfl
theorem wh_M_partOf : xh_mh y_M_partOf 3 := ⟨by decide, by decide, by decide +kernel⟩
theorem wn_M_partOf : Cond.initialized y_M_partOf.cls ∈ ly_T := ly_at 8 (by decide +kernel) rfl
theorem wt_M_partOf : Cond.static y_M_partOf ∈ ly_T := ly_at 1782 (by decide +kernel) rfl
theorem wc_M_isMany : Cond.code y_M_isMany prog_14_method_89_code 1 (some .boolean) ∈ ly_T := ly_at 1793 (by decide +kernel) rfl
theorem wh_M_isMany : xh_mh y_M_isMany 1 := ⟨by decide, by decide, by decide +kernel⟩
theorem wn_M_isMany : Cond.initialized y_M_isMany.cls ∈ ly_T := ly_at 8 (by decide +kernel) rfl
theorem wt_M_isMany : Cond.static y_M_isMany ∈ ly_T := ly_at 1792 (by decide +kernel) rfl
theorem wc_M_layRows : Cond.code y_M_layRows prog_14_method_88_code 7 (some .long) ∈ ly_T := ly_at 1797 (by decide +kernel) rfl
theorem wh_M_layRows : xh_mh y_M_layRows 2 := ⟨by decide, by decide, by decide +kernel⟩
theorem wn_M_layRows : Cond.initialized y_M_layRows.cls ∈ ly_T := ly_at 8 (by decide +kernel) rfl
theorem wi_M_layRows : Cond.instanceMethod y_M_layRows ∈ ly_T := ly_at 1796 (by decide +kernel) rfl
theorem ws_M_layRows : Cond.selects (ly_cn 11) y_M_layRows y_M_layRows ∈ ly_T := ly_sel (q := (y_M_layRows, 96)) (List.mem_of_getElem? (i := 110) (by decide +kernel))
theorem wc_M_layLogs : Cond.code y_M_layLogs prog_14_method_98_code 4 (some .int) ∈ ly_T := ly_at 1836 (by decide +kernel) rfl
theorem wh_M_layLogs : xh_mh y_M_layLogs 1 := ⟨by decide, by decide, by decide +kernel⟩
theorem wn_M_layLogs : Cond.initialized y_M_layLogs.cls ∈ ly_T := ly_at 8 (by decide +kernel) rfl
theorem wi_M_layLogs : Cond.instanceMethod y_M_layLogs ∈ ly_T := ly_at 1835 (by decide +kernel) rfl
theorem ws_M_layLogs : Cond.selects (ly_cn 11) y_M_layLogs y_M_layLogs ∈ ly_T := ly_sel (q := (y_M_layLogs, 96)) (List.mem_of_getElem? (i := 111) (by decide +kernel))
theorem wc_M_isBox : Cond.code y_M_isBox prog_14_method_102_code 1 (some .boolean) ∈ ly_T := ly_at 1851 (by decide +kernel) rfl
theorem wh_M_isBox : xh_mh y_M_isBox 1 := ⟨by decide, by decide, by decide +kernel⟩
theorem wn_M_isBox : Cond.initialized y_M_isBox.cls ∈ ly_T := ly_at 8 (by decide +kernel) rfl
theorem wt_M_isBox : Cond.static y_M_isBox ∈ ly_T := ly_at 1850 (by decide +kernel) rfl
theorem ly_mmax1 : Cond.static Lib.Math.max.name ∈ ly_T := ly_at 550 (by decide +kernel) rfl
theorem ly_mmax2 : Cond.code Lib.Math.max.name Lib.Math.max.code 2 (some .int) ∈ ly_T := ly_at 551 (by decide +kernel) rfl
theorem ly_mmin1 : Cond.static Lib.Math.min.name ∈ ly_T := ly_at 319 (by decide +kernel) rfl
theorem ly_mmin2 : Cond.code Lib.Math.min.name Lib.Math.min.code 2 (some .int) ∈ ly_T := ly_at 320 (by decide +kernel) rfl
theorem ly_m0 : Cond.initialized "java/lang/Math" ∈ ly_T := ly_at 9 (by decide +kernel) rfl
theorem ly_cp1 : Cond.static arraycopyName ∈ ly_T := ly_at 1119 (by decide +kernel) rfl
theorem ly_cp2 : Cond.native arraycopyName ∈ ly_T := ly_at 1120 (by decide +kernel) rfl
theorem ly_cp3 : Cond.initialized "java/lang/System" ∈ ly_T := ly_at 21 (by decide +kernel) rfl
end LYW
