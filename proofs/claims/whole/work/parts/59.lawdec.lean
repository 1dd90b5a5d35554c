def tb_Lw44 : TBL := [(977, .iadd, 1), (978, .iaload, 1), (979, .invokevirtual 141, 3), (982, .if_icmp .eq 107, 3), (985, .iconst 0, 1), (986, .ireturn, 1), (987, .aload_n 1, 1), (988, .aload_n 0, 1)]
theorem dt_Lw44 : ∀ q ∈ tb_Lw44, decode code q.1 = .ok (q.2.1, q.2.2) := by decide +kernel
def tb_Lw45 : TBL := [(989, .iload_n 3, 1), (990, .iconst 1, 1), (991, .iadd, 1), (992, .iaload, 1), (993, .aload_n 0, 1), (994, .iload_n 3, 1), (995, .iconst 2, 1), (996, .iadd, 1)]
theorem dt_Lw45 : ∀ q ∈ tb_Lw45, decode code q.1 = .ok (q.2.1, q.2.2) := by decide +kernel
def tb_Lw46 : TBL := [(997, .iaload, 1), (998, .invokevirtual 142, 3), (1001, .aload_n 2, 1), (1002, .aload_n 0, 1), (1003, .iload_n 3, 1), (1004, .iconst 1, 1), (1005, .iadd, 1), (1006, .iaload, 1)]
theorem dt_Lw46 : ∀ q ∈ tb_Lw46, decode code q.1 = .ok (q.2.1, q.2.2) := by decide +kernel
def tb_Lw47 : TBL := [(1007, .aload_n 0, 1), (1008, .iload_n 3, 1), (1009, .iconst 2, 1), (1010, .iadd, 1), (1011, .iaload, 1), (1012, .invokevirtual 145, 3), (1015, .if_icmp .eq 74, 3), (1018, .iconst 0, 1)]
theorem dt_Lw47 : ∀ q ∈ tb_Lw47, decode code q.1 = .ok (q.2.1, q.2.2) := by decide +kernel
def tb_Lw48 : TBL := [(1019, .ireturn, 1), (1020, .aload_n 1, 1), (1021, .aload_n 0, 1), (1022, .iload_n 3, 1), (1023, .iconst 1, 1), (1024, .iadd, 1), (1025, .iaload, 1), (1026, .invokevirtual 146, 3)]
theorem dt_Lw48 : ∀ q ∈ tb_Lw48, decode code q.1 = .ok (q.2.1, q.2.2) := by decide +kernel
def tb_Lw49 : TBL := [(1029, .aload_n 2, 1), (1030, .aload_n 0, 1), (1031, .iload_n 3, 1), (1032, .iconst 1, 1), (1033, .iadd, 1), (1034, .iaload, 1), (1035, .invokevirtual 149, 3), (1038, .if_icmp .eq 51, 3)]
theorem dt_Lw49 : ∀ q ∈ tb_Lw49, decode code q.1 = .ok (q.2.1, q.2.2) := by decide +kernel
def tb_Lw50 : TBL := [(1041, .iconst 0, 1), (1042, .ireturn, 1), (1043, .aload_n 1, 1), (1044, .aload_n 0, 1), (1045, .iload_n 3, 1), (1046, .iconst 1, 1), (1047, .iadd, 1), (1048, .iaload, 1)]
theorem dt_Lw50 : ∀ q ∈ tb_Lw50, decode code q.1 = .ok (q.2.1, q.2.2) := by decide +kernel
def tb_Lw51 : TBL := [(1049, .invokevirtual 150, 3), (1052, .aload_n 2, 1), (1053, .aload_n 0, 1), (1054, .iload_n 3, 1), (1055, .iconst 1, 1), (1056, .iadd, 1), (1057, .iaload, 1), (1058, .invokevirtual 153, 3)]
theorem dt_Lw51 : ∀ q ∈ tb_Lw51, decode code q.1 = .ok (q.2.1, q.2.2) := by decide +kernel
def tb_Lw52 : TBL := [(1061, .if_icmp .eq 28, 3), (1064, .iconst 0, 1), (1065, .ireturn, 1), (1066, .aload_n 1, 1), (1067, .aload_n 0, 1), (1068, .iload_n 3, 1), (1069, .iconst 1, 1), (1070, .iadd, 1)]
theorem dt_Lw52 : ∀ q ∈ tb_Lw52, decode code q.1 = .ok (q.2.1, q.2.2) := by decide +kernel
def tb_Lw53 : TBL := [(1071, .iaload, 1), (1072, .invokevirtual 154, 3), (1075, .aload_n 2, 1), (1076, .aload_n 0, 1), (1077, .iload_n 3, 1), (1078, .iconst 1, 1), (1079, .iadd, 1), (1080, .iaload, 1)]
theorem dt_Lw53 : ∀ q ∈ tb_Lw53, decode code q.1 = .ok (q.2.1, q.2.2) := by decide +kernel
def tb_Lw54 : TBL := [(1081, .invokevirtual 157, 3), (1084, .if_icmp .eq 5, 3), (1087, .iconst 0, 1), (1088, .ireturn, 1), (1089, .iinc 3 6, 3), (1092, .goto (-1074), 3), (1095, .iconst 1, 1), (1096, .ireturn, 1)]
theorem dt_Lw54 : ∀ q ∈ tb_Lw54, decode code q.1 = .ok (q.2.1, q.2.2) := by decide +kernel
