def tb_Lw22 : TBL := [(710, .aload_n 0, 1), (711, .iload_n 3, 1), (712, .iconst 1, 1), (713, .iadd, 1), (714, .iaload, 1), (715, .aload_n 0, 1), (716, .iload_n 3, 1), (717, .iconst 2, 1), (718, .iadd, 1), (719, .iaload, 1), (720, .invokevirtual 104, 3), (723, .aload_n 2, 1)]
theorem dt_Lw22 : ∀ q ∈ tb_Lw22, decode code q.1 = .ok (q.2.1, q.2.2) := by decide +kernel
def tb_Lw23 : TBL := [(724, .aload_n 0, 1), (725, .iload_n 3, 1), (726, .iconst 1, 1), (727, .iadd, 1), (728, .iaload, 1), (729, .aload_n 0, 1), (730, .iload_n 3, 1), (731, .iconst 2, 1), (732, .iadd, 1), (733, .iaload, 1), (734, .invokevirtual 107, 3)]
theorem dt_Lw23 : ∀ q ∈ tb_Lw23, decode code q.1 = .ok (q.2.1, q.2.2) := by decide +kernel
def tb_Lw24 : TBL := [(737, .if_icmp .eq 352, 3), (740, .iconst 0, 1), (741, .ireturn, 1), (742, .aload_n 1, 1), (743, .aload_n 0, 1), (744, .iload_n 3, 1), (745, .iconst 1, 1), (746, .iadd, 1), (747, .iaload, 1), (748, .aload_n 0, 1), (749, .iload_n 3, 1)]
theorem dt_Lw24 : ∀ q ∈ tb_Lw24, decode code q.1 = .ok (q.2.1, q.2.2) := by decide +kernel
def tb_Lw25 : TBL := [(750, .iconst 2, 1), (751, .iadd, 1), (752, .iaload, 1), (753, .invokevirtual 108, 3), (756, .aload_n 2, 1), (757, .aload_n 0, 1), (758, .iload_n 3, 1), (759, .iconst 1, 1), (760, .iadd, 1), (761, .iaload, 1), (762, .aload_n 0, 1)]
theorem dt_Lw25 : ∀ q ∈ tb_Lw25, decode code q.1 = .ok (q.2.1, q.2.2) := by decide +kernel
def tb_Lw26 : TBL := [(763, .iload_n 3, 1), (764, .iconst 2, 1), (765, .iadd, 1), (766, .iaload, 1), (767, .invokevirtual 112, 3), (770, .lcmp, 1), (771, .ifCond .eq 318, 3), (774, .iconst 0, 1), (775, .ireturn, 1), (776, .aload_n 1, 1), (777, .aload_n 0, 1)]
theorem dt_Lw26 : ∀ q ∈ tb_Lw26, decode code q.1 = .ok (q.2.1, q.2.2) := by decide +kernel
def tb_Lw27 : TBL := [(778, .iload_n 3, 1), (779, .iconst 1, 1), (780, .iadd, 1), (781, .iaload, 1), (782, .aload_n 0, 1), (783, .iload_n 3, 1), (784, .iconst 2, 1), (785, .iadd, 1), (786, .iaload, 1), (787, .aload_n 0, 1), (788, .iload_n 3, 1)]
theorem dt_Lw27 : ∀ q ∈ tb_Lw27, decode code q.1 = .ok (q.2.1, q.2.2) := by decide +kernel
def tb_Lw28 : TBL := [(789, .iconst 3, 1), (790, .iadd, 1), (791, .iaload, 1), (792, .aload_n 0, 1), (793, .iload_n 3, 1), (794, .iconst 4, 1), (795, .iadd, 1), (796, .iaload, 1), (797, .invokevirtual 113, 3), (800, .aload_n 2, 1)]
theorem dt_Lw28 : ∀ q ∈ tb_Lw28, decode code q.1 = .ok (q.2.1, q.2.2) := by decide +kernel
def tb_Lw29 : TBL := [(801, .aload_n 0, 1), (802, .iload_n 3, 1), (803, .iconst 1, 1), (804, .iadd, 1), (805, .iaload, 1), (806, .aload_n 0, 1), (807, .iload_n 3, 1), (808, .iconst 2, 1), (809, .iadd, 1), (810, .iaload, 1)]
theorem dt_Lw29 : ∀ q ∈ tb_Lw29, decode code q.1 = .ok (q.2.1, q.2.2) := by decide +kernel
def tb_Lw30 : TBL := [(811, .aload_n 0, 1), (812, .iload_n 3, 1), (813, .iconst 3, 1), (814, .iadd, 1), (815, .iaload, 1), (816, .aload_n 0, 1), (817, .iload_n 3, 1), (818, .iconst 4, 1), (819, .iadd, 1), (820, .iaload, 1)]
theorem dt_Lw30 : ∀ q ∈ tb_Lw30, decode code q.1 = .ok (q.2.1, q.2.2) := by decide +kernel
def tb_Lw31 : TBL := [(821, .invokevirtual 117, 3), (824, .if_icmp .eq 265, 3), (827, .iconst 0, 1), (828, .ireturn, 1), (829, .aload_n 1, 1), (830, .invokevirtual 118, 3), (833, .aload_n 2, 1), (834, .invokevirtual 121, 3), (837, .if_icmp .eq 252, 3), (840, .iconst 0, 1)]
theorem dt_Lw31 : ∀ q ∈ tb_Lw31, decode code q.1 = .ok (q.2.1, q.2.2) := by decide +kernel
def tb_Lw32 : TBL := [(841, .ireturn, 1), (842, .aload_n 1, 1), (843, .aload_n 0, 1), (844, .iload_n 3, 1), (845, .iconst 1, 1), (846, .iadd, 1), (847, .iaload, 1), (848, .aload_n 0, 1), (849, .iload_n 3, 1), (850, .iconst 2, 1)]
theorem dt_Lw32 : ∀ q ∈ tb_Lw32, decode code q.1 = .ok (q.2.1, q.2.2) := by decide +kernel
