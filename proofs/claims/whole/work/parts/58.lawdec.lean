def tb_Lw33 : TBL := [(851, .iadd, 1), (852, .iaload, 1), (853, .invokevirtual 122, 3), (856, .aload_n 2, 1), (857, .aload_n 0, 1), (858, .iload_n 3, 1), (859, .iconst 1, 1), (860, .iadd, 1), (861, .iaload, 1), (862, .aload_n 0, 1)]
theorem dt_Lw33 : ∀ q ∈ tb_Lw33, decode code q.1 = .ok (q.2.1, q.2.2) := by decide +kernel
def tb_Lw34 : TBL := [(863, .iload_n 3, 1), (864, .iconst 2, 1), (865, .iadd, 1), (866, .iaload, 1), (867, .invokevirtual 125, 3), (870, .if_icmp .eq 219, 3), (873, .iconst 0, 1), (874, .ireturn, 1), (875, .aload_n 1, 1), (876, .aload_n 0, 1)]
theorem dt_Lw34 : ∀ q ∈ tb_Lw34, decode code q.1 = .ok (q.2.1, q.2.2) := by decide +kernel
def tb_Lw35 : TBL := [(877, .iload_n 3, 1), (878, .iconst 1, 1), (879, .iadd, 1), (880, .iaload, 1), (881, .invokevirtual 126, 3), (884, .aload_n 2, 1), (885, .aload_n 0, 1), (886, .iload_n 3, 1), (887, .iconst 1, 1)]
theorem dt_Lw35 : ∀ q ∈ tb_Lw35, decode code q.1 = .ok (q.2.1, q.2.2) := by decide +kernel
def tb_Lw36 : TBL := [(888, .iadd, 1), (889, .iaload, 1), (890, .invokevirtual 129, 3), (893, .if_icmp .eq 196, 3), (896, .iconst 0, 1), (897, .ireturn, 1), (898, .aload_n 1, 1), (899, .aload_n 0, 1), (900, .iload_n 3, 1)]
theorem dt_Lw36 : ∀ q ∈ tb_Lw36, decode code q.1 = .ok (q.2.1, q.2.2) := by decide +kernel
def tb_Lw37 : TBL := [(901, .iconst 1, 1), (902, .iadd, 1), (903, .iaload, 1), (904, .invokevirtual 130, 3), (907, .aload_n 2, 1), (908, .aload_n 0, 1), (909, .iload_n 3, 1), (910, .iconst 1, 1), (911, .iadd, 1)]
theorem dt_Lw37 : ∀ q ∈ tb_Lw37, decode code q.1 = .ok (q.2.1, q.2.2) := by decide +kernel
def tb_Lw38 : TBL := [(912, .iaload, 1), (913, .invokevirtual 133, 3), (916, .if_icmp .eq 173, 3), (919, .iconst 0, 1), (920, .ireturn, 1), (921, .aload_n 1, 1), (922, .aload_n 0, 1), (923, .iload_n 3, 1), (924, .iconst 1, 1)]
theorem dt_Lw38 : ∀ q ∈ tb_Lw38, decode code q.1 = .ok (q.2.1, q.2.2) := by decide +kernel
def tb_Lw39 : TBL := [(925, .iadd, 1), (926, .iaload, 1), (927, .aload_n 0, 1), (928, .iload_n 3, 1), (929, .iconst 2, 1), (930, .iadd, 1), (931, .iaload, 1), (932, .invokevirtual 134, 3), (935, .aload_n 2, 1)]
theorem dt_Lw39 : ∀ q ∈ tb_Lw39, decode code q.1 = .ok (q.2.1, q.2.2) := by decide +kernel
def tb_Lw40 : TBL := [(936, .aload_n 0, 1), (937, .iload_n 3, 1), (938, .iconst 1, 1), (939, .iadd, 1), (940, .iaload, 1), (941, .aload_n 0, 1), (942, .iload_n 3, 1), (943, .iconst 2, 1), (944, .iadd, 1)]
theorem dt_Lw40 : ∀ q ∈ tb_Lw40, decode code q.1 = .ok (q.2.1, q.2.2) := by decide +kernel
def tb_Lw41 : TBL := [(945, .iaload, 1), (946, .invokevirtual 137, 3), (949, .if_icmp .eq 140, 3), (952, .iconst 0, 1), (953, .ireturn, 1), (954, .aload_n 1, 1), (955, .aload_n 0, 1), (956, .iload_n 3, 1), (957, .iconst 1, 1)]
theorem dt_Lw41 : ∀ q ∈ tb_Lw41, decode code q.1 = .ok (q.2.1, q.2.2) := by decide +kernel
def tb_Lw42 : TBL := [(958, .iadd, 1), (959, .iaload, 1), (960, .aload_n 0, 1), (961, .iload_n 3, 1), (962, .iconst 2, 1), (963, .iadd, 1), (964, .iaload, 1), (965, .invokevirtual 138, 3), (968, .aload_n 2, 1)]
theorem dt_Lw42 : ∀ q ∈ tb_Lw42, decode code q.1 = .ok (q.2.1, q.2.2) := by decide +kernel
def tb_Lw43 : TBL := [(969, .aload_n 0, 1), (970, .iload_n 3, 1), (971, .iconst 1, 1), (972, .iadd, 1), (973, .iaload, 1), (974, .aload_n 0, 1), (975, .iload_n 3, 1), (976, .iconst 2, 1)]
theorem dt_Lw43 : ∀ q ∈ tb_Lw43, decode code q.1 = .ok (q.2.1, q.2.2) := by decide +kernel
