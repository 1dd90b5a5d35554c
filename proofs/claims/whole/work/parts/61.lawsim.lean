/-! the law: its script, its own function, the simulation -/
def ly_sc (b L : Nat) (xs : Nat → Int32) (K : KK) : Prop := va_X b L xs (cx_s (kx K)) (cx_s (kx K)).heap ∧ b < (cx_s (kx K)).heap.size ∧ ¬ lg_A (kg K) b
theorem xs_weak {T : Type} {C C' : KK → Prop} {zf : T → HP} {L : KK → T → Prop} {pc : Nat} {lv : List (Nat × AV)} {st : List AV} {h : HP} {o : Option T} (hC : ∀ K, C' K → C K) (k : xx_S C zf L pc lv st h o) : xx_S C' zf L pc lv st h o := fun x hx => ⟨(k x hx).1, fun K HC hb hL => (k x hx).2 K (hC K HC) hb hL⟩
theorem xr_slen {K : KK} {own : String} {tb : TBL} {nL d : Nat} {rt : Option FieldType} {pc : Nat} {lv : List (Nat × AV)} {st : List AV} {h : HP} (HC : xx_C K own tb nL d rt) (i pc' : Nat) {b L : Nat} {xs : Nat → Int32} (hX : ly_sc b L xs K) (hd : tb[i]? = some (pc, .arraylength, 1)) (hp : pc + 1 = pc') (kk : xx_X K pc' lv (av_I (Int32.ofNat L) :: st) h) : xx_X K pc lv (av_R 99 (some b) :: st) h := by
  subst hp
  intro H locs ls hR hS hM hl ho hs
  exact va_slen HC.ex rfl hX.1 hX.2.1 hX.2.2 hS (HC.dec hd) (kk H locs ls hR hS hM hl ho (st_1 trivial hs))
theorem xr_sld {K : KK} {own : String} {tb : TBL} {nL d : Nat} {rt : Option FieldType} {pc : Nat} {lv : List (Nat × AV)} {st : List AV} {h : HP} (HC : xx_C K own tb nL d rt) (i pc' : Nat) {b L : Nat} {xs : Nat → Int32} (hX : ly_sc b L xs K) {x : Int32} (hin : vp_in x L) (hd : tb[i]? = some (pc, .iaload, 1)) (hp : pc + 1 = pc') (kk : xx_X K pc' lv (av_I (xs x.toNatClampNeg) :: st) h) : xx_X K pc lv (av_I x :: av_R 99 (some b) :: st) h := by
  subst hp
  intro H locs ls hR hS hM hl ho hs
  exact va_sld HC.ex rfl hX.1 hX.2.1 hX.2.2 hS hin (HC.dec hd) (kk H locs ls hR hS hM hl ho (st_2 trivial hs))
def tb_Lw_law : TBL := [(0, .new 7, 3), (3, .dup, 1), (4, .invokespecial 9, 3), (7, .astore_n 1, 1), (8, .new 10, 3), (11, .dup, 1), (12, .invokespecial 12, 3), (15, .astore_n 2, 1), (16, .iconst 0, 1), (17, .istore_n 3, 1), (18, .iload_n 3, 1), (19, .aload_n 0, 1), (20, .arraylength, 1), (21, .bipush 6, 2), (23, .isub, 1), (24, .if_icmp .gt 1071, 3), (27, .aload_n 0, 1), (28, .iload_n 3, 1), (29, .iaload, 1), (30, .bipush 63, 2), (32, .iand, 1), (33, .tableswitch 1056 0 33 #[151, 214, 237, 250, 273, 296, 319, 342, 365, 398, 421, 434, 457, 480, 493, 506, 519, 532, 555, 578, 632, 676, 709, 743, 796, 809, 842, 865, 888, 921, 954, 987, 1010, 1033], 151), (184, .aload_n 1, 1), (185, .aload_n 0, 1), (186, .iload_n 3, 1), (187, .iconst 1, 1), (188, .iadd, 1), (189, .iaload, 1), (190, .aload_n 0, 1), (191, .iload_n 3, 1), (192, .iconst 2, 1), (193, .iadd, 1), (194, .iaload, 1), (195, .aload_n 0, 1), (196, .iload_n 3, 1), (197, .iconst 3, 1), (198, .iadd, 1), (199, .iaload, 1), (200, .aload_n 0, 1), (201, .iload_n 3, 1), (202, .iconst 4, 1), (203, .iadd, 1), (204, .iaload, 1), (205, .aload_n 0, 1), (206, .iload_n 3, 1), (207, .iconst 5, 1), (208, .iadd, 1), (209, .iaload, 1), (210, .invokevirtual 13, 3), (213, .aload_n 2, 1), (214, .aload_n 0, 1), (215, .iload_n 3, 1), (216, .iconst 1, 1), (217, .iadd, 1), (218, .iaload, 1), (219, .aload_n 0, 1), (220, .iload_n 3, 1), (221, .iconst 2, 1), (222, .iadd, 1), (223, .iaload, 1), (224, .aload_n 0, 1), (225, .iload_n 3, 1), (226, .iconst 3, 1), (227, .iadd, 1), (228, .iaload, 1), (229, .aload_n 0, 1), (230, .iload_n 3, 1), (231, .iconst 4, 1), (232, .iadd, 1), (233, .iaload, 1), (234, .aload_n 0, 1), (235, .iload_n 3, 1), (236, .iconst 5, 1), (237, .iadd, 1), (238, .iaload, 1), (239, .invokevirtual 17, 3), (242, .if_icmp .eq 847, 3), (245, .iconst 0, 1), (246, .ireturn, 1), (247, .aload_n 1, 1), (248, .aload_n 0, 1), (249, .iload_n 3, 1), (250, .iconst 1, 1), (251, .iadd, 1), (252, .iaload, 1), (253, .invokevirtual 18, 3), (256, .aload_n 2, 1), (257, .aload_n 0, 1), (258, .iload_n 3, 1), (259, .iconst 1, 1), (260, .iadd, 1), (261, .iaload, 1), (262, .invokevirtual 22, 3), (265, .if_icmp .eq 824, 3), (268, .iconst 0, 1), (269, .ireturn, 1), (270, .aload_n 1, 1), (271, .invokevirtual 23, 3), (274, .aload_n 2, 1), (275, .invokevirtual 27, 3), (278, .if_icmp .eq 811, 3), (281, .iconst 0, 1), (282, .ireturn, 1), (283, .aload_n 1, 1), (284, .aload_n 0, 1), (285, .iload_n 3, 1), (286, .iconst 1, 1), (287, .iadd, 1), (288, .iaload, 1), (289, .invokevirtual 28, 3), (292, .aload_n 2, 1), (293, .aload_n 0, 1), (294, .iload_n 3, 1), (295, .iconst 1, 1), (296, .iadd, 1), (297, .iaload, 1), (298, .invokevirtual 31, 3), (301, .if_icmp .eq 788, 3), (304, .iconst 0, 1), (305, .ireturn, 1), (306, .aload_n 1, 1), (307, .aload_n 0, 1), (308, .iload_n 3, 1), (309, .iconst 1, 1), (310, .iadd, 1), (311, .iaload, 1), (312, .invokevirtual 32, 3), (315, .aload_n 2, 1), (316, .aload_n 0, 1), (317, .iload_n 3, 1), (318, .iconst 1, 1), (319, .iadd, 1), (320, .iaload, 1), (321, .invokevirtual 36, 3), (324, .if_icmp .eq 765, 3), (327, .iconst 0, 1), (328, .ireturn, 1), (329, .aload_n 1, 1), (330, .aload_n 0, 1), (331, .iload_n 3, 1), (332, .iconst 1, 1), (333, .iadd, 1), (334, .iaload, 1), (335, .invokevirtual 37, 3), (338, .aload_n 2, 1), (339, .aload_n 0, 1), (340, .iload_n 3, 1), (341, .iconst 1, 1), (342, .iadd, 1), (343, .iaload, 1), (344, .invokevirtual 40, 3), (347, .if_icmp .eq 742, 3), (350, .iconst 0, 1), (351, .ireturn, 1), (352, .aload_n 1, 1), (353, .aload_n 0, 1), (354, .iload_n 3, 1), (355, .iconst 1, 1), (356, .iadd, 1), (357, .iaload, 1), (358, .invokevirtual 41, 3), (361, .aload_n 2, 1), (362, .aload_n 0, 1), (363, .iload_n 3, 1), (364, .iconst 1, 1), (365, .iadd, 1), (366, .iaload, 1), (367, .invokevirtual 44, 3), (370, .if_icmp .eq 719, 3), (373, .iconst 0, 1), (374, .ireturn, 1), (375, .aload_n 1, 1), (376, .aload_n 0, 1), (377, .iload_n 3, 1), (378, .iconst 1, 1), (379, .iadd, 1), (380, .iaload, 1), (381, .invokevirtual 45, 3), (384, .aload_n 2, 1), (385, .aload_n 0, 1), (386, .iload_n 3, 1), (387, .iconst 1, 1), (388, .iadd, 1), (389, .iaload, 1), (390, .invokevirtual 48, 3), (393, .if_icmp .eq 696, 3), (396, .iconst 0, 1), (397, .ireturn, 1), (398, .aload_n 1, 1), (399, .aload_n 0, 1), (400, .iload_n 3, 1), (401, .iconst 1, 1), (402, .iadd, 1), (403, .iaload, 1), (404, .aload_n 0, 1), (405, .iload_n 3, 1), (406, .iconst 2, 1), (407, .iadd, 1), (408, .iaload, 1), (409, .invokevirtual 49, 3), (412, .aload_n 2, 1), (413, .aload_n 0, 1), (414, .iload_n 3, 1), (415, .iconst 1, 1), (416, .iadd, 1), (417, .iaload, 1), (418, .aload_n 0, 1), (419, .iload_n 3, 1), (420, .iconst 2, 1), (421, .iadd, 1), (422, .iaload, 1), (423, .invokevirtual 53, 3), (426, .if_icmp .eq 663, 3), (429, .iconst 0, 1), (430, .ireturn, 1), (431, .aload_n 1, 1), (432, .aload_n 0, 1), (433, .iload_n 3, 1), (434, .iconst 1, 1), (435, .iadd, 1), (436, .iaload, 1), (437, .invokevirtual 54, 3), (440, .aload_n 2, 1), (441, .aload_n 0, 1), (442, .iload_n 3, 1), (443, .iconst 1, 1), (444, .iadd, 1), (445, .iaload, 1), (446, .invokevirtual 57, 3), (449, .if_icmp .eq 640, 3), (452, .iconst 0, 1), (453, .ireturn, 1), (454, .aload_n 1, 1), (455, .invokevirtual 58, 3), (458, .aload_n 2, 1), (459, .invokevirtual 61, 3), (462, .if_icmp .eq 627, 3), (465, .iconst 0, 1), (466, .ireturn, 1), (467, .aload_n 1, 1), (468, .aload_n 0, 1), (469, .iload_n 3, 1), (470, .iconst 1, 1), (471, .iadd, 1), (472, .iaload, 1), (473, .invokevirtual 62, 3), (476, .aload_n 2, 1), (477, .aload_n 0, 1), (478, .iload_n 3, 1), (479, .iconst 1, 1), (480, .iadd, 1), (481, .iaload, 1), (482, .invokevirtual 65, 3), (485, .if_icmp .eq 604, 3), (488, .iconst 0, 1), (489, .ireturn, 1), (490, .aload_n 1, 1), (491, .aload_n 0, 1), (492, .iload_n 3, 1), (493, .iconst 1, 1), (494, .iadd, 1), (495, .iaload, 1), (496, .invokevirtual 66, 3), (499, .aload_n 2, 1), (500, .aload_n 0, 1), (501, .iload_n 3, 1), (502, .iconst 1, 1), (503, .iadd, 1), (504, .iaload, 1), (505, .invokevirtual 69, 3), (508, .if_icmp .eq 581, 3), (511, .iconst 0, 1), (512, .ireturn, 1), (513, .aload_n 1, 1), (514, .invokevirtual 70, 3), (517, .aload_n 2, 1), (518, .invokevirtual 73, 3), (521, .if_icmp .eq 568, 3), (524, .iconst 0, 1), (525, .ireturn, 1), (526, .aload_n 1, 1), (527, .invokevirtual 74, 3), (530, .aload_n 2, 1), (531, .invokevirtual 77, 3), (534, .if_icmp .eq 555, 3), (537, .iconst 0, 1), (538, .ireturn, 1), (539, .aload_n 1, 1), (540, .invokevirtual 78, 3), (543, .aload_n 2, 1), (544, .invokevirtual 81, 3), (547, .if_icmp .eq 542, 3), (550, .iconst 0, 1), (551, .ireturn, 1), (552, .aload_n 1, 1), (553, .invokevirtual 82, 3), (556, .aload_n 2, 1), (557, .invokevirtual 85, 3), (560, .if_icmp .eq 529, 3), (563, .iconst 0, 1), (564, .ireturn, 1), (565, .aload_n 1, 1), (566, .aload_n 0, 1), (567, .iload_n 3, 1), (568, .iconst 1, 1), (569, .iadd, 1), (570, .iaload, 1), (571, .invokevirtual 86, 3), (574, .aload_n 2, 1), (575, .aload_n 0, 1), (576, .iload_n 3, 1), (577, .iconst 1, 1), (578, .iadd, 1), (579, .iaload, 1), (580, .invokevirtual 89, 3), (583, .if_icmp .eq 506, 3), (586, .iconst 0, 1), (587, .ireturn, 1), (588, .aload_n 1, 1), (589, .aload_n 0, 1), (590, .iload_n 3, 1), (591, .iconst 1, 1), (592, .iadd, 1), (593, .iaload, 1), (594, .invokevirtual 90, 3), (597, .aload_n 2, 1), (598, .aload_n 0, 1), (599, .iload_n 3, 1), (600, .iconst 1, 1), (601, .iadd, 1), (602, .iaload, 1), (603, .invokevirtual 93, 3), (606, .if_icmp .eq 483, 3), (609, .iconst 0, 1), (610, .ireturn, 1), (611, .aload_n 1, 1), (612, .aload_n 0, 1), (613, .iload_n 3, 1), (614, .iconst 1, 1), (615, .iadd, 1), (616, .iaload, 1), (617, .aload_n 0, 1), (618, .iload_n 3, 1), (619, .iconst 2, 1), (620, .iadd, 1), (621, .iaload, 1), (622, .aload_n 0, 1), (623, .iload_n 3, 1), (624, .iconst 3, 1), (625, .iadd, 1), (626, .iaload, 1), (627, .aload_n 0, 1), (628, .iload_n 3, 1), (629, .iconst 4, 1), (630, .iadd, 1), (631, .iaload, 1), (632, .invokevirtual 94, 3), (635, .aload_n 2, 1), (636, .aload_n 0, 1), (637, .iload_n 3, 1), (638, .iconst 1, 1), (639, .iadd, 1), (640, .iaload, 1), (641, .aload_n 0, 1), (642, .iload_n 3, 1), (643, .iconst 2, 1), (644, .iadd, 1), (645, .iaload, 1), (646, .aload_n 0, 1), (647, .iload_n 3, 1), (648, .iconst 3, 1), (649, .iadd, 1), (650, .iaload, 1), (651, .aload_n 0, 1), (652, .iload_n 3, 1), (653, .iconst 4, 1), (654, .iadd, 1), (655, .iaload, 1), (656, .invokevirtual 98, 3), (659, .lcmp, 1), (660, .ifCond .eq 429, 3), (663, .iconst 0, 1), (664, .ireturn, 1), (665, .aload_n 1, 1), (666, .aload_n 0, 1), (667, .iload_n 3, 1), (668, .iconst 1, 1), (669, .iadd, 1), (670, .iaload, 1), (671, .aload_n 0, 1), (672, .iload_n 3, 1), (673, .iconst 2, 1), (674, .iadd, 1), (675, .iaload, 1), (676, .aload_n 0, 1), (677, .iload_n 3, 1), (678, .iconst 3, 1), (679, .iadd, 1), (680, .iaload, 1), (681, .invokevirtual 99, 3), (684, .aload_n 2, 1), (685, .aload_n 0, 1), (686, .iload_n 3, 1), (687, .iconst 1, 1), (688, .iadd, 1), (689, .iaload, 1), (690, .aload_n 0, 1), (691, .iload_n 3, 1), (692, .iconst 2, 1), (693, .iadd, 1), (694, .iaload, 1), (695, .aload_n 0, 1), (696, .iload_n 3, 1), (697, .iconst 3, 1), (698, .iadd, 1), (699, .iaload, 1), (700, .invokevirtual 103, 3), (703, .lcmp, 1), (704, .ifCond .eq 385, 3), (707, .iconst 0, 1), (708, .ireturn, 1), (709, .aload_n 1, 1), (710, .aload_n 0, 1), (711, .iload_n 3, 1), (712, .iconst 1, 1), (713, .iadd, 1), (714, .iaload, 1), (715, .aload_n 0, 1), (716, .iload_n 3, 1), (717, .iconst 2, 1), (718, .iadd, 1), (719, .iaload, 1), (720, .invokevirtual 104, 3), (723, .aload_n 2, 1), (724, .aload_n 0, 1), (725, .iload_n 3, 1), (726, .iconst 1, 1), (727, .iadd, 1), (728, .iaload, 1), (729, .aload_n 0, 1), (730, .iload_n 3, 1), (731, .iconst 2, 1), (732, .iadd, 1), (733, .iaload, 1), (734, .invokevirtual 107, 3), (737, .if_icmp .eq 352, 3), (740, .iconst 0, 1), (741, .ireturn, 1), (742, .aload_n 1, 1), (743, .aload_n 0, 1), (744, .iload_n 3, 1), (745, .iconst 1, 1), (746, .iadd, 1), (747, .iaload, 1), (748, .aload_n 0, 1), (749, .iload_n 3, 1), (750, .iconst 2, 1), (751, .iadd, 1), (752, .iaload, 1), (753, .invokevirtual 108, 3), (756, .aload_n 2, 1), (757, .aload_n 0, 1), (758, .iload_n 3, 1), (759, .iconst 1, 1), (760, .iadd, 1), (761, .iaload, 1), (762, .aload_n 0, 1), (763, .iload_n 3, 1), (764, .iconst 2, 1), (765, .iadd, 1), (766, .iaload, 1), (767, .invokevirtual 112, 3), (770, .lcmp, 1), (771, .ifCond .eq 318, 3), (774, .iconst 0, 1), (775, .ireturn, 1), (776, .aload_n 1, 1), (777, .aload_n 0, 1), (778, .iload_n 3, 1), (779, .iconst 1, 1), (780, .iadd, 1), (781, .iaload, 1), (782, .aload_n 0, 1), (783, .iload_n 3, 1), (784, .iconst 2, 1), (785, .iadd, 1), (786, .iaload, 1), (787, .aload_n 0, 1), (788, .iload_n 3, 1), (789, .iconst 3, 1), (790, .iadd, 1), (791, .iaload, 1), (792, .aload_n 0, 1), (793, .iload_n 3, 1), (794, .iconst 4, 1), (795, .iadd, 1), (796, .iaload, 1), (797, .invokevirtual 113, 3), (800, .aload_n 2, 1), (801, .aload_n 0, 1), (802, .iload_n 3, 1), (803, .iconst 1, 1), (804, .iadd, 1), (805, .iaload, 1), (806, .aload_n 0, 1), (807, .iload_n 3, 1), (808, .iconst 2, 1), (809, .iadd, 1), (810, .iaload, 1), (811, .aload_n 0, 1), (812, .iload_n 3, 1), (813, .iconst 3, 1), (814, .iadd, 1), (815, .iaload, 1), (816, .aload_n 0, 1), (817, .iload_n 3, 1), (818, .iconst 4, 1), (819, .iadd, 1), (820, .iaload, 1), (821, .invokevirtual 117, 3), (824, .if_icmp .eq 265, 3), (827, .iconst 0, 1), (828, .ireturn, 1), (829, .aload_n 1, 1), (830, .invokevirtual 118, 3), (833, .aload_n 2, 1), (834, .invokevirtual 121, 3), (837, .if_icmp .eq 252, 3), (840, .iconst 0, 1), (841, .ireturn, 1), (842, .aload_n 1, 1), (843, .aload_n 0, 1), (844, .iload_n 3, 1), (845, .iconst 1, 1), (846, .iadd, 1), (847, .iaload, 1), (848, .aload_n 0, 1), (849, .iload_n 3, 1), (850, .iconst 2, 1), (851, .iadd, 1), (852, .iaload, 1), (853, .invokevirtual 122, 3), (856, .aload_n 2, 1), (857, .aload_n 0, 1), (858, .iload_n 3, 1), (859, .iconst 1, 1), (860, .iadd, 1), (861, .iaload, 1), (862, .aload_n 0, 1), (863, .iload_n 3, 1), (864, .iconst 2, 1), (865, .iadd, 1), (866, .iaload, 1), (867, .invokevirtual 125, 3), (870, .if_icmp .eq 219, 3), (873, .iconst 0, 1), (874, .ireturn, 1), (875, .aload_n 1, 1), (876, .aload_n 0, 1), (877, .iload_n 3, 1), (878, .iconst 1, 1), (879, .iadd, 1), (880, .iaload, 1), (881, .invokevirtual 126, 3), (884, .aload_n 2, 1), (885, .aload_n 0, 1), (886, .iload_n 3, 1), (887, .iconst 1, 1), (888, .iadd, 1), (889, .iaload, 1), (890, .invokevirtual 129, 3), (893, .if_icmp .eq 196, 3), (896, .iconst 0, 1), (897, .ireturn, 1), (898, .aload_n 1, 1), (899, .aload_n 0, 1), (900, .iload_n 3, 1), (901, .iconst 1, 1), (902, .iadd, 1), (903, .iaload, 1), (904, .invokevirtual 130, 3), (907, .aload_n 2, 1), (908, .aload_n 0, 1), (909, .iload_n 3, 1), (910, .iconst 1, 1), (911, .iadd, 1), (912, .iaload, 1), (913, .invokevirtual 133, 3), (916, .if_icmp .eq 173, 3), (919, .iconst 0, 1), (920, .ireturn, 1), (921, .aload_n 1, 1), (922, .aload_n 0, 1), (923, .iload_n 3, 1), (924, .iconst 1, 1), (925, .iadd, 1), (926, .iaload, 1), (927, .aload_n 0, 1), (928, .iload_n 3, 1), (929, .iconst 2, 1), (930, .iadd, 1), (931, .iaload, 1), (932, .invokevirtual 134, 3), (935, .aload_n 2, 1), (936, .aload_n 0, 1), (937, .iload_n 3, 1), (938, .iconst 1, 1), (939, .iadd, 1), (940, .iaload, 1), (941, .aload_n 0, 1), (942, .iload_n 3, 1), (943, .iconst 2, 1), (944, .iadd, 1), (945, .iaload, 1), (946, .invokevirtual 137, 3), (949, .if_icmp .eq 140, 3), (952, .iconst 0, 1), (953, .ireturn, 1), (954, .aload_n 1, 1), (955, .aload_n 0, 1), (956, .iload_n 3, 1), (957, .iconst 1, 1), (958, .iadd, 1), (959, .iaload, 1), (960, .aload_n 0, 1), (961, .iload_n 3, 1), (962, .iconst 2, 1), (963, .iadd, 1), (964, .iaload, 1), (965, .invokevirtual 138, 3), (968, .aload_n 2, 1), (969, .aload_n 0, 1), (970, .iload_n 3, 1), (971, .iconst 1, 1), (972, .iadd, 1), (973, .iaload, 1), (974, .aload_n 0, 1), (975, .iload_n 3, 1), (976, .iconst 2, 1), (977, .iadd, 1), (978, .iaload, 1), (979, .invokevirtual 141, 3), (982, .if_icmp .eq 107, 3), (985, .iconst 0, 1), (986, .ireturn, 1), (987, .aload_n 1, 1), (988, .aload_n 0, 1), (989, .iload_n 3, 1), (990, .iconst 1, 1), (991, .iadd, 1), (992, .iaload, 1), (993, .aload_n 0, 1), (994, .iload_n 3, 1), (995, .iconst 2, 1), (996, .iadd, 1), (997, .iaload, 1), (998, .invokevirtual 142, 3), (1001, .aload_n 2, 1), (1002, .aload_n 0, 1), (1003, .iload_n 3, 1), (1004, .iconst 1, 1), (1005, .iadd, 1), (1006, .iaload, 1), (1007, .aload_n 0, 1), (1008, .iload_n 3, 1), (1009, .iconst 2, 1), (1010, .iadd, 1), (1011, .iaload, 1), (1012, .invokevirtual 145, 3), (1015, .if_icmp .eq 74, 3), (1018, .iconst 0, 1), (1019, .ireturn, 1), (1020, .aload_n 1, 1), (1021, .aload_n 0, 1), (1022, .iload_n 3, 1), (1023, .iconst 1, 1), (1024, .iadd, 1), (1025, .iaload, 1), (1026, .invokevirtual 146, 3), (1029, .aload_n 2, 1), (1030, .aload_n 0, 1), (1031, .iload_n 3, 1), (1032, .iconst 1, 1), (1033, .iadd, 1), (1034, .iaload, 1), (1035, .invokevirtual 149, 3), (1038, .if_icmp .eq 51, 3), (1041, .iconst 0, 1), (1042, .ireturn, 1), (1043, .aload_n 1, 1), (1044, .aload_n 0, 1), (1045, .iload_n 3, 1), (1046, .iconst 1, 1), (1047, .iadd, 1), (1048, .iaload, 1), (1049, .invokevirtual 150, 3), (1052, .aload_n 2, 1), (1053, .aload_n 0, 1), (1054, .iload_n 3, 1), (1055, .iconst 1, 1), (1056, .iadd, 1), (1057, .iaload, 1), (1058, .invokevirtual 153, 3), (1061, .if_icmp .eq 28, 3), (1064, .iconst 0, 1), (1065, .ireturn, 1), (1066, .aload_n 1, 1), (1067, .aload_n 0, 1), (1068, .iload_n 3, 1), (1069, .iconst 1, 1), (1070, .iadd, 1), (1071, .iaload, 1), (1072, .invokevirtual 154, 3), (1075, .aload_n 2, 1), (1076, .aload_n 0, 1), (1077, .iload_n 3, 1), (1078, .iconst 1, 1), (1079, .iadd, 1), (1080, .iaload, 1), (1081, .invokevirtual 157, 3), (1084, .if_icmp .eq 5, 3), (1087, .iconst 0, 1), (1088, .ireturn, 1), (1089, .iinc 3 6, 3), (1092, .goto (-1074), 3), (1095, .iconst 1, 1), (1096, .ireturn, 1)]
theorem tb_Lw_cat : tb_Lw_law = tb_Lw0 ++ (tb_Lw1 ++ (tb_Lw2 ++ (tb_Lw3 ++ (tb_Lw4 ++ (tb_Lw5 ++ (tb_Lw6 ++ (tb_Lw7 ++ (tb_Lw8 ++ (tb_Lw9 ++ (tb_Lw10 ++ (tb_Lw11 ++ (tb_Lw12 ++ (tb_Lw13 ++ (tb_Lw14 ++ (tb_Lw15 ++ (tb_Lw16 ++ (tb_Lw17 ++ (tb_Lw18 ++ (tb_Lw19 ++ (tb_Lw20 ++ (tb_Lw21 ++ (tb_Lw22 ++ (tb_Lw23 ++ (tb_Lw24 ++ (tb_Lw25 ++ (tb_Lw26 ++ (tb_Lw27 ++ (tb_Lw28 ++ (tb_Lw29 ++ (tb_Lw30 ++ (tb_Lw31 ++ (tb_Lw32 ++ (tb_Lw33 ++ (tb_Lw34 ++ (tb_Lw35 ++ (tb_Lw36 ++ (tb_Lw37 ++ (tb_Lw38 ++ (tb_Lw39 ++ (tb_Lw40 ++ (tb_Lw41 ++ (tb_Lw42 ++ (tb_Lw43 ++ (tb_Lw44 ++ (tb_Lw45 ++ (tb_Lw46 ++ (tb_Lw47 ++ (tb_Lw48 ++ (tb_Lw49 ++ (tb_Lw50 ++ (tb_Lw51 ++ (tb_Lw52 ++ (tb_Lw53 ++ (tb_Lw54)))))))))))))))))))))))))))))))))))))))))))))))))))))) := by decide +kernel
theorem dt_Lw_law : ∀ q ∈ tb_Lw_law, decode code q.1 = .ok (q.2.1, q.2.2) := by
  rw [tb_Lw_cat]
  exact List.forall_mem_append.mpr ⟨dt_Lw0, List.forall_mem_append.mpr ⟨dt_Lw1, List.forall_mem_append.mpr ⟨dt_Lw2, List.forall_mem_append.mpr ⟨dt_Lw3, List.forall_mem_append.mpr ⟨dt_Lw4, List.forall_mem_append.mpr ⟨dt_Lw5, List.forall_mem_append.mpr ⟨dt_Lw6, List.forall_mem_append.mpr ⟨dt_Lw7, List.forall_mem_append.mpr ⟨dt_Lw8, List.forall_mem_append.mpr ⟨dt_Lw9, List.forall_mem_append.mpr ⟨dt_Lw10, List.forall_mem_append.mpr ⟨dt_Lw11, List.forall_mem_append.mpr ⟨dt_Lw12, List.forall_mem_append.mpr ⟨dt_Lw13, List.forall_mem_append.mpr ⟨dt_Lw14, List.forall_mem_append.mpr ⟨dt_Lw15, List.forall_mem_append.mpr ⟨dt_Lw16, List.forall_mem_append.mpr ⟨dt_Lw17, List.forall_mem_append.mpr ⟨dt_Lw18, List.forall_mem_append.mpr ⟨dt_Lw19, List.forall_mem_append.mpr ⟨dt_Lw20, List.forall_mem_append.mpr ⟨dt_Lw21, List.forall_mem_append.mpr ⟨dt_Lw22, List.forall_mem_append.mpr ⟨dt_Lw23, List.forall_mem_append.mpr ⟨dt_Lw24, List.forall_mem_append.mpr ⟨dt_Lw25, List.forall_mem_append.mpr ⟨dt_Lw26, List.forall_mem_append.mpr ⟨dt_Lw27, List.forall_mem_append.mpr ⟨dt_Lw28, List.forall_mem_append.mpr ⟨dt_Lw29, List.forall_mem_append.mpr ⟨dt_Lw30, List.forall_mem_append.mpr ⟨dt_Lw31, List.forall_mem_append.mpr ⟨dt_Lw32, List.forall_mem_append.mpr ⟨dt_Lw33, List.forall_mem_append.mpr ⟨dt_Lw34, List.forall_mem_append.mpr ⟨dt_Lw35, List.forall_mem_append.mpr ⟨dt_Lw36, List.forall_mem_append.mpr ⟨dt_Lw37, List.forall_mem_append.mpr ⟨dt_Lw38, List.forall_mem_append.mpr ⟨dt_Lw39, List.forall_mem_append.mpr ⟨dt_Lw40, List.forall_mem_append.mpr ⟨dt_Lw41, List.forall_mem_append.mpr ⟨dt_Lw42, List.forall_mem_append.mpr ⟨dt_Lw43, List.forall_mem_append.mpr ⟨dt_Lw44, List.forall_mem_append.mpr ⟨dt_Lw45, List.forall_mem_append.mpr ⟨dt_Lw46, List.forall_mem_append.mpr ⟨dt_Lw47, List.forall_mem_append.mpr ⟨dt_Lw48, List.forall_mem_append.mpr ⟨dt_Lw49, List.forall_mem_append.mpr ⟨dt_Lw50, List.forall_mem_append.mpr ⟨dt_Lw51, List.forall_mem_append.mpr ⟨dt_Lw52, List.forall_mem_append.mpr ⟨dt_Lw53, dt_Lw54⟩⟩⟩⟩⟩⟩⟩⟩⟩⟩⟩⟩⟩⟩⟩⟩⟩⟩⟩⟩⟩⟩⟩⟩⟩⟩⟩⟩⟩⟩⟩⟩⟩⟩⟩⟩⟩⟩⟩⟩⟩⟩⟩⟩⟩⟩⟩⟩⟩⟩⟩⟩⟩⟩
noncomputable def f_Lw_law_1089 (xs : Nat → Int32) (n9 : Nat) (v0 : Nat) (v1 : Nat) (v2 : Nat) (v3 : Int32) (h : HP) : Option ((Int32 × HP) ⊕ (Int32 × HP)) :=
  xx_l (v3 + (6 : Int32)) fun v3_32 =>
  some (.inl (v3_32, h))
set_option maxHeartbeats 4000000 in
set_option maxRecDepth 100000 in
theorem t_Lw_law_1089 (xs : Nat → Int32) (n9 : Nat) (v0 : Nat) (v1 : Nat) (v2 : Nat) (v3 : Int32) (h : HP) : xx_S (fun K => xx_D "LampYardLaw" tb_Lw_law 4 200 (some .boolean) false K ∧ ly_sc v0 n9 xs K) (xx_z2 (fun s : (Int32 × HP) => s.2) xz_i) (fun K => xx_L2 (fun s : (Int32 × HP) => xx_X K 18 [(0, av_R 99 (some v0)), (1, av_R 10 (some v1)), (2, av_R 11 (some v2)), (3, av_I s.1)] [] (s.2)) (xL_i K)) 1089 [(0, av_R 99 (some v0)), (1, av_R 10 (some v1)), (2, av_R 11 (some v2)), (3, av_I v3)] [] h (f_Lw_law_1089 xs n9 v0 v1 v2 v3 h) := by
  unfold f_Lw_law_1089
  refine xs_gen (fun v3_32 ev3_32 => ?_)
  refine xs_step (fun K HC => xr_iinc HC.1.1 723 1092 (ix := 3) (j := 3) (n := (6)) (x := v3) v3_32 (lv' := [(0, av_R 99 (some v0)), (1, av_R 10 (some v1)), (2, av_R 11 (some v2)), (3, av_I v3_32)]) rfl (by rw [ev3_32]; rfl) rfl rfl (by decide) rfl) ?_
  refine xs_step (fun K HC => xr_goto HC.1.1 724 18 rfl (by decide)) ?_
  exact xs_back rfl (fun K q => q)
noncomputable def f_Lw_law_18b (xs : Nat → Int32) (n9 : Nat) (v0 : Nat) (v1 : Nat) (v2 : Nat) (v3 : Int32) (h : HP) : Option ((Int32 × HP) ⊕ (Int32 × HP)) :=
  (if ((Int32.ofNat n9) - (6 : Int32)) < v3 then
  (some (.inr ((1 : Int32), h)))
  else
  (if hp_in v3 n9 = true then
  xx_l ((xs (v3).toNatClampNeg) &&& (63 : Int32)) fun w_9 =>
  (if w_9 = (0 : Int32) then
  (if hp_in (v3 + (1 : Int32)) n9 = true then
  if hp_in (v3 + (2 : Int32)) n9 = true then
  if hp_in (v3 + (3 : Int32)) n9 = true then
  if hp_in (v3 + (4 : Int32)) n9 = true then
  if hp_in (v3 + (5 : Int32)) n9 = true then
  (f_X_feed v1 (xs ((v3 + (1 : Int32))).toNatClampNeg) (xs ((v3 + (2 : Int32))).toNatClampNeg) (xs ((v3 + (3 : Int32))).toNatClampNeg) (xs ((v3 + (4 : Int32))).toNatClampNeg) (xs ((v3 + (5 : Int32))).toNatClampNeg) h).bind fun x_20 =>
  if hp_in (v3 + (1 : Int32)) n9 = true then
  if hp_in (v3 + (2 : Int32)) n9 = true then
  if hp_in (v3 + (3 : Int32)) n9 = true then
  if hp_in (v3 + (4 : Int32)) n9 = true then
  if hp_in (v3 + (5 : Int32)) n9 = true then
  (f_M_feed v2 (xs ((v3 + (1 : Int32))).toNatClampNeg) (xs ((v3 + (2 : Int32))).toNatClampNeg) (xs ((v3 + (3 : Int32))).toNatClampNeg) (xs ((v3 + (4 : Int32))).toNatClampNeg) (xs ((v3 + (5 : Int32))).toNatClampNeg) x_20.2).bind fun x_31 =>
  (if x_20.1 = x_31.1 then
  (f_Lw_law_1089 xs n9 v0 v1 v2 v3 x_31.2)
  else
  (some (.inr ((0 : Int32), x_31.2))))
  else none
  else none
  else none
  else none
  else none
  else none
  else none
  else none
  else none
  else none)
  else
  (if w_9 = (1 : Int32) then
  (if hp_in (v3 + (1 : Int32)) n9 = true then
  (f_X_end v1 (xs ((v3 + (1 : Int32))).toNatClampNeg) h).bind fun x_36 =>
  if hp_in (v3 + (1 : Int32)) n9 = true then
  (f_M_end v2 (xs ((v3 + (1 : Int32))).toNatClampNeg) x_36.2).bind fun x_39 =>
  (if x_36.1 = x_39.1 then
  (f_Lw_law_1089 xs n9 v0 v1 v2 v3 x_39.2)
  else
  (some (.inr ((0 : Int32), x_39.2))))
  else none
  else none)
  else
  (if w_9 = (2 : Int32) then
  ((f_X_plan v1 h).bind fun x_41 =>
  (f_M_plan v2 x_41.2).bind fun x_42 =>
  (if x_41.1 = x_42.1 then
  (f_Lw_law_1089 xs n9 v0 v1 v2 v3 x_42.2)
  else
  (some (.inr ((0 : Int32), x_42.2)))))
  else
  (if w_9 = (3 : Int32) then
  (if hp_in (v3 + (1 : Int32)) n9 = true then
  (f_X_fault v1 (xs ((v3 + (1 : Int32))).toNatClampNeg) h).bind fun x_46 =>
  if hp_in (v3 + (1 : Int32)) n9 = true then
  (f_M_fault v2 (xs ((v3 + (1 : Int32))).toNatClampNeg) x_46.2).bind fun x_49 =>
  (if x_46.1 = x_49.1 then
  (f_Lw_law_1089 xs n9 v0 v1 v2 v3 x_49.2)
  else
  (some (.inr ((0 : Int32), x_49.2))))
  else none
  else none)
  else
  (if w_9 = (4 : Int32) then
  (if hp_in (v3 + (1 : Int32)) n9 = true then
  (f_X_begin v1 (xs ((v3 + (1 : Int32))).toNatClampNeg) h).bind fun x_53 =>
  if hp_in (v3 + (1 : Int32)) n9 = true then
  (f_M_begin v2 (xs ((v3 + (1 : Int32))).toNatClampNeg) x_53.2).bind fun x_56 =>
  (if x_53.1 = x_56.1 then
  (f_Lw_law_1089 xs n9 v0 v1 v2 v3 x_56.2)
  else
  (some (.inr ((0 : Int32), x_56.2))))
  else none
  else none)
  else
  (if w_9 = (5 : Int32) then
  (if hp_in (v3 + (1 : Int32)) n9 = true then
  (f_X_lead v1 (xs ((v3 + (1 : Int32))).toNatClampNeg) h).bind fun x_60 =>
  if hp_in (v3 + (1 : Int32)) n9 = true then
  (f_M_lead v2 (xs ((v3 + (1 : Int32))).toNatClampNeg) x_60.2).bind fun x_63 =>
  (if x_60.1 = x_63.1 then
  (f_Lw_law_1089 xs n9 v0 v1 v2 v3 x_63.2)
  else
  (some (.inr ((0 : Int32), x_63.2))))
  else none
  else none)
  else
  (if w_9 = (6 : Int32) then
  (if hp_in (v3 + (1 : Int32)) n9 = true then
  (f_X_forget v1 (xs ((v3 + (1 : Int32))).toNatClampNeg) h).bind fun x_67 =>
  if hp_in (v3 + (1 : Int32)) n9 = true then
  (f_M_forget v2 (xs ((v3 + (1 : Int32))).toNatClampNeg) x_67.2).bind fun x_70 =>
  (if x_67.1 = x_70.1 then
  (f_Lw_law_1089 xs n9 v0 v1 v2 v3 x_70.2)
  else
  (some (.inr ((0 : Int32), x_70.2))))
  else none
  else none)
  else
  (if w_9 = (7 : Int32) then
  (if hp_in (v3 + (1 : Int32)) n9 = true then
  (f_X_dark v1 (xs ((v3 + (1 : Int32))).toNatClampNeg) h).bind fun x_74 =>
  if hp_in (v3 + (1 : Int32)) n9 = true then
  (f_M_dark v2 (xs ((v3 + (1 : Int32))).toNatClampNeg) x_74.2).bind fun x_77 =>
  (if x_74.1 = x_77.1 then
  (f_Lw_law_1089 xs n9 v0 v1 v2 v3 x_77.2)
  else
  (some (.inr ((0 : Int32), x_77.2))))
  else none
  else none)
  else
  (if w_9 = (8 : Int32) then
  (if hp_in (v3 + (1 : Int32)) n9 = true then
  if hp_in (v3 + (2 : Int32)) n9 = true then
  (f_X_man v1 (xs ((v3 + (1 : Int32))).toNatClampNeg) (xs ((v3 + (2 : Int32))).toNatClampNeg) h).bind fun x_83 =>
  if hp_in (v3 + (1 : Int32)) n9 = true then
  if hp_in (v3 + (2 : Int32)) n9 = true then
  (f_M_man v2 (xs ((v3 + (1 : Int32))).toNatClampNeg) (xs ((v3 + (2 : Int32))).toNatClampNeg) x_83.2).bind fun x_88 =>
  (if x_83.1 = x_88.1 then
  (f_Lw_law_1089 xs n9 v0 v1 v2 v3 x_88.2)
  else
  (some (.inr ((0 : Int32), x_88.2))))
  else none
  else none
  else none
  else none)
  else
  (if w_9 = (9 : Int32) then
  (if hp_in (v3 + (1 : Int32)) n9 = true then
  (f_X_states v1 (xs ((v3 + (1 : Int32))).toNatClampNeg) h).bind fun x_92 =>
  if hp_in (v3 + (1 : Int32)) n9 = true then
  (f_M_states v2 (xs ((v3 + (1 : Int32))).toNatClampNeg) x_92.2).bind fun x_95 =>
  (if x_92.1 = x_95.1 then
  (f_Lw_law_1089 xs n9 v0 v1 v2 v3 x_95.2)
  else
  (some (.inr ((0 : Int32), x_95.2))))
  else none
  else none)
  else
  (if w_9 = (10 : Int32) then
  ((f_X_right v1 h).bind fun x_97 =>
  (f_M_right v2 x_97.2).bind fun x_98 =>
  (if x_97.1 = x_98.1 then
  (f_Lw_law_1089 xs n9 v0 v1 v2 v3 x_98.2)
  else
  (some (.inr ((0 : Int32), x_98.2)))))
  else
  (if w_9 = (11 : Int32) then
  (if hp_in (v3 + (1 : Int32)) n9 = true then
  (f_X_shown v1 (xs ((v3 + (1 : Int32))).toNatClampNeg) h).bind fun x_102 =>
  if hp_in (v3 + (1 : Int32)) n9 = true then
  (f_M_shown v2 (xs ((v3 + (1 : Int32))).toNatClampNeg) x_102.2).bind fun x_105 =>
  (if x_102.1 = x_105.1 then
  (f_Lw_law_1089 xs n9 v0 v1 v2 v3 x_105.2)
  else
  (some (.inr ((0 : Int32), x_105.2))))
  else none
  else none)
  else
  (if w_9 = (12 : Int32) then
  (if hp_in (v3 + (1 : Int32)) n9 = true then
  (f_X_shows v1 (xs ((v3 + (1 : Int32))).toNatClampNeg) h).bind fun x_109 =>
  if hp_in (v3 + (1 : Int32)) n9 = true then
  (f_M_shows v2 (xs ((v3 + (1 : Int32))).toNatClampNeg) x_109.2).bind fun x_112 =>
  (if x_109.1 = x_112.1 then
  (f_Lw_law_1089 xs n9 v0 v1 v2 v3 x_112.2)
  else
  (some (.inr ((0 : Int32), x_112.2))))
  else none
  else none)
  else
  (if w_9 = (13 : Int32) then
  ((f_X_soonest v1 h).bind fun x_114 =>
  (f_M_soonest v2 x_114.2).bind fun x_115 =>
  (if x_114.1 = x_115.1 then
  (f_Lw_law_1089 xs n9 v0 v1 v2 v3 x_115.2)
  else
  (some (.inr ((0 : Int32), x_115.2)))))
  else
  (if w_9 = (14 : Int32) then
  ((f_X_ends v1 h).bind fun x_117 =>
  (f_M_ends v2 x_117.2).bind fun x_118 =>
  (if x_117.1 = x_118.1 then
  (f_Lw_law_1089 xs n9 v0 v1 v2 v3 x_118.2)
  else
  (some (.inr ((0 : Int32), x_118.2)))))
  else
  (if w_9 = (15 : Int32) then
  ((f_X_endless v1 h).bind fun x_120 =>
  (f_M_endless v2 x_120.2).bind fun x_121 =>
  (if x_120.1 = x_121.1 then
  (f_Lw_law_1089 xs n9 v0 v1 v2 v3 x_121.2)
  else
  (some (.inr ((0 : Int32), x_121.2)))))
  else
  (if w_9 = (16 : Int32) then
  ((f_X_idle v1 h).bind fun x_123 =>
  (f_M_idle v2 x_123.2).bind fun x_124 =>
  (if x_123.1 = x_124.1 then
  (f_Lw_law_1089 xs n9 v0 v1 v2 v3 x_124.2)
  else
  (some (.inr ((0 : Int32), x_124.2)))))
  else
  (if w_9 = (17 : Int32) then
  (if hp_in (v3 + (1 : Int32)) n9 = true then
  (f_X_most v1 (xs ((v3 + (1 : Int32))).toNatClampNeg) h).bind fun x_128 =>
  if hp_in (v3 + (1 : Int32)) n9 = true then
  (f_M_most v2 (xs ((v3 + (1 : Int32))).toNatClampNeg) x_128.2).bind fun x_131 =>
  (if x_128.1 = x_131.1 then
  (f_Lw_law_1089 xs n9 v0 v1 v2 v3 x_131.2)
  else
  (some (.inr ((0 : Int32), x_131.2))))
  else none
  else none)
  else
  (if w_9 = (18 : Int32) then
  (if hp_in (v3 + (1 : Int32)) n9 = true then
  (f_X_bears v1 (xs ((v3 + (1 : Int32))).toNatClampNeg) h).bind fun x_135 =>
  if hp_in (v3 + (1 : Int32)) n9 = true then
  (f_M_bears v2 (xs ((v3 + (1 : Int32))).toNatClampNeg) x_135.2).bind fun x_138 =>
  (if x_135.1 = x_138.1 then
  (f_Lw_law_1089 xs n9 v0 v1 v2 v3 x_138.2)
  else
  (some (.inr ((0 : Int32), x_138.2))))
  else none
  else none)
  else
  (if w_9 = (19 : Int32) then
  (if hp_in (v3 + (1 : Int32)) n9 = true then
  if hp_in (v3 + (2 : Int32)) n9 = true then
  if hp_in (v3 + (3 : Int32)) n9 = true then
  if hp_in (v3 + (4 : Int32)) n9 = true then
  (f_X_said v1 (xs ((v3 + (1 : Int32))).toNatClampNeg) (xs ((v3 + (2 : Int32))).toNatClampNeg) (xs ((v3 + (3 : Int32))).toNatClampNeg) (xs ((v3 + (4 : Int32))).toNatClampNeg) h).bind fun x_148 =>
  if hp_in (v3 + (1 : Int32)) n9 = true then
  if hp_in (v3 + (2 : Int32)) n9 = true then
  if hp_in (v3 + (3 : Int32)) n9 = true then
  if hp_in (v3 + (4 : Int32)) n9 = true then
  (f_M_said v2 (xs ((v3 + (1 : Int32))).toNatClampNeg) (xs ((v3 + (2 : Int32))).toNatClampNeg) (xs ((v3 + (3 : Int32))).toNatClampNeg) (xs ((v3 + (4 : Int32))).toNatClampNeg) x_148.2).bind fun x_157 =>
  (if (lg_cmp x_148.1 x_157.1) = 0 then
  (f_Lw_law_1089 xs n9 v0 v1 v2 v3 x_157.2)
  else
  (some (.inr ((0 : Int32), x_157.2))))
  else none
  else none
  else none
  else none
  else none
  else none
  else none
  else none)
  else
  (if w_9 = (20 : Int32) then
  (if hp_in (v3 + (1 : Int32)) n9 = true then
  if hp_in (v3 + (2 : Int32)) n9 = true then
  if hp_in (v3 + (3 : Int32)) n9 = true then
  (f_X_all v1 (xs ((v3 + (1 : Int32))).toNatClampNeg) (xs ((v3 + (2 : Int32))).toNatClampNeg) (xs ((v3 + (3 : Int32))).toNatClampNeg) h).bind fun x_165 =>
  if hp_in (v3 + (1 : Int32)) n9 = true then
  if hp_in (v3 + (2 : Int32)) n9 = true then
  if hp_in (v3 + (3 : Int32)) n9 = true then
  (f_M_all v2 (xs ((v3 + (1 : Int32))).toNatClampNeg) (xs ((v3 + (2 : Int32))).toNatClampNeg) (xs ((v3 + (3 : Int32))).toNatClampNeg) x_165.2).bind fun x_172 =>
  (if (lg_cmp x_165.1 x_172.1) = 0 then
  (f_Lw_law_1089 xs n9 v0 v1 v2 v3 x_172.2)
  else
  (some (.inr ((0 : Int32), x_172.2))))
  else none
  else none
  else none
  else none
  else none
  else none)
  else
  (if w_9 = (21 : Int32) then
  (if hp_in (v3 + (1 : Int32)) n9 = true then
  if hp_in (v3 + (2 : Int32)) n9 = true then
  (f_X_guess v1 (xs ((v3 + (1 : Int32))).toNatClampNeg) (xs ((v3 + (2 : Int32))).toNatClampNeg) h).bind fun x_178 =>
  if hp_in (v3 + (1 : Int32)) n9 = true then
  if hp_in (v3 + (2 : Int32)) n9 = true then
  (f_M_guess v2 (xs ((v3 + (1 : Int32))).toNatClampNeg) (xs ((v3 + (2 : Int32))).toNatClampNeg) x_178.2).bind fun x_183 =>
  (if x_178.1 = x_183.1 then
  (f_Lw_law_1089 xs n9 v0 v1 v2 v3 x_183.2)
  else
  (some (.inr ((0 : Int32), x_183.2))))
  else none
  else none
  else none
  else none)
  else
  (if w_9 = (22 : Int32) then
  (if hp_in (v3 + (1 : Int32)) n9 = true then
  if hp_in (v3 + (2 : Int32)) n9 = true then
  (f_X_mean v1 (xs ((v3 + (1 : Int32))).toNatClampNeg) (xs ((v3 + (2 : Int32))).toNatClampNeg) h).bind fun x_189 =>
  if hp_in (v3 + (1 : Int32)) n9 = true then
  if hp_in (v3 + (2 : Int32)) n9 = true then
  (f_M_mean v2 (xs ((v3 + (1 : Int32))).toNatClampNeg) (xs ((v3 + (2 : Int32))).toNatClampNeg) x_189.2).bind fun x_194 =>
  (if (lg_cmp x_189.1 x_194.1) = 0 then
  (f_Lw_law_1089 xs n9 v0 v1 v2 v3 x_194.2)
  else
  (some (.inr ((0 : Int32), x_194.2))))
  else none
  else none
  else none
  else none)
  else
  (if w_9 = (23 : Int32) then
  (if hp_in (v3 + (1 : Int32)) n9 = true then
  if hp_in (v3 + (2 : Int32)) n9 = true then
  if hp_in (v3 + (3 : Int32)) n9 = true then
  if hp_in (v3 + (4 : Int32)) n9 = true then
  (f_X_counter v1 (xs ((v3 + (1 : Int32))).toNatClampNeg) (xs ((v3 + (2 : Int32))).toNatClampNeg) (xs ((v3 + (3 : Int32))).toNatClampNeg) (xs ((v3 + (4 : Int32))).toNatClampNeg) h).bind fun x_204 =>
  if hp_in (v3 + (1 : Int32)) n9 = true then
  if hp_in (v3 + (2 : Int32)) n9 = true then
  if hp_in (v3 + (3 : Int32)) n9 = true then
  if hp_in (v3 + (4 : Int32)) n9 = true then
  (f_M_counter v2 (xs ((v3 + (1 : Int32))).toNatClampNeg) (xs ((v3 + (2 : Int32))).toNatClampNeg) (xs ((v3 + (3 : Int32))).toNatClampNeg) (xs ((v3 + (4 : Int32))).toNatClampNeg) x_204.2).bind fun x_213 =>
  (if x_204.1 = x_213.1 then
  (f_Lw_law_1089 xs n9 v0 v1 v2 v3 x_213.2)
  else
  (some (.inr ((0 : Int32), x_213.2))))
  else none
  else none
  else none
  else none
  else none
  else none
  else none
  else none)
  else
  (if w_9 = (24 : Int32) then
  ((f_X_fair v1 h).bind fun x_215 =>
  (f_M_fair v2 x_215.2).bind fun x_216 =>
  (if x_215.1 = x_216.1 then
  (f_Lw_law_1089 xs n9 v0 v1 v2 v3 x_216.2)
  else
  (some (.inr ((0 : Int32), x_216.2)))))
  else
  (if w_9 = (25 : Int32) then
  (if hp_in (v3 + (1 : Int32)) n9 = true then
  if hp_in (v3 + (2 : Int32)) n9 = true then
  (f_X_log v1 (xs ((v3 + (1 : Int32))).toNatClampNeg) (xs ((v3 + (2 : Int32))).toNatClampNeg) h).bind fun x_222 =>
  if hp_in (v3 + (1 : Int32)) n9 = true then
  if hp_in (v3 + (2 : Int32)) n9 = true then
  (f_M_log v2 (xs ((v3 + (1 : Int32))).toNatClampNeg) (xs ((v3 + (2 : Int32))).toNatClampNeg) x_222.2).bind fun x_227 =>
  (if x_222.1 = x_227.1 then
  (f_Lw_law_1089 xs n9 v0 v1 v2 v3 x_227.2)
  else
  (some (.inr ((0 : Int32), x_227.2))))
  else none
  else none
  else none
  else none)
  else
  (if w_9 = (26 : Int32) then
  (if hp_in (v3 + (1 : Int32)) n9 = true then
  (f_X_untell v1 (xs ((v3 + (1 : Int32))).toNatClampNeg) h).bind fun x_231 =>
  if hp_in (v3 + (1 : Int32)) n9 = true then
  (f_M_untell v2 (xs ((v3 + (1 : Int32))).toNatClampNeg) x_231.2).bind fun x_234 =>
  (if x_231.1 = x_234.1 then
  (f_Lw_law_1089 xs n9 v0 v1 v2 v3 x_234.2)
  else
  (some (.inr ((0 : Int32), x_234.2))))
  else none
  else none)
  else
  (if w_9 = (27 : Int32) then
  (if hp_in (v3 + (1 : Int32)) n9 = true then
  (f_X_later v1 (xs ((v3 + (1 : Int32))).toNatClampNeg) h).bind fun x_238 =>
  if hp_in (v3 + (1 : Int32)) n9 = true then
  (f_M_later v2 (xs ((v3 + (1 : Int32))).toNatClampNeg) x_238.2).bind fun x_241 =>
  (if x_238.1 = x_241.1 then
  (f_Lw_law_1089 xs n9 v0 v1 v2 v3 x_241.2)
  else
  (some (.inr ((0 : Int32), x_241.2))))
  else none
  else none)
  else
  (if w_9 = (28 : Int32) then
  (if hp_in (v3 + (1 : Int32)) n9 = true then
  if hp_in (v3 + (2 : Int32)) n9 = true then
  (f_X_logged v1 (xs ((v3 + (1 : Int32))).toNatClampNeg) (xs ((v3 + (2 : Int32))).toNatClampNeg) h).bind fun x_247 =>
  if hp_in (v3 + (1 : Int32)) n9 = true then
  if hp_in (v3 + (2 : Int32)) n9 = true then
  (f_M_logged v2 (xs ((v3 + (1 : Int32))).toNatClampNeg) (xs ((v3 + (2 : Int32))).toNatClampNeg) x_247.2).bind fun x_252 =>
  (if x_247.1 = x_252.1 then
  (f_Lw_law_1089 xs n9 v0 v1 v2 v3 x_252.2)
  else
  (some (.inr ((0 : Int32), x_252.2))))
  else none
  else none
  else none
  else none)
  else
  (if w_9 = (29 : Int32) then
  (if hp_in (v3 + (1 : Int32)) n9 = true then
  if hp_in (v3 + (2 : Int32)) n9 = true then
  (f_X_last v1 (xs ((v3 + (1 : Int32))).toNatClampNeg) (xs ((v3 + (2 : Int32))).toNatClampNeg) h).bind fun x_258 =>
  if hp_in (v3 + (1 : Int32)) n9 = true then
  if hp_in (v3 + (2 : Int32)) n9 = true then
  (f_M_last v2 (xs ((v3 + (1 : Int32))).toNatClampNeg) (xs ((v3 + (2 : Int32))).toNatClampNeg) x_258.2).bind fun x_263 =>
  (if x_258.1 = x_263.1 then
  (f_Lw_law_1089 xs n9 v0 v1 v2 v3 x_263.2)
  else
  (some (.inr ((0 : Int32), x_263.2))))
  else none
  else none
  else none
  else none)
  else
  (if w_9 = (30 : Int32) then
  (if hp_in (v3 + (1 : Int32)) n9 = true then
  if hp_in (v3 + (2 : Int32)) n9 = true then
  (f_X_agrees v1 (xs ((v3 + (1 : Int32))).toNatClampNeg) (xs ((v3 + (2 : Int32))).toNatClampNeg) h).bind fun x_269 =>
  if hp_in (v3 + (1 : Int32)) n9 = true then
  if hp_in (v3 + (2 : Int32)) n9 = true then
  (f_M_agrees v2 (xs ((v3 + (1 : Int32))).toNatClampNeg) (xs ((v3 + (2 : Int32))).toNatClampNeg) x_269.2).bind fun x_274 =>
  (if x_269.1 = x_274.1 then
  (f_Lw_law_1089 xs n9 v0 v1 v2 v3 x_274.2)
  else
  (some (.inr ((0 : Int32), x_274.2))))
  else none
  else none
  else none
  else none)
  else
  (if w_9 = (31 : Int32) then
  (if hp_in (v3 + (1 : Int32)) n9 = true then
  (f_X_image v1 (xs ((v3 + (1 : Int32))).toNatClampNeg) h).bind fun x_278 =>
  if hp_in (v3 + (1 : Int32)) n9 = true then
  (f_M_image v2 (xs ((v3 + (1 : Int32))).toNatClampNeg) x_278.2).bind fun x_281 =>
  (if x_278.1 = x_281.1 then
  (f_Lw_law_1089 xs n9 v0 v1 v2 v3 x_281.2)
  else
  (some (.inr ((0 : Int32), x_281.2))))
  else none
  else none)
  else
  (if w_9 = (32 : Int32) then
  (if hp_in (v3 + (1 : Int32)) n9 = true then
  (f_X_back v1 (xs ((v3 + (1 : Int32))).toNatClampNeg) h).bind fun x_285 =>
  if hp_in (v3 + (1 : Int32)) n9 = true then
  (f_M_back v2 (xs ((v3 + (1 : Int32))).toNatClampNeg) x_285.2).bind fun x_288 =>
  (if x_285.1 = x_288.1 then
  (f_Lw_law_1089 xs n9 v0 v1 v2 v3 x_288.2)
  else
  (some (.inr ((0 : Int32), x_288.2))))
  else none
  else none)
  else
  (if w_9 = (33 : Int32) then
  (if hp_in (v3 + (1 : Int32)) n9 = true then
  (f_X_about v1 (xs ((v3 + (1 : Int32))).toNatClampNeg) h).bind fun x_292 =>
  if hp_in (v3 + (1 : Int32)) n9 = true then
  (f_M_about v2 (xs ((v3 + (1 : Int32))).toNatClampNeg) x_292.2).bind fun x_295 =>
  (if x_292.1 = x_295.1 then
  (f_Lw_law_1089 xs n9 v0 v1 v2 v3 x_295.2)
  else
  (some (.inr ((0 : Int32), x_295.2))))
  else none
  else none)
  else
  (f_Lw_law_1089 xs n9 v0 v1 v2 v3 h)))))))))))))))))))))))))))))))))))
  else none))
set_option maxHeartbeats 4000000 in
set_option maxRecDepth 100000 in
theorem t_Lw_law_18b (xs : Nat → Int32) (n9 : Nat) (v0 : Nat) (v1 : Nat) (v2 : Nat) (v3 : Int32) (h : HP) : xx_S (fun K => xx_D "LampYardLaw" tb_Lw_law 4 200 (some .boolean) false K ∧ ly_sc v0 n9 xs K) (xx_z2 (fun s : (Int32 × HP) => s.2) xz_i) (fun K => xx_L2 (fun s : (Int32 × HP) => xx_X K 18 [(0, av_R 99 (some v0)), (1, av_R 10 (some v1)), (2, av_R 11 (some v2)), (3, av_I s.1)] [] (s.2)) (xL_i K)) 18 [(0, av_R 99 (some v0)), (1, av_R 10 (some v1)), (2, av_R 11 (some v2)), (3, av_I v3)] [] h (f_Lw_law_18b xs n9 v0 v1 v2 v3 h) := by
  unfold f_Lw_law_18b
  refine xs_step (fun K HC => xr_iload_n HC.1.1 10 19 (n := 3) (ix := 3) (j := 3) (x := v3) rfl rfl rfl rfl) ?_
  refine xs_step (fun K HC => xr_aload_n HC.1.1 11 20 (n := 0) (ix := 0) (j := 0) (c := 99) (x := v0) rfl rfl rfl rfl) ?_
  refine xs_step (fun K HC => xr_slen HC.1.1 12 21 HC.2 rfl rfl) ?_
  refine xs_step (fun K HC => xr_bipush HC.1.1 13 23 (n := (6)) (6 : Int32) rfl rfl rfl) ?_
  refine xs_step (fun K HC => xr_isub HC.1.1 14 24 rfl rfl) ?_
  refine xs_ite (fun K HC => xr_icmp_gt HC.1.1 15 1095 27 rfl (by decide) rfl) ?_ ?_
  · refine xs_step (fun K HC => xr_iconst HC.1.1 725 1096 (n := (1)) (1 : Int32) rfl rfl rfl) ?_
    exact xs_weak (fun K q => q.1) (xs_reti 726 rfl rfl (fun K q => q) (fun ty ht => by cases ht; rfl))
  refine xs_step (fun K HC => xr_aload_n HC.1.1 16 28 (n := 0) (ix := 0) (j := 0) (c := 99) (x := v0) rfl rfl rfl rfl) ?_
  refine xs_step (fun K HC => xr_iload_n HC.1.1 17 29 (n := 3) (ix := 3) (j := 3) (x := v3) rfl rfl rfl rfl) ?_
  refine xs_chk (fun hb_8 => ?_)
  refine xs_step (fun K HC => xr_sld HC.1.1 18 30 HC.2 (hp_in_vp hb_8) rfl rfl) ?_
  refine xs_step (fun K HC => xr_bipush HC.1.1 19 32 (n := (63)) (63 : Int32) rfl rfl rfl) ?_
  refine xs_step (fun K HC => xr_iand HC.1.1 20 33 rfl rfl) ?_
  refine xs_topi (fun w_9 => ?_)
  refine xs_if (fun hc_33 => ?_) (fun hc_33 => ?_)
  · refine xs_step (fun K HC => xr_tabI HC.1.1 21 184 (0 : Int32) rfl hc_33 (by decide) (by decide) rfl (by decide)) ?_
    refine xs_step (fun K HC => xr_aload_n HC.1.1 22 185 (n := 1) (ix := 1) (j := 1) (c := 10) (x := v1) rfl rfl rfl rfl) ?_
    refine xs_step (fun K HC => xr_aload_n HC.1.1 23 186 (n := 0) (ix := 0) (j := 0) (c := 99) (x := v0) rfl rfl rfl rfl) ?_
    refine xs_step (fun K HC => xr_iload_n HC.1.1 24 187 (n := 3) (ix := 3) (j := 3) (x := v3) rfl rfl rfl rfl) ?_
    refine xs_step (fun K HC => xr_iconst HC.1.1 25 188 (n := (1)) (1 : Int32) rfl rfl rfl) ?_
    refine xs_step (fun K HC => xr_iadd HC.1.1 26 189 rfl rfl) ?_
    refine xs_chk (fun hb_11 => ?_)
    refine xs_step (fun K HC => xr_sld HC.1.1 27 190 HC.2 (hp_in_vp hb_11) rfl rfl) ?_
    refine xs_step (fun K HC => xr_aload_n HC.1.1 28 191 (n := 0) (ix := 0) (j := 0) (c := 99) (x := v0) rfl rfl rfl rfl) ?_
    refine xs_step (fun K HC => xr_iload_n HC.1.1 29 192 (n := 3) (ix := 3) (j := 3) (x := v3) rfl rfl rfl rfl) ?_
    refine xs_step (fun K HC => xr_iconst HC.1.1 30 193 (n := (2)) (2 : Int32) rfl rfl rfl) ?_
    refine xs_step (fun K HC => xr_iadd HC.1.1 31 194 rfl rfl) ?_
    refine xs_chk (fun hb_13 => ?_)
    refine xs_step (fun K HC => xr_sld HC.1.1 32 195 HC.2 (hp_in_vp hb_13) rfl rfl) ?_
    refine xs_step (fun K HC => xr_aload_n HC.1.1 33 196 (n := 0) (ix := 0) (j := 0) (c := 99) (x := v0) rfl rfl rfl rfl) ?_
    refine xs_step (fun K HC => xr_iload_n HC.1.1 34 197 (n := 3) (ix := 3) (j := 3) (x := v3) rfl rfl rfl rfl) ?_
    refine xs_step (fun K HC => xr_iconst HC.1.1 35 198 (n := (3)) (3 : Int32) rfl rfl rfl) ?_
    refine xs_step (fun K HC => xr_iadd HC.1.1 36 199 rfl rfl) ?_
    refine xs_chk (fun hb_15 => ?_)
    refine xs_step (fun K HC => xr_sld HC.1.1 37 200 HC.2 (hp_in_vp hb_15) rfl rfl) ?_
    refine xs_step (fun K HC => xr_aload_n HC.1.1 38 201 (n := 0) (ix := 0) (j := 0) (c := 99) (x := v0) rfl rfl rfl rfl) ?_
    refine xs_step (fun K HC => xr_iload_n HC.1.1 39 202 (n := 3) (ix := 3) (j := 3) (x := v3) rfl rfl rfl rfl) ?_
    refine xs_step (fun K HC => xr_iconst HC.1.1 40 203 (n := (4)) (4 : Int32) rfl rfl rfl) ?_
    refine xs_step (fun K HC => xr_iadd HC.1.1 41 204 rfl rfl) ?_
    refine xs_chk (fun hb_17 => ?_)
    refine xs_step (fun K HC => xr_sld HC.1.1 42 205 HC.2 (hp_in_vp hb_17) rfl rfl) ?_
    refine xs_step (fun K HC => xr_aload_n HC.1.1 43 206 (n := 0) (ix := 0) (j := 0) (c := 99) (x := v0) rfl rfl rfl rfl) ?_
    refine xs_step (fun K HC => xr_iload_n HC.1.1 44 207 (n := 3) (ix := 3) (j := 3) (x := v3) rfl rfl rfl rfl) ?_
    refine xs_step (fun K HC => xr_iconst HC.1.1 45 208 (n := (5)) (5 : Int32) rfl rfl rfl) ?_
    refine xs_step (fun K HC => xr_iadd HC.1.1 46 209 rfl rfl) ?_
    refine xs_chk (fun hb_19 => ?_)
    refine xs_step (fun K HC => xr_sld HC.1.1 47 210 HC.2 (hp_in_vp hb_19) rfl rfl) ?_
    refine xs_calli (s_X_feed v1 (xs ((v3 + (1 : Int32))).toNatClampNeg) (xs ((v3 + (2 : Int32))).toNatClampNeg) (xs ((v3 + (3 : Int32))).toNatClampNeg) (xs ((v3 + (4 : Int32))).toNatClampNeg) (xs ((v3 + (5 : Int32))).toNatClampNeg) h) (fun K HC x9 hM hmo hb => xr_callV HC.1.1 48 213 (av := [av_I (xs ((v3 + (1 : Int32))).toNatClampNeg), av_I (xs ((v3 + (2 : Int32))).toNatClampNeg), av_I (xs ((v3 + (3 : Int32))).toNatClampNeg), av_I (xs ((v3 + (4 : Int32))).toNatClampNeg), av_I (xs ((v3 + (5 : Int32))).toNatClampNeg)]) (st := []) (hM (kg K) (cx_l (kx K))) hmo hb rfl rfl wm_Lw_13 wi_X_feed ws_X_feed wc_X_feed rfl wh_X_feed (by decide) (by decide) (by decide) (Nat.le_of_ble_eq_true rfl) rfl) (fun x_20 => ?_)
    refine xs_step (fun K HC => xr_aload_n HC.1.1 49 214 (n := 2) (ix := 2) (j := 2) (c := 11) (x := v2) rfl rfl rfl rfl) ?_
    refine xs_step (fun K HC => xr_aload_n HC.1.1 50 215 (n := 0) (ix := 0) (j := 0) (c := 99) (x := v0) rfl rfl rfl rfl) ?_
    refine xs_step (fun K HC => xr_iload_n HC.1.1 51 216 (n := 3) (ix := 3) (j := 3) (x := v3) rfl rfl rfl rfl) ?_
    refine xs_step (fun K HC => xr_iconst HC.1.1 52 217 (n := (1)) (1 : Int32) rfl rfl rfl) ?_
    refine xs_step (fun K HC => xr_iadd HC.1.1 53 218 rfl rfl) ?_
    refine xs_chk (fun hb_22 => ?_)
    refine xs_step (fun K HC => xr_sld HC.1.1 54 219 HC.2 (hp_in_vp hb_22) rfl rfl) ?_
    refine xs_step (fun K HC => xr_aload_n HC.1.1 55 220 (n := 0) (ix := 0) (j := 0) (c := 99) (x := v0) rfl rfl rfl rfl) ?_
    refine xs_step (fun K HC => xr_iload_n HC.1.1 56 221 (n := 3) (ix := 3) (j := 3) (x := v3) rfl rfl rfl rfl) ?_
    refine xs_step (fun K HC => xr_iconst HC.1.1 57 222 (n := (2)) (2 : Int32) rfl rfl rfl) ?_
    refine xs_step (fun K HC => xr_iadd HC.1.1 58 223 rfl rfl) ?_
    refine xs_chk (fun hb_24 => ?_)
    refine xs_step (fun K HC => xr_sld HC.1.1 59 224 HC.2 (hp_in_vp hb_24) rfl rfl) ?_
    refine xs_step (fun K HC => xr_aload_n HC.1.1 60 225 (n := 0) (ix := 0) (j := 0) (c := 99) (x := v0) rfl rfl rfl rfl) ?_
    refine xs_step (fun K HC => xr_iload_n HC.1.1 61 226 (n := 3) (ix := 3) (j := 3) (x := v3) rfl rfl rfl rfl) ?_
    refine xs_step (fun K HC => xr_iconst HC.1.1 62 227 (n := (3)) (3 : Int32) rfl rfl rfl) ?_
    refine xs_step (fun K HC => xr_iadd HC.1.1 63 228 rfl rfl) ?_
    refine xs_chk (fun hb_26 => ?_)
    refine xs_step (fun K HC => xr_sld HC.1.1 64 229 HC.2 (hp_in_vp hb_26) rfl rfl) ?_
    refine xs_step (fun K HC => xr_aload_n HC.1.1 65 230 (n := 0) (ix := 0) (j := 0) (c := 99) (x := v0) rfl rfl rfl rfl) ?_
    refine xs_step (fun K HC => xr_iload_n HC.1.1 66 231 (n := 3) (ix := 3) (j := 3) (x := v3) rfl rfl rfl rfl) ?_
    refine xs_step (fun K HC => xr_iconst HC.1.1 67 232 (n := (4)) (4 : Int32) rfl rfl rfl) ?_
    refine xs_step (fun K HC => xr_iadd HC.1.1 68 233 rfl rfl) ?_
    refine xs_chk (fun hb_28 => ?_)
    refine xs_step (fun K HC => xr_sld HC.1.1 69 234 HC.2 (hp_in_vp hb_28) rfl rfl) ?_
    refine xs_step (fun K HC => xr_aload_n HC.1.1 70 235 (n := 0) (ix := 0) (j := 0) (c := 99) (x := v0) rfl rfl rfl rfl) ?_
    refine xs_step (fun K HC => xr_iload_n HC.1.1 71 236 (n := 3) (ix := 3) (j := 3) (x := v3) rfl rfl rfl rfl) ?_
    refine xs_step (fun K HC => xr_iconst HC.1.1 72 237 (n := (5)) (5 : Int32) rfl rfl rfl) ?_
    refine xs_step (fun K HC => xr_iadd HC.1.1 73 238 rfl rfl) ?_
    refine xs_chk (fun hb_30 => ?_)
    refine xs_step (fun K HC => xr_sld HC.1.1 74 239 HC.2 (hp_in_vp hb_30) rfl rfl) ?_
    refine xs_calli (s_M_feed v2 (xs ((v3 + (1 : Int32))).toNatClampNeg) (xs ((v3 + (2 : Int32))).toNatClampNeg) (xs ((v3 + (3 : Int32))).toNatClampNeg) (xs ((v3 + (4 : Int32))).toNatClampNeg) (xs ((v3 + (5 : Int32))).toNatClampNeg) x_20.2) (fun K HC x9 hM hmo hb => xr_callV HC.1.1 75 242 (av := [av_I (xs ((v3 + (1 : Int32))).toNatClampNeg), av_I (xs ((v3 + (2 : Int32))).toNatClampNeg), av_I (xs ((v3 + (3 : Int32))).toNatClampNeg), av_I (xs ((v3 + (4 : Int32))).toNatClampNeg), av_I (xs ((v3 + (5 : Int32))).toNatClampNeg)]) (st := [av_I x_20.1]) (hM (kg K) (cx_l (kx K))) hmo hb rfl rfl wm_Lw_17 wi_M_feed ws_M_feed wc_M_feed rfl wh_M_feed (by decide) (by decide) (by decide) (Nat.le_of_ble_eq_true rfl) rfl) (fun x_31 => ?_)
    refine xs_ite (fun K HC => xr_icmp_eq HC.1.1 76 1089 245 rfl (by decide) rfl) ?_ ?_
    · exact t_Lw_law_1089 xs n9 v0 v1 v2 v3 x_31.2
    refine xs_step (fun K HC => xr_iconst HC.1.1 77 246 (n := (0)) (0 : Int32) rfl rfl rfl) ?_
    exact xs_weak (fun K q => q.1) (xs_reti 78 rfl rfl (fun K q => q) (fun ty ht => by cases ht; rfl))
  refine xs_if (fun hc_40 => ?_) (fun hc_40 => ?_)
  · refine xs_step (fun K HC => xr_tabI HC.1.1 21 247 (1 : Int32) rfl hc_40 (by decide) (by decide) rfl (by decide)) ?_
    refine xs_step (fun K HC => xr_aload_n HC.1.1 79 248 (n := 1) (ix := 1) (j := 1) (c := 10) (x := v1) rfl rfl rfl rfl) ?_
    refine xs_step (fun K HC => xr_aload_n HC.1.1 80 249 (n := 0) (ix := 0) (j := 0) (c := 99) (x := v0) rfl rfl rfl rfl) ?_
    refine xs_step (fun K HC => xr_iload_n HC.1.1 81 250 (n := 3) (ix := 3) (j := 3) (x := v3) rfl rfl rfl rfl) ?_
    refine xs_step (fun K HC => xr_iconst HC.1.1 82 251 (n := (1)) (1 : Int32) rfl rfl rfl) ?_
    refine xs_step (fun K HC => xr_iadd HC.1.1 83 252 rfl rfl) ?_
    refine xs_chk (fun hb_35 => ?_)
    refine xs_step (fun K HC => xr_sld HC.1.1 84 253 HC.2 (hp_in_vp hb_35) rfl rfl) ?_
    refine xs_calli (s_X_end v1 (xs ((v3 + (1 : Int32))).toNatClampNeg) h) (fun K HC x9 hM hmo hb => xr_callV HC.1.1 85 256 (av := [av_I (xs ((v3 + (1 : Int32))).toNatClampNeg)]) (st := []) (hM (kg K) (cx_l (kx K))) hmo hb rfl rfl wm_Lw_18 wi_X_end ws_X_end wc_X_end rfl wh_X_end (by decide) (by decide) (by decide) (Nat.le_of_ble_eq_true rfl) rfl) (fun x_36 => ?_)
    refine xs_step (fun K HC => xr_aload_n HC.1.1 86 257 (n := 2) (ix := 2) (j := 2) (c := 11) (x := v2) rfl rfl rfl rfl) ?_
    refine xs_step (fun K HC => xr_aload_n HC.1.1 87 258 (n := 0) (ix := 0) (j := 0) (c := 99) (x := v0) rfl rfl rfl rfl) ?_
    refine xs_step (fun K HC => xr_iload_n HC.1.1 88 259 (n := 3) (ix := 3) (j := 3) (x := v3) rfl rfl rfl rfl) ?_
    refine xs_step (fun K HC => xr_iconst HC.1.1 89 260 (n := (1)) (1 : Int32) rfl rfl rfl) ?_
    refine xs_step (fun K HC => xr_iadd HC.1.1 90 261 rfl rfl) ?_
    refine xs_chk (fun hb_38 => ?_)
    refine xs_step (fun K HC => xr_sld HC.1.1 91 262 HC.2 (hp_in_vp hb_38) rfl rfl) ?_
    refine xs_calli (s_M_end v2 (xs ((v3 + (1 : Int32))).toNatClampNeg) x_36.2) (fun K HC x9 hM hmo hb => xr_callV HC.1.1 92 265 (av := [av_I (xs ((v3 + (1 : Int32))).toNatClampNeg)]) (st := [av_I x_36.1]) (hM (kg K) (cx_l (kx K))) hmo hb rfl rfl wm_Lw_22 wi_M_end ws_M_end wc_M_end rfl wh_M_end (by decide) (by decide) (by decide) (Nat.le_of_ble_eq_true rfl) rfl) (fun x_39 => ?_)
    refine xs_ite (fun K HC => xr_icmp_eq HC.1.1 93 1089 268 rfl (by decide) rfl) ?_ ?_
    · exact t_Lw_law_1089 xs n9 v0 v1 v2 v3 x_39.2
    refine xs_step (fun K HC => xr_iconst HC.1.1 94 269 (n := (0)) (0 : Int32) rfl rfl rfl) ?_
    exact xs_weak (fun K q => q.1) (xs_reti 95 rfl rfl (fun K q => q) (fun ty ht => by cases ht; rfl))
  refine xs_if (fun hc_43 => ?_) (fun hc_43 => ?_)
  · refine xs_step (fun K HC => xr_tabI HC.1.1 21 270 (2 : Int32) rfl hc_43 (by decide) (by decide) rfl (by decide)) ?_
    refine xs_step (fun K HC => xr_aload_n HC.1.1 96 271 (n := 1) (ix := 1) (j := 1) (c := 10) (x := v1) rfl rfl rfl rfl) ?_
    refine xs_calli (s_X_plan v1 h) (fun K HC x9 hM hmo hb => xr_callV HC.1.1 97 274 (av := []) (st := []) (hM (kg K) (cx_l (kx K))) hmo hb rfl rfl wm_Lw_23 wi_X_plan ws_X_plan wc_X_plan rfl wh_X_plan (by decide) (by decide) (by decide) (Nat.le_of_ble_eq_true rfl) rfl) (fun x_41 => ?_)
    refine xs_step (fun K HC => xr_aload_n HC.1.1 98 275 (n := 2) (ix := 2) (j := 2) (c := 11) (x := v2) rfl rfl rfl rfl) ?_
    refine xs_calli (s_M_plan v2 x_41.2) (fun K HC x9 hM hmo hb => xr_callV HC.1.1 99 278 (av := []) (st := [av_I x_41.1]) (hM (kg K) (cx_l (kx K))) hmo hb rfl rfl wm_Lw_27 wi_M_plan ws_M_plan wc_M_plan rfl wh_M_plan (by decide) (by decide) (by decide) (Nat.le_of_ble_eq_true rfl) rfl) (fun x_42 => ?_)
    refine xs_ite (fun K HC => xr_icmp_eq HC.1.1 100 1089 281 rfl (by decide) rfl) ?_ ?_
    · exact t_Lw_law_1089 xs n9 v0 v1 v2 v3 x_42.2
    refine xs_step (fun K HC => xr_iconst HC.1.1 101 282 (n := (0)) (0 : Int32) rfl rfl rfl) ?_
    exact xs_weak (fun K q => q.1) (xs_reti 102 rfl rfl (fun K q => q) (fun ty ht => by cases ht; rfl))
  refine xs_if (fun hc_50 => ?_) (fun hc_50 => ?_)
  · refine xs_step (fun K HC => xr_tabI HC.1.1 21 283 (3 : Int32) rfl hc_50 (by decide) (by decide) rfl (by decide)) ?_
    refine xs_step (fun K HC => xr_aload_n HC.1.1 103 284 (n := 1) (ix := 1) (j := 1) (c := 10) (x := v1) rfl rfl rfl rfl) ?_
    refine xs_step (fun K HC => xr_aload_n HC.1.1 104 285 (n := 0) (ix := 0) (j := 0) (c := 99) (x := v0) rfl rfl rfl rfl) ?_
    refine xs_step (fun K HC => xr_iload_n HC.1.1 105 286 (n := 3) (ix := 3) (j := 3) (x := v3) rfl rfl rfl rfl) ?_
    refine xs_step (fun K HC => xr_iconst HC.1.1 106 287 (n := (1)) (1 : Int32) rfl rfl rfl) ?_
    refine xs_step (fun K HC => xr_iadd HC.1.1 107 288 rfl rfl) ?_
    refine xs_chk (fun hb_45 => ?_)
    refine xs_step (fun K HC => xr_sld HC.1.1 108 289 HC.2 (hp_in_vp hb_45) rfl rfl) ?_
    refine xs_calli (s_X_fault v1 (xs ((v3 + (1 : Int32))).toNatClampNeg) h) (fun K HC x9 hM hmo hb => xr_callV HC.1.1 109 292 (av := [av_I (xs ((v3 + (1 : Int32))).toNatClampNeg)]) (st := []) (hM (kg K) (cx_l (kx K))) hmo hb rfl rfl wm_Lw_28 wi_X_fault ws_X_fault wc_X_fault rfl wh_X_fault (by decide) (by decide) (by decide) (Nat.le_of_ble_eq_true rfl) rfl) (fun x_46 => ?_)
    refine xs_step (fun K HC => xr_aload_n HC.1.1 110 293 (n := 2) (ix := 2) (j := 2) (c := 11) (x := v2) rfl rfl rfl rfl) ?_
    refine xs_step (fun K HC => xr_aload_n HC.1.1 111 294 (n := 0) (ix := 0) (j := 0) (c := 99) (x := v0) rfl rfl rfl rfl) ?_
    refine xs_step (fun K HC => xr_iload_n HC.1.1 112 295 (n := 3) (ix := 3) (j := 3) (x := v3) rfl rfl rfl rfl) ?_
    refine xs_step (fun K HC => xr_iconst HC.1.1 113 296 (n := (1)) (1 : Int32) rfl rfl rfl) ?_
    refine xs_step (fun K HC => xr_iadd HC.1.1 114 297 rfl rfl) ?_
    refine xs_chk (fun hb_48 => ?_)
    refine xs_step (fun K HC => xr_sld HC.1.1 115 298 HC.2 (hp_in_vp hb_48) rfl rfl) ?_
    refine xs_calli (s_M_fault v2 (xs ((v3 + (1 : Int32))).toNatClampNeg) x_46.2) (fun K HC x9 hM hmo hb => xr_callV HC.1.1 116 301 (av := [av_I (xs ((v3 + (1 : Int32))).toNatClampNeg)]) (st := [av_I x_46.1]) (hM (kg K) (cx_l (kx K))) hmo hb rfl rfl wm_Lw_31 wi_M_fault ws_M_fault wc_M_fault rfl wh_M_fault (by decide) (by decide) (by decide) (Nat.le_of_ble_eq_true rfl) rfl) (fun x_49 => ?_)
    refine xs_ite (fun K HC => xr_icmp_eq HC.1.1 117 1089 304 rfl (by decide) rfl) ?_ ?_
    · exact t_Lw_law_1089 xs n9 v0 v1 v2 v3 x_49.2
    refine xs_step (fun K HC => xr_iconst HC.1.1 118 305 (n := (0)) (0 : Int32) rfl rfl rfl) ?_
    exact xs_weak (fun K q => q.1) (xs_reti 119 rfl rfl (fun K q => q) (fun ty ht => by cases ht; rfl))
  refine xs_if (fun hc_57 => ?_) (fun hc_57 => ?_)
  · refine xs_step (fun K HC => xr_tabI HC.1.1 21 306 (4 : Int32) rfl hc_57 (by decide) (by decide) rfl (by decide)) ?_
    refine xs_step (fun K HC => xr_aload_n HC.1.1 120 307 (n := 1) (ix := 1) (j := 1) (c := 10) (x := v1) rfl rfl rfl rfl) ?_
    refine xs_step (fun K HC => xr_aload_n HC.1.1 121 308 (n := 0) (ix := 0) (j := 0) (c := 99) (x := v0) rfl rfl rfl rfl) ?_
    refine xs_step (fun K HC => xr_iload_n HC.1.1 122 309 (n := 3) (ix := 3) (j := 3) (x := v3) rfl rfl rfl rfl) ?_
    refine xs_step (fun K HC => xr_iconst HC.1.1 123 310 (n := (1)) (1 : Int32) rfl rfl rfl) ?_
    refine xs_step (fun K HC => xr_iadd HC.1.1 124 311 rfl rfl) ?_
    refine xs_chk (fun hb_52 => ?_)
    refine xs_step (fun K HC => xr_sld HC.1.1 125 312 HC.2 (hp_in_vp hb_52) rfl rfl) ?_
    refine xs_calli (s_X_begin v1 (xs ((v3 + (1 : Int32))).toNatClampNeg) h) (fun K HC x9 hM hmo hb => xr_callV HC.1.1 126 315 (av := [av_I (xs ((v3 + (1 : Int32))).toNatClampNeg)]) (st := []) (hM (kg K) (cx_l (kx K))) hmo hb rfl rfl wm_Lw_32 wi_X_begin ws_X_begin wc_X_begin rfl wh_X_begin (by decide) (by decide) (by decide) (Nat.le_of_ble_eq_true rfl) rfl) (fun x_53 => ?_)
    refine xs_step (fun K HC => xr_aload_n HC.1.1 127 316 (n := 2) (ix := 2) (j := 2) (c := 11) (x := v2) rfl rfl rfl rfl) ?_
    refine xs_step (fun K HC => xr_aload_n HC.1.1 128 317 (n := 0) (ix := 0) (j := 0) (c := 99) (x := v0) rfl rfl rfl rfl) ?_
    refine xs_step (fun K HC => xr_iload_n HC.1.1 129 318 (n := 3) (ix := 3) (j := 3) (x := v3) rfl rfl rfl rfl) ?_
    refine xs_step (fun K HC => xr_iconst HC.1.1 130 319 (n := (1)) (1 : Int32) rfl rfl rfl) ?_
    refine xs_step (fun K HC => xr_iadd HC.1.1 131 320 rfl rfl) ?_
    refine xs_chk (fun hb_55 => ?_)
    refine xs_step (fun K HC => xr_sld HC.1.1 132 321 HC.2 (hp_in_vp hb_55) rfl rfl) ?_
    refine xs_calli (s_M_begin v2 (xs ((v3 + (1 : Int32))).toNatClampNeg) x_53.2) (fun K HC x9 hM hmo hb => xr_callV HC.1.1 133 324 (av := [av_I (xs ((v3 + (1 : Int32))).toNatClampNeg)]) (st := [av_I x_53.1]) (hM (kg K) (cx_l (kx K))) hmo hb rfl rfl wm_Lw_36 wi_M_begin ws_M_begin wc_M_begin rfl wh_M_begin (by decide) (by decide) (by decide) (Nat.le_of_ble_eq_true rfl) rfl) (fun x_56 => ?_)
    refine xs_ite (fun K HC => xr_icmp_eq HC.1.1 134 1089 327 rfl (by decide) rfl) ?_ ?_
    · exact t_Lw_law_1089 xs n9 v0 v1 v2 v3 x_56.2
    refine xs_step (fun K HC => xr_iconst HC.1.1 135 328 (n := (0)) (0 : Int32) rfl rfl rfl) ?_
    exact xs_weak (fun K q => q.1) (xs_reti 136 rfl rfl (fun K q => q) (fun ty ht => by cases ht; rfl))
  refine xs_if (fun hc_64 => ?_) (fun hc_64 => ?_)
  · refine xs_step (fun K HC => xr_tabI HC.1.1 21 329 (5 : Int32) rfl hc_64 (by decide) (by decide) rfl (by decide)) ?_
    refine xs_step (fun K HC => xr_aload_n HC.1.1 137 330 (n := 1) (ix := 1) (j := 1) (c := 10) (x := v1) rfl rfl rfl rfl) ?_
    refine xs_step (fun K HC => xr_aload_n HC.1.1 138 331 (n := 0) (ix := 0) (j := 0) (c := 99) (x := v0) rfl rfl rfl rfl) ?_
    refine xs_step (fun K HC => xr_iload_n HC.1.1 139 332 (n := 3) (ix := 3) (j := 3) (x := v3) rfl rfl rfl rfl) ?_
    refine xs_step (fun K HC => xr_iconst HC.1.1 140 333 (n := (1)) (1 : Int32) rfl rfl rfl) ?_
    refine xs_step (fun K HC => xr_iadd HC.1.1 141 334 rfl rfl) ?_
    refine xs_chk (fun hb_59 => ?_)
    refine xs_step (fun K HC => xr_sld HC.1.1 142 335 HC.2 (hp_in_vp hb_59) rfl rfl) ?_
    refine xs_calli (s_X_lead v1 (xs ((v3 + (1 : Int32))).toNatClampNeg) h) (fun K HC x9 hM hmo hb => xr_callV HC.1.1 143 338 (av := [av_I (xs ((v3 + (1 : Int32))).toNatClampNeg)]) (st := []) (hM (kg K) (cx_l (kx K))) hmo hb rfl rfl wm_Lw_37 wi_X_lead ws_X_lead wc_X_lead rfl wh_X_lead (by decide) (by decide) (by decide) (Nat.le_of_ble_eq_true rfl) rfl) (fun x_60 => ?_)
    refine xs_step (fun K HC => xr_aload_n HC.1.1 144 339 (n := 2) (ix := 2) (j := 2) (c := 11) (x := v2) rfl rfl rfl rfl) ?_
    refine xs_step (fun K HC => xr_aload_n HC.1.1 145 340 (n := 0) (ix := 0) (j := 0) (c := 99) (x := v0) rfl rfl rfl rfl) ?_
    refine xs_step (fun K HC => xr_iload_n HC.1.1 146 341 (n := 3) (ix := 3) (j := 3) (x := v3) rfl rfl rfl rfl) ?_
    refine xs_step (fun K HC => xr_iconst HC.1.1 147 342 (n := (1)) (1 : Int32) rfl rfl rfl) ?_
    refine xs_step (fun K HC => xr_iadd HC.1.1 148 343 rfl rfl) ?_
    refine xs_chk (fun hb_62 => ?_)
    refine xs_step (fun K HC => xr_sld HC.1.1 149 344 HC.2 (hp_in_vp hb_62) rfl rfl) ?_
    refine xs_calli (s_M_lead v2 (xs ((v3 + (1 : Int32))).toNatClampNeg) x_60.2) (fun K HC x9 hM hmo hb => xr_callV HC.1.1 150 347 (av := [av_I (xs ((v3 + (1 : Int32))).toNatClampNeg)]) (st := [av_I x_60.1]) (hM (kg K) (cx_l (kx K))) hmo hb rfl rfl wm_Lw_40 wi_M_lead ws_M_lead wc_M_lead rfl wh_M_lead (by decide) (by decide) (by decide) (Nat.le_of_ble_eq_true rfl) rfl) (fun x_63 => ?_)
    refine xs_ite (fun K HC => xr_icmp_eq HC.1.1 151 1089 350 rfl (by decide) rfl) ?_ ?_
    · exact t_Lw_law_1089 xs n9 v0 v1 v2 v3 x_63.2
    refine xs_step (fun K HC => xr_iconst HC.1.1 152 351 (n := (0)) (0 : Int32) rfl rfl rfl) ?_
    exact xs_weak (fun K q => q.1) (xs_reti 153 rfl rfl (fun K q => q) (fun ty ht => by cases ht; rfl))
  refine xs_if (fun hc_71 => ?_) (fun hc_71 => ?_)
  · refine xs_step (fun K HC => xr_tabI HC.1.1 21 352 (6 : Int32) rfl hc_71 (by decide) (by decide) rfl (by decide)) ?_
    refine xs_step (fun K HC => xr_aload_n HC.1.1 154 353 (n := 1) (ix := 1) (j := 1) (c := 10) (x := v1) rfl rfl rfl rfl) ?_
    refine xs_step (fun K HC => xr_aload_n HC.1.1 155 354 (n := 0) (ix := 0) (j := 0) (c := 99) (x := v0) rfl rfl rfl rfl) ?_
    refine xs_step (fun K HC => xr_iload_n HC.1.1 156 355 (n := 3) (ix := 3) (j := 3) (x := v3) rfl rfl rfl rfl) ?_
    refine xs_step (fun K HC => xr_iconst HC.1.1 157 356 (n := (1)) (1 : Int32) rfl rfl rfl) ?_
    refine xs_step (fun K HC => xr_iadd HC.1.1 158 357 rfl rfl) ?_
    refine xs_chk (fun hb_66 => ?_)
    refine xs_step (fun K HC => xr_sld HC.1.1 159 358 HC.2 (hp_in_vp hb_66) rfl rfl) ?_
    refine xs_calli (s_X_forget v1 (xs ((v3 + (1 : Int32))).toNatClampNeg) h) (fun K HC x9 hM hmo hb => xr_callV HC.1.1 160 361 (av := [av_I (xs ((v3 + (1 : Int32))).toNatClampNeg)]) (st := []) (hM (kg K) (cx_l (kx K))) hmo hb rfl rfl wm_Lw_41 wi_X_forget ws_X_forget wc_X_forget rfl wh_X_forget (by decide) (by decide) (by decide) (Nat.le_of_ble_eq_true rfl) rfl) (fun x_67 => ?_)
    refine xs_step (fun K HC => xr_aload_n HC.1.1 161 362 (n := 2) (ix := 2) (j := 2) (c := 11) (x := v2) rfl rfl rfl rfl) ?_
    refine xs_step (fun K HC => xr_aload_n HC.1.1 162 363 (n := 0) (ix := 0) (j := 0) (c := 99) (x := v0) rfl rfl rfl rfl) ?_
    refine xs_step (fun K HC => xr_iload_n HC.1.1 163 364 (n := 3) (ix := 3) (j := 3) (x := v3) rfl rfl rfl rfl) ?_
    refine xs_step (fun K HC => xr_iconst HC.1.1 164 365 (n := (1)) (1 : Int32) rfl rfl rfl) ?_
    refine xs_step (fun K HC => xr_iadd HC.1.1 165 366 rfl rfl) ?_
    refine xs_chk (fun hb_69 => ?_)
    refine xs_step (fun K HC => xr_sld HC.1.1 166 367 HC.2 (hp_in_vp hb_69) rfl rfl) ?_
    refine xs_calli (s_M_forget v2 (xs ((v3 + (1 : Int32))).toNatClampNeg) x_67.2) (fun K HC x9 hM hmo hb => xr_callV HC.1.1 167 370 (av := [av_I (xs ((v3 + (1 : Int32))).toNatClampNeg)]) (st := [av_I x_67.1]) (hM (kg K) (cx_l (kx K))) hmo hb rfl rfl wm_Lw_44 wi_M_forget ws_M_forget wc_M_forget rfl wh_M_forget (by decide) (by decide) (by decide) (Nat.le_of_ble_eq_true rfl) rfl) (fun x_70 => ?_)
    refine xs_ite (fun K HC => xr_icmp_eq HC.1.1 168 1089 373 rfl (by decide) rfl) ?_ ?_
    · exact t_Lw_law_1089 xs n9 v0 v1 v2 v3 x_70.2
    refine xs_step (fun K HC => xr_iconst HC.1.1 169 374 (n := (0)) (0 : Int32) rfl rfl rfl) ?_
    exact xs_weak (fun K q => q.1) (xs_reti 170 rfl rfl (fun K q => q) (fun ty ht => by cases ht; rfl))
  refine xs_if (fun hc_78 => ?_) (fun hc_78 => ?_)
  · refine xs_step (fun K HC => xr_tabI HC.1.1 21 375 (7 : Int32) rfl hc_78 (by decide) (by decide) rfl (by decide)) ?_
    refine xs_step (fun K HC => xr_aload_n HC.1.1 171 376 (n := 1) (ix := 1) (j := 1) (c := 10) (x := v1) rfl rfl rfl rfl) ?_
    refine xs_step (fun K HC => xr_aload_n HC.1.1 172 377 (n := 0) (ix := 0) (j := 0) (c := 99) (x := v0) rfl rfl rfl rfl) ?_
    refine xs_step (fun K HC => xr_iload_n HC.1.1 173 378 (n := 3) (ix := 3) (j := 3) (x := v3) rfl rfl rfl rfl) ?_
    refine xs_step (fun K HC => xr_iconst HC.1.1 174 379 (n := (1)) (1 : Int32) rfl rfl rfl) ?_
    refine xs_step (fun K HC => xr_iadd HC.1.1 175 380 rfl rfl) ?_
    refine xs_chk (fun hb_73 => ?_)
    refine xs_step (fun K HC => xr_sld HC.1.1 176 381 HC.2 (hp_in_vp hb_73) rfl rfl) ?_
    refine xs_calli (s_X_dark v1 (xs ((v3 + (1 : Int32))).toNatClampNeg) h) (fun K HC x9 hM hmo hb => xr_callV HC.1.1 177 384 (av := [av_I (xs ((v3 + (1 : Int32))).toNatClampNeg)]) (st := []) (hM (kg K) (cx_l (kx K))) hmo hb rfl rfl wm_Lw_45 wi_X_dark ws_X_dark wc_X_dark rfl wh_X_dark (by decide) (by decide) (by decide) (Nat.le_of_ble_eq_true rfl) rfl) (fun x_74 => ?_)
    refine xs_step (fun K HC => xr_aload_n HC.1.1 178 385 (n := 2) (ix := 2) (j := 2) (c := 11) (x := v2) rfl rfl rfl rfl) ?_
    refine xs_step (fun K HC => xr_aload_n HC.1.1 179 386 (n := 0) (ix := 0) (j := 0) (c := 99) (x := v0) rfl rfl rfl rfl) ?_
    refine xs_step (fun K HC => xr_iload_n HC.1.1 180 387 (n := 3) (ix := 3) (j := 3) (x := v3) rfl rfl rfl rfl) ?_
    refine xs_step (fun K HC => xr_iconst HC.1.1 181 388 (n := (1)) (1 : Int32) rfl rfl rfl) ?_
    refine xs_step (fun K HC => xr_iadd HC.1.1 182 389 rfl rfl) ?_
    refine xs_chk (fun hb_76 => ?_)
    refine xs_step (fun K HC => xr_sld HC.1.1 183 390 HC.2 (hp_in_vp hb_76) rfl rfl) ?_
    refine xs_calli (s_M_dark v2 (xs ((v3 + (1 : Int32))).toNatClampNeg) x_74.2) (fun K HC x9 hM hmo hb => xr_callV HC.1.1 184 393 (av := [av_I (xs ((v3 + (1 : Int32))).toNatClampNeg)]) (st := [av_I x_74.1]) (hM (kg K) (cx_l (kx K))) hmo hb rfl rfl wm_Lw_48 wi_M_dark ws_M_dark wc_M_dark rfl wh_M_dark (by decide) (by decide) (by decide) (Nat.le_of_ble_eq_true rfl) rfl) (fun x_77 => ?_)
    refine xs_ite (fun K HC => xr_icmp_eq HC.1.1 185 1089 396 rfl (by decide) rfl) ?_ ?_
    · exact t_Lw_law_1089 xs n9 v0 v1 v2 v3 x_77.2
    refine xs_step (fun K HC => xr_iconst HC.1.1 186 397 (n := (0)) (0 : Int32) rfl rfl rfl) ?_
    exact xs_weak (fun K q => q.1) (xs_reti 187 rfl rfl (fun K q => q) (fun ty ht => by cases ht; rfl))
  refine xs_if (fun hc_89 => ?_) (fun hc_89 => ?_)
  · refine xs_step (fun K HC => xr_tabI HC.1.1 21 398 (8 : Int32) rfl hc_89 (by decide) (by decide) rfl (by decide)) ?_
    refine xs_step (fun K HC => xr_aload_n HC.1.1 188 399 (n := 1) (ix := 1) (j := 1) (c := 10) (x := v1) rfl rfl rfl rfl) ?_
    refine xs_step (fun K HC => xr_aload_n HC.1.1 189 400 (n := 0) (ix := 0) (j := 0) (c := 99) (x := v0) rfl rfl rfl rfl) ?_
    refine xs_step (fun K HC => xr_iload_n HC.1.1 190 401 (n := 3) (ix := 3) (j := 3) (x := v3) rfl rfl rfl rfl) ?_
    refine xs_step (fun K HC => xr_iconst HC.1.1 191 402 (n := (1)) (1 : Int32) rfl rfl rfl) ?_
    refine xs_step (fun K HC => xr_iadd HC.1.1 192 403 rfl rfl) ?_
    refine xs_chk (fun hb_80 => ?_)
    refine xs_step (fun K HC => xr_sld HC.1.1 193 404 HC.2 (hp_in_vp hb_80) rfl rfl) ?_
    refine xs_step (fun K HC => xr_aload_n HC.1.1 194 405 (n := 0) (ix := 0) (j := 0) (c := 99) (x := v0) rfl rfl rfl rfl) ?_
    refine xs_step (fun K HC => xr_iload_n HC.1.1 195 406 (n := 3) (ix := 3) (j := 3) (x := v3) rfl rfl rfl rfl) ?_
    refine xs_step (fun K HC => xr_iconst HC.1.1 196 407 (n := (2)) (2 : Int32) rfl rfl rfl) ?_
    refine xs_step (fun K HC => xr_iadd HC.1.1 197 408 rfl rfl) ?_
    refine xs_chk (fun hb_82 => ?_)
    refine xs_step (fun K HC => xr_sld HC.1.1 198 409 HC.2 (hp_in_vp hb_82) rfl rfl) ?_
    refine xs_calli (s_X_man v1 (xs ((v3 + (1 : Int32))).toNatClampNeg) (xs ((v3 + (2 : Int32))).toNatClampNeg) h) (fun K HC x9 hM hmo hb => xr_callV HC.1.1 199 412 (av := [av_I (xs ((v3 + (1 : Int32))).toNatClampNeg), av_I (xs ((v3 + (2 : Int32))).toNatClampNeg)]) (st := []) (hM (kg K) (cx_l (kx K))) hmo hb rfl rfl wm_Lw_49 wi_X_man ws_X_man wc_X_man rfl wh_X_man (by decide) (by decide) (by decide) (Nat.le_of_ble_eq_true rfl) rfl) (fun x_83 => ?_)
    refine xs_step (fun K HC => xr_aload_n HC.1.1 200 413 (n := 2) (ix := 2) (j := 2) (c := 11) (x := v2) rfl rfl rfl rfl) ?_
    refine xs_step (fun K HC => xr_aload_n HC.1.1 201 414 (n := 0) (ix := 0) (j := 0) (c := 99) (x := v0) rfl rfl rfl rfl) ?_
    refine xs_step (fun K HC => xr_iload_n HC.1.1 202 415 (n := 3) (ix := 3) (j := 3) (x := v3) rfl rfl rfl rfl) ?_
    refine xs_step (fun K HC => xr_iconst HC.1.1 203 416 (n := (1)) (1 : Int32) rfl rfl rfl) ?_
    refine xs_step (fun K HC => xr_iadd HC.1.1 204 417 rfl rfl) ?_
    refine xs_chk (fun hb_85 => ?_)
    refine xs_step (fun K HC => xr_sld HC.1.1 205 418 HC.2 (hp_in_vp hb_85) rfl rfl) ?_
    refine xs_step (fun K HC => xr_aload_n HC.1.1 206 419 (n := 0) (ix := 0) (j := 0) (c := 99) (x := v0) rfl rfl rfl rfl) ?_
    refine xs_step (fun K HC => xr_iload_n HC.1.1 207 420 (n := 3) (ix := 3) (j := 3) (x := v3) rfl rfl rfl rfl) ?_
    refine xs_step (fun K HC => xr_iconst HC.1.1 208 421 (n := (2)) (2 : Int32) rfl rfl rfl) ?_
    refine xs_step (fun K HC => xr_iadd HC.1.1 209 422 rfl rfl) ?_
    refine xs_chk (fun hb_87 => ?_)
    refine xs_step (fun K HC => xr_sld HC.1.1 210 423 HC.2 (hp_in_vp hb_87) rfl rfl) ?_
    refine xs_calli (s_M_man v2 (xs ((v3 + (1 : Int32))).toNatClampNeg) (xs ((v3 + (2 : Int32))).toNatClampNeg) x_83.2) (fun K HC x9 hM hmo hb => xr_callV HC.1.1 211 426 (av := [av_I (xs ((v3 + (1 : Int32))).toNatClampNeg), av_I (xs ((v3 + (2 : Int32))).toNatClampNeg)]) (st := [av_I x_83.1]) (hM (kg K) (cx_l (kx K))) hmo hb rfl rfl wm_Lw_53 wi_M_man ws_M_man wc_M_man rfl wh_M_man (by decide) (by decide) (by decide) (Nat.le_of_ble_eq_true rfl) rfl) (fun x_88 => ?_)
    refine xs_ite (fun K HC => xr_icmp_eq HC.1.1 212 1089 429 rfl (by decide) rfl) ?_ ?_
    · exact t_Lw_law_1089 xs n9 v0 v1 v2 v3 x_88.2
    refine xs_step (fun K HC => xr_iconst HC.1.1 213 430 (n := (0)) (0 : Int32) rfl rfl rfl) ?_
    exact xs_weak (fun K q => q.1) (xs_reti 214 rfl rfl (fun K q => q) (fun ty ht => by cases ht; rfl))
  refine xs_if (fun hc_96 => ?_) (fun hc_96 => ?_)
  · refine xs_step (fun K HC => xr_tabI HC.1.1 21 431 (9 : Int32) rfl hc_96 (by decide) (by decide) rfl (by decide)) ?_
    refine xs_step (fun K HC => xr_aload_n HC.1.1 215 432 (n := 1) (ix := 1) (j := 1) (c := 10) (x := v1) rfl rfl rfl rfl) ?_
    refine xs_step (fun K HC => xr_aload_n HC.1.1 216 433 (n := 0) (ix := 0) (j := 0) (c := 99) (x := v0) rfl rfl rfl rfl) ?_
    refine xs_step (fun K HC => xr_iload_n HC.1.1 217 434 (n := 3) (ix := 3) (j := 3) (x := v3) rfl rfl rfl rfl) ?_
    refine xs_step (fun K HC => xr_iconst HC.1.1 218 435 (n := (1)) (1 : Int32) rfl rfl rfl) ?_
    refine xs_step (fun K HC => xr_iadd HC.1.1 219 436 rfl rfl) ?_
    refine xs_chk (fun hb_91 => ?_)
    refine xs_step (fun K HC => xr_sld HC.1.1 220 437 HC.2 (hp_in_vp hb_91) rfl rfl) ?_
    refine xs_calli (s_X_states v1 (xs ((v3 + (1 : Int32))).toNatClampNeg) h) (fun K HC x9 hM hmo hb => xr_callV HC.1.1 221 440 (av := [av_I (xs ((v3 + (1 : Int32))).toNatClampNeg)]) (st := []) (hM (kg K) (cx_l (kx K))) hmo hb rfl rfl wm_Lw_54 wi_X_states ws_X_states wc_X_states rfl wh_X_states (by decide) (by decide) (by decide) (Nat.le_of_ble_eq_true rfl) rfl) (fun x_92 => ?_)
    refine xs_step (fun K HC => xr_aload_n HC.1.1 222 441 (n := 2) (ix := 2) (j := 2) (c := 11) (x := v2) rfl rfl rfl rfl) ?_
    refine xs_step (fun K HC => xr_aload_n HC.1.1 223 442 (n := 0) (ix := 0) (j := 0) (c := 99) (x := v0) rfl rfl rfl rfl) ?_
    refine xs_step (fun K HC => xr_iload_n HC.1.1 224 443 (n := 3) (ix := 3) (j := 3) (x := v3) rfl rfl rfl rfl) ?_
    refine xs_step (fun K HC => xr_iconst HC.1.1 225 444 (n := (1)) (1 : Int32) rfl rfl rfl) ?_
    refine xs_step (fun K HC => xr_iadd HC.1.1 226 445 rfl rfl) ?_
    refine xs_chk (fun hb_94 => ?_)
    refine xs_step (fun K HC => xr_sld HC.1.1 227 446 HC.2 (hp_in_vp hb_94) rfl rfl) ?_
    refine xs_calli (s_M_states v2 (xs ((v3 + (1 : Int32))).toNatClampNeg) x_92.2) (fun K HC x9 hM hmo hb => xr_callV HC.1.1 228 449 (av := [av_I (xs ((v3 + (1 : Int32))).toNatClampNeg)]) (st := [av_I x_92.1]) (hM (kg K) (cx_l (kx K))) hmo hb rfl rfl wm_Lw_57 wi_M_states ws_M_states wc_M_states rfl wh_M_states (by decide) (by decide) (by decide) (Nat.le_of_ble_eq_true rfl) rfl) (fun x_95 => ?_)
    refine xs_ite (fun K HC => xr_icmp_eq HC.1.1 229 1089 452 rfl (by decide) rfl) ?_ ?_
    · exact t_Lw_law_1089 xs n9 v0 v1 v2 v3 x_95.2
    refine xs_step (fun K HC => xr_iconst HC.1.1 230 453 (n := (0)) (0 : Int32) rfl rfl rfl) ?_
    exact xs_weak (fun K q => q.1) (xs_reti 231 rfl rfl (fun K q => q) (fun ty ht => by cases ht; rfl))
  refine xs_if (fun hc_99 => ?_) (fun hc_99 => ?_)
  · refine xs_step (fun K HC => xr_tabI HC.1.1 21 454 (10 : Int32) rfl hc_99 (by decide) (by decide) rfl (by decide)) ?_
    refine xs_step (fun K HC => xr_aload_n HC.1.1 232 455 (n := 1) (ix := 1) (j := 1) (c := 10) (x := v1) rfl rfl rfl rfl) ?_
    refine xs_calli (s_X_right v1 h) (fun K HC x9 hM hmo hb => xr_callV HC.1.1 233 458 (av := []) (st := []) (hM (kg K) (cx_l (kx K))) hmo hb rfl rfl wm_Lw_58 wi_X_right ws_X_right wc_X_right rfl wh_X_right (by decide) (by decide) (by decide) (Nat.le_of_ble_eq_true rfl) rfl) (fun x_97 => ?_)
    refine xs_step (fun K HC => xr_aload_n HC.1.1 234 459 (n := 2) (ix := 2) (j := 2) (c := 11) (x := v2) rfl rfl rfl rfl) ?_
    refine xs_calli (s_M_right v2 x_97.2) (fun K HC x9 hM hmo hb => xr_callV HC.1.1 235 462 (av := []) (st := [av_I x_97.1]) (hM (kg K) (cx_l (kx K))) hmo hb rfl rfl wm_Lw_61 wi_M_right ws_M_right wc_M_right rfl wh_M_right (by decide) (by decide) (by decide) (Nat.le_of_ble_eq_true rfl) rfl) (fun x_98 => ?_)
    refine xs_ite (fun K HC => xr_icmp_eq HC.1.1 236 1089 465 rfl (by decide) rfl) ?_ ?_
    · exact t_Lw_law_1089 xs n9 v0 v1 v2 v3 x_98.2
    refine xs_step (fun K HC => xr_iconst HC.1.1 237 466 (n := (0)) (0 : Int32) rfl rfl rfl) ?_
    exact xs_weak (fun K q => q.1) (xs_reti 238 rfl rfl (fun K q => q) (fun ty ht => by cases ht; rfl))
  refine xs_if (fun hc_106 => ?_) (fun hc_106 => ?_)
  · refine xs_step (fun K HC => xr_tabI HC.1.1 21 467 (11 : Int32) rfl hc_106 (by decide) (by decide) rfl (by decide)) ?_
    refine xs_step (fun K HC => xr_aload_n HC.1.1 239 468 (n := 1) (ix := 1) (j := 1) (c := 10) (x := v1) rfl rfl rfl rfl) ?_
    refine xs_step (fun K HC => xr_aload_n HC.1.1 240 469 (n := 0) (ix := 0) (j := 0) (c := 99) (x := v0) rfl rfl rfl rfl) ?_
    refine xs_step (fun K HC => xr_iload_n HC.1.1 241 470 (n := 3) (ix := 3) (j := 3) (x := v3) rfl rfl rfl rfl) ?_
    refine xs_step (fun K HC => xr_iconst HC.1.1 242 471 (n := (1)) (1 : Int32) rfl rfl rfl) ?_
    refine xs_step (fun K HC => xr_iadd HC.1.1 243 472 rfl rfl) ?_
    refine xs_chk (fun hb_101 => ?_)
    refine xs_step (fun K HC => xr_sld HC.1.1 244 473 HC.2 (hp_in_vp hb_101) rfl rfl) ?_
    refine xs_calli (s_X_shown v1 (xs ((v3 + (1 : Int32))).toNatClampNeg) h) (fun K HC x9 hM hmo hb => xr_callV HC.1.1 245 476 (av := [av_I (xs ((v3 + (1 : Int32))).toNatClampNeg)]) (st := []) (hM (kg K) (cx_l (kx K))) hmo hb rfl rfl wm_Lw_62 wi_X_shown ws_X_shown wc_X_shown rfl wh_X_shown (by decide) (by decide) (by decide) (Nat.le_of_ble_eq_true rfl) rfl) (fun x_102 => ?_)
    refine xs_step (fun K HC => xr_aload_n HC.1.1 246 477 (n := 2) (ix := 2) (j := 2) (c := 11) (x := v2) rfl rfl rfl rfl) ?_
    refine xs_step (fun K HC => xr_aload_n HC.1.1 247 478 (n := 0) (ix := 0) (j := 0) (c := 99) (x := v0) rfl rfl rfl rfl) ?_
    refine xs_step (fun K HC => xr_iload_n HC.1.1 248 479 (n := 3) (ix := 3) (j := 3) (x := v3) rfl rfl rfl rfl) ?_
    refine xs_step (fun K HC => xr_iconst HC.1.1 249 480 (n := (1)) (1 : Int32) rfl rfl rfl) ?_
    refine xs_step (fun K HC => xr_iadd HC.1.1 250 481 rfl rfl) ?_
    refine xs_chk (fun hb_104 => ?_)
    refine xs_step (fun K HC => xr_sld HC.1.1 251 482 HC.2 (hp_in_vp hb_104) rfl rfl) ?_
    refine xs_calli (s_M_shown v2 (xs ((v3 + (1 : Int32))).toNatClampNeg) x_102.2) (fun K HC x9 hM hmo hb => xr_callV HC.1.1 252 485 (av := [av_I (xs ((v3 + (1 : Int32))).toNatClampNeg)]) (st := [av_I x_102.1]) (hM (kg K) (cx_l (kx K))) hmo hb rfl rfl wm_Lw_65 wi_M_shown ws_M_shown wc_M_shown rfl wh_M_shown (by decide) (by decide) (by decide) (Nat.le_of_ble_eq_true rfl) rfl) (fun x_105 => ?_)
    refine xs_ite (fun K HC => xr_icmp_eq HC.1.1 253 1089 488 rfl (by decide) rfl) ?_ ?_
    · exact t_Lw_law_1089 xs n9 v0 v1 v2 v3 x_105.2
    refine xs_step (fun K HC => xr_iconst HC.1.1 254 489 (n := (0)) (0 : Int32) rfl rfl rfl) ?_
    exact xs_weak (fun K q => q.1) (xs_reti 255 rfl rfl (fun K q => q) (fun ty ht => by cases ht; rfl))
  refine xs_if (fun hc_113 => ?_) (fun hc_113 => ?_)
  · refine xs_step (fun K HC => xr_tabI HC.1.1 21 490 (12 : Int32) rfl hc_113 (by decide) (by decide) rfl (by decide)) ?_
    refine xs_step (fun K HC => xr_aload_n HC.1.1 256 491 (n := 1) (ix := 1) (j := 1) (c := 10) (x := v1) rfl rfl rfl rfl) ?_
    refine xs_step (fun K HC => xr_aload_n HC.1.1 257 492 (n := 0) (ix := 0) (j := 0) (c := 99) (x := v0) rfl rfl rfl rfl) ?_
    refine xs_step (fun K HC => xr_iload_n HC.1.1 258 493 (n := 3) (ix := 3) (j := 3) (x := v3) rfl rfl rfl rfl) ?_
    refine xs_step (fun K HC => xr_iconst HC.1.1 259 494 (n := (1)) (1 : Int32) rfl rfl rfl) ?_
    refine xs_step (fun K HC => xr_iadd HC.1.1 260 495 rfl rfl) ?_
    refine xs_chk (fun hb_108 => ?_)
    refine xs_step (fun K HC => xr_sld HC.1.1 261 496 HC.2 (hp_in_vp hb_108) rfl rfl) ?_
    refine xs_calli (s_X_shows v1 (xs ((v3 + (1 : Int32))).toNatClampNeg) h) (fun K HC x9 hM hmo hb => xr_callV HC.1.1 262 499 (av := [av_I (xs ((v3 + (1 : Int32))).toNatClampNeg)]) (st := []) (hM (kg K) (cx_l (kx K))) hmo hb rfl rfl wm_Lw_66 wi_X_shows ws_X_shows wc_X_shows rfl wh_X_shows (by decide) (by decide) (by decide) (Nat.le_of_ble_eq_true rfl) rfl) (fun x_109 => ?_)
    refine xs_step (fun K HC => xr_aload_n HC.1.1 263 500 (n := 2) (ix := 2) (j := 2) (c := 11) (x := v2) rfl rfl rfl rfl) ?_
    refine xs_step (fun K HC => xr_aload_n HC.1.1 264 501 (n := 0) (ix := 0) (j := 0) (c := 99) (x := v0) rfl rfl rfl rfl) ?_
    refine xs_step (fun K HC => xr_iload_n HC.1.1 265 502 (n := 3) (ix := 3) (j := 3) (x := v3) rfl rfl rfl rfl) ?_
    refine xs_step (fun K HC => xr_iconst HC.1.1 266 503 (n := (1)) (1 : Int32) rfl rfl rfl) ?_
    refine xs_step (fun K HC => xr_iadd HC.1.1 267 504 rfl rfl) ?_
    refine xs_chk (fun hb_111 => ?_)
    refine xs_step (fun K HC => xr_sld HC.1.1 268 505 HC.2 (hp_in_vp hb_111) rfl rfl) ?_
    refine xs_calli (s_M_shows v2 (xs ((v3 + (1 : Int32))).toNatClampNeg) x_109.2) (fun K HC x9 hM hmo hb => xr_callV HC.1.1 269 508 (av := [av_I (xs ((v3 + (1 : Int32))).toNatClampNeg)]) (st := [av_I x_109.1]) (hM (kg K) (cx_l (kx K))) hmo hb rfl rfl wm_Lw_69 wi_M_shows ws_M_shows wc_M_shows rfl wh_M_shows (by decide) (by decide) (by decide) (Nat.le_of_ble_eq_true rfl) rfl) (fun x_112 => ?_)
    refine xs_ite (fun K HC => xr_icmp_eq HC.1.1 270 1089 511 rfl (by decide) rfl) ?_ ?_
    · exact t_Lw_law_1089 xs n9 v0 v1 v2 v3 x_112.2
    refine xs_step (fun K HC => xr_iconst HC.1.1 271 512 (n := (0)) (0 : Int32) rfl rfl rfl) ?_
    exact xs_weak (fun K q => q.1) (xs_reti 272 rfl rfl (fun K q => q) (fun ty ht => by cases ht; rfl))
  refine xs_if (fun hc_116 => ?_) (fun hc_116 => ?_)
  · refine xs_step (fun K HC => xr_tabI HC.1.1 21 513 (13 : Int32) rfl hc_116 (by decide) (by decide) rfl (by decide)) ?_
    refine xs_step (fun K HC => xr_aload_n HC.1.1 273 514 (n := 1) (ix := 1) (j := 1) (c := 10) (x := v1) rfl rfl rfl rfl) ?_
    refine xs_calli (s_X_soonest v1 h) (fun K HC x9 hM hmo hb => xr_callV HC.1.1 274 517 (av := []) (st := []) (hM (kg K) (cx_l (kx K))) hmo hb rfl rfl wm_Lw_70 wi_X_soonest ws_X_soonest wc_X_soonest rfl wh_X_soonest (by decide) (by decide) (by decide) (Nat.le_of_ble_eq_true rfl) rfl) (fun x_114 => ?_)
    refine xs_step (fun K HC => xr_aload_n HC.1.1 275 518 (n := 2) (ix := 2) (j := 2) (c := 11) (x := v2) rfl rfl rfl rfl) ?_
    refine xs_calli (s_M_soonest v2 x_114.2) (fun K HC x9 hM hmo hb => xr_callV HC.1.1 276 521 (av := []) (st := [av_I x_114.1]) (hM (kg K) (cx_l (kx K))) hmo hb rfl rfl wm_Lw_73 wi_M_soonest ws_M_soonest wc_M_soonest rfl wh_M_soonest (by decide) (by decide) (by decide) (Nat.le_of_ble_eq_true rfl) rfl) (fun x_115 => ?_)
    refine xs_ite (fun K HC => xr_icmp_eq HC.1.1 277 1089 524 rfl (by decide) rfl) ?_ ?_
    · exact t_Lw_law_1089 xs n9 v0 v1 v2 v3 x_115.2
    refine xs_step (fun K HC => xr_iconst HC.1.1 278 525 (n := (0)) (0 : Int32) rfl rfl rfl) ?_
    exact xs_weak (fun K q => q.1) (xs_reti 279 rfl rfl (fun K q => q) (fun ty ht => by cases ht; rfl))
  refine xs_if (fun hc_119 => ?_) (fun hc_119 => ?_)
  · refine xs_step (fun K HC => xr_tabI HC.1.1 21 526 (14 : Int32) rfl hc_119 (by decide) (by decide) rfl (by decide)) ?_
    refine xs_step (fun K HC => xr_aload_n HC.1.1 280 527 (n := 1) (ix := 1) (j := 1) (c := 10) (x := v1) rfl rfl rfl rfl) ?_
    refine xs_calli (s_X_ends v1 h) (fun K HC x9 hM hmo hb => xr_callV HC.1.1 281 530 (av := []) (st := []) (hM (kg K) (cx_l (kx K))) hmo hb rfl rfl wm_Lw_74 wi_X_ends ws_X_ends wc_X_ends rfl wh_X_ends (by decide) (by decide) (by decide) (Nat.le_of_ble_eq_true rfl) rfl) (fun x_117 => ?_)
    refine xs_step (fun K HC => xr_aload_n HC.1.1 282 531 (n := 2) (ix := 2) (j := 2) (c := 11) (x := v2) rfl rfl rfl rfl) ?_
    refine xs_calli (s_M_ends v2 x_117.2) (fun K HC x9 hM hmo hb => xr_callV HC.1.1 283 534 (av := []) (st := [av_I x_117.1]) (hM (kg K) (cx_l (kx K))) hmo hb rfl rfl wm_Lw_77 wi_M_ends ws_M_ends wc_M_ends rfl wh_M_ends (by decide) (by decide) (by decide) (Nat.le_of_ble_eq_true rfl) rfl) (fun x_118 => ?_)
    refine xs_ite (fun K HC => xr_icmp_eq HC.1.1 284 1089 537 rfl (by decide) rfl) ?_ ?_
    · exact t_Lw_law_1089 xs n9 v0 v1 v2 v3 x_118.2
    refine xs_step (fun K HC => xr_iconst HC.1.1 285 538 (n := (0)) (0 : Int32) rfl rfl rfl) ?_
    exact xs_weak (fun K q => q.1) (xs_reti 286 rfl rfl (fun K q => q) (fun ty ht => by cases ht; rfl))
  refine xs_if (fun hc_122 => ?_) (fun hc_122 => ?_)
  · refine xs_step (fun K HC => xr_tabI HC.1.1 21 539 (15 : Int32) rfl hc_122 (by decide) (by decide) rfl (by decide)) ?_
    refine xs_step (fun K HC => xr_aload_n HC.1.1 287 540 (n := 1) (ix := 1) (j := 1) (c := 10) (x := v1) rfl rfl rfl rfl) ?_
    refine xs_calli (s_X_endless v1 h) (fun K HC x9 hM hmo hb => xr_callV HC.1.1 288 543 (av := []) (st := []) (hM (kg K) (cx_l (kx K))) hmo hb rfl rfl wm_Lw_78 wi_X_endless ws_X_endless wc_X_endless rfl wh_X_endless (by decide) (by decide) (by decide) (Nat.le_of_ble_eq_true rfl) rfl) (fun x_120 => ?_)
    refine xs_step (fun K HC => xr_aload_n HC.1.1 289 544 (n := 2) (ix := 2) (j := 2) (c := 11) (x := v2) rfl rfl rfl rfl) ?_
    refine xs_calli (s_M_endless v2 x_120.2) (fun K HC x9 hM hmo hb => xr_callV HC.1.1 290 547 (av := []) (st := [av_I x_120.1]) (hM (kg K) (cx_l (kx K))) hmo hb rfl rfl wm_Lw_81 wi_M_endless ws_M_endless wc_M_endless rfl wh_M_endless (by decide) (by decide) (by decide) (Nat.le_of_ble_eq_true rfl) rfl) (fun x_121 => ?_)
    refine xs_ite (fun K HC => xr_icmp_eq HC.1.1 291 1089 550 rfl (by decide) rfl) ?_ ?_
    · exact t_Lw_law_1089 xs n9 v0 v1 v2 v3 x_121.2
    refine xs_step (fun K HC => xr_iconst HC.1.1 292 551 (n := (0)) (0 : Int32) rfl rfl rfl) ?_
    exact xs_weak (fun K q => q.1) (xs_reti 293 rfl rfl (fun K q => q) (fun ty ht => by cases ht; rfl))
  refine xs_if (fun hc_125 => ?_) (fun hc_125 => ?_)
  · refine xs_step (fun K HC => xr_tabI HC.1.1 21 552 (16 : Int32) rfl hc_125 (by decide) (by decide) rfl (by decide)) ?_
    refine xs_step (fun K HC => xr_aload_n HC.1.1 294 553 (n := 1) (ix := 1) (j := 1) (c := 10) (x := v1) rfl rfl rfl rfl) ?_
    refine xs_calli (s_X_idle v1 h) (fun K HC x9 hM hmo hb => xr_callV HC.1.1 295 556 (av := []) (st := []) (hM (kg K) (cx_l (kx K))) hmo hb rfl rfl wm_Lw_82 wi_X_idle ws_X_idle wc_X_idle rfl wh_X_idle (by decide) (by decide) (by decide) (Nat.le_of_ble_eq_true rfl) rfl) (fun x_123 => ?_)
    refine xs_step (fun K HC => xr_aload_n HC.1.1 296 557 (n := 2) (ix := 2) (j := 2) (c := 11) (x := v2) rfl rfl rfl rfl) ?_
    refine xs_calli (s_M_idle v2 x_123.2) (fun K HC x9 hM hmo hb => xr_callV HC.1.1 297 560 (av := []) (st := [av_I x_123.1]) (hM (kg K) (cx_l (kx K))) hmo hb rfl rfl wm_Lw_85 wi_M_idle ws_M_idle wc_M_idle rfl wh_M_idle (by decide) (by decide) (by decide) (Nat.le_of_ble_eq_true rfl) rfl) (fun x_124 => ?_)
    refine xs_ite (fun K HC => xr_icmp_eq HC.1.1 298 1089 563 rfl (by decide) rfl) ?_ ?_
    · exact t_Lw_law_1089 xs n9 v0 v1 v2 v3 x_124.2
    refine xs_step (fun K HC => xr_iconst HC.1.1 299 564 (n := (0)) (0 : Int32) rfl rfl rfl) ?_
    exact xs_weak (fun K q => q.1) (xs_reti 300 rfl rfl (fun K q => q) (fun ty ht => by cases ht; rfl))
  refine xs_if (fun hc_132 => ?_) (fun hc_132 => ?_)
  · refine xs_step (fun K HC => xr_tabI HC.1.1 21 565 (17 : Int32) rfl hc_132 (by decide) (by decide) rfl (by decide)) ?_
    refine xs_step (fun K HC => xr_aload_n HC.1.1 301 566 (n := 1) (ix := 1) (j := 1) (c := 10) (x := v1) rfl rfl rfl rfl) ?_
    refine xs_step (fun K HC => xr_aload_n HC.1.1 302 567 (n := 0) (ix := 0) (j := 0) (c := 99) (x := v0) rfl rfl rfl rfl) ?_
    refine xs_step (fun K HC => xr_iload_n HC.1.1 303 568 (n := 3) (ix := 3) (j := 3) (x := v3) rfl rfl rfl rfl) ?_
    refine xs_step (fun K HC => xr_iconst HC.1.1 304 569 (n := (1)) (1 : Int32) rfl rfl rfl) ?_
    refine xs_step (fun K HC => xr_iadd HC.1.1 305 570 rfl rfl) ?_
    refine xs_chk (fun hb_127 => ?_)
    refine xs_step (fun K HC => xr_sld HC.1.1 306 571 HC.2 (hp_in_vp hb_127) rfl rfl) ?_
    refine xs_calli (s_X_most v1 (xs ((v3 + (1 : Int32))).toNatClampNeg) h) (fun K HC x9 hM hmo hb => xr_callV HC.1.1 307 574 (av := [av_I (xs ((v3 + (1 : Int32))).toNatClampNeg)]) (st := []) (hM (kg K) (cx_l (kx K))) hmo hb rfl rfl wm_Lw_86 wi_X_most ws_X_most wc_X_most rfl wh_X_most (by decide) (by decide) (by decide) (Nat.le_of_ble_eq_true rfl) rfl) (fun x_128 => ?_)
    refine xs_step (fun K HC => xr_aload_n HC.1.1 308 575 (n := 2) (ix := 2) (j := 2) (c := 11) (x := v2) rfl rfl rfl rfl) ?_
    refine xs_step (fun K HC => xr_aload_n HC.1.1 309 576 (n := 0) (ix := 0) (j := 0) (c := 99) (x := v0) rfl rfl rfl rfl) ?_
    refine xs_step (fun K HC => xr_iload_n HC.1.1 310 577 (n := 3) (ix := 3) (j := 3) (x := v3) rfl rfl rfl rfl) ?_
    refine xs_step (fun K HC => xr_iconst HC.1.1 311 578 (n := (1)) (1 : Int32) rfl rfl rfl) ?_
    refine xs_step (fun K HC => xr_iadd HC.1.1 312 579 rfl rfl) ?_
    refine xs_chk (fun hb_130 => ?_)
    refine xs_step (fun K HC => xr_sld HC.1.1 313 580 HC.2 (hp_in_vp hb_130) rfl rfl) ?_
    refine xs_calli (s_M_most v2 (xs ((v3 + (1 : Int32))).toNatClampNeg) x_128.2) (fun K HC x9 hM hmo hb => xr_callV HC.1.1 314 583 (av := [av_I (xs ((v3 + (1 : Int32))).toNatClampNeg)]) (st := [av_I x_128.1]) (hM (kg K) (cx_l (kx K))) hmo hb rfl rfl wm_Lw_89 wi_M_most ws_M_most wc_M_most rfl wh_M_most (by decide) (by decide) (by decide) (Nat.le_of_ble_eq_true rfl) rfl) (fun x_131 => ?_)
    refine xs_ite (fun K HC => xr_icmp_eq HC.1.1 315 1089 586 rfl (by decide) rfl) ?_ ?_
    · exact t_Lw_law_1089 xs n9 v0 v1 v2 v3 x_131.2
    refine xs_step (fun K HC => xr_iconst HC.1.1 316 587 (n := (0)) (0 : Int32) rfl rfl rfl) ?_
    exact xs_weak (fun K q => q.1) (xs_reti 317 rfl rfl (fun K q => q) (fun ty ht => by cases ht; rfl))
  refine xs_if (fun hc_139 => ?_) (fun hc_139 => ?_)
  · refine xs_step (fun K HC => xr_tabI HC.1.1 21 588 (18 : Int32) rfl hc_139 (by decide) (by decide) rfl (by decide)) ?_
    refine xs_step (fun K HC => xr_aload_n HC.1.1 318 589 (n := 1) (ix := 1) (j := 1) (c := 10) (x := v1) rfl rfl rfl rfl) ?_
    refine xs_step (fun K HC => xr_aload_n HC.1.1 319 590 (n := 0) (ix := 0) (j := 0) (c := 99) (x := v0) rfl rfl rfl rfl) ?_
    refine xs_step (fun K HC => xr_iload_n HC.1.1 320 591 (n := 3) (ix := 3) (j := 3) (x := v3) rfl rfl rfl rfl) ?_
    refine xs_step (fun K HC => xr_iconst HC.1.1 321 592 (n := (1)) (1 : Int32) rfl rfl rfl) ?_
    refine xs_step (fun K HC => xr_iadd HC.1.1 322 593 rfl rfl) ?_
    refine xs_chk (fun hb_134 => ?_)
    refine xs_step (fun K HC => xr_sld HC.1.1 323 594 HC.2 (hp_in_vp hb_134) rfl rfl) ?_
    refine xs_calli (s_X_bears v1 (xs ((v3 + (1 : Int32))).toNatClampNeg) h) (fun K HC x9 hM hmo hb => xr_callV HC.1.1 324 597 (av := [av_I (xs ((v3 + (1 : Int32))).toNatClampNeg)]) (st := []) (hM (kg K) (cx_l (kx K))) hmo hb rfl rfl wm_Lw_90 wi_X_bears ws_X_bears wc_X_bears rfl wh_X_bears (by decide) (by decide) (by decide) (Nat.le_of_ble_eq_true rfl) rfl) (fun x_135 => ?_)
    refine xs_step (fun K HC => xr_aload_n HC.1.1 325 598 (n := 2) (ix := 2) (j := 2) (c := 11) (x := v2) rfl rfl rfl rfl) ?_
    refine xs_step (fun K HC => xr_aload_n HC.1.1 326 599 (n := 0) (ix := 0) (j := 0) (c := 99) (x := v0) rfl rfl rfl rfl) ?_
    refine xs_step (fun K HC => xr_iload_n HC.1.1 327 600 (n := 3) (ix := 3) (j := 3) (x := v3) rfl rfl rfl rfl) ?_
    refine xs_step (fun K HC => xr_iconst HC.1.1 328 601 (n := (1)) (1 : Int32) rfl rfl rfl) ?_
    refine xs_step (fun K HC => xr_iadd HC.1.1 329 602 rfl rfl) ?_
    refine xs_chk (fun hb_137 => ?_)
    refine xs_step (fun K HC => xr_sld HC.1.1 330 603 HC.2 (hp_in_vp hb_137) rfl rfl) ?_
    refine xs_calli (s_M_bears v2 (xs ((v3 + (1 : Int32))).toNatClampNeg) x_135.2) (fun K HC x9 hM hmo hb => xr_callV HC.1.1 331 606 (av := [av_I (xs ((v3 + (1 : Int32))).toNatClampNeg)]) (st := [av_I x_135.1]) (hM (kg K) (cx_l (kx K))) hmo hb rfl rfl wm_Lw_93 wi_M_bears ws_M_bears wc_M_bears rfl wh_M_bears (by decide) (by decide) (by decide) (Nat.le_of_ble_eq_true rfl) rfl) (fun x_138 => ?_)
    refine xs_ite (fun K HC => xr_icmp_eq HC.1.1 332 1089 609 rfl (by decide) rfl) ?_ ?_
    · exact t_Lw_law_1089 xs n9 v0 v1 v2 v3 x_138.2
    refine xs_step (fun K HC => xr_iconst HC.1.1 333 610 (n := (0)) (0 : Int32) rfl rfl rfl) ?_
    exact xs_weak (fun K q => q.1) (xs_reti 334 rfl rfl (fun K q => q) (fun ty ht => by cases ht; rfl))
  refine xs_if (fun hc_158 => ?_) (fun hc_158 => ?_)
  · refine xs_step (fun K HC => xr_tabI HC.1.1 21 611 (19 : Int32) rfl hc_158 (by decide) (by decide) rfl (by decide)) ?_
    refine xs_step (fun K HC => xr_aload_n HC.1.1 335 612 (n := 1) (ix := 1) (j := 1) (c := 10) (x := v1) rfl rfl rfl rfl) ?_
    refine xs_step (fun K HC => xr_aload_n HC.1.1 336 613 (n := 0) (ix := 0) (j := 0) (c := 99) (x := v0) rfl rfl rfl rfl) ?_
    refine xs_step (fun K HC => xr_iload_n HC.1.1 337 614 (n := 3) (ix := 3) (j := 3) (x := v3) rfl rfl rfl rfl) ?_
    refine xs_step (fun K HC => xr_iconst HC.1.1 338 615 (n := (1)) (1 : Int32) rfl rfl rfl) ?_
    refine xs_step (fun K HC => xr_iadd HC.1.1 339 616 rfl rfl) ?_
    refine xs_chk (fun hb_141 => ?_)
    refine xs_step (fun K HC => xr_sld HC.1.1 340 617 HC.2 (hp_in_vp hb_141) rfl rfl) ?_
    refine xs_step (fun K HC => xr_aload_n HC.1.1 341 618 (n := 0) (ix := 0) (j := 0) (c := 99) (x := v0) rfl rfl rfl rfl) ?_
    refine xs_step (fun K HC => xr_iload_n HC.1.1 342 619 (n := 3) (ix := 3) (j := 3) (x := v3) rfl rfl rfl rfl) ?_
    refine xs_step (fun K HC => xr_iconst HC.1.1 343 620 (n := (2)) (2 : Int32) rfl rfl rfl) ?_
    refine xs_step (fun K HC => xr_iadd HC.1.1 344 621 rfl rfl) ?_
    refine xs_chk (fun hb_143 => ?_)
    refine xs_step (fun K HC => xr_sld HC.1.1 345 622 HC.2 (hp_in_vp hb_143) rfl rfl) ?_
    refine xs_step (fun K HC => xr_aload_n HC.1.1 346 623 (n := 0) (ix := 0) (j := 0) (c := 99) (x := v0) rfl rfl rfl rfl) ?_
    refine xs_step (fun K HC => xr_iload_n HC.1.1 347 624 (n := 3) (ix := 3) (j := 3) (x := v3) rfl rfl rfl rfl) ?_
    refine xs_step (fun K HC => xr_iconst HC.1.1 348 625 (n := (3)) (3 : Int32) rfl rfl rfl) ?_
    refine xs_step (fun K HC => xr_iadd HC.1.1 349 626 rfl rfl) ?_
    refine xs_chk (fun hb_145 => ?_)
    refine xs_step (fun K HC => xr_sld HC.1.1 350 627 HC.2 (hp_in_vp hb_145) rfl rfl) ?_
    refine xs_step (fun K HC => xr_aload_n HC.1.1 351 628 (n := 0) (ix := 0) (j := 0) (c := 99) (x := v0) rfl rfl rfl rfl) ?_
    refine xs_step (fun K HC => xr_iload_n HC.1.1 352 629 (n := 3) (ix := 3) (j := 3) (x := v3) rfl rfl rfl rfl) ?_
    refine xs_step (fun K HC => xr_iconst HC.1.1 353 630 (n := (4)) (4 : Int32) rfl rfl rfl) ?_
    refine xs_step (fun K HC => xr_iadd HC.1.1 354 631 rfl rfl) ?_
    refine xs_chk (fun hb_147 => ?_)
    refine xs_step (fun K HC => xr_sld HC.1.1 355 632 HC.2 (hp_in_vp hb_147) rfl rfl) ?_
    refine xs_calll (s_X_said v1 (xs ((v3 + (1 : Int32))).toNatClampNeg) (xs ((v3 + (2 : Int32))).toNatClampNeg) (xs ((v3 + (3 : Int32))).toNatClampNeg) (xs ((v3 + (4 : Int32))).toNatClampNeg) h) (fun K HC x9 hM hmo hb => xr_callV HC.1.1 356 635 (av := [av_I (xs ((v3 + (1 : Int32))).toNatClampNeg), av_I (xs ((v3 + (2 : Int32))).toNatClampNeg), av_I (xs ((v3 + (3 : Int32))).toNatClampNeg), av_I (xs ((v3 + (4 : Int32))).toNatClampNeg)]) (st := []) (hM (kg K) (cx_l (kx K))) hmo hb rfl rfl wm_Lw_94 wi_X_said ws_X_said wc_X_said rfl wh_X_said (by decide) (by decide) (by decide) (Nat.le_of_ble_eq_true rfl) rfl) (fun x_148 => ?_)
    refine xs_step (fun K HC => xr_aload_n HC.1.1 357 636 (n := 2) (ix := 2) (j := 2) (c := 11) (x := v2) rfl rfl rfl rfl) ?_
    refine xs_step (fun K HC => xr_aload_n HC.1.1 358 637 (n := 0) (ix := 0) (j := 0) (c := 99) (x := v0) rfl rfl rfl rfl) ?_
    refine xs_step (fun K HC => xr_iload_n HC.1.1 359 638 (n := 3) (ix := 3) (j := 3) (x := v3) rfl rfl rfl rfl) ?_
    refine xs_step (fun K HC => xr_iconst HC.1.1 360 639 (n := (1)) (1 : Int32) rfl rfl rfl) ?_
    refine xs_step (fun K HC => xr_iadd HC.1.1 361 640 rfl rfl) ?_
    refine xs_chk (fun hb_150 => ?_)
    refine xs_step (fun K HC => xr_sld HC.1.1 362 641 HC.2 (hp_in_vp hb_150) rfl rfl) ?_
    refine xs_step (fun K HC => xr_aload_n HC.1.1 363 642 (n := 0) (ix := 0) (j := 0) (c := 99) (x := v0) rfl rfl rfl rfl) ?_
    refine xs_step (fun K HC => xr_iload_n HC.1.1 364 643 (n := 3) (ix := 3) (j := 3) (x := v3) rfl rfl rfl rfl) ?_
    refine xs_step (fun K HC => xr_iconst HC.1.1 365 644 (n := (2)) (2 : Int32) rfl rfl rfl) ?_
    refine xs_step (fun K HC => xr_iadd HC.1.1 366 645 rfl rfl) ?_
    refine xs_chk (fun hb_152 => ?_)
    refine xs_step (fun K HC => xr_sld HC.1.1 367 646 HC.2 (hp_in_vp hb_152) rfl rfl) ?_
    refine xs_step (fun K HC => xr_aload_n HC.1.1 368 647 (n := 0) (ix := 0) (j := 0) (c := 99) (x := v0) rfl rfl rfl rfl) ?_
    refine xs_step (fun K HC => xr_iload_n HC.1.1 369 648 (n := 3) (ix := 3) (j := 3) (x := v3) rfl rfl rfl rfl) ?_
    refine xs_step (fun K HC => xr_iconst HC.1.1 370 649 (n := (3)) (3 : Int32) rfl rfl rfl) ?_
    refine xs_step (fun K HC => xr_iadd HC.1.1 371 650 rfl rfl) ?_
    refine xs_chk (fun hb_154 => ?_)
    refine xs_step (fun K HC => xr_sld HC.1.1 372 651 HC.2 (hp_in_vp hb_154) rfl rfl) ?_
    refine xs_step (fun K HC => xr_aload_n HC.1.1 373 652 (n := 0) (ix := 0) (j := 0) (c := 99) (x := v0) rfl rfl rfl rfl) ?_
    refine xs_step (fun K HC => xr_iload_n HC.1.1 374 653 (n := 3) (ix := 3) (j := 3) (x := v3) rfl rfl rfl rfl) ?_
    refine xs_step (fun K HC => xr_iconst HC.1.1 375 654 (n := (4)) (4 : Int32) rfl rfl rfl) ?_
    refine xs_step (fun K HC => xr_iadd HC.1.1 376 655 rfl rfl) ?_
    refine xs_chk (fun hb_156 => ?_)
    refine xs_step (fun K HC => xr_sld HC.1.1 377 656 HC.2 (hp_in_vp hb_156) rfl rfl) ?_
    refine xs_calll (s_M_said v2 (xs ((v3 + (1 : Int32))).toNatClampNeg) (xs ((v3 + (2 : Int32))).toNatClampNeg) (xs ((v3 + (3 : Int32))).toNatClampNeg) (xs ((v3 + (4 : Int32))).toNatClampNeg) x_148.2) (fun K HC x9 hM hmo hb => xr_callV HC.1.1 378 659 (av := [av_I (xs ((v3 + (1 : Int32))).toNatClampNeg), av_I (xs ((v3 + (2 : Int32))).toNatClampNeg), av_I (xs ((v3 + (3 : Int32))).toNatClampNeg), av_I (xs ((v3 + (4 : Int32))).toNatClampNeg)]) (st := [av_L x_148.1]) (hM (kg K) (cx_l (kx K))) hmo hb rfl rfl wm_Lw_98 wi_M_said ws_M_said wc_M_said rfl wh_M_said (by decide) (by decide) (by decide) (Nat.le_of_ble_eq_true rfl) rfl) (fun x_157 => ?_)
    refine xs_step (fun K HC => xr_lcmp HC.1.1 379 660 rfl rfl) ?_
    refine xs_ite (fun K HC => xr_if_eq HC.1.1 380 1089 663 rfl (by decide) rfl) ?_ ?_
    · exact t_Lw_law_1089 xs n9 v0 v1 v2 v3 x_157.2
    refine xs_step (fun K HC => xr_iconst HC.1.1 381 664 (n := (0)) (0 : Int32) rfl rfl rfl) ?_
    exact xs_weak (fun K q => q.1) (xs_reti 382 rfl rfl (fun K q => q) (fun ty ht => by cases ht; rfl))
  refine xs_if (fun hc_173 => ?_) (fun hc_173 => ?_)
  · refine xs_step (fun K HC => xr_tabI HC.1.1 21 665 (20 : Int32) rfl hc_173 (by decide) (by decide) rfl (by decide)) ?_
    refine xs_step (fun K HC => xr_aload_n HC.1.1 383 666 (n := 1) (ix := 1) (j := 1) (c := 10) (x := v1) rfl rfl rfl rfl) ?_
    refine xs_step (fun K HC => xr_aload_n HC.1.1 384 667 (n := 0) (ix := 0) (j := 0) (c := 99) (x := v0) rfl rfl rfl rfl) ?_
    refine xs_step (fun K HC => xr_iload_n HC.1.1 385 668 (n := 3) (ix := 3) (j := 3) (x := v3) rfl rfl rfl rfl) ?_
    refine xs_step (fun K HC => xr_iconst HC.1.1 386 669 (n := (1)) (1 : Int32) rfl rfl rfl) ?_
    refine xs_step (fun K HC => xr_iadd HC.1.1 387 670 rfl rfl) ?_
    refine xs_chk (fun hb_160 => ?_)
    refine xs_step (fun K HC => xr_sld HC.1.1 388 671 HC.2 (hp_in_vp hb_160) rfl rfl) ?_
    refine xs_step (fun K HC => xr_aload_n HC.1.1 389 672 (n := 0) (ix := 0) (j := 0) (c := 99) (x := v0) rfl rfl rfl rfl) ?_
    refine xs_step (fun K HC => xr_iload_n HC.1.1 390 673 (n := 3) (ix := 3) (j := 3) (x := v3) rfl rfl rfl rfl) ?_
    refine xs_step (fun K HC => xr_iconst HC.1.1 391 674 (n := (2)) (2 : Int32) rfl rfl rfl) ?_
    refine xs_step (fun K HC => xr_iadd HC.1.1 392 675 rfl rfl) ?_
    refine xs_chk (fun hb_162 => ?_)
    refine xs_step (fun K HC => xr_sld HC.1.1 393 676 HC.2 (hp_in_vp hb_162) rfl rfl) ?_
    refine xs_step (fun K HC => xr_aload_n HC.1.1 394 677 (n := 0) (ix := 0) (j := 0) (c := 99) (x := v0) rfl rfl rfl rfl) ?_
    refine xs_step (fun K HC => xr_iload_n HC.1.1 395 678 (n := 3) (ix := 3) (j := 3) (x := v3) rfl rfl rfl rfl) ?_
    refine xs_step (fun K HC => xr_iconst HC.1.1 396 679 (n := (3)) (3 : Int32) rfl rfl rfl) ?_
    refine xs_step (fun K HC => xr_iadd HC.1.1 397 680 rfl rfl) ?_
    refine xs_chk (fun hb_164 => ?_)
    refine xs_step (fun K HC => xr_sld HC.1.1 398 681 HC.2 (hp_in_vp hb_164) rfl rfl) ?_
    refine xs_calll (s_X_all v1 (xs ((v3 + (1 : Int32))).toNatClampNeg) (xs ((v3 + (2 : Int32))).toNatClampNeg) (xs ((v3 + (3 : Int32))).toNatClampNeg) h) (fun K HC x9 hM hmo hb => xr_callV HC.1.1 399 684 (av := [av_I (xs ((v3 + (1 : Int32))).toNatClampNeg), av_I (xs ((v3 + (2 : Int32))).toNatClampNeg), av_I (xs ((v3 + (3 : Int32))).toNatClampNeg)]) (st := []) (hM (kg K) (cx_l (kx K))) hmo hb rfl rfl wm_Lw_99 wi_X_all ws_X_all wc_X_all rfl wh_X_all (by decide) (by decide) (by decide) (Nat.le_of_ble_eq_true rfl) rfl) (fun x_165 => ?_)
    refine xs_step (fun K HC => xr_aload_n HC.1.1 400 685 (n := 2) (ix := 2) (j := 2) (c := 11) (x := v2) rfl rfl rfl rfl) ?_
    refine xs_step (fun K HC => xr_aload_n HC.1.1 401 686 (n := 0) (ix := 0) (j := 0) (c := 99) (x := v0) rfl rfl rfl rfl) ?_
    refine xs_step (fun K HC => xr_iload_n HC.1.1 402 687 (n := 3) (ix := 3) (j := 3) (x := v3) rfl rfl rfl rfl) ?_
    refine xs_step (fun K HC => xr_iconst HC.1.1 403 688 (n := (1)) (1 : Int32) rfl rfl rfl) ?_
    refine xs_step (fun K HC => xr_iadd HC.1.1 404 689 rfl rfl) ?_
    refine xs_chk (fun hb_167 => ?_)
    refine xs_step (fun K HC => xr_sld HC.1.1 405 690 HC.2 (hp_in_vp hb_167) rfl rfl) ?_
    refine xs_step (fun K HC => xr_aload_n HC.1.1 406 691 (n := 0) (ix := 0) (j := 0) (c := 99) (x := v0) rfl rfl rfl rfl) ?_
    refine xs_step (fun K HC => xr_iload_n HC.1.1 407 692 (n := 3) (ix := 3) (j := 3) (x := v3) rfl rfl rfl rfl) ?_
    refine xs_step (fun K HC => xr_iconst HC.1.1 408 693 (n := (2)) (2 : Int32) rfl rfl rfl) ?_
    refine xs_step (fun K HC => xr_iadd HC.1.1 409 694 rfl rfl) ?_
    refine xs_chk (fun hb_169 => ?_)
    refine xs_step (fun K HC => xr_sld HC.1.1 410 695 HC.2 (hp_in_vp hb_169) rfl rfl) ?_
    refine xs_step (fun K HC => xr_aload_n HC.1.1 411 696 (n := 0) (ix := 0) (j := 0) (c := 99) (x := v0) rfl rfl rfl rfl) ?_
    refine xs_step (fun K HC => xr_iload_n HC.1.1 412 697 (n := 3) (ix := 3) (j := 3) (x := v3) rfl rfl rfl rfl) ?_
    refine xs_step (fun K HC => xr_iconst HC.1.1 413 698 (n := (3)) (3 : Int32) rfl rfl rfl) ?_
    refine xs_step (fun K HC => xr_iadd HC.1.1 414 699 rfl rfl) ?_
    refine xs_chk (fun hb_171 => ?_)
    refine xs_step (fun K HC => xr_sld HC.1.1 415 700 HC.2 (hp_in_vp hb_171) rfl rfl) ?_
    refine xs_calll (s_M_all v2 (xs ((v3 + (1 : Int32))).toNatClampNeg) (xs ((v3 + (2 : Int32))).toNatClampNeg) (xs ((v3 + (3 : Int32))).toNatClampNeg) x_165.2) (fun K HC x9 hM hmo hb => xr_callV HC.1.1 416 703 (av := [av_I (xs ((v3 + (1 : Int32))).toNatClampNeg), av_I (xs ((v3 + (2 : Int32))).toNatClampNeg), av_I (xs ((v3 + (3 : Int32))).toNatClampNeg)]) (st := [av_L x_165.1]) (hM (kg K) (cx_l (kx K))) hmo hb rfl rfl wm_Lw_103 wi_M_all ws_M_all wc_M_all rfl wh_M_all (by decide) (by decide) (by decide) (Nat.le_of_ble_eq_true rfl) rfl) (fun x_172 => ?_)
    refine xs_step (fun K HC => xr_lcmp HC.1.1 417 704 rfl rfl) ?_
    refine xs_ite (fun K HC => xr_if_eq HC.1.1 418 1089 707 rfl (by decide) rfl) ?_ ?_
    · exact t_Lw_law_1089 xs n9 v0 v1 v2 v3 x_172.2
    refine xs_step (fun K HC => xr_iconst HC.1.1 419 708 (n := (0)) (0 : Int32) rfl rfl rfl) ?_
    exact xs_weak (fun K q => q.1) (xs_reti 420 rfl rfl (fun K q => q) (fun ty ht => by cases ht; rfl))
  refine xs_if (fun hc_184 => ?_) (fun hc_184 => ?_)
  · refine xs_step (fun K HC => xr_tabI HC.1.1 21 709 (21 : Int32) rfl hc_184 (by decide) (by decide) rfl (by decide)) ?_
    refine xs_step (fun K HC => xr_aload_n HC.1.1 421 710 (n := 1) (ix := 1) (j := 1) (c := 10) (x := v1) rfl rfl rfl rfl) ?_
    refine xs_step (fun K HC => xr_aload_n HC.1.1 422 711 (n := 0) (ix := 0) (j := 0) (c := 99) (x := v0) rfl rfl rfl rfl) ?_
    refine xs_step (fun K HC => xr_iload_n HC.1.1 423 712 (n := 3) (ix := 3) (j := 3) (x := v3) rfl rfl rfl rfl) ?_
    refine xs_step (fun K HC => xr_iconst HC.1.1 424 713 (n := (1)) (1 : Int32) rfl rfl rfl) ?_
    refine xs_step (fun K HC => xr_iadd HC.1.1 425 714 rfl rfl) ?_
    refine xs_chk (fun hb_175 => ?_)
    refine xs_step (fun K HC => xr_sld HC.1.1 426 715 HC.2 (hp_in_vp hb_175) rfl rfl) ?_
    refine xs_step (fun K HC => xr_aload_n HC.1.1 427 716 (n := 0) (ix := 0) (j := 0) (c := 99) (x := v0) rfl rfl rfl rfl) ?_
    refine xs_step (fun K HC => xr_iload_n HC.1.1 428 717 (n := 3) (ix := 3) (j := 3) (x := v3) rfl rfl rfl rfl) ?_
    refine xs_step (fun K HC => xr_iconst HC.1.1 429 718 (n := (2)) (2 : Int32) rfl rfl rfl) ?_
    refine xs_step (fun K HC => xr_iadd HC.1.1 430 719 rfl rfl) ?_
    refine xs_chk (fun hb_177 => ?_)
    refine xs_step (fun K HC => xr_sld HC.1.1 431 720 HC.2 (hp_in_vp hb_177) rfl rfl) ?_
    refine xs_calli (s_X_guess v1 (xs ((v3 + (1 : Int32))).toNatClampNeg) (xs ((v3 + (2 : Int32))).toNatClampNeg) h) (fun K HC x9 hM hmo hb => xr_callV HC.1.1 432 723 (av := [av_I (xs ((v3 + (1 : Int32))).toNatClampNeg), av_I (xs ((v3 + (2 : Int32))).toNatClampNeg)]) (st := []) (hM (kg K) (cx_l (kx K))) hmo hb rfl rfl wm_Lw_104 wi_X_guess ws_X_guess wc_X_guess rfl wh_X_guess (by decide) (by decide) (by decide) (Nat.le_of_ble_eq_true rfl) rfl) (fun x_178 => ?_)
    refine xs_step (fun K HC => xr_aload_n HC.1.1 433 724 (n := 2) (ix := 2) (j := 2) (c := 11) (x := v2) rfl rfl rfl rfl) ?_
    refine xs_step (fun K HC => xr_aload_n HC.1.1 434 725 (n := 0) (ix := 0) (j := 0) (c := 99) (x := v0) rfl rfl rfl rfl) ?_
    refine xs_step (fun K HC => xr_iload_n HC.1.1 435 726 (n := 3) (ix := 3) (j := 3) (x := v3) rfl rfl rfl rfl) ?_
    refine xs_step (fun K HC => xr_iconst HC.1.1 436 727 (n := (1)) (1 : Int32) rfl rfl rfl) ?_
    refine xs_step (fun K HC => xr_iadd HC.1.1 437 728 rfl rfl) ?_
    refine xs_chk (fun hb_180 => ?_)
    refine xs_step (fun K HC => xr_sld HC.1.1 438 729 HC.2 (hp_in_vp hb_180) rfl rfl) ?_
    refine xs_step (fun K HC => xr_aload_n HC.1.1 439 730 (n := 0) (ix := 0) (j := 0) (c := 99) (x := v0) rfl rfl rfl rfl) ?_
    refine xs_step (fun K HC => xr_iload_n HC.1.1 440 731 (n := 3) (ix := 3) (j := 3) (x := v3) rfl rfl rfl rfl) ?_
    refine xs_step (fun K HC => xr_iconst HC.1.1 441 732 (n := (2)) (2 : Int32) rfl rfl rfl) ?_
    refine xs_step (fun K HC => xr_iadd HC.1.1 442 733 rfl rfl) ?_
    refine xs_chk (fun hb_182 => ?_)
    refine xs_step (fun K HC => xr_sld HC.1.1 443 734 HC.2 (hp_in_vp hb_182) rfl rfl) ?_
    refine xs_calli (s_M_guess v2 (xs ((v3 + (1 : Int32))).toNatClampNeg) (xs ((v3 + (2 : Int32))).toNatClampNeg) x_178.2) (fun K HC x9 hM hmo hb => xr_callV HC.1.1 444 737 (av := [av_I (xs ((v3 + (1 : Int32))).toNatClampNeg), av_I (xs ((v3 + (2 : Int32))).toNatClampNeg)]) (st := [av_I x_178.1]) (hM (kg K) (cx_l (kx K))) hmo hb rfl rfl wm_Lw_107 wi_M_guess ws_M_guess wc_M_guess rfl wh_M_guess (by decide) (by decide) (by decide) (Nat.le_of_ble_eq_true rfl) rfl) (fun x_183 => ?_)
    refine xs_ite (fun K HC => xr_icmp_eq HC.1.1 445 1089 740 rfl (by decide) rfl) ?_ ?_
    · exact t_Lw_law_1089 xs n9 v0 v1 v2 v3 x_183.2
    refine xs_step (fun K HC => xr_iconst HC.1.1 446 741 (n := (0)) (0 : Int32) rfl rfl rfl) ?_
    exact xs_weak (fun K q => q.1) (xs_reti 447 rfl rfl (fun K q => q) (fun ty ht => by cases ht; rfl))
  refine xs_if (fun hc_195 => ?_) (fun hc_195 => ?_)
  · refine xs_step (fun K HC => xr_tabI HC.1.1 21 742 (22 : Int32) rfl hc_195 (by decide) (by decide) rfl (by decide)) ?_
    refine xs_step (fun K HC => xr_aload_n HC.1.1 448 743 (n := 1) (ix := 1) (j := 1) (c := 10) (x := v1) rfl rfl rfl rfl) ?_
    refine xs_step (fun K HC => xr_aload_n HC.1.1 449 744 (n := 0) (ix := 0) (j := 0) (c := 99) (x := v0) rfl rfl rfl rfl) ?_
    refine xs_step (fun K HC => xr_iload_n HC.1.1 450 745 (n := 3) (ix := 3) (j := 3) (x := v3) rfl rfl rfl rfl) ?_
    refine xs_step (fun K HC => xr_iconst HC.1.1 451 746 (n := (1)) (1 : Int32) rfl rfl rfl) ?_
    refine xs_step (fun K HC => xr_iadd HC.1.1 452 747 rfl rfl) ?_
    refine xs_chk (fun hb_186 => ?_)
    refine xs_step (fun K HC => xr_sld HC.1.1 453 748 HC.2 (hp_in_vp hb_186) rfl rfl) ?_
    refine xs_step (fun K HC => xr_aload_n HC.1.1 454 749 (n := 0) (ix := 0) (j := 0) (c := 99) (x := v0) rfl rfl rfl rfl) ?_
    refine xs_step (fun K HC => xr_iload_n HC.1.1 455 750 (n := 3) (ix := 3) (j := 3) (x := v3) rfl rfl rfl rfl) ?_
    refine xs_step (fun K HC => xr_iconst HC.1.1 456 751 (n := (2)) (2 : Int32) rfl rfl rfl) ?_
    refine xs_step (fun K HC => xr_iadd HC.1.1 457 752 rfl rfl) ?_
    refine xs_chk (fun hb_188 => ?_)
    refine xs_step (fun K HC => xr_sld HC.1.1 458 753 HC.2 (hp_in_vp hb_188) rfl rfl) ?_
    refine xs_calll (s_X_mean v1 (xs ((v3 + (1 : Int32))).toNatClampNeg) (xs ((v3 + (2 : Int32))).toNatClampNeg) h) (fun K HC x9 hM hmo hb => xr_callV HC.1.1 459 756 (av := [av_I (xs ((v3 + (1 : Int32))).toNatClampNeg), av_I (xs ((v3 + (2 : Int32))).toNatClampNeg)]) (st := []) (hM (kg K) (cx_l (kx K))) hmo hb rfl rfl wm_Lw_108 wi_X_mean ws_X_mean wc_X_mean rfl wh_X_mean (by decide) (by decide) (by decide) (Nat.le_of_ble_eq_true rfl) rfl) (fun x_189 => ?_)
    refine xs_step (fun K HC => xr_aload_n HC.1.1 460 757 (n := 2) (ix := 2) (j := 2) (c := 11) (x := v2) rfl rfl rfl rfl) ?_
    refine xs_step (fun K HC => xr_aload_n HC.1.1 461 758 (n := 0) (ix := 0) (j := 0) (c := 99) (x := v0) rfl rfl rfl rfl) ?_
    refine xs_step (fun K HC => xr_iload_n HC.1.1 462 759 (n := 3) (ix := 3) (j := 3) (x := v3) rfl rfl rfl rfl) ?_
    refine xs_step (fun K HC => xr_iconst HC.1.1 463 760 (n := (1)) (1 : Int32) rfl rfl rfl) ?_
    refine xs_step (fun K HC => xr_iadd HC.1.1 464 761 rfl rfl) ?_
    refine xs_chk (fun hb_191 => ?_)
    refine xs_step (fun K HC => xr_sld HC.1.1 465 762 HC.2 (hp_in_vp hb_191) rfl rfl) ?_
    refine xs_step (fun K HC => xr_aload_n HC.1.1 466 763 (n := 0) (ix := 0) (j := 0) (c := 99) (x := v0) rfl rfl rfl rfl) ?_
    refine xs_step (fun K HC => xr_iload_n HC.1.1 467 764 (n := 3) (ix := 3) (j := 3) (x := v3) rfl rfl rfl rfl) ?_
    refine xs_step (fun K HC => xr_iconst HC.1.1 468 765 (n := (2)) (2 : Int32) rfl rfl rfl) ?_
    refine xs_step (fun K HC => xr_iadd HC.1.1 469 766 rfl rfl) ?_
    refine xs_chk (fun hb_193 => ?_)
    refine xs_step (fun K HC => xr_sld HC.1.1 470 767 HC.2 (hp_in_vp hb_193) rfl rfl) ?_
    refine xs_calll (s_M_mean v2 (xs ((v3 + (1 : Int32))).toNatClampNeg) (xs ((v3 + (2 : Int32))).toNatClampNeg) x_189.2) (fun K HC x9 hM hmo hb => xr_callV HC.1.1 471 770 (av := [av_I (xs ((v3 + (1 : Int32))).toNatClampNeg), av_I (xs ((v3 + (2 : Int32))).toNatClampNeg)]) (st := [av_L x_189.1]) (hM (kg K) (cx_l (kx K))) hmo hb rfl rfl wm_Lw_112 wi_M_mean ws_M_mean wc_M_mean rfl wh_M_mean (by decide) (by decide) (by decide) (Nat.le_of_ble_eq_true rfl) rfl) (fun x_194 => ?_)
    refine xs_step (fun K HC => xr_lcmp HC.1.1 472 771 rfl rfl) ?_
    refine xs_ite (fun K HC => xr_if_eq HC.1.1 473 1089 774 rfl (by decide) rfl) ?_ ?_
    · exact t_Lw_law_1089 xs n9 v0 v1 v2 v3 x_194.2
    refine xs_step (fun K HC => xr_iconst HC.1.1 474 775 (n := (0)) (0 : Int32) rfl rfl rfl) ?_
    exact xs_weak (fun K q => q.1) (xs_reti 475 rfl rfl (fun K q => q) (fun ty ht => by cases ht; rfl))
  refine xs_if (fun hc_214 => ?_) (fun hc_214 => ?_)
  · refine xs_step (fun K HC => xr_tabI HC.1.1 21 776 (23 : Int32) rfl hc_214 (by decide) (by decide) rfl (by decide)) ?_
    refine xs_step (fun K HC => xr_aload_n HC.1.1 476 777 (n := 1) (ix := 1) (j := 1) (c := 10) (x := v1) rfl rfl rfl rfl) ?_
    refine xs_step (fun K HC => xr_aload_n HC.1.1 477 778 (n := 0) (ix := 0) (j := 0) (c := 99) (x := v0) rfl rfl rfl rfl) ?_
    refine xs_step (fun K HC => xr_iload_n HC.1.1 478 779 (n := 3) (ix := 3) (j := 3) (x := v3) rfl rfl rfl rfl) ?_
    refine xs_step (fun K HC => xr_iconst HC.1.1 479 780 (n := (1)) (1 : Int32) rfl rfl rfl) ?_
    refine xs_step (fun K HC => xr_iadd HC.1.1 480 781 rfl rfl) ?_
    refine xs_chk (fun hb_197 => ?_)
    refine xs_step (fun K HC => xr_sld HC.1.1 481 782 HC.2 (hp_in_vp hb_197) rfl rfl) ?_
    refine xs_step (fun K HC => xr_aload_n HC.1.1 482 783 (n := 0) (ix := 0) (j := 0) (c := 99) (x := v0) rfl rfl rfl rfl) ?_
    refine xs_step (fun K HC => xr_iload_n HC.1.1 483 784 (n := 3) (ix := 3) (j := 3) (x := v3) rfl rfl rfl rfl) ?_
    refine xs_step (fun K HC => xr_iconst HC.1.1 484 785 (n := (2)) (2 : Int32) rfl rfl rfl) ?_
    refine xs_step (fun K HC => xr_iadd HC.1.1 485 786 rfl rfl) ?_
    refine xs_chk (fun hb_199 => ?_)
    refine xs_step (fun K HC => xr_sld HC.1.1 486 787 HC.2 (hp_in_vp hb_199) rfl rfl) ?_
    refine xs_step (fun K HC => xr_aload_n HC.1.1 487 788 (n := 0) (ix := 0) (j := 0) (c := 99) (x := v0) rfl rfl rfl rfl) ?_
    refine xs_step (fun K HC => xr_iload_n HC.1.1 488 789 (n := 3) (ix := 3) (j := 3) (x := v3) rfl rfl rfl rfl) ?_
    refine xs_step (fun K HC => xr_iconst HC.1.1 489 790 (n := (3)) (3 : Int32) rfl rfl rfl) ?_
    refine xs_step (fun K HC => xr_iadd HC.1.1 490 791 rfl rfl) ?_
    refine xs_chk (fun hb_201 => ?_)
    refine xs_step (fun K HC => xr_sld HC.1.1 491 792 HC.2 (hp_in_vp hb_201) rfl rfl) ?_
    refine xs_step (fun K HC => xr_aload_n HC.1.1 492 793 (n := 0) (ix := 0) (j := 0) (c := 99) (x := v0) rfl rfl rfl rfl) ?_
    refine xs_step (fun K HC => xr_iload_n HC.1.1 493 794 (n := 3) (ix := 3) (j := 3) (x := v3) rfl rfl rfl rfl) ?_
    refine xs_step (fun K HC => xr_iconst HC.1.1 494 795 (n := (4)) (4 : Int32) rfl rfl rfl) ?_
    refine xs_step (fun K HC => xr_iadd HC.1.1 495 796 rfl rfl) ?_
    refine xs_chk (fun hb_203 => ?_)
    refine xs_step (fun K HC => xr_sld HC.1.1 496 797 HC.2 (hp_in_vp hb_203) rfl rfl) ?_
    refine xs_calli (s_X_counter v1 (xs ((v3 + (1 : Int32))).toNatClampNeg) (xs ((v3 + (2 : Int32))).toNatClampNeg) (xs ((v3 + (3 : Int32))).toNatClampNeg) (xs ((v3 + (4 : Int32))).toNatClampNeg) h) (fun K HC x9 hM hmo hb => xr_callV HC.1.1 497 800 (av := [av_I (xs ((v3 + (1 : Int32))).toNatClampNeg), av_I (xs ((v3 + (2 : Int32))).toNatClampNeg), av_I (xs ((v3 + (3 : Int32))).toNatClampNeg), av_I (xs ((v3 + (4 : Int32))).toNatClampNeg)]) (st := []) (hM (kg K) (cx_l (kx K))) hmo hb rfl rfl wm_Lw_113 wi_X_counter ws_X_counter wc_X_counter rfl wh_X_counter (by decide) (by decide) (by decide) (Nat.le_of_ble_eq_true rfl) rfl) (fun x_204 => ?_)
    refine xs_step (fun K HC => xr_aload_n HC.1.1 498 801 (n := 2) (ix := 2) (j := 2) (c := 11) (x := v2) rfl rfl rfl rfl) ?_
    refine xs_step (fun K HC => xr_aload_n HC.1.1 499 802 (n := 0) (ix := 0) (j := 0) (c := 99) (x := v0) rfl rfl rfl rfl) ?_
    refine xs_step (fun K HC => xr_iload_n HC.1.1 500 803 (n := 3) (ix := 3) (j := 3) (x := v3) rfl rfl rfl rfl) ?_
    refine xs_step (fun K HC => xr_iconst HC.1.1 501 804 (n := (1)) (1 : Int32) rfl rfl rfl) ?_
    refine xs_step (fun K HC => xr_iadd HC.1.1 502 805 rfl rfl) ?_
    refine xs_chk (fun hb_206 => ?_)
    refine xs_step (fun K HC => xr_sld HC.1.1 503 806 HC.2 (hp_in_vp hb_206) rfl rfl) ?_
    refine xs_step (fun K HC => xr_aload_n HC.1.1 504 807 (n := 0) (ix := 0) (j := 0) (c := 99) (x := v0) rfl rfl rfl rfl) ?_
    refine xs_step (fun K HC => xr_iload_n HC.1.1 505 808 (n := 3) (ix := 3) (j := 3) (x := v3) rfl rfl rfl rfl) ?_
    refine xs_step (fun K HC => xr_iconst HC.1.1 506 809 (n := (2)) (2 : Int32) rfl rfl rfl) ?_
    refine xs_step (fun K HC => xr_iadd HC.1.1 507 810 rfl rfl) ?_
    refine xs_chk (fun hb_208 => ?_)
    refine xs_step (fun K HC => xr_sld HC.1.1 508 811 HC.2 (hp_in_vp hb_208) rfl rfl) ?_
    refine xs_step (fun K HC => xr_aload_n HC.1.1 509 812 (n := 0) (ix := 0) (j := 0) (c := 99) (x := v0) rfl rfl rfl rfl) ?_
    refine xs_step (fun K HC => xr_iload_n HC.1.1 510 813 (n := 3) (ix := 3) (j := 3) (x := v3) rfl rfl rfl rfl) ?_
    refine xs_step (fun K HC => xr_iconst HC.1.1 511 814 (n := (3)) (3 : Int32) rfl rfl rfl) ?_
    refine xs_step (fun K HC => xr_iadd HC.1.1 512 815 rfl rfl) ?_
    refine xs_chk (fun hb_210 => ?_)
    refine xs_step (fun K HC => xr_sld HC.1.1 513 816 HC.2 (hp_in_vp hb_210) rfl rfl) ?_
    refine xs_step (fun K HC => xr_aload_n HC.1.1 514 817 (n := 0) (ix := 0) (j := 0) (c := 99) (x := v0) rfl rfl rfl rfl) ?_
    refine xs_step (fun K HC => xr_iload_n HC.1.1 515 818 (n := 3) (ix := 3) (j := 3) (x := v3) rfl rfl rfl rfl) ?_
    refine xs_step (fun K HC => xr_iconst HC.1.1 516 819 (n := (4)) (4 : Int32) rfl rfl rfl) ?_
    refine xs_step (fun K HC => xr_iadd HC.1.1 517 820 rfl rfl) ?_
    refine xs_chk (fun hb_212 => ?_)
    refine xs_step (fun K HC => xr_sld HC.1.1 518 821 HC.2 (hp_in_vp hb_212) rfl rfl) ?_
    refine xs_calli (s_M_counter v2 (xs ((v3 + (1 : Int32))).toNatClampNeg) (xs ((v3 + (2 : Int32))).toNatClampNeg) (xs ((v3 + (3 : Int32))).toNatClampNeg) (xs ((v3 + (4 : Int32))).toNatClampNeg) x_204.2) (fun K HC x9 hM hmo hb => xr_callV HC.1.1 519 824 (av := [av_I (xs ((v3 + (1 : Int32))).toNatClampNeg), av_I (xs ((v3 + (2 : Int32))).toNatClampNeg), av_I (xs ((v3 + (3 : Int32))).toNatClampNeg), av_I (xs ((v3 + (4 : Int32))).toNatClampNeg)]) (st := [av_I x_204.1]) (hM (kg K) (cx_l (kx K))) hmo hb rfl rfl wm_Lw_117 wi_M_counter ws_M_counter wc_M_counter rfl wh_M_counter (by decide) (by decide) (by decide) (Nat.le_of_ble_eq_true rfl) rfl) (fun x_213 => ?_)
    refine xs_ite (fun K HC => xr_icmp_eq HC.1.1 520 1089 827 rfl (by decide) rfl) ?_ ?_
    · exact t_Lw_law_1089 xs n9 v0 v1 v2 v3 x_213.2
    refine xs_step (fun K HC => xr_iconst HC.1.1 521 828 (n := (0)) (0 : Int32) rfl rfl rfl) ?_
    exact xs_weak (fun K q => q.1) (xs_reti 522 rfl rfl (fun K q => q) (fun ty ht => by cases ht; rfl))
  refine xs_if (fun hc_217 => ?_) (fun hc_217 => ?_)
  · refine xs_step (fun K HC => xr_tabI HC.1.1 21 829 (24 : Int32) rfl hc_217 (by decide) (by decide) rfl (by decide)) ?_
    refine xs_step (fun K HC => xr_aload_n HC.1.1 523 830 (n := 1) (ix := 1) (j := 1) (c := 10) (x := v1) rfl rfl rfl rfl) ?_
    refine xs_calli (s_X_fair v1 h) (fun K HC x9 hM hmo hb => xr_callV HC.1.1 524 833 (av := []) (st := []) (hM (kg K) (cx_l (kx K))) hmo hb rfl rfl wm_Lw_118 wi_X_fair ws_X_fair wc_X_fair rfl wh_X_fair (by decide) (by decide) (by decide) (Nat.le_of_ble_eq_true rfl) rfl) (fun x_215 => ?_)
    refine xs_step (fun K HC => xr_aload_n HC.1.1 525 834 (n := 2) (ix := 2) (j := 2) (c := 11) (x := v2) rfl rfl rfl rfl) ?_
    refine xs_calli (s_M_fair v2 x_215.2) (fun K HC x9 hM hmo hb => xr_callV HC.1.1 526 837 (av := []) (st := [av_I x_215.1]) (hM (kg K) (cx_l (kx K))) hmo hb rfl rfl wm_Lw_121 wi_M_fair ws_M_fair wc_M_fair rfl wh_M_fair (by decide) (by decide) (by decide) (Nat.le_of_ble_eq_true rfl) rfl) (fun x_216 => ?_)
    refine xs_ite (fun K HC => xr_icmp_eq HC.1.1 527 1089 840 rfl (by decide) rfl) ?_ ?_
    · exact t_Lw_law_1089 xs n9 v0 v1 v2 v3 x_216.2
    refine xs_step (fun K HC => xr_iconst HC.1.1 528 841 (n := (0)) (0 : Int32) rfl rfl rfl) ?_
    exact xs_weak (fun K q => q.1) (xs_reti 529 rfl rfl (fun K q => q) (fun ty ht => by cases ht; rfl))
  refine xs_if (fun hc_228 => ?_) (fun hc_228 => ?_)
  · refine xs_step (fun K HC => xr_tabI HC.1.1 21 842 (25 : Int32) rfl hc_228 (by decide) (by decide) rfl (by decide)) ?_
    refine xs_step (fun K HC => xr_aload_n HC.1.1 530 843 (n := 1) (ix := 1) (j := 1) (c := 10) (x := v1) rfl rfl rfl rfl) ?_
    refine xs_step (fun K HC => xr_aload_n HC.1.1 531 844 (n := 0) (ix := 0) (j := 0) (c := 99) (x := v0) rfl rfl rfl rfl) ?_
    refine xs_step (fun K HC => xr_iload_n HC.1.1 532 845 (n := 3) (ix := 3) (j := 3) (x := v3) rfl rfl rfl rfl) ?_
    refine xs_step (fun K HC => xr_iconst HC.1.1 533 846 (n := (1)) (1 : Int32) rfl rfl rfl) ?_
    refine xs_step (fun K HC => xr_iadd HC.1.1 534 847 rfl rfl) ?_
    refine xs_chk (fun hb_219 => ?_)
    refine xs_step (fun K HC => xr_sld HC.1.1 535 848 HC.2 (hp_in_vp hb_219) rfl rfl) ?_
    refine xs_step (fun K HC => xr_aload_n HC.1.1 536 849 (n := 0) (ix := 0) (j := 0) (c := 99) (x := v0) rfl rfl rfl rfl) ?_
    refine xs_step (fun K HC => xr_iload_n HC.1.1 537 850 (n := 3) (ix := 3) (j := 3) (x := v3) rfl rfl rfl rfl) ?_
    refine xs_step (fun K HC => xr_iconst HC.1.1 538 851 (n := (2)) (2 : Int32) rfl rfl rfl) ?_
    refine xs_step (fun K HC => xr_iadd HC.1.1 539 852 rfl rfl) ?_
    refine xs_chk (fun hb_221 => ?_)
    refine xs_step (fun K HC => xr_sld HC.1.1 540 853 HC.2 (hp_in_vp hb_221) rfl rfl) ?_
    refine xs_calli (s_X_log v1 (xs ((v3 + (1 : Int32))).toNatClampNeg) (xs ((v3 + (2 : Int32))).toNatClampNeg) h) (fun K HC x9 hM hmo hb => xr_callV HC.1.1 541 856 (av := [av_I (xs ((v3 + (1 : Int32))).toNatClampNeg), av_I (xs ((v3 + (2 : Int32))).toNatClampNeg)]) (st := []) (hM (kg K) (cx_l (kx K))) hmo hb rfl rfl wm_Lw_122 wi_X_log ws_X_log wc_X_log rfl wh_X_log (by decide) (by decide) (by decide) (Nat.le_of_ble_eq_true rfl) rfl) (fun x_222 => ?_)
    refine xs_step (fun K HC => xr_aload_n HC.1.1 542 857 (n := 2) (ix := 2) (j := 2) (c := 11) (x := v2) rfl rfl rfl rfl) ?_
    refine xs_step (fun K HC => xr_aload_n HC.1.1 543 858 (n := 0) (ix := 0) (j := 0) (c := 99) (x := v0) rfl rfl rfl rfl) ?_
    refine xs_step (fun K HC => xr_iload_n HC.1.1 544 859 (n := 3) (ix := 3) (j := 3) (x := v3) rfl rfl rfl rfl) ?_
    refine xs_step (fun K HC => xr_iconst HC.1.1 545 860 (n := (1)) (1 : Int32) rfl rfl rfl) ?_
    refine xs_step (fun K HC => xr_iadd HC.1.1 546 861 rfl rfl) ?_
    refine xs_chk (fun hb_224 => ?_)
    refine xs_step (fun K HC => xr_sld HC.1.1 547 862 HC.2 (hp_in_vp hb_224) rfl rfl) ?_
    refine xs_step (fun K HC => xr_aload_n HC.1.1 548 863 (n := 0) (ix := 0) (j := 0) (c := 99) (x := v0) rfl rfl rfl rfl) ?_
    refine xs_step (fun K HC => xr_iload_n HC.1.1 549 864 (n := 3) (ix := 3) (j := 3) (x := v3) rfl rfl rfl rfl) ?_
    refine xs_step (fun K HC => xr_iconst HC.1.1 550 865 (n := (2)) (2 : Int32) rfl rfl rfl) ?_
    refine xs_step (fun K HC => xr_iadd HC.1.1 551 866 rfl rfl) ?_
    refine xs_chk (fun hb_226 => ?_)
    refine xs_step (fun K HC => xr_sld HC.1.1 552 867 HC.2 (hp_in_vp hb_226) rfl rfl) ?_
    refine xs_calli (s_M_log v2 (xs ((v3 + (1 : Int32))).toNatClampNeg) (xs ((v3 + (2 : Int32))).toNatClampNeg) x_222.2) (fun K HC x9 hM hmo hb => xr_callV HC.1.1 553 870 (av := [av_I (xs ((v3 + (1 : Int32))).toNatClampNeg), av_I (xs ((v3 + (2 : Int32))).toNatClampNeg)]) (st := [av_I x_222.1]) (hM (kg K) (cx_l (kx K))) hmo hb rfl rfl wm_Lw_125 wi_M_log ws_M_log wc_M_log rfl wh_M_log (by decide) (by decide) (by decide) (Nat.le_of_ble_eq_true rfl) rfl) (fun x_227 => ?_)
    refine xs_ite (fun K HC => xr_icmp_eq HC.1.1 554 1089 873 rfl (by decide) rfl) ?_ ?_
    · exact t_Lw_law_1089 xs n9 v0 v1 v2 v3 x_227.2
    refine xs_step (fun K HC => xr_iconst HC.1.1 555 874 (n := (0)) (0 : Int32) rfl rfl rfl) ?_
    exact xs_weak (fun K q => q.1) (xs_reti 556 rfl rfl (fun K q => q) (fun ty ht => by cases ht; rfl))
  refine xs_if (fun hc_235 => ?_) (fun hc_235 => ?_)
  · refine xs_step (fun K HC => xr_tabI HC.1.1 21 875 (26 : Int32) rfl hc_235 (by decide) (by decide) rfl (by decide)) ?_
    refine xs_step (fun K HC => xr_aload_n HC.1.1 557 876 (n := 1) (ix := 1) (j := 1) (c := 10) (x := v1) rfl rfl rfl rfl) ?_
    refine xs_step (fun K HC => xr_aload_n HC.1.1 558 877 (n := 0) (ix := 0) (j := 0) (c := 99) (x := v0) rfl rfl rfl rfl) ?_
    refine xs_step (fun K HC => xr_iload_n HC.1.1 559 878 (n := 3) (ix := 3) (j := 3) (x := v3) rfl rfl rfl rfl) ?_
    refine xs_step (fun K HC => xr_iconst HC.1.1 560 879 (n := (1)) (1 : Int32) rfl rfl rfl) ?_
    refine xs_step (fun K HC => xr_iadd HC.1.1 561 880 rfl rfl) ?_
    refine xs_chk (fun hb_230 => ?_)
    refine xs_step (fun K HC => xr_sld HC.1.1 562 881 HC.2 (hp_in_vp hb_230) rfl rfl) ?_
    refine xs_calli (s_X_untell v1 (xs ((v3 + (1 : Int32))).toNatClampNeg) h) (fun K HC x9 hM hmo hb => xr_callV HC.1.1 563 884 (av := [av_I (xs ((v3 + (1 : Int32))).toNatClampNeg)]) (st := []) (hM (kg K) (cx_l (kx K))) hmo hb rfl rfl wm_Lw_126 wi_X_untell ws_X_untell wc_X_untell rfl wh_X_untell (by decide) (by decide) (by decide) (Nat.le_of_ble_eq_true rfl) rfl) (fun x_231 => ?_)
    refine xs_step (fun K HC => xr_aload_n HC.1.1 564 885 (n := 2) (ix := 2) (j := 2) (c := 11) (x := v2) rfl rfl rfl rfl) ?_
    refine xs_step (fun K HC => xr_aload_n HC.1.1 565 886 (n := 0) (ix := 0) (j := 0) (c := 99) (x := v0) rfl rfl rfl rfl) ?_
    refine xs_step (fun K HC => xr_iload_n HC.1.1 566 887 (n := 3) (ix := 3) (j := 3) (x := v3) rfl rfl rfl rfl) ?_
    refine xs_step (fun K HC => xr_iconst HC.1.1 567 888 (n := (1)) (1 : Int32) rfl rfl rfl) ?_
    refine xs_step (fun K HC => xr_iadd HC.1.1 568 889 rfl rfl) ?_
    refine xs_chk (fun hb_233 => ?_)
    refine xs_step (fun K HC => xr_sld HC.1.1 569 890 HC.2 (hp_in_vp hb_233) rfl rfl) ?_
    refine xs_calli (s_M_untell v2 (xs ((v3 + (1 : Int32))).toNatClampNeg) x_231.2) (fun K HC x9 hM hmo hb => xr_callV HC.1.1 570 893 (av := [av_I (xs ((v3 + (1 : Int32))).toNatClampNeg)]) (st := [av_I x_231.1]) (hM (kg K) (cx_l (kx K))) hmo hb rfl rfl wm_Lw_129 wi_M_untell ws_M_untell wc_M_untell rfl wh_M_untell (by decide) (by decide) (by decide) (Nat.le_of_ble_eq_true rfl) rfl) (fun x_234 => ?_)
    refine xs_ite (fun K HC => xr_icmp_eq HC.1.1 571 1089 896 rfl (by decide) rfl) ?_ ?_
    · exact t_Lw_law_1089 xs n9 v0 v1 v2 v3 x_234.2
    refine xs_step (fun K HC => xr_iconst HC.1.1 572 897 (n := (0)) (0 : Int32) rfl rfl rfl) ?_
    exact xs_weak (fun K q => q.1) (xs_reti 573 rfl rfl (fun K q => q) (fun ty ht => by cases ht; rfl))
  refine xs_if (fun hc_242 => ?_) (fun hc_242 => ?_)
  · refine xs_step (fun K HC => xr_tabI HC.1.1 21 898 (27 : Int32) rfl hc_242 (by decide) (by decide) rfl (by decide)) ?_
    refine xs_step (fun K HC => xr_aload_n HC.1.1 574 899 (n := 1) (ix := 1) (j := 1) (c := 10) (x := v1) rfl rfl rfl rfl) ?_
    refine xs_step (fun K HC => xr_aload_n HC.1.1 575 900 (n := 0) (ix := 0) (j := 0) (c := 99) (x := v0) rfl rfl rfl rfl) ?_
    refine xs_step (fun K HC => xr_iload_n HC.1.1 576 901 (n := 3) (ix := 3) (j := 3) (x := v3) rfl rfl rfl rfl) ?_
    refine xs_step (fun K HC => xr_iconst HC.1.1 577 902 (n := (1)) (1 : Int32) rfl rfl rfl) ?_
    refine xs_step (fun K HC => xr_iadd HC.1.1 578 903 rfl rfl) ?_
    refine xs_chk (fun hb_237 => ?_)
    refine xs_step (fun K HC => xr_sld HC.1.1 579 904 HC.2 (hp_in_vp hb_237) rfl rfl) ?_
    refine xs_calli (s_X_later v1 (xs ((v3 + (1 : Int32))).toNatClampNeg) h) (fun K HC x9 hM hmo hb => xr_callV HC.1.1 580 907 (av := [av_I (xs ((v3 + (1 : Int32))).toNatClampNeg)]) (st := []) (hM (kg K) (cx_l (kx K))) hmo hb rfl rfl wm_Lw_130 wi_X_later ws_X_later wc_X_later rfl wh_X_later (by decide) (by decide) (by decide) (Nat.le_of_ble_eq_true rfl) rfl) (fun x_238 => ?_)
    refine xs_step (fun K HC => xr_aload_n HC.1.1 581 908 (n := 2) (ix := 2) (j := 2) (c := 11) (x := v2) rfl rfl rfl rfl) ?_
    refine xs_step (fun K HC => xr_aload_n HC.1.1 582 909 (n := 0) (ix := 0) (j := 0) (c := 99) (x := v0) rfl rfl rfl rfl) ?_
    refine xs_step (fun K HC => xr_iload_n HC.1.1 583 910 (n := 3) (ix := 3) (j := 3) (x := v3) rfl rfl rfl rfl) ?_
    refine xs_step (fun K HC => xr_iconst HC.1.1 584 911 (n := (1)) (1 : Int32) rfl rfl rfl) ?_
    refine xs_step (fun K HC => xr_iadd HC.1.1 585 912 rfl rfl) ?_
    refine xs_chk (fun hb_240 => ?_)
    refine xs_step (fun K HC => xr_sld HC.1.1 586 913 HC.2 (hp_in_vp hb_240) rfl rfl) ?_
    refine xs_calli (s_M_later v2 (xs ((v3 + (1 : Int32))).toNatClampNeg) x_238.2) (fun K HC x9 hM hmo hb => xr_callV HC.1.1 587 916 (av := [av_I (xs ((v3 + (1 : Int32))).toNatClampNeg)]) (st := [av_I x_238.1]) (hM (kg K) (cx_l (kx K))) hmo hb rfl rfl wm_Lw_133 wi_M_later ws_M_later wc_M_later rfl wh_M_later (by decide) (by decide) (by decide) (Nat.le_of_ble_eq_true rfl) rfl) (fun x_241 => ?_)
    refine xs_ite (fun K HC => xr_icmp_eq HC.1.1 588 1089 919 rfl (by decide) rfl) ?_ ?_
    · exact t_Lw_law_1089 xs n9 v0 v1 v2 v3 x_241.2
    refine xs_step (fun K HC => xr_iconst HC.1.1 589 920 (n := (0)) (0 : Int32) rfl rfl rfl) ?_
    exact xs_weak (fun K q => q.1) (xs_reti 590 rfl rfl (fun K q => q) (fun ty ht => by cases ht; rfl))
  refine xs_if (fun hc_253 => ?_) (fun hc_253 => ?_)
  · refine xs_step (fun K HC => xr_tabI HC.1.1 21 921 (28 : Int32) rfl hc_253 (by decide) (by decide) rfl (by decide)) ?_
    refine xs_step (fun K HC => xr_aload_n HC.1.1 591 922 (n := 1) (ix := 1) (j := 1) (c := 10) (x := v1) rfl rfl rfl rfl) ?_
    refine xs_step (fun K HC => xr_aload_n HC.1.1 592 923 (n := 0) (ix := 0) (j := 0) (c := 99) (x := v0) rfl rfl rfl rfl) ?_
    refine xs_step (fun K HC => xr_iload_n HC.1.1 593 924 (n := 3) (ix := 3) (j := 3) (x := v3) rfl rfl rfl rfl) ?_
    refine xs_step (fun K HC => xr_iconst HC.1.1 594 925 (n := (1)) (1 : Int32) rfl rfl rfl) ?_
    refine xs_step (fun K HC => xr_iadd HC.1.1 595 926 rfl rfl) ?_
    refine xs_chk (fun hb_244 => ?_)
    refine xs_step (fun K HC => xr_sld HC.1.1 596 927 HC.2 (hp_in_vp hb_244) rfl rfl) ?_
    refine xs_step (fun K HC => xr_aload_n HC.1.1 597 928 (n := 0) (ix := 0) (j := 0) (c := 99) (x := v0) rfl rfl rfl rfl) ?_
    refine xs_step (fun K HC => xr_iload_n HC.1.1 598 929 (n := 3) (ix := 3) (j := 3) (x := v3) rfl rfl rfl rfl) ?_
    refine xs_step (fun K HC => xr_iconst HC.1.1 599 930 (n := (2)) (2 : Int32) rfl rfl rfl) ?_
    refine xs_step (fun K HC => xr_iadd HC.1.1 600 931 rfl rfl) ?_
    refine xs_chk (fun hb_246 => ?_)
    refine xs_step (fun K HC => xr_sld HC.1.1 601 932 HC.2 (hp_in_vp hb_246) rfl rfl) ?_
    refine xs_calli (s_X_logged v1 (xs ((v3 + (1 : Int32))).toNatClampNeg) (xs ((v3 + (2 : Int32))).toNatClampNeg) h) (fun K HC x9 hM hmo hb => xr_callV HC.1.1 602 935 (av := [av_I (xs ((v3 + (1 : Int32))).toNatClampNeg), av_I (xs ((v3 + (2 : Int32))).toNatClampNeg)]) (st := []) (hM (kg K) (cx_l (kx K))) hmo hb rfl rfl wm_Lw_134 wi_X_logged ws_X_logged wc_X_logged rfl wh_X_logged (by decide) (by decide) (by decide) (Nat.le_of_ble_eq_true rfl) rfl) (fun x_247 => ?_)
    refine xs_step (fun K HC => xr_aload_n HC.1.1 603 936 (n := 2) (ix := 2) (j := 2) (c := 11) (x := v2) rfl rfl rfl rfl) ?_
    refine xs_step (fun K HC => xr_aload_n HC.1.1 604 937 (n := 0) (ix := 0) (j := 0) (c := 99) (x := v0) rfl rfl rfl rfl) ?_
    refine xs_step (fun K HC => xr_iload_n HC.1.1 605 938 (n := 3) (ix := 3) (j := 3) (x := v3) rfl rfl rfl rfl) ?_
    refine xs_step (fun K HC => xr_iconst HC.1.1 606 939 (n := (1)) (1 : Int32) rfl rfl rfl) ?_
    refine xs_step (fun K HC => xr_iadd HC.1.1 607 940 rfl rfl) ?_
    refine xs_chk (fun hb_249 => ?_)
    refine xs_step (fun K HC => xr_sld HC.1.1 608 941 HC.2 (hp_in_vp hb_249) rfl rfl) ?_
    refine xs_step (fun K HC => xr_aload_n HC.1.1 609 942 (n := 0) (ix := 0) (j := 0) (c := 99) (x := v0) rfl rfl rfl rfl) ?_
    refine xs_step (fun K HC => xr_iload_n HC.1.1 610 943 (n := 3) (ix := 3) (j := 3) (x := v3) rfl rfl rfl rfl) ?_
    refine xs_step (fun K HC => xr_iconst HC.1.1 611 944 (n := (2)) (2 : Int32) rfl rfl rfl) ?_
    refine xs_step (fun K HC => xr_iadd HC.1.1 612 945 rfl rfl) ?_
    refine xs_chk (fun hb_251 => ?_)
    refine xs_step (fun K HC => xr_sld HC.1.1 613 946 HC.2 (hp_in_vp hb_251) rfl rfl) ?_
    refine xs_calli (s_M_logged v2 (xs ((v3 + (1 : Int32))).toNatClampNeg) (xs ((v3 + (2 : Int32))).toNatClampNeg) x_247.2) (fun K HC x9 hM hmo hb => xr_callV HC.1.1 614 949 (av := [av_I (xs ((v3 + (1 : Int32))).toNatClampNeg), av_I (xs ((v3 + (2 : Int32))).toNatClampNeg)]) (st := [av_I x_247.1]) (hM (kg K) (cx_l (kx K))) hmo hb rfl rfl wm_Lw_137 wi_M_logged ws_M_logged wc_M_logged rfl wh_M_logged (by decide) (by decide) (by decide) (Nat.le_of_ble_eq_true rfl) rfl) (fun x_252 => ?_)
    refine xs_ite (fun K HC => xr_icmp_eq HC.1.1 615 1089 952 rfl (by decide) rfl) ?_ ?_
    · exact t_Lw_law_1089 xs n9 v0 v1 v2 v3 x_252.2
    refine xs_step (fun K HC => xr_iconst HC.1.1 616 953 (n := (0)) (0 : Int32) rfl rfl rfl) ?_
    exact xs_weak (fun K q => q.1) (xs_reti 617 rfl rfl (fun K q => q) (fun ty ht => by cases ht; rfl))
  refine xs_if (fun hc_264 => ?_) (fun hc_264 => ?_)
  · refine xs_step (fun K HC => xr_tabI HC.1.1 21 954 (29 : Int32) rfl hc_264 (by decide) (by decide) rfl (by decide)) ?_
    refine xs_step (fun K HC => xr_aload_n HC.1.1 618 955 (n := 1) (ix := 1) (j := 1) (c := 10) (x := v1) rfl rfl rfl rfl) ?_
    refine xs_step (fun K HC => xr_aload_n HC.1.1 619 956 (n := 0) (ix := 0) (j := 0) (c := 99) (x := v0) rfl rfl rfl rfl) ?_
    refine xs_step (fun K HC => xr_iload_n HC.1.1 620 957 (n := 3) (ix := 3) (j := 3) (x := v3) rfl rfl rfl rfl) ?_
    refine xs_step (fun K HC => xr_iconst HC.1.1 621 958 (n := (1)) (1 : Int32) rfl rfl rfl) ?_
    refine xs_step (fun K HC => xr_iadd HC.1.1 622 959 rfl rfl) ?_
    refine xs_chk (fun hb_255 => ?_)
    refine xs_step (fun K HC => xr_sld HC.1.1 623 960 HC.2 (hp_in_vp hb_255) rfl rfl) ?_
    refine xs_step (fun K HC => xr_aload_n HC.1.1 624 961 (n := 0) (ix := 0) (j := 0) (c := 99) (x := v0) rfl rfl rfl rfl) ?_
    refine xs_step (fun K HC => xr_iload_n HC.1.1 625 962 (n := 3) (ix := 3) (j := 3) (x := v3) rfl rfl rfl rfl) ?_
    refine xs_step (fun K HC => xr_iconst HC.1.1 626 963 (n := (2)) (2 : Int32) rfl rfl rfl) ?_
    refine xs_step (fun K HC => xr_iadd HC.1.1 627 964 rfl rfl) ?_
    refine xs_chk (fun hb_257 => ?_)
    refine xs_step (fun K HC => xr_sld HC.1.1 628 965 HC.2 (hp_in_vp hb_257) rfl rfl) ?_
    refine xs_calli (s_X_last v1 (xs ((v3 + (1 : Int32))).toNatClampNeg) (xs ((v3 + (2 : Int32))).toNatClampNeg) h) (fun K HC x9 hM hmo hb => xr_callV HC.1.1 629 968 (av := [av_I (xs ((v3 + (1 : Int32))).toNatClampNeg), av_I (xs ((v3 + (2 : Int32))).toNatClampNeg)]) (st := []) (hM (kg K) (cx_l (kx K))) hmo hb rfl rfl wm_Lw_138 wi_X_last ws_X_last wc_X_last rfl wh_X_last (by decide) (by decide) (by decide) (Nat.le_of_ble_eq_true rfl) rfl) (fun x_258 => ?_)
    refine xs_step (fun K HC => xr_aload_n HC.1.1 630 969 (n := 2) (ix := 2) (j := 2) (c := 11) (x := v2) rfl rfl rfl rfl) ?_
    refine xs_step (fun K HC => xr_aload_n HC.1.1 631 970 (n := 0) (ix := 0) (j := 0) (c := 99) (x := v0) rfl rfl rfl rfl) ?_
    refine xs_step (fun K HC => xr_iload_n HC.1.1 632 971 (n := 3) (ix := 3) (j := 3) (x := v3) rfl rfl rfl rfl) ?_
    refine xs_step (fun K HC => xr_iconst HC.1.1 633 972 (n := (1)) (1 : Int32) rfl rfl rfl) ?_
    refine xs_step (fun K HC => xr_iadd HC.1.1 634 973 rfl rfl) ?_
    refine xs_chk (fun hb_260 => ?_)
    refine xs_step (fun K HC => xr_sld HC.1.1 635 974 HC.2 (hp_in_vp hb_260) rfl rfl) ?_
    refine xs_step (fun K HC => xr_aload_n HC.1.1 636 975 (n := 0) (ix := 0) (j := 0) (c := 99) (x := v0) rfl rfl rfl rfl) ?_
    refine xs_step (fun K HC => xr_iload_n HC.1.1 637 976 (n := 3) (ix := 3) (j := 3) (x := v3) rfl rfl rfl rfl) ?_
    refine xs_step (fun K HC => xr_iconst HC.1.1 638 977 (n := (2)) (2 : Int32) rfl rfl rfl) ?_
    refine xs_step (fun K HC => xr_iadd HC.1.1 639 978 rfl rfl) ?_
    refine xs_chk (fun hb_262 => ?_)
    refine xs_step (fun K HC => xr_sld HC.1.1 640 979 HC.2 (hp_in_vp hb_262) rfl rfl) ?_
    refine xs_calli (s_M_last v2 (xs ((v3 + (1 : Int32))).toNatClampNeg) (xs ((v3 + (2 : Int32))).toNatClampNeg) x_258.2) (fun K HC x9 hM hmo hb => xr_callV HC.1.1 641 982 (av := [av_I (xs ((v3 + (1 : Int32))).toNatClampNeg), av_I (xs ((v3 + (2 : Int32))).toNatClampNeg)]) (st := [av_I x_258.1]) (hM (kg K) (cx_l (kx K))) hmo hb rfl rfl wm_Lw_141 wi_M_last ws_M_last wc_M_last rfl wh_M_last (by decide) (by decide) (by decide) (Nat.le_of_ble_eq_true rfl) rfl) (fun x_263 => ?_)
    refine xs_ite (fun K HC => xr_icmp_eq HC.1.1 642 1089 985 rfl (by decide) rfl) ?_ ?_
    · exact t_Lw_law_1089 xs n9 v0 v1 v2 v3 x_263.2
    refine xs_step (fun K HC => xr_iconst HC.1.1 643 986 (n := (0)) (0 : Int32) rfl rfl rfl) ?_
    exact xs_weak (fun K q => q.1) (xs_reti 644 rfl rfl (fun K q => q) (fun ty ht => by cases ht; rfl))
  refine xs_if (fun hc_275 => ?_) (fun hc_275 => ?_)
  · refine xs_step (fun K HC => xr_tabI HC.1.1 21 987 (30 : Int32) rfl hc_275 (by decide) (by decide) rfl (by decide)) ?_
    refine xs_step (fun K HC => xr_aload_n HC.1.1 645 988 (n := 1) (ix := 1) (j := 1) (c := 10) (x := v1) rfl rfl rfl rfl) ?_
    refine xs_step (fun K HC => xr_aload_n HC.1.1 646 989 (n := 0) (ix := 0) (j := 0) (c := 99) (x := v0) rfl rfl rfl rfl) ?_
    refine xs_step (fun K HC => xr_iload_n HC.1.1 647 990 (n := 3) (ix := 3) (j := 3) (x := v3) rfl rfl rfl rfl) ?_
    refine xs_step (fun K HC => xr_iconst HC.1.1 648 991 (n := (1)) (1 : Int32) rfl rfl rfl) ?_
    refine xs_step (fun K HC => xr_iadd HC.1.1 649 992 rfl rfl) ?_
    refine xs_chk (fun hb_266 => ?_)
    refine xs_step (fun K HC => xr_sld HC.1.1 650 993 HC.2 (hp_in_vp hb_266) rfl rfl) ?_
    refine xs_step (fun K HC => xr_aload_n HC.1.1 651 994 (n := 0) (ix := 0) (j := 0) (c := 99) (x := v0) rfl rfl rfl rfl) ?_
    refine xs_step (fun K HC => xr_iload_n HC.1.1 652 995 (n := 3) (ix := 3) (j := 3) (x := v3) rfl rfl rfl rfl) ?_
    refine xs_step (fun K HC => xr_iconst HC.1.1 653 996 (n := (2)) (2 : Int32) rfl rfl rfl) ?_
    refine xs_step (fun K HC => xr_iadd HC.1.1 654 997 rfl rfl) ?_
    refine xs_chk (fun hb_268 => ?_)
    refine xs_step (fun K HC => xr_sld HC.1.1 655 998 HC.2 (hp_in_vp hb_268) rfl rfl) ?_
    refine xs_calli (s_X_agrees v1 (xs ((v3 + (1 : Int32))).toNatClampNeg) (xs ((v3 + (2 : Int32))).toNatClampNeg) h) (fun K HC x9 hM hmo hb => xr_callV HC.1.1 656 1001 (av := [av_I (xs ((v3 + (1 : Int32))).toNatClampNeg), av_I (xs ((v3 + (2 : Int32))).toNatClampNeg)]) (st := []) (hM (kg K) (cx_l (kx K))) hmo hb rfl rfl wm_Lw_142 wi_X_agrees ws_X_agrees wc_X_agrees rfl wh_X_agrees (by decide) (by decide) (by decide) (Nat.le_of_ble_eq_true rfl) rfl) (fun x_269 => ?_)
    refine xs_step (fun K HC => xr_aload_n HC.1.1 657 1002 (n := 2) (ix := 2) (j := 2) (c := 11) (x := v2) rfl rfl rfl rfl) ?_
    refine xs_step (fun K HC => xr_aload_n HC.1.1 658 1003 (n := 0) (ix := 0) (j := 0) (c := 99) (x := v0) rfl rfl rfl rfl) ?_
    refine xs_step (fun K HC => xr_iload_n HC.1.1 659 1004 (n := 3) (ix := 3) (j := 3) (x := v3) rfl rfl rfl rfl) ?_
    refine xs_step (fun K HC => xr_iconst HC.1.1 660 1005 (n := (1)) (1 : Int32) rfl rfl rfl) ?_
    refine xs_step (fun K HC => xr_iadd HC.1.1 661 1006 rfl rfl) ?_
    refine xs_chk (fun hb_271 => ?_)
    refine xs_step (fun K HC => xr_sld HC.1.1 662 1007 HC.2 (hp_in_vp hb_271) rfl rfl) ?_
    refine xs_step (fun K HC => xr_aload_n HC.1.1 663 1008 (n := 0) (ix := 0) (j := 0) (c := 99) (x := v0) rfl rfl rfl rfl) ?_
    refine xs_step (fun K HC => xr_iload_n HC.1.1 664 1009 (n := 3) (ix := 3) (j := 3) (x := v3) rfl rfl rfl rfl) ?_
    refine xs_step (fun K HC => xr_iconst HC.1.1 665 1010 (n := (2)) (2 : Int32) rfl rfl rfl) ?_
    refine xs_step (fun K HC => xr_iadd HC.1.1 666 1011 rfl rfl) ?_
    refine xs_chk (fun hb_273 => ?_)
    refine xs_step (fun K HC => xr_sld HC.1.1 667 1012 HC.2 (hp_in_vp hb_273) rfl rfl) ?_
    refine xs_calli (s_M_agrees v2 (xs ((v3 + (1 : Int32))).toNatClampNeg) (xs ((v3 + (2 : Int32))).toNatClampNeg) x_269.2) (fun K HC x9 hM hmo hb => xr_callV HC.1.1 668 1015 (av := [av_I (xs ((v3 + (1 : Int32))).toNatClampNeg), av_I (xs ((v3 + (2 : Int32))).toNatClampNeg)]) (st := [av_I x_269.1]) (hM (kg K) (cx_l (kx K))) hmo hb rfl rfl wm_Lw_145 wi_M_agrees ws_M_agrees wc_M_agrees rfl wh_M_agrees (by decide) (by decide) (by decide) (Nat.le_of_ble_eq_true rfl) rfl) (fun x_274 => ?_)
    refine xs_ite (fun K HC => xr_icmp_eq HC.1.1 669 1089 1018 rfl (by decide) rfl) ?_ ?_
    · exact t_Lw_law_1089 xs n9 v0 v1 v2 v3 x_274.2
    refine xs_step (fun K HC => xr_iconst HC.1.1 670 1019 (n := (0)) (0 : Int32) rfl rfl rfl) ?_
    exact xs_weak (fun K q => q.1) (xs_reti 671 rfl rfl (fun K q => q) (fun ty ht => by cases ht; rfl))
  refine xs_if (fun hc_282 => ?_) (fun hc_282 => ?_)
  · refine xs_step (fun K HC => xr_tabI HC.1.1 21 1020 (31 : Int32) rfl hc_282 (by decide) (by decide) rfl (by decide)) ?_
    refine xs_step (fun K HC => xr_aload_n HC.1.1 672 1021 (n := 1) (ix := 1) (j := 1) (c := 10) (x := v1) rfl rfl rfl rfl) ?_
    refine xs_step (fun K HC => xr_aload_n HC.1.1 673 1022 (n := 0) (ix := 0) (j := 0) (c := 99) (x := v0) rfl rfl rfl rfl) ?_
    refine xs_step (fun K HC => xr_iload_n HC.1.1 674 1023 (n := 3) (ix := 3) (j := 3) (x := v3) rfl rfl rfl rfl) ?_
    refine xs_step (fun K HC => xr_iconst HC.1.1 675 1024 (n := (1)) (1 : Int32) rfl rfl rfl) ?_
    refine xs_step (fun K HC => xr_iadd HC.1.1 676 1025 rfl rfl) ?_
    refine xs_chk (fun hb_277 => ?_)
    refine xs_step (fun K HC => xr_sld HC.1.1 677 1026 HC.2 (hp_in_vp hb_277) rfl rfl) ?_
    refine xs_calli (s_X_image v1 (xs ((v3 + (1 : Int32))).toNatClampNeg) h) (fun K HC x9 hM hmo hb => xr_callV HC.1.1 678 1029 (av := [av_I (xs ((v3 + (1 : Int32))).toNatClampNeg)]) (st := []) (hM (kg K) (cx_l (kx K))) hmo hb rfl rfl wm_Lw_146 wi_X_image ws_X_image wc_X_image rfl wh_X_image (by decide) (by decide) (by decide) (Nat.le_of_ble_eq_true rfl) rfl) (fun x_278 => ?_)
    refine xs_step (fun K HC => xr_aload_n HC.1.1 679 1030 (n := 2) (ix := 2) (j := 2) (c := 11) (x := v2) rfl rfl rfl rfl) ?_
    refine xs_step (fun K HC => xr_aload_n HC.1.1 680 1031 (n := 0) (ix := 0) (j := 0) (c := 99) (x := v0) rfl rfl rfl rfl) ?_
    refine xs_step (fun K HC => xr_iload_n HC.1.1 681 1032 (n := 3) (ix := 3) (j := 3) (x := v3) rfl rfl rfl rfl) ?_
    refine xs_step (fun K HC => xr_iconst HC.1.1 682 1033 (n := (1)) (1 : Int32) rfl rfl rfl) ?_
    refine xs_step (fun K HC => xr_iadd HC.1.1 683 1034 rfl rfl) ?_
    refine xs_chk (fun hb_280 => ?_)
    refine xs_step (fun K HC => xr_sld HC.1.1 684 1035 HC.2 (hp_in_vp hb_280) rfl rfl) ?_
    refine xs_calli (s_M_image v2 (xs ((v3 + (1 : Int32))).toNatClampNeg) x_278.2) (fun K HC x9 hM hmo hb => xr_callV HC.1.1 685 1038 (av := [av_I (xs ((v3 + (1 : Int32))).toNatClampNeg)]) (st := [av_I x_278.1]) (hM (kg K) (cx_l (kx K))) hmo hb rfl rfl wm_Lw_149 wi_M_image ws_M_image wc_M_image rfl wh_M_image (by decide) (by decide) (by decide) (Nat.le_of_ble_eq_true rfl) rfl) (fun x_281 => ?_)
    refine xs_ite (fun K HC => xr_icmp_eq HC.1.1 686 1089 1041 rfl (by decide) rfl) ?_ ?_
    · exact t_Lw_law_1089 xs n9 v0 v1 v2 v3 x_281.2
    refine xs_step (fun K HC => xr_iconst HC.1.1 687 1042 (n := (0)) (0 : Int32) rfl rfl rfl) ?_
    exact xs_weak (fun K q => q.1) (xs_reti 688 rfl rfl (fun K q => q) (fun ty ht => by cases ht; rfl))
  refine xs_if (fun hc_289 => ?_) (fun hc_289 => ?_)
  · refine xs_step (fun K HC => xr_tabI HC.1.1 21 1043 (32 : Int32) rfl hc_289 (by decide) (by decide) rfl (by decide)) ?_
    refine xs_step (fun K HC => xr_aload_n HC.1.1 689 1044 (n := 1) (ix := 1) (j := 1) (c := 10) (x := v1) rfl rfl rfl rfl) ?_
    refine xs_step (fun K HC => xr_aload_n HC.1.1 690 1045 (n := 0) (ix := 0) (j := 0) (c := 99) (x := v0) rfl rfl rfl rfl) ?_
    refine xs_step (fun K HC => xr_iload_n HC.1.1 691 1046 (n := 3) (ix := 3) (j := 3) (x := v3) rfl rfl rfl rfl) ?_
    refine xs_step (fun K HC => xr_iconst HC.1.1 692 1047 (n := (1)) (1 : Int32) rfl rfl rfl) ?_
    refine xs_step (fun K HC => xr_iadd HC.1.1 693 1048 rfl rfl) ?_
    refine xs_chk (fun hb_284 => ?_)
    refine xs_step (fun K HC => xr_sld HC.1.1 694 1049 HC.2 (hp_in_vp hb_284) rfl rfl) ?_
    refine xs_calli (s_X_back v1 (xs ((v3 + (1 : Int32))).toNatClampNeg) h) (fun K HC x9 hM hmo hb => xr_callV HC.1.1 695 1052 (av := [av_I (xs ((v3 + (1 : Int32))).toNatClampNeg)]) (st := []) (hM (kg K) (cx_l (kx K))) hmo hb rfl rfl wm_Lw_150 wi_X_back ws_X_back wc_X_back rfl wh_X_back (by decide) (by decide) (by decide) (Nat.le_of_ble_eq_true rfl) rfl) (fun x_285 => ?_)
    refine xs_step (fun K HC => xr_aload_n HC.1.1 696 1053 (n := 2) (ix := 2) (j := 2) (c := 11) (x := v2) rfl rfl rfl rfl) ?_
    refine xs_step (fun K HC => xr_aload_n HC.1.1 697 1054 (n := 0) (ix := 0) (j := 0) (c := 99) (x := v0) rfl rfl rfl rfl) ?_
    refine xs_step (fun K HC => xr_iload_n HC.1.1 698 1055 (n := 3) (ix := 3) (j := 3) (x := v3) rfl rfl rfl rfl) ?_
    refine xs_step (fun K HC => xr_iconst HC.1.1 699 1056 (n := (1)) (1 : Int32) rfl rfl rfl) ?_
    refine xs_step (fun K HC => xr_iadd HC.1.1 700 1057 rfl rfl) ?_
    refine xs_chk (fun hb_287 => ?_)
    refine xs_step (fun K HC => xr_sld HC.1.1 701 1058 HC.2 (hp_in_vp hb_287) rfl rfl) ?_
    refine xs_calli (s_M_back v2 (xs ((v3 + (1 : Int32))).toNatClampNeg) x_285.2) (fun K HC x9 hM hmo hb => xr_callV HC.1.1 702 1061 (av := [av_I (xs ((v3 + (1 : Int32))).toNatClampNeg)]) (st := [av_I x_285.1]) (hM (kg K) (cx_l (kx K))) hmo hb rfl rfl wm_Lw_153 wi_M_back ws_M_back wc_M_back rfl wh_M_back (by decide) (by decide) (by decide) (Nat.le_of_ble_eq_true rfl) rfl) (fun x_288 => ?_)
    refine xs_ite (fun K HC => xr_icmp_eq HC.1.1 703 1089 1064 rfl (by decide) rfl) ?_ ?_
    · exact t_Lw_law_1089 xs n9 v0 v1 v2 v3 x_288.2
    refine xs_step (fun K HC => xr_iconst HC.1.1 704 1065 (n := (0)) (0 : Int32) rfl rfl rfl) ?_
    exact xs_weak (fun K q => q.1) (xs_reti 705 rfl rfl (fun K q => q) (fun ty ht => by cases ht; rfl))
  refine xs_if (fun hc_296 => ?_) (fun hc_296 => ?_)
  · refine xs_step (fun K HC => xr_tabI HC.1.1 21 1066 (33 : Int32) rfl hc_296 (by decide) (by decide) rfl (by decide)) ?_
    refine xs_step (fun K HC => xr_aload_n HC.1.1 706 1067 (n := 1) (ix := 1) (j := 1) (c := 10) (x := v1) rfl rfl rfl rfl) ?_
    refine xs_step (fun K HC => xr_aload_n HC.1.1 707 1068 (n := 0) (ix := 0) (j := 0) (c := 99) (x := v0) rfl rfl rfl rfl) ?_
    refine xs_step (fun K HC => xr_iload_n HC.1.1 708 1069 (n := 3) (ix := 3) (j := 3) (x := v3) rfl rfl rfl rfl) ?_
    refine xs_step (fun K HC => xr_iconst HC.1.1 709 1070 (n := (1)) (1 : Int32) rfl rfl rfl) ?_
    refine xs_step (fun K HC => xr_iadd HC.1.1 710 1071 rfl rfl) ?_
    refine xs_chk (fun hb_291 => ?_)
    refine xs_step (fun K HC => xr_sld HC.1.1 711 1072 HC.2 (hp_in_vp hb_291) rfl rfl) ?_
    refine xs_calli (s_X_about v1 (xs ((v3 + (1 : Int32))).toNatClampNeg) h) (fun K HC x9 hM hmo hb => xr_callV HC.1.1 712 1075 (av := [av_I (xs ((v3 + (1 : Int32))).toNatClampNeg)]) (st := []) (hM (kg K) (cx_l (kx K))) hmo hb rfl rfl wm_Lw_154 wi_X_about ws_X_about wc_X_about rfl wh_X_about (by decide) (by decide) (by decide) (Nat.le_of_ble_eq_true rfl) rfl) (fun x_292 => ?_)
    refine xs_step (fun K HC => xr_aload_n HC.1.1 713 1076 (n := 2) (ix := 2) (j := 2) (c := 11) (x := v2) rfl rfl rfl rfl) ?_
    refine xs_step (fun K HC => xr_aload_n HC.1.1 714 1077 (n := 0) (ix := 0) (j := 0) (c := 99) (x := v0) rfl rfl rfl rfl) ?_
    refine xs_step (fun K HC => xr_iload_n HC.1.1 715 1078 (n := 3) (ix := 3) (j := 3) (x := v3) rfl rfl rfl rfl) ?_
    refine xs_step (fun K HC => xr_iconst HC.1.1 716 1079 (n := (1)) (1 : Int32) rfl rfl rfl) ?_
    refine xs_step (fun K HC => xr_iadd HC.1.1 717 1080 rfl rfl) ?_
    refine xs_chk (fun hb_294 => ?_)
    refine xs_step (fun K HC => xr_sld HC.1.1 718 1081 HC.2 (hp_in_vp hb_294) rfl rfl) ?_
    refine xs_calli (s_M_about v2 (xs ((v3 + (1 : Int32))).toNatClampNeg) x_292.2) (fun K HC x9 hM hmo hb => xr_callV HC.1.1 719 1084 (av := [av_I (xs ((v3 + (1 : Int32))).toNatClampNeg)]) (st := [av_I x_292.1]) (hM (kg K) (cx_l (kx K))) hmo hb rfl rfl wm_Lw_157 wi_M_about ws_M_about wc_M_about rfl wh_M_about (by decide) (by decide) (by decide) (Nat.le_of_ble_eq_true rfl) rfl) (fun x_295 => ?_)
    refine xs_ite (fun K HC => xr_icmp_eq HC.1.1 720 1089 1087 rfl (by decide) rfl) ?_ ?_
    · exact t_Lw_law_1089 xs n9 v0 v1 v2 v3 x_295.2
    refine xs_step (fun K HC => xr_iconst HC.1.1 721 1088 (n := (0)) (0 : Int32) rfl rfl rfl) ?_
    exact xs_weak (fun K q => q.1) (xs_reti 722 rfl rfl (fun K q => q) (fun ty ht => by cases ht; rfl))
  refine xs_step (fun K HC => xr_tabO HC.1.1 21 1089 [(0 : Int32), (1 : Int32), (2 : Int32), (3 : Int32), (4 : Int32), (5 : Int32), (6 : Int32), (7 : Int32), (8 : Int32), (9 : Int32), (10 : Int32), (11 : Int32), (12 : Int32), (13 : Int32), (14 : Int32), (15 : Int32), (16 : Int32), (17 : Int32), (18 : Int32), (19 : Int32), (20 : Int32), (21 : Int32), (22 : Int32), (23 : Int32), (24 : Int32), (25 : Int32), (26 : Int32), (27 : Int32), (28 : Int32), (29 : Int32), (30 : Int32), (31 : Int32), (32 : Int32), (33 : Int32)] rfl (by decide) (by simp only [List.forall_mem_cons]; exact ⟨hc_33, hc_40, hc_43, hc_50, hc_57, hc_64, hc_71, hc_78, hc_89, hc_96, hc_99, hc_106, hc_113, hc_116, hc_119, hc_122, hc_125, hc_132, hc_139, hc_158, hc_173, hc_184, hc_195, hc_214, hc_217, hc_228, hc_235, hc_242, hc_253, hc_264, hc_275, hc_282, hc_289, hc_296, fun _ h9 => absurd h9 List.not_mem_nil⟩) (by decide)) ?_
  exact t_Lw_law_1089 xs n9 v0 v1 v2 v3 h
noncomputable def f_Lw_law_18 (xs : Nat → Int32) (n9 : Nat) (v0 : Nat) (v1 : Nat) (v2 : Nat) (v3 : Int32) (h : HP) : Option (Int32 × HP) :=
  xx_lp (fun s : (Int32 × HP) => f_Lw_law_18b xs n9 v0 v1 v2 s.1 s.2) (v3, h)
theorem t_Lw_law_18 (xs : Nat → Int32) (n9 : Nat) (v0 : Nat) (v1 : Nat) (v2 : Nat) (v3 : Int32) (h : HP) : xx_S (fun K => xx_D "LampYardLaw" tb_Lw_law 4 200 (some .boolean) false K ∧ ly_sc v0 n9 xs K) xz_i (fun K => xL_i K) 18 [(0, av_R 99 (some v0)), (1, av_R 10 (some v1)), (2, av_R 11 (some v2)), (3, av_I v3)] [] h (f_Lw_law_18 xs n9 v0 v1 v2 v3 h) :=
  xs_loop (zf := xz_i) (L := (fun K => xL_i K)) (fun s : (Int32 × HP) => [(0, av_R 99 (some v0)), (1, av_R 10 (some v1)), (2, av_R 11 (some v2)), (3, av_I s.1)]) (fun s : (Int32 × HP) => s.2) (fun s => t_Lw_law_18b xs n9 v0 v1 v2 s.1 s.2) (v3, h)
noncomputable def f_Lw_law (xs : Nat → Int32) (n9 : Nat) (v0 : Nat) (h : HP) : Option (Int32 × HP) :=
  xx_l (hp_z h) fun q_1 => xx_l (hp_nw h 10 0 (ly_nf 10)) fun h_2 =>
  (f_X_new q_1 h_2).bind fun x_3 =>
  xx_l (hp_z x_3) fun q_4 => xx_l (hp_nw x_3 11 0 (ly_nf 11)) fun h_5 =>
  (f_M_new q_4 h_5).bind fun x_6 =>
  f_Lw_law_18 xs n9 v0 q_1 q_4 (0 : Int32) x_6
set_option maxHeartbeats 4000000 in
set_option maxRecDepth 100000 in
theorem t_Lw_law (xs : Nat → Int32) (n9 : Nat) (v0 : Nat) (h : HP) : xx_S (fun K => xx_D "LampYardLaw" tb_Lw_law 4 200 (some .boolean) false K ∧ ly_sc v0 n9 xs K) xz_i (fun K => xL_i K) 0 [(0, av_R 99 (some v0))] [] h (f_Lw_law xs n9 v0 h) := by
  unfold f_Lw_law
  refine xs_new (fun K HC hb => xr_new HC.1.1 0 3 10 hb rfl rfl wc_Lw_7 (by decide)) (fun q_1 h_2 => ?_)
  refine xs_step (fun K HC => xr_dup HC.1.1 1 4 rfl rfl rfl) ?_
  refine xs_callv (s_X_new q_1 h_2) (fun K HC x9 hM hmo hb => xr_callI HC.1.1 2 7 (av := []) (st := [av_R 10 (some q_1)]) (hM (kg K) (cx_l (kx K))) hmo hb rfl rfl wm_Lw_9 wi_X_new wn_X_new wc_X_new rfl wh_X_new (by decide) (by decide) (Nat.le_of_ble_eq_true rfl) rfl) (fun x_3 => ?_)
  refine xs_step (fun K HC => xr_astore_n HC.1.1 3 8 (n := 1) (ix := 1) (lv' := [(0, av_R 99 (some v0)), (1, av_R 10 (some q_1))]) rfl rfl rfl (by decide) rfl) ?_
  refine xs_new (fun K HC hb => xr_new HC.1.1 4 11 11 hb rfl rfl wc_Lw_10 (by decide)) (fun q_4 h_5 => ?_)
  refine xs_step (fun K HC => xr_dup HC.1.1 5 12 rfl rfl rfl) ?_
  refine xs_callv (s_M_new q_4 h_5) (fun K HC x9 hM hmo hb => xr_callI HC.1.1 6 15 (av := []) (st := [av_R 11 (some q_4)]) (hM (kg K) (cx_l (kx K))) hmo hb rfl rfl wm_Lw_12 wi_M_new wn_M_new wc_M_new rfl wh_M_new (by decide) (by decide) (Nat.le_of_ble_eq_true rfl) rfl) (fun x_6 => ?_)
  refine xs_step (fun K HC => xr_astore_n HC.1.1 7 16 (n := 2) (ix := 2) (lv' := [(0, av_R 99 (some v0)), (1, av_R 10 (some q_1)), (2, av_R 11 (some q_4))]) rfl rfl rfl (by decide) rfl) ?_
  refine xs_step (fun K HC => xr_iconst HC.1.1 8 17 (n := (0)) (0 : Int32) rfl rfl rfl) ?_
  refine xs_step (fun K HC => xr_istore_n HC.1.1 9 18 (n := 3) (ix := 3) (lv' := [(0, av_R 99 (some v0)), (1, av_R 10 (some q_1)), (2, av_R 11 (some q_4)), (3, av_I (0 : Int32))]) rfl rfl rfl (by decide) rfl) ?_
  exact t_Lw_law_18 xs n9 v0 q_1 q_4 (0 : Int32) x_6
