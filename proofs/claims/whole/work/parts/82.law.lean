/-! ===== the law ===== -/
def mt_law : mt_ := (yL_law, code, 4, ret)
def lx_ (Z : zz_) (b L : Nat) (xs : Nat → Int32) : Prop := va_X b L xs (z_s Z) (z_s Z).heap ∧ gt_S (z_G Z) 9 = b ∧ b < (z_s Z).heap.size ∧ ¬ gt_A (z_G Z) b
theorem xx_sld {Z : zz_} {M : mt_} {d pc b L : Nat} {xs : Nat → Int32} {lv : List (Option Value)} {st : List Value} {h : hh_} (C : cx_ Z M d) (X : lx_ Z b L xs) {i : Int32} (D : decode M.2.1 pc = .ok (.iaload, 1)) (hin : vp_in i L) (K : xx_ Z (pc + 1) lv (.int (xs i.toNatClampNeg) :: st) h) : xx_ Z pc lv (.int i :: .ref 509 :: st) h := fun H locs ls hw hs hl => by
  rw [List.map_cons, List.map_cons, show cv_ (z_G Z) (.ref 509) = .ref (gt_S (z_G Z) 9) from cv_sta _ 9, X.2.1]
  exact va_sld C.ex C.co X.1 X.2.2.1 X.2.2.2 hs hin D (K H locs ls hw hs hl)
theorem xx_slen {Z : zz_} {M : mt_} {d pc b L : Nat} {xs : Nat → Int32} {lv : List (Option Value)} {st : List Value} {h : hh_} (C : cx_ Z M d) (X : lx_ Z b L xs) (D : decode M.2.1 pc = .ok (.arraylength, 1)) (K : xx_ Z (pc + 1) lv (.int (nI L) :: st) h) : xx_ Z pc lv (.ref 509 :: st) h := fun H locs ls hw hs hl => by
  rw [List.map_cons, show cv_ (z_G Z) (.ref 509) = .ref (gt_S (z_G Z) 9) from cv_sta _ 9, X.2.1]
  exact va_slen C.ex C.co X.1 X.2.2.1 X.2.2.2 hs D (K H locs ls hw hs hl)
theorem lg_same (x : Int64) : lg_cmp x x = 0 := by
  unfold lg_cmp
  rw [if_neg (by show ¬ x < x; exact Int64.lt_irrefl), if_pos rfl]
theorem dl_0 : dd_ code [(240, .aload_n 1, 1), (241, .aload_n 0, 1), (242, .iload_n 3, 1), (243, .iconst 1, 1), (244, .iadd, 1), (245, .iaload, 1), (246, .aload_n 0, 1), (247, .iload_n 3, 1), (248, .iconst 2, 1), (249, .iadd, 1), (250, .iaload, 1), (251, .invokevirtual 13, 3), (254, .aload_n 2, 1), (255, .aload_n 0, 1), (256, .iload_n 3, 1), (257, .iconst 1, 1), (258, .iadd, 1), (259, .iaload, 1), (260, .aload_n 0, 1), (261, .iload_n 3, 1), (262, .iconst 2, 1), (263, .iadd, 1), (264, .iaload, 1), (265, .invokevirtual 17, 3), (268, .if_icmp .eq 1459, 3)] := by decide +kernel
theorem dl_1 : dd_ code [(273, .aload_n 1, 1), (274, .aload_n 0, 1), (275, .iload_n 3, 1), (276, .iconst 1, 1), (277, .iadd, 1), (278, .iaload, 1), (279, .aload_n 0, 1), (280, .iload_n 3, 1), (281, .iconst 2, 1), (282, .iadd, 1), (283, .iaload, 1), (284, .aload_n 0, 1), (285, .iload_n 3, 1), (286, .iconst 3, 1), (287, .iadd, 1), (288, .iaload, 1), (289, .invokevirtual 18, 3), (292, .aload_n 2, 1), (293, .aload_n 0, 1), (294, .iload_n 3, 1), (295, .iconst 1, 1), (296, .iadd, 1), (297, .iaload, 1), (298, .aload_n 0, 1), (299, .iload_n 3, 1), (300, .iconst 2, 1), (301, .iadd, 1), (302, .iaload, 1), (303, .aload_n 0, 1), (304, .iload_n 3, 1), (305, .iconst 3, 1), (306, .iadd, 1), (307, .iaload, 1), (308, .invokevirtual 22, 3), (311, .if_icmp .eq 1416, 3)] := by decide +kernel
theorem dl_2 : dd_ code [(316, .aload_n 1, 1), (317, .aload_n 0, 1), (318, .iload_n 3, 1), (319, .iconst 1, 1), (320, .iadd, 1), (321, .iaload, 1), (322, .aload_n 0, 1), (323, .iload_n 3, 1), (324, .iconst 2, 1), (325, .iadd, 1), (326, .iaload, 1), (327, .invokevirtual 23, 3), (330, .aload_n 2, 1), (331, .aload_n 0, 1), (332, .iload_n 3, 1), (333, .iconst 1, 1), (334, .iadd, 1), (335, .iaload, 1), (336, .aload_n 0, 1), (337, .iload_n 3, 1), (338, .iconst 2, 1), (339, .iadd, 1), (340, .iaload, 1), (341, .invokevirtual 26, 3), (344, .if_icmp .eq 1383, 3)] := by decide +kernel
theorem dl_3 : dd_ code [(349, .aload_n 1, 1), (350, .aload_n 0, 1), (351, .iload_n 3, 1), (352, .iconst 1, 1), (353, .iadd, 1), (354, .iaload, 1), (355, .invokevirtual 27, 3), (358, .aload_n 2, 1), (359, .aload_n 0, 1), (360, .iload_n 3, 1), (361, .iconst 1, 1), (362, .iadd, 1), (363, .iaload, 1), (364, .invokevirtual 31, 3), (367, .if_icmp .eq 1360, 3)] := by decide +kernel
theorem dl_4 : dd_ code [(372, .aload_n 1, 1), (373, .aload_n 0, 1), (374, .iload_n 3, 1), (375, .iconst 1, 1), (376, .iadd, 1), (377, .iaload, 1), (378, .aload_n 0, 1), (379, .iload_n 3, 1), (380, .iconst 2, 1), (381, .iadd, 1), (382, .iaload, 1), (383, .aload_n 0, 1), (384, .iload_n 3, 1), (385, .iconst 3, 1), (386, .iadd, 1), (387, .iaload, 1), (388, .aload_n 0, 1), (389, .iload_n 3, 1), (390, .iconst 4, 1), (391, .iadd, 1), (392, .iaload, 1), (393, .aload_n 0, 1), (394, .iload_n 3, 1), (395, .iconst 5, 1), (396, .iadd, 1), (397, .iaload, 1), (398, .invokevirtual 32, 3), (401, .aload_n 2, 1), (402, .aload_n 0, 1), (403, .iload_n 3, 1), (404, .iconst 1, 1), (405, .iadd, 1), (406, .iaload, 1), (407, .aload_n 0, 1), (408, .iload_n 3, 1), (409, .iconst 2, 1), (410, .iadd, 1), (411, .iaload, 1), (412, .aload_n 0, 1), (413, .iload_n 3, 1), (414, .iconst 3, 1), (415, .iadd, 1), (416, .iaload, 1), (417, .aload_n 0, 1), (418, .iload_n 3, 1), (419, .iconst 4, 1), (420, .iadd, 1), (421, .iaload, 1), (422, .aload_n 0, 1), (423, .iload_n 3, 1), (424, .iconst 5, 1), (425, .iadd, 1), (426, .iaload, 1), (427, .invokevirtual 36, 3), (430, .if_icmp .eq 1297, 3)] := by decide +kernel
theorem dl_5 : dd_ code [(435, .aload_n 1, 1), (436, .aload_n 0, 1), (437, .iload_n 3, 1), (438, .iconst 1, 1), (439, .iadd, 1), (440, .iaload, 1), (441, .invokevirtual 37, 3), (444, .aload_n 2, 1), (445, .aload_n 0, 1), (446, .iload_n 3, 1), (447, .iconst 1, 1), (448, .iadd, 1), (449, .iaload, 1), (450, .invokevirtual 40, 3), (453, .if_icmp .eq 1274, 3)] := by decide +kernel
theorem dl_6 : dd_ code [(458, .aload_n 1, 1), (459, .aload_n 0, 1), (460, .iload_n 3, 1), (461, .iconst 1, 1), (462, .iadd, 1), (463, .iaload, 1), (464, .aload_n 0, 1), (465, .iload_n 3, 1), (466, .iconst 2, 1), (467, .iadd, 1), (468, .iaload, 1), (469, .invokevirtual 41, 3), (472, .aload_n 2, 1), (473, .aload_n 0, 1), (474, .iload_n 3, 1), (475, .iconst 1, 1), (476, .iadd, 1), (477, .iaload, 1), (478, .aload_n 0, 1), (479, .iload_n 3, 1), (480, .iconst 2, 1), (481, .iadd, 1), (482, .iaload, 1), (483, .invokevirtual 44, 3), (486, .if_icmp .eq 1241, 3)] := by decide +kernel
theorem dl_7 : dd_ code [(491, .aload_n 1, 1), (492, .aload_n 0, 1), (493, .iload_n 3, 1), (494, .iconst 1, 1), (495, .iadd, 1), (496, .iaload, 1), (497, .aload_n 0, 1), (498, .iload_n 3, 1), (499, .iconst 2, 1), (500, .iadd, 1), (501, .iaload, 1), (502, .aload_n 0, 1), (503, .iload_n 3, 1), (504, .iconst 3, 1), (505, .iadd, 1), (506, .iaload, 1), (507, .invokevirtual 45, 3), (510, .aload_n 2, 1), (511, .aload_n 0, 1), (512, .iload_n 3, 1), (513, .iconst 1, 1), (514, .iadd, 1), (515, .iaload, 1), (516, .aload_n 0, 1), (517, .iload_n 3, 1), (518, .iconst 2, 1), (519, .iadd, 1), (520, .iaload, 1), (521, .aload_n 0, 1), (522, .iload_n 3, 1), (523, .iconst 3, 1), (524, .iadd, 1), (525, .iaload, 1), (526, .invokevirtual 48, 3), (529, .if_icmp .eq 1198, 3)] := by decide +kernel
theorem dl_8 : dd_ code [(534, .aload_n 1, 1), (535, .aload_n 0, 1), (536, .iload_n 3, 1), (537, .iconst 1, 1), (538, .iadd, 1), (539, .iaload, 1), (540, .invokevirtual 49, 3), (543, .aload_n 2, 1), (544, .aload_n 0, 1), (545, .iload_n 3, 1), (546, .iconst 1, 1), (547, .iadd, 1), (548, .iaload, 1), (549, .invokevirtual 52, 3), (552, .if_icmp .eq 1175, 3)] := by decide +kernel
theorem dl_9 : dd_ code [(557, .aload_n 1, 1), (558, .aload_n 0, 1), (559, .iload_n 3, 1), (560, .iconst 1, 1), (561, .iadd, 1), (562, .iaload, 1), (563, .invokevirtual 53, 3), (566, .aload_n 2, 1), (567, .aload_n 0, 1), (568, .iload_n 3, 1), (569, .iconst 1, 1), (570, .iadd, 1), (571, .iaload, 1), (572, .invokevirtual 56, 3), (575, .if_icmp .eq 1152, 3)] := by decide +kernel
theorem dl_10 : dd_ code [(580, .aload_n 1, 1), (581, .aload_n 0, 1), (582, .iload_n 3, 1), (583, .iconst 1, 1), (584, .iadd, 1), (585, .iaload, 1), (586, .aload_n 0, 1), (587, .iload_n 3, 1), (588, .iconst 2, 1), (589, .iadd, 1), (590, .iaload, 1), (591, .invokevirtual 57, 3), (594, .aload_n 2, 1), (595, .aload_n 0, 1), (596, .iload_n 3, 1), (597, .iconst 1, 1), (598, .iadd, 1), (599, .iaload, 1), (600, .aload_n 0, 1), (601, .iload_n 3, 1), (602, .iconst 2, 1), (603, .iadd, 1), (604, .iaload, 1), (605, .invokevirtual 60, 3), (608, .if_icmp .eq 1119, 3)] := by decide +kernel
theorem dl_11 : dd_ code [(613, .aload_n 1, 1), (614, .aload_n 0, 1), (615, .iload_n 3, 1), (616, .iconst 1, 1), (617, .iadd, 1), (618, .iaload, 1), (619, .aload_n 0, 1), (620, .iload_n 3, 1), (621, .iconst 2, 1), (622, .iadd, 1), (623, .iaload, 1), (624, .invokevirtual 61, 3), (627, .aload_n 2, 1), (628, .aload_n 0, 1), (629, .iload_n 3, 1), (630, .iconst 1, 1), (631, .iadd, 1), (632, .iaload, 1), (633, .aload_n 0, 1), (634, .iload_n 3, 1), (635, .iconst 2, 1), (636, .iadd, 1), (637, .iaload, 1), (638, .invokevirtual 64, 3), (641, .if_icmp .eq 1086, 3)] := by decide +kernel
theorem dl_12 : dd_ code [(646, .aload_n 1, 1), (647, .aload_n 0, 1), (648, .iload_n 3, 1), (649, .iconst 1, 1), (650, .iadd, 1), (651, .iaload, 1), (652, .aload_n 0, 1), (653, .iload_n 3, 1), (654, .iconst 2, 1), (655, .iadd, 1), (656, .iaload, 1), (657, .invokevirtual 65, 3), (660, .aload_n 2, 1), (661, .aload_n 0, 1), (662, .iload_n 3, 1), (663, .iconst 1, 1), (664, .iadd, 1), (665, .iaload, 1), (666, .aload_n 0, 1), (667, .iload_n 3, 1), (668, .iconst 2, 1), (669, .iadd, 1), (670, .iaload, 1), (671, .invokevirtual 68, 3), (674, .if_icmp .eq 1053, 3)] := by decide +kernel
theorem dl_13 : dd_ code [(679, .aload_n 1, 1), (680, .aload_n 0, 1), (681, .iload_n 3, 1), (682, .iconst 1, 1), (683, .iadd, 1), (684, .iaload, 1), (685, .aload_n 0, 1), (686, .iload_n 3, 1), (687, .iconst 2, 1), (688, .iadd, 1), (689, .iaload, 1), (690, .invokevirtual 69, 3), (693, .aload_n 2, 1), (694, .aload_n 0, 1), (695, .iload_n 3, 1), (696, .iconst 1, 1), (697, .iadd, 1), (698, .iaload, 1), (699, .aload_n 0, 1), (700, .iload_n 3, 1), (701, .iconst 2, 1), (702, .iadd, 1), (703, .iaload, 1), (704, .invokevirtual 72, 3), (707, .if_icmp .eq 1020, 3)] := by decide +kernel
theorem dl_14 : dd_ code [(712, .aload_n 1, 1), (713, .aload_n 0, 1), (714, .iload_n 3, 1), (715, .iconst 1, 1), (716, .iadd, 1), (717, .iaload, 1), (718, .aload_n 0, 1), (719, .iload_n 3, 1), (720, .iconst 2, 1), (721, .iadd, 1), (722, .iaload, 1), (723, .invokevirtual 73, 3), (726, .aload_n 2, 1), (727, .aload_n 0, 1), (728, .iload_n 3, 1), (729, .iconst 1, 1), (730, .iadd, 1), (731, .iaload, 1), (732, .aload_n 0, 1), (733, .iload_n 3, 1), (734, .iconst 2, 1), (735, .iadd, 1), (736, .iaload, 1), (737, .invokevirtual 76, 3), (740, .if_icmp .eq 987, 3)] := by decide +kernel
theorem dl_15 : dd_ code [(745, .aload_n 1, 1), (746, .aload_n 0, 1), (747, .iload_n 3, 1), (748, .iconst 1, 1), (749, .iadd, 1), (750, .iaload, 1), (751, .aload_n 0, 1), (752, .iload_n 3, 1), (753, .iconst 2, 1), (754, .iadd, 1), (755, .iaload, 1), (756, .invokevirtual 77, 3), (759, .aload_n 2, 1), (760, .aload_n 0, 1), (761, .iload_n 3, 1), (762, .iconst 1, 1), (763, .iadd, 1), (764, .iaload, 1), (765, .aload_n 0, 1), (766, .iload_n 3, 1), (767, .iconst 2, 1), (768, .iadd, 1), (769, .iaload, 1), (770, .invokevirtual 80, 3), (773, .if_icmp .eq 954, 3)] := by decide +kernel
theorem dl_16 : dd_ code [(778, .aload_n 1, 1), (779, .aload_n 0, 1), (780, .iload_n 3, 1), (781, .iconst 1, 1), (782, .iadd, 1), (783, .iaload, 1), (784, .invokevirtual 81, 3), (787, .aload_n 2, 1), (788, .aload_n 0, 1), (789, .iload_n 3, 1), (790, .iconst 1, 1), (791, .iadd, 1), (792, .iaload, 1), (793, .invokevirtual 84, 3), (796, .if_icmp .eq 931, 3)] := by decide +kernel
theorem dl_17 : dd_ code [(801, .aload_n 1, 1), (802, .aload_n 0, 1), (803, .iload_n 3, 1), (804, .iconst 1, 1), (805, .iadd, 1), (806, .iaload, 1), (807, .aload_n 0, 1), (808, .iload_n 3, 1), (809, .iconst 2, 1), (810, .iadd, 1), (811, .iaload, 1), (812, .invokevirtual 85, 3), (815, .aload_n 2, 1), (816, .aload_n 0, 1), (817, .iload_n 3, 1), (818, .iconst 1, 1), (819, .iadd, 1), (820, .iaload, 1), (821, .aload_n 0, 1), (822, .iload_n 3, 1), (823, .iconst 2, 1), (824, .iadd, 1), (825, .iaload, 1), (826, .invokevirtual 88, 3), (829, .if_icmp .eq 898, 3)] := by decide +kernel
theorem dl_18 : dd_ code [(834, .aload_n 1, 1), (835, .aload_n 0, 1), (836, .iload_n 3, 1), (837, .iconst 1, 1), (838, .iadd, 1), (839, .iaload, 1), (840, .invokevirtual 89, 3), (843, .aload_n 2, 1), (844, .aload_n 0, 1), (845, .iload_n 3, 1), (846, .iconst 1, 1), (847, .iadd, 1), (848, .iaload, 1), (849, .invokevirtual 92, 3), (852, .if_icmp .eq 875, 3)] := by decide +kernel
theorem dl_19 : dd_ code [(857, .aload_n 1, 1), (858, .aload_n 0, 1), (859, .iload_n 3, 1), (860, .iconst 1, 1), (861, .iadd, 1), (862, .iaload, 1), (863, .invokevirtual 93, 3), (866, .aload_n 2, 1), (867, .aload_n 0, 1), (868, .iload_n 3, 1), (869, .iconst 1, 1), (870, .iadd, 1), (871, .iaload, 1), (872, .invokevirtual 96, 3), (875, .if_icmp .eq 852, 3)] := by decide +kernel
theorem dl_20 : dd_ code [(880, .aload_n 1, 1), (881, .aload_n 0, 1), (882, .iload_n 3, 1), (883, .iconst 1, 1), (884, .iadd, 1), (885, .iaload, 1), (886, .invokevirtual 97, 3), (889, .aload_n 2, 1), (890, .aload_n 0, 1), (891, .iload_n 3, 1), (892, .iconst 1, 1), (893, .iadd, 1), (894, .iaload, 1), (895, .invokevirtual 100, 3), (898, .if_icmp .eq 829, 3)] := by decide +kernel
theorem dl_21 : dd_ code [(903, .aload_n 1, 1), (904, .aload_n 0, 1), (905, .iload_n 3, 1), (906, .iconst 1, 1), (907, .iadd, 1), (908, .iaload, 1), (909, .aload_n 0, 1), (910, .iload_n 3, 1), (911, .iconst 2, 1), (912, .iadd, 1), (913, .iaload, 1), (914, .aload_n 0, 1), (915, .iload_n 3, 1), (916, .iconst 3, 1), (917, .iadd, 1), (918, .iaload, 1), (919, .invokevirtual 101, 3), (922, .aload_n 2, 1), (923, .aload_n 0, 1), (924, .iload_n 3, 1), (925, .iconst 1, 1), (926, .iadd, 1), (927, .iaload, 1), (928, .aload_n 0, 1), (929, .iload_n 3, 1), (930, .iconst 2, 1), (931, .iadd, 1), (932, .iaload, 1), (933, .aload_n 0, 1), (934, .iload_n 3, 1), (935, .iconst 3, 1), (936, .iadd, 1), (937, .iaload, 1), (938, .invokevirtual 104, 3), (941, .if_icmp .eq 786, 3)] := by decide +kernel
theorem dl_22 : dd_ code [(946, .aload_n 1, 1), (947, .aload_n 0, 1), (948, .iload_n 3, 1), (949, .iconst 1, 1), (950, .iadd, 1), (951, .iaload, 1), (952, .aload_n 0, 1), (953, .iload_n 3, 1), (954, .iconst 2, 1), (955, .iadd, 1), (956, .iaload, 1), (957, .aload_n 0, 1), (958, .iload_n 3, 1), (959, .iconst 3, 1), (960, .iadd, 1), (961, .iaload, 1), (962, .invokevirtual 105, 3), (965, .aload_n 2, 1), (966, .aload_n 0, 1), (967, .iload_n 3, 1), (968, .iconst 1, 1), (969, .iadd, 1), (970, .iaload, 1), (971, .aload_n 0, 1), (972, .iload_n 3, 1), (973, .iconst 2, 1), (974, .iadd, 1), (975, .iaload, 1), (976, .aload_n 0, 1), (977, .iload_n 3, 1), (978, .iconst 3, 1), (979, .iadd, 1), (980, .iaload, 1), (981, .invokevirtual 108, 3), (984, .if_icmp .eq 743, 3)] := by decide +kernel
theorem dl_23 : dd_ code [(989, .aload_n 1, 1), (990, .aload_n 0, 1), (991, .iload_n 3, 1), (992, .iconst 1, 1), (993, .iadd, 1), (994, .iaload, 1), (995, .aload_n 0, 1), (996, .iload_n 3, 1), (997, .iconst 2, 1), (998, .iadd, 1), (999, .iaload, 1), (1000, .invokevirtual 109, 3), (1003, .aload_n 2, 1), (1004, .aload_n 0, 1), (1005, .iload_n 3, 1), (1006, .iconst 1, 1), (1007, .iadd, 1), (1008, .iaload, 1), (1009, .aload_n 0, 1), (1010, .iload_n 3, 1), (1011, .iconst 2, 1), (1012, .iadd, 1), (1013, .iaload, 1), (1014, .invokevirtual 112, 3), (1017, .if_icmp .eq 710, 3)] := by decide +kernel
theorem dl_24 : dd_ code [(1022, .aload_n 1, 1), (1023, .aload_n 0, 1), (1024, .iload_n 3, 1), (1025, .iconst 1, 1), (1026, .iadd, 1), (1027, .iaload, 1), (1028, .aload_n 0, 1), (1029, .iload_n 3, 1), (1030, .iconst 2, 1), (1031, .iadd, 1), (1032, .iaload, 1), (1033, .invokevirtual 113, 3), (1036, .aload_n 2, 1), (1037, .aload_n 0, 1), (1038, .iload_n 3, 1), (1039, .iconst 1, 1), (1040, .iadd, 1), (1041, .iaload, 1), (1042, .aload_n 0, 1), (1043, .iload_n 3, 1), (1044, .iconst 2, 1), (1045, .iadd, 1), (1046, .iaload, 1), (1047, .invokevirtual 116, 3), (1050, .if_icmp .eq 677, 3)] := by decide +kernel
theorem dl_25 : dd_ code [(1055, .aload_n 1, 1), (1056, .aload_n 0, 1), (1057, .iload_n 3, 1), (1058, .iconst 1, 1), (1059, .iadd, 1), (1060, .iaload, 1), (1061, .aload_n 0, 1), (1062, .iload_n 3, 1), (1063, .iconst 2, 1), (1064, .iadd, 1), (1065, .iaload, 1), (1066, .aload_n 0, 1), (1067, .iload_n 3, 1), (1068, .iconst 3, 1), (1069, .iadd, 1), (1070, .iaload, 1), (1071, .invokevirtual 117, 3), (1074, .aload_n 2, 1), (1075, .aload_n 0, 1), (1076, .iload_n 3, 1), (1077, .iconst 1, 1), (1078, .iadd, 1), (1079, .iaload, 1), (1080, .aload_n 0, 1), (1081, .iload_n 3, 1), (1082, .iconst 2, 1), (1083, .iadd, 1), (1084, .iaload, 1), (1085, .aload_n 0, 1), (1086, .iload_n 3, 1), (1087, .iconst 3, 1), (1088, .iadd, 1), (1089, .iaload, 1), (1090, .invokevirtual 120, 3), (1093, .if_icmp .eq 634, 3)] := by decide +kernel
theorem dl_26 : dd_ code [(1098, .aload_n 1, 1), (1099, .aload_n 0, 1), (1100, .iload_n 3, 1), (1101, .iconst 1, 1), (1102, .iadd, 1), (1103, .iaload, 1), (1104, .invokevirtual 121, 3), (1107, .aload_n 2, 1), (1108, .aload_n 0, 1), (1109, .iload_n 3, 1), (1110, .iconst 1, 1), (1111, .iadd, 1), (1112, .iaload, 1), (1113, .invokevirtual 124, 3), (1116, .if_icmp .eq 611, 3)] := by decide +kernel
theorem dl_27 : dd_ code [(1121, .aload_n 1, 1), (1122, .aload_n 0, 1), (1123, .iload_n 3, 1), (1124, .iconst 1, 1), (1125, .iadd, 1), (1126, .iaload, 1), (1127, .aload_n 0, 1), (1128, .iload_n 3, 1), (1129, .iconst 2, 1), (1130, .iadd, 1), (1131, .iaload, 1), (1132, .invokevirtual 125, 3), (1135, .aload_n 2, 1), (1136, .aload_n 0, 1), (1137, .iload_n 3, 1), (1138, .iconst 1, 1), (1139, .iadd, 1), (1140, .iaload, 1), (1141, .aload_n 0, 1), (1142, .iload_n 3, 1), (1143, .iconst 2, 1), (1144, .iadd, 1), (1145, .iaload, 1), (1146, .invokevirtual 128, 3), (1149, .if_icmp .eq 578, 3)] := by decide +kernel
theorem dl_28 : dd_ code [(1154, .aload_n 1, 1), (1155, .aload_n 0, 1), (1156, .iload_n 3, 1), (1157, .iconst 1, 1), (1158, .iadd, 1), (1159, .iaload, 1), (1160, .aload_n 0, 1), (1161, .iload_n 3, 1), (1162, .iconst 2, 1), (1163, .iadd, 1), (1164, .iaload, 1), (1165, .aload_n 0, 1), (1166, .iload_n 3, 1), (1167, .iconst 3, 1), (1168, .iadd, 1), (1169, .iaload, 1), (1170, .invokevirtual 129, 3), (1173, .aload_n 2, 1), (1174, .aload_n 0, 1), (1175, .iload_n 3, 1), (1176, .iconst 1, 1), (1177, .iadd, 1), (1178, .iaload, 1), (1179, .aload_n 0, 1), (1180, .iload_n 3, 1), (1181, .iconst 2, 1), (1182, .iadd, 1), (1183, .iaload, 1), (1184, .aload_n 0, 1), (1185, .iload_n 3, 1), (1186, .iconst 3, 1), (1187, .iadd, 1), (1188, .iaload, 1), (1189, .invokevirtual 132, 3), (1192, .if_icmp .eq 535, 3)] := by decide +kernel
theorem dl_29 : dd_ code [(1197, .aload_n 1, 1), (1198, .aload_n 0, 1), (1199, .iload_n 3, 1), (1200, .iconst 1, 1), (1201, .iadd, 1), (1202, .iaload, 1), (1203, .aload_n 0, 1), (1204, .iload_n 3, 1), (1205, .iconst 2, 1), (1206, .iadd, 1), (1207, .iaload, 1), (1208, .aload_n 0, 1), (1209, .iload_n 3, 1), (1210, .iconst 3, 1), (1211, .iadd, 1), (1212, .iaload, 1), (1213, .invokevirtual 133, 3), (1216, .aload_n 2, 1), (1217, .aload_n 0, 1), (1218, .iload_n 3, 1), (1219, .iconst 1, 1), (1220, .iadd, 1), (1221, .iaload, 1), (1222, .aload_n 0, 1), (1223, .iload_n 3, 1), (1224, .iconst 2, 1), (1225, .iadd, 1), (1226, .iaload, 1), (1227, .aload_n 0, 1), (1228, .iload_n 3, 1), (1229, .iconst 3, 1), (1230, .iadd, 1), (1231, .iaload, 1), (1232, .invokevirtual 136, 3), (1235, .if_icmp .eq 492, 3)] := by decide +kernel
theorem dl_30 : dd_ code [(1240, .aload_n 1, 1), (1241, .aload_n 0, 1), (1242, .iload_n 3, 1), (1243, .iconst 1, 1), (1244, .iadd, 1), (1245, .iaload, 1), (1246, .aload_n 0, 1), (1247, .iload_n 3, 1), (1248, .iconst 2, 1), (1249, .iadd, 1), (1250, .iaload, 1), (1251, .aload_n 0, 1), (1252, .iload_n 3, 1), (1253, .iconst 3, 1), (1254, .iadd, 1), (1255, .iaload, 1), (1256, .aload_n 0, 1), (1257, .iload_n 3, 1), (1258, .iconst 4, 1), (1259, .iadd, 1), (1260, .iaload, 1), (1261, .invokevirtual 137, 3), (1264, .aload_n 2, 1), (1265, .aload_n 0, 1), (1266, .iload_n 3, 1), (1267, .iconst 1, 1), (1268, .iadd, 1), (1269, .iaload, 1), (1270, .aload_n 0, 1), (1271, .iload_n 3, 1), (1272, .iconst 2, 1), (1273, .iadd, 1), (1274, .iaload, 1), (1275, .aload_n 0, 1), (1276, .iload_n 3, 1), (1277, .iconst 3, 1), (1278, .iadd, 1), (1279, .iaload, 1), (1280, .aload_n 0, 1), (1281, .iload_n 3, 1), (1282, .iconst 4, 1), (1283, .iadd, 1), (1284, .iaload, 1), (1285, .invokevirtual 141, 3), (1288, .if_icmp .eq 439, 3)] := by decide +kernel
theorem dl_31 : dd_ code [(1293, .aload_n 1, 1), (1294, .aload_n 0, 1), (1295, .iload_n 3, 1), (1296, .iconst 1, 1), (1297, .iadd, 1), (1298, .iaload, 1), (1299, .aload_n 0, 1), (1300, .iload_n 3, 1), (1301, .iconst 2, 1), (1302, .iadd, 1), (1303, .iaload, 1), (1304, .invokevirtual 142, 3), (1307, .aload_n 2, 1), (1308, .aload_n 0, 1), (1309, .iload_n 3, 1), (1310, .iconst 1, 1), (1311, .iadd, 1), (1312, .iaload, 1), (1313, .aload_n 0, 1), (1314, .iload_n 3, 1), (1315, .iconst 2, 1), (1316, .iadd, 1), (1317, .iaload, 1), (1318, .invokevirtual 145, 3), (1321, .if_icmp .eq 406, 3)] := by decide +kernel
theorem dl_32 : dd_ code [(1326, .aload_n 1, 1), (1327, .aload_n 0, 1), (1328, .iload_n 3, 1), (1329, .iconst 1, 1), (1330, .iadd, 1), (1331, .iaload, 1), (1332, .aload_n 0, 1), (1333, .iload_n 3, 1), (1334, .iconst 2, 1), (1335, .iadd, 1), (1336, .iaload, 1), (1337, .aload_n 0, 1), (1338, .iload_n 3, 1), (1339, .iconst 3, 1), (1340, .iadd, 1), (1341, .iaload, 1), (1342, .invokevirtual 146, 3), (1345, .aload_n 2, 1), (1346, .aload_n 0, 1), (1347, .iload_n 3, 1), (1348, .iconst 1, 1), (1349, .iadd, 1), (1350, .iaload, 1), (1351, .aload_n 0, 1), (1352, .iload_n 3, 1), (1353, .iconst 2, 1), (1354, .iadd, 1), (1355, .iaload, 1), (1356, .aload_n 0, 1), (1357, .iload_n 3, 1), (1358, .iconst 3, 1), (1359, .iadd, 1), (1360, .iaload, 1), (1361, .invokevirtual 149, 3), (1364, .if_icmp .eq 363, 3)] := by decide +kernel
theorem dl_33 : dd_ code [(1369, .aload_n 1, 1), (1370, .aload_n 0, 1), (1371, .iload_n 3, 1), (1372, .iconst 1, 1), (1373, .iadd, 1), (1374, .iaload, 1), (1375, .aload_n 0, 1), (1376, .iload_n 3, 1), (1377, .iconst 2, 1), (1378, .iadd, 1), (1379, .iaload, 1), (1380, .invokevirtual 150, 3), (1383, .aload_n 2, 1), (1384, .aload_n 0, 1), (1385, .iload_n 3, 1), (1386, .iconst 1, 1), (1387, .iadd, 1), (1388, .iaload, 1), (1389, .aload_n 0, 1), (1390, .iload_n 3, 1), (1391, .iconst 2, 1), (1392, .iadd, 1), (1393, .iaload, 1), (1394, .invokevirtual 153, 3), (1397, .if_icmp .eq 330, 3)] := by decide +kernel
theorem dl_34 : dd_ code [(1402, .aload_n 1, 1), (1403, .aload_n 0, 1), (1404, .iload_n 3, 1), (1405, .iconst 1, 1), (1406, .iadd, 1), (1407, .iaload, 1), (1408, .aload_n 0, 1), (1409, .iload_n 3, 1), (1410, .iconst 2, 1), (1411, .iadd, 1), (1412, .iaload, 1), (1413, .invokevirtual 154, 3), (1416, .aload_n 2, 1), (1417, .aload_n 0, 1), (1418, .iload_n 3, 1), (1419, .iconst 1, 1), (1420, .iadd, 1), (1421, .iaload, 1), (1422, .aload_n 0, 1), (1423, .iload_n 3, 1), (1424, .iconst 2, 1), (1425, .iadd, 1), (1426, .iaload, 1), (1427, .invokevirtual 157, 3), (1430, .if_icmp .eq 297, 3)] := by decide +kernel
theorem dl_35 : dd_ code [(1435, .aload_n 1, 1), (1436, .aload_n 0, 1), (1437, .iload_n 3, 1), (1438, .iconst 1, 1), (1439, .iadd, 1), (1440, .iaload, 1), (1441, .invokevirtual 158, 3), (1444, .aload_n 2, 1), (1445, .aload_n 0, 1), (1446, .iload_n 3, 1), (1447, .iconst 1, 1), (1448, .iadd, 1), (1449, .iaload, 1), (1450, .invokevirtual 161, 3), (1453, .if_icmp .eq 274, 3)] := by decide +kernel
theorem dl_36 : dd_ code [(1458, .aload_n 1, 1), (1459, .aload_n 0, 1), (1460, .iload_n 3, 1), (1461, .iconst 1, 1), (1462, .iadd, 1), (1463, .iaload, 1), (1464, .invokevirtual 162, 3), (1467, .aload_n 2, 1), (1468, .aload_n 0, 1), (1469, .iload_n 3, 1), (1470, .iconst 1, 1), (1471, .iadd, 1), (1472, .iaload, 1), (1473, .invokevirtual 165, 3), (1476, .if_icmp .eq 251, 3)] := by decide +kernel
theorem dl_37 : dd_ code [(1481, .aload_n 1, 1), (1482, .aload_n 0, 1), (1483, .iload_n 3, 1), (1484, .iconst 1, 1), (1485, .iadd, 1), (1486, .iaload, 1), (1487, .aload_n 0, 1), (1488, .iload_n 3, 1), (1489, .iconst 2, 1), (1490, .iadd, 1), (1491, .iaload, 1), (1492, .invokevirtual 166, 3), (1495, .aload_n 2, 1), (1496, .aload_n 0, 1), (1497, .iload_n 3, 1), (1498, .iconst 1, 1), (1499, .iadd, 1), (1500, .iaload, 1), (1501, .aload_n 0, 1), (1502, .iload_n 3, 1), (1503, .iconst 2, 1), (1504, .iadd, 1), (1505, .iaload, 1), (1506, .invokevirtual 169, 3), (1509, .if_icmp .eq 218, 3)] := by decide +kernel
theorem dl_38 : dd_ code [(1514, .aload_n 1, 1), (1515, .aload_n 0, 1), (1516, .iload_n 3, 1), (1517, .iconst 1, 1), (1518, .iadd, 1), (1519, .iaload, 1), (1520, .aload_n 0, 1), (1521, .iload_n 3, 1), (1522, .iconst 2, 1), (1523, .iadd, 1), (1524, .iaload, 1), (1525, .invokevirtual 170, 3), (1528, .aload_n 2, 1), (1529, .aload_n 0, 1), (1530, .iload_n 3, 1), (1531, .iconst 1, 1), (1532, .iadd, 1), (1533, .iaload, 1), (1534, .aload_n 0, 1), (1535, .iload_n 3, 1), (1536, .iconst 2, 1), (1537, .iadd, 1), (1538, .iaload, 1), (1539, .invokevirtual 173, 3), (1542, .if_icmp .eq 185, 3)] := by decide +kernel
theorem dl_39 : dd_ code [(1547, .aload_n 1, 1), (1548, .aload_n 0, 1), (1549, .iload_n 3, 1), (1550, .iconst 1, 1), (1551, .iadd, 1), (1552, .iaload, 1), (1553, .invokevirtual 174, 3), (1556, .aload_n 2, 1), (1557, .aload_n 0, 1), (1558, .iload_n 3, 1), (1559, .iconst 1, 1), (1560, .iadd, 1), (1561, .iaload, 1), (1562, .invokevirtual 177, 3), (1565, .if_icmp .eq 162, 3)] := by decide +kernel
theorem dl_40 : dd_ code [(1570, .aload_n 1, 1), (1571, .aload_n 0, 1), (1572, .iload_n 3, 1), (1573, .iconst 1, 1), (1574, .iadd, 1), (1575, .iaload, 1), (1576, .aload_n 0, 1), (1577, .iload_n 3, 1), (1578, .iconst 2, 1), (1579, .iadd, 1), (1580, .iaload, 1), (1581, .aload_n 0, 1), (1582, .iload_n 3, 1), (1583, .iconst 3, 1), (1584, .iadd, 1), (1585, .iaload, 1), (1586, .invokevirtual 178, 3), (1589, .aload_n 2, 1), (1590, .aload_n 0, 1), (1591, .iload_n 3, 1), (1592, .iconst 1, 1), (1593, .iadd, 1), (1594, .iaload, 1), (1595, .aload_n 0, 1), (1596, .iload_n 3, 1), (1597, .iconst 2, 1), (1598, .iadd, 1), (1599, .iaload, 1), (1600, .aload_n 0, 1), (1601, .iload_n 3, 1), (1602, .iconst 3, 1), (1603, .iadd, 1), (1604, .iaload, 1), (1605, .invokevirtual 181, 3), (1608, .if_icmp .eq 119, 3)] := by decide +kernel
theorem dl_41 : dd_ code [(1613, .aload_n 1, 1), (1614, .invokevirtual 182, 3), (1617, .aload_n 2, 1), (1618, .invokevirtual 186, 3), (1621, .if_icmp .eq 106, 3)] := by decide +kernel
theorem dl_42 : dd_ code [(1626, .aload_n 1, 1), (1627, .invokevirtual 187, 3), (1630, .aload_n 2, 1), (1631, .invokevirtual 191, 3), (1634, .lcmp, 1), (1635, .ifCond .eq 92, 3)] := by decide +kernel
theorem dl_43 : dd_ code [(1640, .aload_n 1, 1), (1641, .invokevirtual 192, 3), (1644, .aload_n 2, 1), (1645, .invokevirtual 195, 3), (1648, .lcmp, 1), (1649, .ifCond .eq 78, 3)] := by decide +kernel
theorem dl_44 : dd_ code [(1654, .aload_n 1, 1), (1655, .aload_n 0, 1), (1656, .iload_n 3, 1), (1657, .iconst 1, 1), (1658, .iadd, 1), (1659, .iaload, 1), (1660, .invokevirtual 196, 3), (1663, .aload_n 2, 1), (1664, .aload_n 0, 1), (1665, .iload_n 3, 1), (1666, .iconst 1, 1), (1667, .iadd, 1), (1668, .iaload, 1), (1669, .invokevirtual 199, 3), (1672, .if_icmp .eq 55, 3)] := by decide +kernel
theorem dl_45 : dd_ code [(1677, .aload_n 1, 1), (1678, .invokevirtual 200, 3), (1681, .aload_n 2, 1), (1682, .invokevirtual 203, 3), (1685, .if_icmp .eq 42, 3)] := by decide +kernel
theorem dl_46 : dd_ code [(1690, .aload_n 1, 1), (1691, .aload_n 0, 1), (1692, .iload_n 3, 1), (1693, .iconst 1, 1), (1694, .iadd, 1), (1695, .iaload, 1), (1696, .invokevirtual 204, 3), (1699, .aload_n 2, 1), (1700, .aload_n 0, 1), (1701, .iload_n 3, 1), (1702, .iconst 1, 1), (1703, .iadd, 1), (1704, .iaload, 1), (1705, .invokevirtual 207, 3), (1708, .if_icmp .eq 19, 3)] := by decide +kernel
theorem dl_47 : dd_ code [(1713, .aload_n 1, 1), (1714, .invokevirtual 208, 3), (1717, .aload_n 2, 1), (1718, .invokevirtual 211, 3), (1721, .lcmp, 1), (1722, .ifCond .eq 5, 3)] := by decide +kernel
theorem ll_13 : Cond.methodLink RL 13 yX7_row ∈ lw_tbl := List.mem_of_getElem? (i := 251) (by decide +kernel)
theorem ll_17 : Cond.methodLink RL 17 yX8_row ∈ lw_tbl := List.mem_of_getElem? (i := 866) (by decide +kernel)
theorem ll_18 : Cond.methodLink RL 18 yX7_lay ∈ lw_tbl := List.mem_of_getElem? (i := 267) (by decide +kernel)
theorem ll_22 : Cond.methodLink RL 22 yX8_lay ∈ lw_tbl := List.mem_of_getElem? (i := 900) (by decide +kernel)
theorem ll_23 : Cond.methodLink RL 23 yX7_at ∈ lw_tbl := List.mem_of_getElem? (i := 283) (by decide +kernel)
theorem ll_26 : Cond.methodLink RL 26 yX8_at ∈ lw_tbl := List.mem_of_getElem? (i := 884) (by decide +kernel)
theorem ll_27 : Cond.methodLink RL 27 yX7_tear ∈ lw_tbl := List.mem_of_getElem? (i := 287) (by decide +kernel)
theorem ll_31 : Cond.methodLink RL 31 yX8_tear ∈ lw_tbl := List.mem_of_getElem? (i := 905) (by decide +kernel)
theorem ll_32 : Cond.methodLink RL 32 yX7_copy ∈ lw_tbl := List.mem_of_getElem? (i := 292) (by decide +kernel)
theorem ll_36 : Cond.methodLink RL 36 yX8_copy ∈ lw_tbl := List.mem_of_getElem? (i := 909) (by decide +kernel)
theorem ll_37 : Cond.methodLink RL 37 yX7_mean ∈ lw_tbl := List.mem_of_getElem? (i := 303) (by decide +kernel)
theorem ll_40 : Cond.methodLink RL 40 yX8_mean ∈ lw_tbl := List.mem_of_getElem? (i := 913) (by decide +kernel)
theorem ll_41 : Cond.methodLink RL 41 yX7_text ∈ lw_tbl := List.mem_of_getElem? (i := 311) (by decide +kernel)
theorem ll_44 : Cond.methodLink RL 44 yX8_text ∈ lw_tbl := List.mem_of_getElem? (i := 917) (by decide +kernel)
theorem ll_45 : Cond.methodLink RL 45 yX7_put ∈ lw_tbl := List.mem_of_getElem? (i := 315) (by decide +kernel)
theorem ll_48 : Cond.methodLink RL 48 yX8_put ∈ lw_tbl := List.mem_of_getElem? (i := 924) (by decide +kernel)
theorem ll_49 : Cond.methodLink RL 49 yX7_fault ∈ lw_tbl := List.mem_of_getElem? (i := 319) (by decide +kernel)
theorem ll_52 : Cond.methodLink RL 52 yX8_fault ∈ lw_tbl := List.mem_of_getElem? (i := 932) (by decide +kernel)
theorem ll_53 : Cond.methodLink RL 53 yX7_office ∈ lw_tbl := List.mem_of_getElem? (i := 352) (by decide +kernel)
theorem ll_56 : Cond.methodLink RL 56 yX8_office ∈ lw_tbl := List.mem_of_getElem? (i := 963) (by decide +kernel)
theorem ll_57 : Cond.methodLink RL 57 yX7_head ∈ lw_tbl := List.mem_of_getElem? (i := 368) (by decide +kernel)
theorem ll_60 : Cond.methodLink RL 60 yX8_head ∈ lw_tbl := List.mem_of_getElem? (i := 967) (by decide +kernel)
theorem ll_61 : Cond.methodLink RL 61 yX7_thumb ∈ lw_tbl := List.mem_of_getElem? (i := 384) (by decide +kernel)
theorem ll_64 : Cond.methodLink RL 64 yX8_thumb ∈ lw_tbl := List.mem_of_getElem? (i := 987) (by decide +kernel)
theorem ll_65 : Cond.methodLink RL 65 yX7_post ∈ lw_tbl := List.mem_of_getElem? (i := 388) (by decide +kernel)
theorem ll_68 : Cond.methodLink RL 68 yX8_post ∈ lw_tbl := List.mem_of_getElem? (i := 995) (by decide +kernel)
theorem ll_69 : Cond.methodLink RL 69 yX7_mark ∈ lw_tbl := List.mem_of_getElem? (i := 392) (by decide +kernel)
theorem ll_72 : Cond.methodLink RL 72 yX8_mark ∈ lw_tbl := List.mem_of_getElem? (i := 1003) (by decide +kernel)
theorem ll_73 : Cond.methodLink RL 73 yX7_error ∈ lw_tbl := List.mem_of_getElem? (i := 451) (by decide +kernel)
theorem ll_76 : Cond.methodLink RL 76 yX8_error ∈ lw_tbl := List.mem_of_getElem? (i := 1040) (by decide +kernel)
theorem ll_77 : Cond.methodLink RL 77 yX7_pad ∈ lw_tbl := List.mem_of_getElem? (i := 455) (by decide +kernel)
theorem ll_80 : Cond.methodLink RL 80 yX8_pad ∈ lw_tbl := List.mem_of_getElem? (i := 1044) (by decide +kernel)
theorem ll_81 : Cond.methodLink RL 81 yX7_grow ∈ lw_tbl := List.mem_of_getElem? (i := 466) (by decide +kernel)
theorem ll_84 : Cond.methodLink RL 84 yX8_grow ∈ lw_tbl := List.mem_of_getElem? (i := 1059) (by decide +kernel)
theorem ll_85 : Cond.methodLink RL 85 yX7_cut ∈ lw_tbl := List.mem_of_getElem? (i := 471) (by decide +kernel)
theorem ll_88 : Cond.methodLink RL 88 yX8_cut ∈ lw_tbl := List.mem_of_getElem? (i := 1063) (by decide +kernel)
theorem ll_89 : Cond.methodLink RL 89 yX7_undo ∈ lw_tbl := List.mem_of_getElem? (i := 475) (by decide +kernel)
theorem ll_92 : Cond.methodLink RL 92 yX8_undo ∈ lw_tbl := List.mem_of_getElem? (i := 1067) (by decide +kernel)
theorem ll_93 : Cond.methodLink RL 93 yX7_keep ∈ lw_tbl := List.mem_of_getElem? (i := 479) (by decide +kernel)
theorem ll_96 : Cond.methodLink RL 96 yX8_keep ∈ lw_tbl := List.mem_of_getElem? (i := 1075) (by decide +kernel)
theorem ll_97 : Cond.methodLink RL 97 yX7_on ∈ lw_tbl := List.mem_of_getElem? (i := 491) (by decide +kernel)
theorem ll_100 : Cond.methodLink RL 100 yX8_on ∈ lw_tbl := List.mem_of_getElem? (i := 1079) (by decide +kernel)
theorem ll_101 : Cond.methodLink RL 101 yX7_reads ∈ lw_tbl := List.mem_of_getElem? (i := 500) (by decide +kernel)
theorem ll_104 : Cond.methodLink RL 104 yX8_reads ∈ lw_tbl := List.mem_of_getElem? (i := 1083) (by decide +kernel)
theorem ll_105 : Cond.methodLink RL 105 yX7_fits ∈ lw_tbl := List.mem_of_getElem? (i := 506) (by decide +kernel)
theorem ll_108 : Cond.methodLink RL 108 yX8_fits ∈ lw_tbl := List.mem_of_getElem? (i := 1087) (by decide +kernel)
theorem ll_109 : Cond.methodLink RL 109 yX7_whose ∈ lw_tbl := List.mem_of_getElem? (i := 520) (by decide +kernel)
theorem ll_112 : Cond.methodLink RL 112 yX8_whose ∈ lw_tbl := List.mem_of_getElem? (i := 1099) (by decide +kernel)
theorem ll_113 : Cond.methodLink RL 113 yX7_who ∈ lw_tbl := List.mem_of_getElem? (i := 529) (by decide +kernel)
theorem ll_116 : Cond.methodLink RL 116 yX8_who ∈ lw_tbl := List.mem_of_getElem? (i := 1107) (by decide +kernel)
theorem ll_117 : Cond.methodLink RL 117 yX7_odds ∈ lw_tbl := List.mem_of_getElem? (i := 533) (by decide +kernel)
theorem ll_120 : Cond.methodLink RL 120 yX8_odds ∈ lw_tbl := List.mem_of_getElem? (i := 1111) (by decide +kernel)
theorem ll_121 : Cond.methodLink RL 121 yX7_look ∈ lw_tbl := List.mem_of_getElem? (i := 552) (by decide +kernel)
theorem ll_124 : Cond.methodLink RL 124 yX8_look ∈ lw_tbl := List.mem_of_getElem? (i := 1127) (by decide +kernel)
theorem ll_125 : Cond.methodLink RL 125 yX7_alike ∈ lw_tbl := List.mem_of_getElem? (i := 564) (by decide +kernel)
theorem ll_128 : Cond.methodLink RL 128 yX8_alike ∈ lw_tbl := List.mem_of_getElem? (i := 1135) (by decide +kernel)
theorem ll_129 : Cond.methodLink RL 129 yX7_suits ∈ lw_tbl := List.mem_of_getElem? (i := 572) (by decide +kernel)
theorem ll_132 : Cond.methodLink RL 132 yX8_suits ∈ lw_tbl := List.mem_of_getElem? (i := 1139) (by decide +kernel)
theorem ll_133 : Cond.methodLink RL 133 yX7_luck ∈ lw_tbl := List.mem_of_getElem? (i := 584) (by decide +kernel)
theorem ll_136 : Cond.methodLink RL 136 yX8_luck ∈ lw_tbl := List.mem_of_getElem? (i := 1151) (by decide +kernel)
theorem ll_137 : Cond.methodLink RL 137 yX7_pads ∈ lw_tbl := List.mem_of_getElem? (i := 590) (by decide +kernel)
theorem ll_141 : Cond.methodLink RL 141 yX8_pads ∈ lw_tbl := List.mem_of_getElem? (i := 1155) (by decide +kernel)
theorem ll_142 : Cond.methodLink RL 142 yX7_all ∈ lw_tbl := List.mem_of_getElem? (i := 598) (by decide +kernel)
theorem ll_145 : Cond.methodLink RL 145 yX8_all ∈ lw_tbl := List.mem_of_getElem? (i := 1164) (by decide +kernel)
theorem ll_146 : Cond.methodLink RL 146 yX7_finds ∈ lw_tbl := List.mem_of_getElem? (i := 602) (by decide +kernel)
theorem ll_149 : Cond.methodLink RL 149 yX8_finds ∈ lw_tbl := List.mem_of_getElem? (i := 1168) (by decide +kernel)
theorem ll_150 : Cond.methodLink RL 150 yX7_posts ∈ lw_tbl := List.mem_of_getElem? (i := 606) (by decide +kernel)
theorem ll_153 : Cond.methodLink RL 153 yX8_posts ∈ lw_tbl := List.mem_of_getElem? (i := 1172) (by decide +kernel)
theorem ll_154 : Cond.methodLink RL 154 yX7_plan ∈ lw_tbl := List.mem_of_getElem? (i := 615) (by decide +kernel)
theorem ll_157 : Cond.methodLink RL 157 yX8_plan ∈ lw_tbl := List.mem_of_getElem? (i := 1176) (by decide +kernel)
theorem ll_158 : Cond.methodLink RL 158 yX7_plans ∈ lw_tbl := List.mem_of_getElem? (i := 653) (by decide +kernel)
theorem ll_161 : Cond.methodLink RL 161 yX8_plans ∈ lw_tbl := List.mem_of_getElem? (i := 1199) (by decide +kernel)
theorem ll_162 : Cond.methodLink RL 162 yX7_safest ∈ lw_tbl := List.mem_of_getElem? (i := 657) (by decide +kernel)
theorem ll_165 : Cond.methodLink RL 165 yX8_safest ∈ lw_tbl := List.mem_of_getElem? (i := 1203) (by decide +kernel)
theorem ll_166 : Cond.methodLink RL 166 yX7_gain ∈ lw_tbl := List.mem_of_getElem? (i := 665) (by decide +kernel)
theorem ll_169 : Cond.methodLink RL 169 yX8_gain ∈ lw_tbl := List.mem_of_getElem? (i := 1207) (by decide +kernel)
theorem ll_170 : Cond.methodLink RL 170 yX7_learn ∈ lw_tbl := List.mem_of_getElem? (i := 669) (by decide +kernel)
theorem ll_173 : Cond.methodLink RL 173 yX8_learn ∈ lw_tbl := List.mem_of_getElem? (i := 1211) (by decide +kernel)
theorem ll_174 : Cond.methodLink RL 174 yX7_tells ∈ lw_tbl := List.mem_of_getElem? (i := 686) (by decide +kernel)
theorem ll_177 : Cond.methodLink RL 177 yX8_tells ∈ lw_tbl := List.mem_of_getElem? (i := 1219) (by decide +kernel)
theorem ll_178 : Cond.methodLink RL 178 yX7_lots ∈ lw_tbl := List.mem_of_getElem? (i := 698) (by decide +kernel)
theorem ll_181 : Cond.methodLink RL 181 yX8_lots ∈ lw_tbl := List.mem_of_getElem? (i := 1223) (by decide +kernel)
theorem ll_182 : Cond.methodLink RL 182 yX7_asked ∈ lw_tbl := List.mem_of_getElem? (i := 707) (by decide +kernel)
theorem ll_186 : Cond.methodLink RL 186 yX8_asked ∈ lw_tbl := List.mem_of_getElem? (i := 1234) (by decide +kernel)
theorem ll_187 : Cond.methodLink RL 187 yX7_upper ∈ lw_tbl := List.mem_of_getElem? (i := 711) (by decide +kernel)
theorem ll_191 : Cond.methodLink RL 191 yX8_upper ∈ lw_tbl := List.mem_of_getElem? (i := 1238) (by decide +kernel)
theorem ll_192 : Cond.methodLink RL 192 yX7_lower ∈ lw_tbl := List.mem_of_getElem? (i := 715) (by decide +kernel)
theorem ll_195 : Cond.methodLink RL 195 yX8_lower ∈ lw_tbl := List.mem_of_getElem? (i := 1242) (by decide +kernel)
theorem ll_196 : Cond.methodLink RL 196 yX7_count ∈ lw_tbl := List.mem_of_getElem? (i := 719) (by decide +kernel)
theorem ll_199 : Cond.methodLink RL 199 yX8_count ∈ lw_tbl := List.mem_of_getElem? (i := 1246) (by decide +kernel)
theorem ll_200 : Cond.methodLink RL 200 yX7_finding ∈ lw_tbl := List.mem_of_getElem? (i := 740) (by decide +kernel)
theorem ll_203 : Cond.methodLink RL 203 yX8_finding ∈ lw_tbl := List.mem_of_getElem? (i := 1254) (by decide +kernel)
theorem ll_204 : Cond.methodLink RL 204 yX7_findings ∈ lw_tbl := List.mem_of_getElem? (i := 744) (by decide +kernel)
theorem ll_207 : Cond.methodLink RL 207 yX8_findings ∈ lw_tbl := List.mem_of_getElem? (i := 1258) (by decide +kernel)
theorem ll_208 : Cond.methodLink RL 208 yX7_digest ∈ lw_tbl := List.mem_of_getElem? (i := 748) (by decide +kernel)
theorem ll_211 : Cond.methodLink RL 211 yX8_digest ∈ lw_tbl := List.mem_of_getElem? (i := 1262) (by decide +kernel)
theorem law_0 {I : hh_ → Prop} (S : sp_0 I) {Z : zz_} (C : cx_ Z mt_law 100) {b L : Nat} {xs : Nat → Int32} (X : lx_ Z b L xs) {x3 : Int32} (hin : ∀ j : Nat, 1 ≤ j → j ≤ 5 → vp_in (x3 + Int32.ofNat j) L) {h : hh_} (hI : I h) (K : ∀ h2, I h2 → xx_ Z 1727 [some (.ref 509), some (.ref 1), some (.ref 98), some (.int x3)] [] h2) : xx_ Z 240 [some (.ref 509), some (.ref 1), some (.ref 98), some (.int x3)] [] h := by
  obtain ⟨r, h1, h2, e1, e2, hi⟩ := S h (xs (x3 + (1 : Int32)).toNatClampNeg) (xs (x3 + (2 : Int32)).toNatClampNeg) hI
  refine xx_aload_n C (dl_0.at 0 rfl) rfl (lb_ rfl) ?_
  refine xx_aload_n C (dl_0.at 1 rfl) rfl (lb_ rfl) ?_
  refine xx_iload_n C (dl_0.at 2 rfl) rfl ?_
  refine xx_iconst C (dl_0.at 3 rfl) ic_1 ?_
  refine xx_iadd C (dl_0.at 4 rfl) ?_
  refine xx_sld C X (dl_0.at 5 rfl) (hin 1 (lb_ rfl) (lb_ rfl)) ?_
  refine xx_aload_n C (dl_0.at 6 rfl) rfl (lb_ rfl) ?_
  refine xx_iload_n C (dl_0.at 7 rfl) rfl ?_
  refine xx_iconst C (dl_0.at 8 rfl) ic_2 ?_
  refine xx_iadd C (dl_0.at 9 rfl) ?_
  refine xx_sld C X (dl_0.at 10 rfl) (hin 2 (lb_ rfl) (lb_ rfl)) ?_
  refine xx_callVi C (ss_X7_row e1) (dl_0.at 11 rfl) ck_6 rfl sh_k1 kk_X7_row ki_X7_row ll_13 (lb_ rfl) rfl rfl (lb_ rfl) ?_
  refine xx_aload_n C (dl_0.at 12 rfl) rfl (lb_ rfl) ?_
  refine xx_aload_n C (dl_0.at 13 rfl) rfl (lb_ rfl) ?_
  refine xx_iload_n C (dl_0.at 14 rfl) rfl ?_
  refine xx_iconst C (dl_0.at 15 rfl) ic_1 ?_
  refine xx_iadd C (dl_0.at 16 rfl) ?_
  refine xx_sld C X (dl_0.at 17 rfl) (hin 1 (lb_ rfl) (lb_ rfl)) ?_
  refine xx_aload_n C (dl_0.at 18 rfl) rfl (lb_ rfl) ?_
  refine xx_iload_n C (dl_0.at 19 rfl) rfl ?_
  refine xx_iconst C (dl_0.at 20 rfl) ic_2 ?_
  refine xx_iadd C (dl_0.at 21 rfl) ?_
  refine xx_sld C X (dl_0.at 22 rfl) (hin 2 (lb_ rfl) (lb_ rfl)) ?_
  refine xx_callVi C (ss_X8_row e2) (dl_0.at 23 rfl) ck_7 rfl sh_k98 kk_X8_row ki_X8_row ll_17 (lb_ rfl) rfl rfl (lb_ rfl) ?_
  refine xx_icmp_eq_t (tgt := 1727) C (dl_0.at 24 rfl) (by decide) rfl ?_
  exact K h2 hi
theorem law_1 {I : hh_ → Prop} (S : sp_1 I) {Z : zz_} (C : cx_ Z mt_law 100) {b L : Nat} {xs : Nat → Int32} (X : lx_ Z b L xs) {x3 : Int32} (hin : ∀ j : Nat, 1 ≤ j → j ≤ 5 → vp_in (x3 + Int32.ofNat j) L) {h : hh_} (hI : I h) (K : ∀ h2, I h2 → xx_ Z 1727 [some (.ref 509), some (.ref 1), some (.ref 98), some (.int x3)] [] h2) : xx_ Z 273 [some (.ref 509), some (.ref 1), some (.ref 98), some (.int x3)] [] h := by
  obtain ⟨r, h1, h2, e1, e2, hi⟩ := S h (xs (x3 + (1 : Int32)).toNatClampNeg) (xs (x3 + (2 : Int32)).toNatClampNeg) (xs (x3 + (3 : Int32)).toNatClampNeg) hI
  refine xx_aload_n C (dl_1.at 0 rfl) rfl (lb_ rfl) ?_
  refine xx_aload_n C (dl_1.at 1 rfl) rfl (lb_ rfl) ?_
  refine xx_iload_n C (dl_1.at 2 rfl) rfl ?_
  refine xx_iconst C (dl_1.at 3 rfl) ic_1 ?_
  refine xx_iadd C (dl_1.at 4 rfl) ?_
  refine xx_sld C X (dl_1.at 5 rfl) (hin 1 (lb_ rfl) (lb_ rfl)) ?_
  refine xx_aload_n C (dl_1.at 6 rfl) rfl (lb_ rfl) ?_
  refine xx_iload_n C (dl_1.at 7 rfl) rfl ?_
  refine xx_iconst C (dl_1.at 8 rfl) ic_2 ?_
  refine xx_iadd C (dl_1.at 9 rfl) ?_
  refine xx_sld C X (dl_1.at 10 rfl) (hin 2 (lb_ rfl) (lb_ rfl)) ?_
  refine xx_aload_n C (dl_1.at 11 rfl) rfl (lb_ rfl) ?_
  refine xx_iload_n C (dl_1.at 12 rfl) rfl ?_
  refine xx_iconst C (dl_1.at 13 rfl) ic_3 ?_
  refine xx_iadd C (dl_1.at 14 rfl) ?_
  refine xx_sld C X (dl_1.at 15 rfl) (hin 3 (lb_ rfl) (lb_ rfl)) ?_
  refine xx_callVi C (ss_X7_lay e1) (dl_1.at 16 rfl) ck_6 rfl sh_k1 kk_X7_lay ki_X7_lay ll_18 (lb_ rfl) rfl rfl (lb_ rfl) ?_
  refine xx_aload_n C (dl_1.at 17 rfl) rfl (lb_ rfl) ?_
  refine xx_aload_n C (dl_1.at 18 rfl) rfl (lb_ rfl) ?_
  refine xx_iload_n C (dl_1.at 19 rfl) rfl ?_
  refine xx_iconst C (dl_1.at 20 rfl) ic_1 ?_
  refine xx_iadd C (dl_1.at 21 rfl) ?_
  refine xx_sld C X (dl_1.at 22 rfl) (hin 1 (lb_ rfl) (lb_ rfl)) ?_
  refine xx_aload_n C (dl_1.at 23 rfl) rfl (lb_ rfl) ?_
  refine xx_iload_n C (dl_1.at 24 rfl) rfl ?_
  refine xx_iconst C (dl_1.at 25 rfl) ic_2 ?_
  refine xx_iadd C (dl_1.at 26 rfl) ?_
  refine xx_sld C X (dl_1.at 27 rfl) (hin 2 (lb_ rfl) (lb_ rfl)) ?_
  refine xx_aload_n C (dl_1.at 28 rfl) rfl (lb_ rfl) ?_
  refine xx_iload_n C (dl_1.at 29 rfl) rfl ?_
  refine xx_iconst C (dl_1.at 30 rfl) ic_3 ?_
  refine xx_iadd C (dl_1.at 31 rfl) ?_
  refine xx_sld C X (dl_1.at 32 rfl) (hin 3 (lb_ rfl) (lb_ rfl)) ?_
  refine xx_callVi C (ss_X8_lay e2) (dl_1.at 33 rfl) ck_7 rfl sh_k98 kk_X8_lay ki_X8_lay ll_22 (lb_ rfl) rfl rfl (lb_ rfl) ?_
  refine xx_icmp_eq_t (tgt := 1727) C (dl_1.at 34 rfl) (by decide) rfl ?_
  exact K h2 hi
theorem law_2 {I : hh_ → Prop} (S : sp_2 I) {Z : zz_} (C : cx_ Z mt_law 100) {b L : Nat} {xs : Nat → Int32} (X : lx_ Z b L xs) {x3 : Int32} (hin : ∀ j : Nat, 1 ≤ j → j ≤ 5 → vp_in (x3 + Int32.ofNat j) L) {h : hh_} (hI : I h) (K : ∀ h2, I h2 → xx_ Z 1727 [some (.ref 509), some (.ref 1), some (.ref 98), some (.int x3)] [] h2) : xx_ Z 316 [some (.ref 509), some (.ref 1), some (.ref 98), some (.int x3)] [] h := by
  obtain ⟨r, h1, h2, e1, e2, hi⟩ := S h (xs (x3 + (1 : Int32)).toNatClampNeg) (xs (x3 + (2 : Int32)).toNatClampNeg) hI
  refine xx_aload_n C (dl_2.at 0 rfl) rfl (lb_ rfl) ?_
  refine xx_aload_n C (dl_2.at 1 rfl) rfl (lb_ rfl) ?_
  refine xx_iload_n C (dl_2.at 2 rfl) rfl ?_
  refine xx_iconst C (dl_2.at 3 rfl) ic_1 ?_
  refine xx_iadd C (dl_2.at 4 rfl) ?_
  refine xx_sld C X (dl_2.at 5 rfl) (hin 1 (lb_ rfl) (lb_ rfl)) ?_
  refine xx_aload_n C (dl_2.at 6 rfl) rfl (lb_ rfl) ?_
  refine xx_iload_n C (dl_2.at 7 rfl) rfl ?_
  refine xx_iconst C (dl_2.at 8 rfl) ic_2 ?_
  refine xx_iadd C (dl_2.at 9 rfl) ?_
  refine xx_sld C X (dl_2.at 10 rfl) (hin 2 (lb_ rfl) (lb_ rfl)) ?_
  refine xx_callVi C (ss_X7_at e1) (dl_2.at 11 rfl) ck_6 rfl sh_k1 kk_X7_at ki_X7_at ll_23 (lb_ rfl) rfl rfl (lb_ rfl) ?_
  refine xx_aload_n C (dl_2.at 12 rfl) rfl (lb_ rfl) ?_
  refine xx_aload_n C (dl_2.at 13 rfl) rfl (lb_ rfl) ?_
  refine xx_iload_n C (dl_2.at 14 rfl) rfl ?_
  refine xx_iconst C (dl_2.at 15 rfl) ic_1 ?_
  refine xx_iadd C (dl_2.at 16 rfl) ?_
  refine xx_sld C X (dl_2.at 17 rfl) (hin 1 (lb_ rfl) (lb_ rfl)) ?_
  refine xx_aload_n C (dl_2.at 18 rfl) rfl (lb_ rfl) ?_
  refine xx_iload_n C (dl_2.at 19 rfl) rfl ?_
  refine xx_iconst C (dl_2.at 20 rfl) ic_2 ?_
  refine xx_iadd C (dl_2.at 21 rfl) ?_
  refine xx_sld C X (dl_2.at 22 rfl) (hin 2 (lb_ rfl) (lb_ rfl)) ?_
  refine xx_callVi C (ss_X8_at e2) (dl_2.at 23 rfl) ck_7 rfl sh_k98 kk_X8_at ki_X8_at ll_26 (lb_ rfl) rfl rfl (lb_ rfl) ?_
  refine xx_icmp_eq_t (tgt := 1727) C (dl_2.at 24 rfl) (by decide) rfl ?_
  exact K h2 hi
theorem law_3 {I : hh_ → Prop} (S : sp_3 I) {Z : zz_} (C : cx_ Z mt_law 100) {b L : Nat} {xs : Nat → Int32} (X : lx_ Z b L xs) {x3 : Int32} (hin : ∀ j : Nat, 1 ≤ j → j ≤ 5 → vp_in (x3 + Int32.ofNat j) L) {h : hh_} (hI : I h) (K : ∀ h2, I h2 → xx_ Z 1727 [some (.ref 509), some (.ref 1), some (.ref 98), some (.int x3)] [] h2) : xx_ Z 349 [some (.ref 509), some (.ref 1), some (.ref 98), some (.int x3)] [] h := by
  obtain ⟨r, h1, h2, e1, e2, hi⟩ := S h (xs (x3 + (1 : Int32)).toNatClampNeg) hI
  refine xx_aload_n C (dl_3.at 0 rfl) rfl (lb_ rfl) ?_
  refine xx_aload_n C (dl_3.at 1 rfl) rfl (lb_ rfl) ?_
  refine xx_iload_n C (dl_3.at 2 rfl) rfl ?_
  refine xx_iconst C (dl_3.at 3 rfl) ic_1 ?_
  refine xx_iadd C (dl_3.at 4 rfl) ?_
  refine xx_sld C X (dl_3.at 5 rfl) (hin 1 (lb_ rfl) (lb_ rfl)) ?_
  refine xx_callVi C (ss_X7_tear e1) (dl_3.at 6 rfl) ck_6 rfl sh_k1 kk_X7_tear ki_X7_tear ll_27 (lb_ rfl) rfl rfl (lb_ rfl) ?_
  refine xx_aload_n C (dl_3.at 7 rfl) rfl (lb_ rfl) ?_
  refine xx_aload_n C (dl_3.at 8 rfl) rfl (lb_ rfl) ?_
  refine xx_iload_n C (dl_3.at 9 rfl) rfl ?_
  refine xx_iconst C (dl_3.at 10 rfl) ic_1 ?_
  refine xx_iadd C (dl_3.at 11 rfl) ?_
  refine xx_sld C X (dl_3.at 12 rfl) (hin 1 (lb_ rfl) (lb_ rfl)) ?_
  refine xx_callVi C (ss_X8_tear e2) (dl_3.at 13 rfl) ck_7 rfl sh_k98 kk_X8_tear ki_X8_tear ll_31 (lb_ rfl) rfl rfl (lb_ rfl) ?_
  refine xx_icmp_eq_t (tgt := 1727) C (dl_3.at 14 rfl) (by decide) rfl ?_
  exact K h2 hi
theorem law_4 {I : hh_ → Prop} (S : sp_4 I) {Z : zz_} (C : cx_ Z mt_law 100) {b L : Nat} {xs : Nat → Int32} (X : lx_ Z b L xs) {x3 : Int32} (hin : ∀ j : Nat, 1 ≤ j → j ≤ 5 → vp_in (x3 + Int32.ofNat j) L) {h : hh_} (hI : I h) (K : ∀ h2, I h2 → xx_ Z 1727 [some (.ref 509), some (.ref 1), some (.ref 98), some (.int x3)] [] h2) : xx_ Z 372 [some (.ref 509), some (.ref 1), some (.ref 98), some (.int x3)] [] h := by
  obtain ⟨r, h1, h2, e1, e2, hi⟩ := S h (xs (x3 + (1 : Int32)).toNatClampNeg) (xs (x3 + (2 : Int32)).toNatClampNeg) (xs (x3 + (3 : Int32)).toNatClampNeg) (xs (x3 + (4 : Int32)).toNatClampNeg) (xs (x3 + (5 : Int32)).toNatClampNeg) hI
  refine xx_aload_n C (dl_4.at 0 rfl) rfl (lb_ rfl) ?_
  refine xx_aload_n C (dl_4.at 1 rfl) rfl (lb_ rfl) ?_
  refine xx_iload_n C (dl_4.at 2 rfl) rfl ?_
  refine xx_iconst C (dl_4.at 3 rfl) ic_1 ?_
  refine xx_iadd C (dl_4.at 4 rfl) ?_
  refine xx_sld C X (dl_4.at 5 rfl) (hin 1 (lb_ rfl) (lb_ rfl)) ?_
  refine xx_aload_n C (dl_4.at 6 rfl) rfl (lb_ rfl) ?_
  refine xx_iload_n C (dl_4.at 7 rfl) rfl ?_
  refine xx_iconst C (dl_4.at 8 rfl) ic_2 ?_
  refine xx_iadd C (dl_4.at 9 rfl) ?_
  refine xx_sld C X (dl_4.at 10 rfl) (hin 2 (lb_ rfl) (lb_ rfl)) ?_
  refine xx_aload_n C (dl_4.at 11 rfl) rfl (lb_ rfl) ?_
  refine xx_iload_n C (dl_4.at 12 rfl) rfl ?_
  refine xx_iconst C (dl_4.at 13 rfl) ic_3 ?_
  refine xx_iadd C (dl_4.at 14 rfl) ?_
  refine xx_sld C X (dl_4.at 15 rfl) (hin 3 (lb_ rfl) (lb_ rfl)) ?_
  refine xx_aload_n C (dl_4.at 16 rfl) rfl (lb_ rfl) ?_
  refine xx_iload_n C (dl_4.at 17 rfl) rfl ?_
  refine xx_iconst C (dl_4.at 18 rfl) ic_4 ?_
  refine xx_iadd C (dl_4.at 19 rfl) ?_
  refine xx_sld C X (dl_4.at 20 rfl) (hin 4 (lb_ rfl) (lb_ rfl)) ?_
  refine xx_aload_n C (dl_4.at 21 rfl) rfl (lb_ rfl) ?_
  refine xx_iload_n C (dl_4.at 22 rfl) rfl ?_
  refine xx_iconst C (dl_4.at 23 rfl) ic_5 ?_
  refine xx_iadd C (dl_4.at 24 rfl) ?_
  refine xx_sld C X (dl_4.at 25 rfl) (hin 5 (lb_ rfl) (lb_ rfl)) ?_
  refine xx_callVi C (ss_X7_copy e1) (dl_4.at 26 rfl) ck_6 rfl sh_k1 kk_X7_copy ki_X7_copy ll_32 (lb_ rfl) rfl rfl (lb_ rfl) ?_
  refine xx_aload_n C (dl_4.at 27 rfl) rfl (lb_ rfl) ?_
  refine xx_aload_n C (dl_4.at 28 rfl) rfl (lb_ rfl) ?_
  refine xx_iload_n C (dl_4.at 29 rfl) rfl ?_
  refine xx_iconst C (dl_4.at 30 rfl) ic_1 ?_
  refine xx_iadd C (dl_4.at 31 rfl) ?_
  refine xx_sld C X (dl_4.at 32 rfl) (hin 1 (lb_ rfl) (lb_ rfl)) ?_
  refine xx_aload_n C (dl_4.at 33 rfl) rfl (lb_ rfl) ?_
  refine xx_iload_n C (dl_4.at 34 rfl) rfl ?_
  refine xx_iconst C (dl_4.at 35 rfl) ic_2 ?_
  refine xx_iadd C (dl_4.at 36 rfl) ?_
  refine xx_sld C X (dl_4.at 37 rfl) (hin 2 (lb_ rfl) (lb_ rfl)) ?_
  refine xx_aload_n C (dl_4.at 38 rfl) rfl (lb_ rfl) ?_
  refine xx_iload_n C (dl_4.at 39 rfl) rfl ?_
  refine xx_iconst C (dl_4.at 40 rfl) ic_3 ?_
  refine xx_iadd C (dl_4.at 41 rfl) ?_
  refine xx_sld C X (dl_4.at 42 rfl) (hin 3 (lb_ rfl) (lb_ rfl)) ?_
  refine xx_aload_n C (dl_4.at 43 rfl) rfl (lb_ rfl) ?_
  refine xx_iload_n C (dl_4.at 44 rfl) rfl ?_
  refine xx_iconst C (dl_4.at 45 rfl) ic_4 ?_
  refine xx_iadd C (dl_4.at 46 rfl) ?_
  refine xx_sld C X (dl_4.at 47 rfl) (hin 4 (lb_ rfl) (lb_ rfl)) ?_
  refine xx_aload_n C (dl_4.at 48 rfl) rfl (lb_ rfl) ?_
  refine xx_iload_n C (dl_4.at 49 rfl) rfl ?_
  refine xx_iconst C (dl_4.at 50 rfl) ic_5 ?_
  refine xx_iadd C (dl_4.at 51 rfl) ?_
  refine xx_sld C X (dl_4.at 52 rfl) (hin 5 (lb_ rfl) (lb_ rfl)) ?_
  refine xx_callVi C (ss_X8_copy e2) (dl_4.at 53 rfl) ck_7 rfl sh_k98 kk_X8_copy ki_X8_copy ll_36 (lb_ rfl) rfl rfl (lb_ rfl) ?_
  refine xx_icmp_eq_t (tgt := 1727) C (dl_4.at 54 rfl) (by decide) rfl ?_
  exact K h2 hi
theorem law_5 {I : hh_ → Prop} (S : sp_5 I) {Z : zz_} (C : cx_ Z mt_law 100) {b L : Nat} {xs : Nat → Int32} (X : lx_ Z b L xs) {x3 : Int32} (hin : ∀ j : Nat, 1 ≤ j → j ≤ 5 → vp_in (x3 + Int32.ofNat j) L) {h : hh_} (hI : I h) (K : ∀ h2, I h2 → xx_ Z 1727 [some (.ref 509), some (.ref 1), some (.ref 98), some (.int x3)] [] h2) : xx_ Z 435 [some (.ref 509), some (.ref 1), some (.ref 98), some (.int x3)] [] h := by
  obtain ⟨r, h1, h2, e1, e2, hi⟩ := S h (xs (x3 + (1 : Int32)).toNatClampNeg) hI
  refine xx_aload_n C (dl_5.at 0 rfl) rfl (lb_ rfl) ?_
  refine xx_aload_n C (dl_5.at 1 rfl) rfl (lb_ rfl) ?_
  refine xx_iload_n C (dl_5.at 2 rfl) rfl ?_
  refine xx_iconst C (dl_5.at 3 rfl) ic_1 ?_
  refine xx_iadd C (dl_5.at 4 rfl) ?_
  refine xx_sld C X (dl_5.at 5 rfl) (hin 1 (lb_ rfl) (lb_ rfl)) ?_
  refine xx_callVi C (ss_X7_mean e1) (dl_5.at 6 rfl) ck_6 rfl sh_k1 kk_X7_mean ki_X7_mean ll_37 (lb_ rfl) rfl rfl (lb_ rfl) ?_
  refine xx_aload_n C (dl_5.at 7 rfl) rfl (lb_ rfl) ?_
  refine xx_aload_n C (dl_5.at 8 rfl) rfl (lb_ rfl) ?_
  refine xx_iload_n C (dl_5.at 9 rfl) rfl ?_
  refine xx_iconst C (dl_5.at 10 rfl) ic_1 ?_
  refine xx_iadd C (dl_5.at 11 rfl) ?_
  refine xx_sld C X (dl_5.at 12 rfl) (hin 1 (lb_ rfl) (lb_ rfl)) ?_
  refine xx_callVi C (ss_X8_mean e2) (dl_5.at 13 rfl) ck_7 rfl sh_k98 kk_X8_mean ki_X8_mean ll_40 (lb_ rfl) rfl rfl (lb_ rfl) ?_
  refine xx_icmp_eq_t (tgt := 1727) C (dl_5.at 14 rfl) (by decide) rfl ?_
  exact K h2 hi
theorem law_6 {I : hh_ → Prop} (S : sp_6 I) {Z : zz_} (C : cx_ Z mt_law 100) {b L : Nat} {xs : Nat → Int32} (X : lx_ Z b L xs) {x3 : Int32} (hin : ∀ j : Nat, 1 ≤ j → j ≤ 5 → vp_in (x3 + Int32.ofNat j) L) {h : hh_} (hI : I h) (K : ∀ h2, I h2 → xx_ Z 1727 [some (.ref 509), some (.ref 1), some (.ref 98), some (.int x3)] [] h2) : xx_ Z 458 [some (.ref 509), some (.ref 1), some (.ref 98), some (.int x3)] [] h := by
  obtain ⟨r, h1, h2, e1, e2, hi⟩ := S h (xs (x3 + (1 : Int32)).toNatClampNeg) (xs (x3 + (2 : Int32)).toNatClampNeg) hI
  refine xx_aload_n C (dl_6.at 0 rfl) rfl (lb_ rfl) ?_
  refine xx_aload_n C (dl_6.at 1 rfl) rfl (lb_ rfl) ?_
  refine xx_iload_n C (dl_6.at 2 rfl) rfl ?_
  refine xx_iconst C (dl_6.at 3 rfl) ic_1 ?_
  refine xx_iadd C (dl_6.at 4 rfl) ?_
  refine xx_sld C X (dl_6.at 5 rfl) (hin 1 (lb_ rfl) (lb_ rfl)) ?_
  refine xx_aload_n C (dl_6.at 6 rfl) rfl (lb_ rfl) ?_
  refine xx_iload_n C (dl_6.at 7 rfl) rfl ?_
  refine xx_iconst C (dl_6.at 8 rfl) ic_2 ?_
  refine xx_iadd C (dl_6.at 9 rfl) ?_
  refine xx_sld C X (dl_6.at 10 rfl) (hin 2 (lb_ rfl) (lb_ rfl)) ?_
  refine xx_callVi C (ss_X7_text e1) (dl_6.at 11 rfl) ck_6 rfl sh_k1 kk_X7_text ki_X7_text ll_41 (lb_ rfl) rfl rfl (lb_ rfl) ?_
  refine xx_aload_n C (dl_6.at 12 rfl) rfl (lb_ rfl) ?_
  refine xx_aload_n C (dl_6.at 13 rfl) rfl (lb_ rfl) ?_
  refine xx_iload_n C (dl_6.at 14 rfl) rfl ?_
  refine xx_iconst C (dl_6.at 15 rfl) ic_1 ?_
  refine xx_iadd C (dl_6.at 16 rfl) ?_
  refine xx_sld C X (dl_6.at 17 rfl) (hin 1 (lb_ rfl) (lb_ rfl)) ?_
  refine xx_aload_n C (dl_6.at 18 rfl) rfl (lb_ rfl) ?_
  refine xx_iload_n C (dl_6.at 19 rfl) rfl ?_
  refine xx_iconst C (dl_6.at 20 rfl) ic_2 ?_
  refine xx_iadd C (dl_6.at 21 rfl) ?_
  refine xx_sld C X (dl_6.at 22 rfl) (hin 2 (lb_ rfl) (lb_ rfl)) ?_
  refine xx_callVi C (ss_X8_text e2) (dl_6.at 23 rfl) ck_7 rfl sh_k98 kk_X8_text ki_X8_text ll_44 (lb_ rfl) rfl rfl (lb_ rfl) ?_
  refine xx_icmp_eq_t (tgt := 1727) C (dl_6.at 24 rfl) (by decide) rfl ?_
  exact K h2 hi
theorem law_7 {I : hh_ → Prop} (S : sp_7 I) {Z : zz_} (C : cx_ Z mt_law 100) {b L : Nat} {xs : Nat → Int32} (X : lx_ Z b L xs) {x3 : Int32} (hin : ∀ j : Nat, 1 ≤ j → j ≤ 5 → vp_in (x3 + Int32.ofNat j) L) {h : hh_} (hI : I h) (K : ∀ h2, I h2 → xx_ Z 1727 [some (.ref 509), some (.ref 1), some (.ref 98), some (.int x3)] [] h2) : xx_ Z 491 [some (.ref 509), some (.ref 1), some (.ref 98), some (.int x3)] [] h := by
  obtain ⟨r, h1, h2, e1, e2, hi⟩ := S h (xs (x3 + (1 : Int32)).toNatClampNeg) (xs (x3 + (2 : Int32)).toNatClampNeg) (xs (x3 + (3 : Int32)).toNatClampNeg) hI
  refine xx_aload_n C (dl_7.at 0 rfl) rfl (lb_ rfl) ?_
  refine xx_aload_n C (dl_7.at 1 rfl) rfl (lb_ rfl) ?_
  refine xx_iload_n C (dl_7.at 2 rfl) rfl ?_
  refine xx_iconst C (dl_7.at 3 rfl) ic_1 ?_
  refine xx_iadd C (dl_7.at 4 rfl) ?_
  refine xx_sld C X (dl_7.at 5 rfl) (hin 1 (lb_ rfl) (lb_ rfl)) ?_
  refine xx_aload_n C (dl_7.at 6 rfl) rfl (lb_ rfl) ?_
  refine xx_iload_n C (dl_7.at 7 rfl) rfl ?_
  refine xx_iconst C (dl_7.at 8 rfl) ic_2 ?_
  refine xx_iadd C (dl_7.at 9 rfl) ?_
  refine xx_sld C X (dl_7.at 10 rfl) (hin 2 (lb_ rfl) (lb_ rfl)) ?_
  refine xx_aload_n C (dl_7.at 11 rfl) rfl (lb_ rfl) ?_
  refine xx_iload_n C (dl_7.at 12 rfl) rfl ?_
  refine xx_iconst C (dl_7.at 13 rfl) ic_3 ?_
  refine xx_iadd C (dl_7.at 14 rfl) ?_
  refine xx_sld C X (dl_7.at 15 rfl) (hin 3 (lb_ rfl) (lb_ rfl)) ?_
  refine xx_callVi C (ss_X7_put e1) (dl_7.at 16 rfl) ck_6 rfl sh_k1 kk_X7_put ki_X7_put ll_45 (lb_ rfl) rfl rfl (lb_ rfl) ?_
  refine xx_aload_n C (dl_7.at 17 rfl) rfl (lb_ rfl) ?_
  refine xx_aload_n C (dl_7.at 18 rfl) rfl (lb_ rfl) ?_
  refine xx_iload_n C (dl_7.at 19 rfl) rfl ?_
  refine xx_iconst C (dl_7.at 20 rfl) ic_1 ?_
  refine xx_iadd C (dl_7.at 21 rfl) ?_
  refine xx_sld C X (dl_7.at 22 rfl) (hin 1 (lb_ rfl) (lb_ rfl)) ?_
  refine xx_aload_n C (dl_7.at 23 rfl) rfl (lb_ rfl) ?_
  refine xx_iload_n C (dl_7.at 24 rfl) rfl ?_
  refine xx_iconst C (dl_7.at 25 rfl) ic_2 ?_
  refine xx_iadd C (dl_7.at 26 rfl) ?_
  refine xx_sld C X (dl_7.at 27 rfl) (hin 2 (lb_ rfl) (lb_ rfl)) ?_
  refine xx_aload_n C (dl_7.at 28 rfl) rfl (lb_ rfl) ?_
  refine xx_iload_n C (dl_7.at 29 rfl) rfl ?_
  refine xx_iconst C (dl_7.at 30 rfl) ic_3 ?_
  refine xx_iadd C (dl_7.at 31 rfl) ?_
  refine xx_sld C X (dl_7.at 32 rfl) (hin 3 (lb_ rfl) (lb_ rfl)) ?_
  refine xx_callVi C (ss_X8_put e2) (dl_7.at 33 rfl) ck_7 rfl sh_k98 kk_X8_put ki_X8_put ll_48 (lb_ rfl) rfl rfl (lb_ rfl) ?_
  refine xx_icmp_eq_t (tgt := 1727) C (dl_7.at 34 rfl) (by decide) rfl ?_
  exact K h2 hi
theorem law_8 {I : hh_ → Prop} (S : sp_8 I) {Z : zz_} (C : cx_ Z mt_law 100) {b L : Nat} {xs : Nat → Int32} (X : lx_ Z b L xs) {x3 : Int32} (hin : ∀ j : Nat, 1 ≤ j → j ≤ 5 → vp_in (x3 + Int32.ofNat j) L) {h : hh_} (hI : I h) (K : ∀ h2, I h2 → xx_ Z 1727 [some (.ref 509), some (.ref 1), some (.ref 98), some (.int x3)] [] h2) : xx_ Z 534 [some (.ref 509), some (.ref 1), some (.ref 98), some (.int x3)] [] h := by
  obtain ⟨r, h1, h2, e1, e2, hi⟩ := S h (xs (x3 + (1 : Int32)).toNatClampNeg) hI
  refine xx_aload_n C (dl_8.at 0 rfl) rfl (lb_ rfl) ?_
  refine xx_aload_n C (dl_8.at 1 rfl) rfl (lb_ rfl) ?_
  refine xx_iload_n C (dl_8.at 2 rfl) rfl ?_
  refine xx_iconst C (dl_8.at 3 rfl) ic_1 ?_
  refine xx_iadd C (dl_8.at 4 rfl) ?_
  refine xx_sld C X (dl_8.at 5 rfl) (hin 1 (lb_ rfl) (lb_ rfl)) ?_
  refine xx_callVi C (ss_X7_fault e1) (dl_8.at 6 rfl) ck_6 rfl sh_k1 kk_X7_fault ki_X7_fault ll_49 (lb_ rfl) rfl rfl (lb_ rfl) ?_
  refine xx_aload_n C (dl_8.at 7 rfl) rfl (lb_ rfl) ?_
  refine xx_aload_n C (dl_8.at 8 rfl) rfl (lb_ rfl) ?_
  refine xx_iload_n C (dl_8.at 9 rfl) rfl ?_
  refine xx_iconst C (dl_8.at 10 rfl) ic_1 ?_
  refine xx_iadd C (dl_8.at 11 rfl) ?_
  refine xx_sld C X (dl_8.at 12 rfl) (hin 1 (lb_ rfl) (lb_ rfl)) ?_
  refine xx_callVi C (ss_X8_fault e2) (dl_8.at 13 rfl) ck_7 rfl sh_k98 kk_X8_fault ki_X8_fault ll_52 (lb_ rfl) rfl rfl (lb_ rfl) ?_
  refine xx_icmp_eq_t (tgt := 1727) C (dl_8.at 14 rfl) (by decide) rfl ?_
  exact K h2 hi
theorem law_9 {I : hh_ → Prop} (S : sp_9 I) {Z : zz_} (C : cx_ Z mt_law 100) {b L : Nat} {xs : Nat → Int32} (X : lx_ Z b L xs) {x3 : Int32} (hin : ∀ j : Nat, 1 ≤ j → j ≤ 5 → vp_in (x3 + Int32.ofNat j) L) {h : hh_} (hI : I h) (K : ∀ h2, I h2 → xx_ Z 1727 [some (.ref 509), some (.ref 1), some (.ref 98), some (.int x3)] [] h2) : xx_ Z 557 [some (.ref 509), some (.ref 1), some (.ref 98), some (.int x3)] [] h := by
  obtain ⟨r, h1, h2, e1, e2, hi⟩ := S h (xs (x3 + (1 : Int32)).toNatClampNeg) hI
  refine xx_aload_n C (dl_9.at 0 rfl) rfl (lb_ rfl) ?_
  refine xx_aload_n C (dl_9.at 1 rfl) rfl (lb_ rfl) ?_
  refine xx_iload_n C (dl_9.at 2 rfl) rfl ?_
  refine xx_iconst C (dl_9.at 3 rfl) ic_1 ?_
  refine xx_iadd C (dl_9.at 4 rfl) ?_
  refine xx_sld C X (dl_9.at 5 rfl) (hin 1 (lb_ rfl) (lb_ rfl)) ?_
  refine xx_callVi C (ss_X7_office e1) (dl_9.at 6 rfl) ck_6 rfl sh_k1 kk_X7_office ki_X7_office ll_53 (lb_ rfl) rfl rfl (lb_ rfl) ?_
  refine xx_aload_n C (dl_9.at 7 rfl) rfl (lb_ rfl) ?_
  refine xx_aload_n C (dl_9.at 8 rfl) rfl (lb_ rfl) ?_
  refine xx_iload_n C (dl_9.at 9 rfl) rfl ?_
  refine xx_iconst C (dl_9.at 10 rfl) ic_1 ?_
  refine xx_iadd C (dl_9.at 11 rfl) ?_
  refine xx_sld C X (dl_9.at 12 rfl) (hin 1 (lb_ rfl) (lb_ rfl)) ?_
  refine xx_callVi C (ss_X8_office e2) (dl_9.at 13 rfl) ck_7 rfl sh_k98 kk_X8_office ki_X8_office ll_56 (lb_ rfl) rfl rfl (lb_ rfl) ?_
  refine xx_icmp_eq_t (tgt := 1727) C (dl_9.at 14 rfl) (by decide) rfl ?_
  exact K h2 hi
theorem law_10 {I : hh_ → Prop} (S : sp_10 I) {Z : zz_} (C : cx_ Z mt_law 100) {b L : Nat} {xs : Nat → Int32} (X : lx_ Z b L xs) {x3 : Int32} (hin : ∀ j : Nat, 1 ≤ j → j ≤ 5 → vp_in (x3 + Int32.ofNat j) L) {h : hh_} (hI : I h) (K : ∀ h2, I h2 → xx_ Z 1727 [some (.ref 509), some (.ref 1), some (.ref 98), some (.int x3)] [] h2) : xx_ Z 580 [some (.ref 509), some (.ref 1), some (.ref 98), some (.int x3)] [] h := by
  obtain ⟨r, h1, h2, e1, e2, hi⟩ := S h (xs (x3 + (1 : Int32)).toNatClampNeg) (xs (x3 + (2 : Int32)).toNatClampNeg) hI
  refine xx_aload_n C (dl_10.at 0 rfl) rfl (lb_ rfl) ?_
  refine xx_aload_n C (dl_10.at 1 rfl) rfl (lb_ rfl) ?_
  refine xx_iload_n C (dl_10.at 2 rfl) rfl ?_
  refine xx_iconst C (dl_10.at 3 rfl) ic_1 ?_
  refine xx_iadd C (dl_10.at 4 rfl) ?_
  refine xx_sld C X (dl_10.at 5 rfl) (hin 1 (lb_ rfl) (lb_ rfl)) ?_
  refine xx_aload_n C (dl_10.at 6 rfl) rfl (lb_ rfl) ?_
  refine xx_iload_n C (dl_10.at 7 rfl) rfl ?_
  refine xx_iconst C (dl_10.at 8 rfl) ic_2 ?_
  refine xx_iadd C (dl_10.at 9 rfl) ?_
  refine xx_sld C X (dl_10.at 10 rfl) (hin 2 (lb_ rfl) (lb_ rfl)) ?_
  refine xx_callVi C (ss_X7_head e1) (dl_10.at 11 rfl) ck_6 rfl sh_k1 kk_X7_head ki_X7_head ll_57 (lb_ rfl) rfl rfl (lb_ rfl) ?_
  refine xx_aload_n C (dl_10.at 12 rfl) rfl (lb_ rfl) ?_
  refine xx_aload_n C (dl_10.at 13 rfl) rfl (lb_ rfl) ?_
  refine xx_iload_n C (dl_10.at 14 rfl) rfl ?_
  refine xx_iconst C (dl_10.at 15 rfl) ic_1 ?_
  refine xx_iadd C (dl_10.at 16 rfl) ?_
  refine xx_sld C X (dl_10.at 17 rfl) (hin 1 (lb_ rfl) (lb_ rfl)) ?_
  refine xx_aload_n C (dl_10.at 18 rfl) rfl (lb_ rfl) ?_
  refine xx_iload_n C (dl_10.at 19 rfl) rfl ?_
  refine xx_iconst C (dl_10.at 20 rfl) ic_2 ?_
  refine xx_iadd C (dl_10.at 21 rfl) ?_
  refine xx_sld C X (dl_10.at 22 rfl) (hin 2 (lb_ rfl) (lb_ rfl)) ?_
  refine xx_callVi C (ss_X8_head e2) (dl_10.at 23 rfl) ck_7 rfl sh_k98 kk_X8_head ki_X8_head ll_60 (lb_ rfl) rfl rfl (lb_ rfl) ?_
  refine xx_icmp_eq_t (tgt := 1727) C (dl_10.at 24 rfl) (by decide) rfl ?_
  exact K h2 hi
theorem law_11 {I : hh_ → Prop} (S : sp_11 I) {Z : zz_} (C : cx_ Z mt_law 100) {b L : Nat} {xs : Nat → Int32} (X : lx_ Z b L xs) {x3 : Int32} (hin : ∀ j : Nat, 1 ≤ j → j ≤ 5 → vp_in (x3 + Int32.ofNat j) L) {h : hh_} (hI : I h) (K : ∀ h2, I h2 → xx_ Z 1727 [some (.ref 509), some (.ref 1), some (.ref 98), some (.int x3)] [] h2) : xx_ Z 613 [some (.ref 509), some (.ref 1), some (.ref 98), some (.int x3)] [] h := by
  obtain ⟨r, h1, h2, e1, e2, hi⟩ := S h (xs (x3 + (1 : Int32)).toNatClampNeg) (xs (x3 + (2 : Int32)).toNatClampNeg) hI
  refine xx_aload_n C (dl_11.at 0 rfl) rfl (lb_ rfl) ?_
  refine xx_aload_n C (dl_11.at 1 rfl) rfl (lb_ rfl) ?_
  refine xx_iload_n C (dl_11.at 2 rfl) rfl ?_
  refine xx_iconst C (dl_11.at 3 rfl) ic_1 ?_
  refine xx_iadd C (dl_11.at 4 rfl) ?_
  refine xx_sld C X (dl_11.at 5 rfl) (hin 1 (lb_ rfl) (lb_ rfl)) ?_
  refine xx_aload_n C (dl_11.at 6 rfl) rfl (lb_ rfl) ?_
  refine xx_iload_n C (dl_11.at 7 rfl) rfl ?_
  refine xx_iconst C (dl_11.at 8 rfl) ic_2 ?_
  refine xx_iadd C (dl_11.at 9 rfl) ?_
  refine xx_sld C X (dl_11.at 10 rfl) (hin 2 (lb_ rfl) (lb_ rfl)) ?_
  refine xx_callVi C (ss_X7_thumb e1) (dl_11.at 11 rfl) ck_6 rfl sh_k1 kk_X7_thumb ki_X7_thumb ll_61 (lb_ rfl) rfl rfl (lb_ rfl) ?_
  refine xx_aload_n C (dl_11.at 12 rfl) rfl (lb_ rfl) ?_
  refine xx_aload_n C (dl_11.at 13 rfl) rfl (lb_ rfl) ?_
  refine xx_iload_n C (dl_11.at 14 rfl) rfl ?_
  refine xx_iconst C (dl_11.at 15 rfl) ic_1 ?_
  refine xx_iadd C (dl_11.at 16 rfl) ?_
  refine xx_sld C X (dl_11.at 17 rfl) (hin 1 (lb_ rfl) (lb_ rfl)) ?_
  refine xx_aload_n C (dl_11.at 18 rfl) rfl (lb_ rfl) ?_
  refine xx_iload_n C (dl_11.at 19 rfl) rfl ?_
  refine xx_iconst C (dl_11.at 20 rfl) ic_2 ?_
  refine xx_iadd C (dl_11.at 21 rfl) ?_
  refine xx_sld C X (dl_11.at 22 rfl) (hin 2 (lb_ rfl) (lb_ rfl)) ?_
  refine xx_callVi C (ss_X8_thumb e2) (dl_11.at 23 rfl) ck_7 rfl sh_k98 kk_X8_thumb ki_X8_thumb ll_64 (lb_ rfl) rfl rfl (lb_ rfl) ?_
  refine xx_icmp_eq_t (tgt := 1727) C (dl_11.at 24 rfl) (by decide) rfl ?_
  exact K h2 hi
theorem law_12 {I : hh_ → Prop} (S : sp_12 I) {Z : zz_} (C : cx_ Z mt_law 100) {b L : Nat} {xs : Nat → Int32} (X : lx_ Z b L xs) {x3 : Int32} (hin : ∀ j : Nat, 1 ≤ j → j ≤ 5 → vp_in (x3 + Int32.ofNat j) L) {h : hh_} (hI : I h) (K : ∀ h2, I h2 → xx_ Z 1727 [some (.ref 509), some (.ref 1), some (.ref 98), some (.int x3)] [] h2) : xx_ Z 646 [some (.ref 509), some (.ref 1), some (.ref 98), some (.int x3)] [] h := by
  obtain ⟨r, h1, h2, e1, e2, hi⟩ := S h (xs (x3 + (1 : Int32)).toNatClampNeg) (xs (x3 + (2 : Int32)).toNatClampNeg) hI
  refine xx_aload_n C (dl_12.at 0 rfl) rfl (lb_ rfl) ?_
  refine xx_aload_n C (dl_12.at 1 rfl) rfl (lb_ rfl) ?_
  refine xx_iload_n C (dl_12.at 2 rfl) rfl ?_
  refine xx_iconst C (dl_12.at 3 rfl) ic_1 ?_
  refine xx_iadd C (dl_12.at 4 rfl) ?_
  refine xx_sld C X (dl_12.at 5 rfl) (hin 1 (lb_ rfl) (lb_ rfl)) ?_
  refine xx_aload_n C (dl_12.at 6 rfl) rfl (lb_ rfl) ?_
  refine xx_iload_n C (dl_12.at 7 rfl) rfl ?_
  refine xx_iconst C (dl_12.at 8 rfl) ic_2 ?_
  refine xx_iadd C (dl_12.at 9 rfl) ?_
  refine xx_sld C X (dl_12.at 10 rfl) (hin 2 (lb_ rfl) (lb_ rfl)) ?_
  refine xx_callVi C (ss_X7_post e1) (dl_12.at 11 rfl) ck_6 rfl sh_k1 kk_X7_post ki_X7_post ll_65 (lb_ rfl) rfl rfl (lb_ rfl) ?_
  refine xx_aload_n C (dl_12.at 12 rfl) rfl (lb_ rfl) ?_
  refine xx_aload_n C (dl_12.at 13 rfl) rfl (lb_ rfl) ?_
  refine xx_iload_n C (dl_12.at 14 rfl) rfl ?_
  refine xx_iconst C (dl_12.at 15 rfl) ic_1 ?_
  refine xx_iadd C (dl_12.at 16 rfl) ?_
  refine xx_sld C X (dl_12.at 17 rfl) (hin 1 (lb_ rfl) (lb_ rfl)) ?_
  refine xx_aload_n C (dl_12.at 18 rfl) rfl (lb_ rfl) ?_
  refine xx_iload_n C (dl_12.at 19 rfl) rfl ?_
  refine xx_iconst C (dl_12.at 20 rfl) ic_2 ?_
  refine xx_iadd C (dl_12.at 21 rfl) ?_
  refine xx_sld C X (dl_12.at 22 rfl) (hin 2 (lb_ rfl) (lb_ rfl)) ?_
  refine xx_callVi C (ss_X8_post e2) (dl_12.at 23 rfl) ck_7 rfl sh_k98 kk_X8_post ki_X8_post ll_68 (lb_ rfl) rfl rfl (lb_ rfl) ?_
  refine xx_icmp_eq_t (tgt := 1727) C (dl_12.at 24 rfl) (by decide) rfl ?_
  exact K h2 hi
theorem law_13 {I : hh_ → Prop} (S : sp_13 I) {Z : zz_} (C : cx_ Z mt_law 100) {b L : Nat} {xs : Nat → Int32} (X : lx_ Z b L xs) {x3 : Int32} (hin : ∀ j : Nat, 1 ≤ j → j ≤ 5 → vp_in (x3 + Int32.ofNat j) L) {h : hh_} (hI : I h) (K : ∀ h2, I h2 → xx_ Z 1727 [some (.ref 509), some (.ref 1), some (.ref 98), some (.int x3)] [] h2) : xx_ Z 679 [some (.ref 509), some (.ref 1), some (.ref 98), some (.int x3)] [] h := by
  obtain ⟨r, h1, h2, e1, e2, hi⟩ := S h (xs (x3 + (1 : Int32)).toNatClampNeg) (xs (x3 + (2 : Int32)).toNatClampNeg) hI
  refine xx_aload_n C (dl_13.at 0 rfl) rfl (lb_ rfl) ?_
  refine xx_aload_n C (dl_13.at 1 rfl) rfl (lb_ rfl) ?_
  refine xx_iload_n C (dl_13.at 2 rfl) rfl ?_
  refine xx_iconst C (dl_13.at 3 rfl) ic_1 ?_
  refine xx_iadd C (dl_13.at 4 rfl) ?_
  refine xx_sld C X (dl_13.at 5 rfl) (hin 1 (lb_ rfl) (lb_ rfl)) ?_
  refine xx_aload_n C (dl_13.at 6 rfl) rfl (lb_ rfl) ?_
  refine xx_iload_n C (dl_13.at 7 rfl) rfl ?_
  refine xx_iconst C (dl_13.at 8 rfl) ic_2 ?_
  refine xx_iadd C (dl_13.at 9 rfl) ?_
  refine xx_sld C X (dl_13.at 10 rfl) (hin 2 (lb_ rfl) (lb_ rfl)) ?_
  refine xx_callVi C (ss_X7_mark e1) (dl_13.at 11 rfl) ck_6 rfl sh_k1 kk_X7_mark ki_X7_mark ll_69 (lb_ rfl) rfl rfl (lb_ rfl) ?_
  refine xx_aload_n C (dl_13.at 12 rfl) rfl (lb_ rfl) ?_
  refine xx_aload_n C (dl_13.at 13 rfl) rfl (lb_ rfl) ?_
  refine xx_iload_n C (dl_13.at 14 rfl) rfl ?_
  refine xx_iconst C (dl_13.at 15 rfl) ic_1 ?_
  refine xx_iadd C (dl_13.at 16 rfl) ?_
  refine xx_sld C X (dl_13.at 17 rfl) (hin 1 (lb_ rfl) (lb_ rfl)) ?_
  refine xx_aload_n C (dl_13.at 18 rfl) rfl (lb_ rfl) ?_
  refine xx_iload_n C (dl_13.at 19 rfl) rfl ?_
  refine xx_iconst C (dl_13.at 20 rfl) ic_2 ?_
  refine xx_iadd C (dl_13.at 21 rfl) ?_
  refine xx_sld C X (dl_13.at 22 rfl) (hin 2 (lb_ rfl) (lb_ rfl)) ?_
  refine xx_callVi C (ss_X8_mark e2) (dl_13.at 23 rfl) ck_7 rfl sh_k98 kk_X8_mark ki_X8_mark ll_72 (lb_ rfl) rfl rfl (lb_ rfl) ?_
  refine xx_icmp_eq_t (tgt := 1727) C (dl_13.at 24 rfl) (by decide) rfl ?_
  exact K h2 hi
theorem law_14 {I : hh_ → Prop} (S : sp_14 I) {Z : zz_} (C : cx_ Z mt_law 100) {b L : Nat} {xs : Nat → Int32} (X : lx_ Z b L xs) {x3 : Int32} (hin : ∀ j : Nat, 1 ≤ j → j ≤ 5 → vp_in (x3 + Int32.ofNat j) L) {h : hh_} (hI : I h) (K : ∀ h2, I h2 → xx_ Z 1727 [some (.ref 509), some (.ref 1), some (.ref 98), some (.int x3)] [] h2) : xx_ Z 712 [some (.ref 509), some (.ref 1), some (.ref 98), some (.int x3)] [] h := by
  obtain ⟨r, h1, h2, e1, e2, hi⟩ := S h (xs (x3 + (1 : Int32)).toNatClampNeg) (xs (x3 + (2 : Int32)).toNatClampNeg) hI
  refine xx_aload_n C (dl_14.at 0 rfl) rfl (lb_ rfl) ?_
  refine xx_aload_n C (dl_14.at 1 rfl) rfl (lb_ rfl) ?_
  refine xx_iload_n C (dl_14.at 2 rfl) rfl ?_
  refine xx_iconst C (dl_14.at 3 rfl) ic_1 ?_
  refine xx_iadd C (dl_14.at 4 rfl) ?_
  refine xx_sld C X (dl_14.at 5 rfl) (hin 1 (lb_ rfl) (lb_ rfl)) ?_
  refine xx_aload_n C (dl_14.at 6 rfl) rfl (lb_ rfl) ?_
  refine xx_iload_n C (dl_14.at 7 rfl) rfl ?_
  refine xx_iconst C (dl_14.at 8 rfl) ic_2 ?_
  refine xx_iadd C (dl_14.at 9 rfl) ?_
  refine xx_sld C X (dl_14.at 10 rfl) (hin 2 (lb_ rfl) (lb_ rfl)) ?_
  refine xx_callVi C (ss_X7_error e1) (dl_14.at 11 rfl) ck_6 rfl sh_k1 kk_X7_error ki_X7_error ll_73 (lb_ rfl) rfl rfl (lb_ rfl) ?_
  refine xx_aload_n C (dl_14.at 12 rfl) rfl (lb_ rfl) ?_
  refine xx_aload_n C (dl_14.at 13 rfl) rfl (lb_ rfl) ?_
  refine xx_iload_n C (dl_14.at 14 rfl) rfl ?_
  refine xx_iconst C (dl_14.at 15 rfl) ic_1 ?_
  refine xx_iadd C (dl_14.at 16 rfl) ?_
  refine xx_sld C X (dl_14.at 17 rfl) (hin 1 (lb_ rfl) (lb_ rfl)) ?_
  refine xx_aload_n C (dl_14.at 18 rfl) rfl (lb_ rfl) ?_
  refine xx_iload_n C (dl_14.at 19 rfl) rfl ?_
  refine xx_iconst C (dl_14.at 20 rfl) ic_2 ?_
  refine xx_iadd C (dl_14.at 21 rfl) ?_
  refine xx_sld C X (dl_14.at 22 rfl) (hin 2 (lb_ rfl) (lb_ rfl)) ?_
  refine xx_callVi C (ss_X8_error e2) (dl_14.at 23 rfl) ck_7 rfl sh_k98 kk_X8_error ki_X8_error ll_76 (lb_ rfl) rfl rfl (lb_ rfl) ?_
  refine xx_icmp_eq_t (tgt := 1727) C (dl_14.at 24 rfl) (by decide) rfl ?_
  exact K h2 hi
theorem law_15 {I : hh_ → Prop} (S : sp_15 I) {Z : zz_} (C : cx_ Z mt_law 100) {b L : Nat} {xs : Nat → Int32} (X : lx_ Z b L xs) {x3 : Int32} (hin : ∀ j : Nat, 1 ≤ j → j ≤ 5 → vp_in (x3 + Int32.ofNat j) L) {h : hh_} (hI : I h) (K : ∀ h2, I h2 → xx_ Z 1727 [some (.ref 509), some (.ref 1), some (.ref 98), some (.int x3)] [] h2) : xx_ Z 745 [some (.ref 509), some (.ref 1), some (.ref 98), some (.int x3)] [] h := by
  obtain ⟨r, h1, h2, e1, e2, hi⟩ := S h (xs (x3 + (1 : Int32)).toNatClampNeg) (xs (x3 + (2 : Int32)).toNatClampNeg) hI
  refine xx_aload_n C (dl_15.at 0 rfl) rfl (lb_ rfl) ?_
  refine xx_aload_n C (dl_15.at 1 rfl) rfl (lb_ rfl) ?_
  refine xx_iload_n C (dl_15.at 2 rfl) rfl ?_
  refine xx_iconst C (dl_15.at 3 rfl) ic_1 ?_
  refine xx_iadd C (dl_15.at 4 rfl) ?_
  refine xx_sld C X (dl_15.at 5 rfl) (hin 1 (lb_ rfl) (lb_ rfl)) ?_
  refine xx_aload_n C (dl_15.at 6 rfl) rfl (lb_ rfl) ?_
  refine xx_iload_n C (dl_15.at 7 rfl) rfl ?_
  refine xx_iconst C (dl_15.at 8 rfl) ic_2 ?_
  refine xx_iadd C (dl_15.at 9 rfl) ?_
  refine xx_sld C X (dl_15.at 10 rfl) (hin 2 (lb_ rfl) (lb_ rfl)) ?_
  refine xx_callVi C (ss_X7_pad e1) (dl_15.at 11 rfl) ck_6 rfl sh_k1 kk_X7_pad ki_X7_pad ll_77 (lb_ rfl) rfl rfl (lb_ rfl) ?_
  refine xx_aload_n C (dl_15.at 12 rfl) rfl (lb_ rfl) ?_
  refine xx_aload_n C (dl_15.at 13 rfl) rfl (lb_ rfl) ?_
  refine xx_iload_n C (dl_15.at 14 rfl) rfl ?_
  refine xx_iconst C (dl_15.at 15 rfl) ic_1 ?_
  refine xx_iadd C (dl_15.at 16 rfl) ?_
  refine xx_sld C X (dl_15.at 17 rfl) (hin 1 (lb_ rfl) (lb_ rfl)) ?_
  refine xx_aload_n C (dl_15.at 18 rfl) rfl (lb_ rfl) ?_
  refine xx_iload_n C (dl_15.at 19 rfl) rfl ?_
  refine xx_iconst C (dl_15.at 20 rfl) ic_2 ?_
  refine xx_iadd C (dl_15.at 21 rfl) ?_
  refine xx_sld C X (dl_15.at 22 rfl) (hin 2 (lb_ rfl) (lb_ rfl)) ?_
  refine xx_callVi C (ss_X8_pad e2) (dl_15.at 23 rfl) ck_7 rfl sh_k98 kk_X8_pad ki_X8_pad ll_80 (lb_ rfl) rfl rfl (lb_ rfl) ?_
  refine xx_icmp_eq_t (tgt := 1727) C (dl_15.at 24 rfl) (by decide) rfl ?_
  exact K h2 hi
theorem law_16 {I : hh_ → Prop} (S : sp_16 I) {Z : zz_} (C : cx_ Z mt_law 100) {b L : Nat} {xs : Nat → Int32} (X : lx_ Z b L xs) {x3 : Int32} (hin : ∀ j : Nat, 1 ≤ j → j ≤ 5 → vp_in (x3 + Int32.ofNat j) L) {h : hh_} (hI : I h) (K : ∀ h2, I h2 → xx_ Z 1727 [some (.ref 509), some (.ref 1), some (.ref 98), some (.int x3)] [] h2) : xx_ Z 778 [some (.ref 509), some (.ref 1), some (.ref 98), some (.int x3)] [] h := by
  obtain ⟨r, h1, h2, e1, e2, hi⟩ := S h (xs (x3 + (1 : Int32)).toNatClampNeg) hI
  refine xx_aload_n C (dl_16.at 0 rfl) rfl (lb_ rfl) ?_
  refine xx_aload_n C (dl_16.at 1 rfl) rfl (lb_ rfl) ?_
  refine xx_iload_n C (dl_16.at 2 rfl) rfl ?_
  refine xx_iconst C (dl_16.at 3 rfl) ic_1 ?_
  refine xx_iadd C (dl_16.at 4 rfl) ?_
  refine xx_sld C X (dl_16.at 5 rfl) (hin 1 (lb_ rfl) (lb_ rfl)) ?_
  refine xx_callVi C (ss_X7_grow e1) (dl_16.at 6 rfl) ck_6 rfl sh_k1 kk_X7_grow ki_X7_grow ll_81 (lb_ rfl) rfl rfl (lb_ rfl) ?_
  refine xx_aload_n C (dl_16.at 7 rfl) rfl (lb_ rfl) ?_
  refine xx_aload_n C (dl_16.at 8 rfl) rfl (lb_ rfl) ?_
  refine xx_iload_n C (dl_16.at 9 rfl) rfl ?_
  refine xx_iconst C (dl_16.at 10 rfl) ic_1 ?_
  refine xx_iadd C (dl_16.at 11 rfl) ?_
  refine xx_sld C X (dl_16.at 12 rfl) (hin 1 (lb_ rfl) (lb_ rfl)) ?_
  refine xx_callVi C (ss_X8_grow e2) (dl_16.at 13 rfl) ck_7 rfl sh_k98 kk_X8_grow ki_X8_grow ll_84 (lb_ rfl) rfl rfl (lb_ rfl) ?_
  refine xx_icmp_eq_t (tgt := 1727) C (dl_16.at 14 rfl) (by decide) rfl ?_
  exact K h2 hi
theorem law_17 {I : hh_ → Prop} (S : sp_17 I) {Z : zz_} (C : cx_ Z mt_law 100) {b L : Nat} {xs : Nat → Int32} (X : lx_ Z b L xs) {x3 : Int32} (hin : ∀ j : Nat, 1 ≤ j → j ≤ 5 → vp_in (x3 + Int32.ofNat j) L) {h : hh_} (hI : I h) (K : ∀ h2, I h2 → xx_ Z 1727 [some (.ref 509), some (.ref 1), some (.ref 98), some (.int x3)] [] h2) : xx_ Z 801 [some (.ref 509), some (.ref 1), some (.ref 98), some (.int x3)] [] h := by
  obtain ⟨r, h1, h2, e1, e2, hi⟩ := S h (xs (x3 + (1 : Int32)).toNatClampNeg) (xs (x3 + (2 : Int32)).toNatClampNeg) hI
  refine xx_aload_n C (dl_17.at 0 rfl) rfl (lb_ rfl) ?_
  refine xx_aload_n C (dl_17.at 1 rfl) rfl (lb_ rfl) ?_
  refine xx_iload_n C (dl_17.at 2 rfl) rfl ?_
  refine xx_iconst C (dl_17.at 3 rfl) ic_1 ?_
  refine xx_iadd C (dl_17.at 4 rfl) ?_
  refine xx_sld C X (dl_17.at 5 rfl) (hin 1 (lb_ rfl) (lb_ rfl)) ?_
  refine xx_aload_n C (dl_17.at 6 rfl) rfl (lb_ rfl) ?_
  refine xx_iload_n C (dl_17.at 7 rfl) rfl ?_
  refine xx_iconst C (dl_17.at 8 rfl) ic_2 ?_
  refine xx_iadd C (dl_17.at 9 rfl) ?_
  refine xx_sld C X (dl_17.at 10 rfl) (hin 2 (lb_ rfl) (lb_ rfl)) ?_
  refine xx_callVi C (ss_X7_cut e1) (dl_17.at 11 rfl) ck_6 rfl sh_k1 kk_X7_cut ki_X7_cut ll_85 (lb_ rfl) rfl rfl (lb_ rfl) ?_
  refine xx_aload_n C (dl_17.at 12 rfl) rfl (lb_ rfl) ?_
  refine xx_aload_n C (dl_17.at 13 rfl) rfl (lb_ rfl) ?_
  refine xx_iload_n C (dl_17.at 14 rfl) rfl ?_
  refine xx_iconst C (dl_17.at 15 rfl) ic_1 ?_
  refine xx_iadd C (dl_17.at 16 rfl) ?_
  refine xx_sld C X (dl_17.at 17 rfl) (hin 1 (lb_ rfl) (lb_ rfl)) ?_
  refine xx_aload_n C (dl_17.at 18 rfl) rfl (lb_ rfl) ?_
  refine xx_iload_n C (dl_17.at 19 rfl) rfl ?_
  refine xx_iconst C (dl_17.at 20 rfl) ic_2 ?_
  refine xx_iadd C (dl_17.at 21 rfl) ?_
  refine xx_sld C X (dl_17.at 22 rfl) (hin 2 (lb_ rfl) (lb_ rfl)) ?_
  refine xx_callVi C (ss_X8_cut e2) (dl_17.at 23 rfl) ck_7 rfl sh_k98 kk_X8_cut ki_X8_cut ll_88 (lb_ rfl) rfl rfl (lb_ rfl) ?_
  refine xx_icmp_eq_t (tgt := 1727) C (dl_17.at 24 rfl) (by decide) rfl ?_
  exact K h2 hi
theorem law_18 {I : hh_ → Prop} (S : sp_18 I) {Z : zz_} (C : cx_ Z mt_law 100) {b L : Nat} {xs : Nat → Int32} (X : lx_ Z b L xs) {x3 : Int32} (hin : ∀ j : Nat, 1 ≤ j → j ≤ 5 → vp_in (x3 + Int32.ofNat j) L) {h : hh_} (hI : I h) (K : ∀ h2, I h2 → xx_ Z 1727 [some (.ref 509), some (.ref 1), some (.ref 98), some (.int x3)] [] h2) : xx_ Z 834 [some (.ref 509), some (.ref 1), some (.ref 98), some (.int x3)] [] h := by
  obtain ⟨r, h1, h2, e1, e2, hi⟩ := S h (xs (x3 + (1 : Int32)).toNatClampNeg) hI
  refine xx_aload_n C (dl_18.at 0 rfl) rfl (lb_ rfl) ?_
  refine xx_aload_n C (dl_18.at 1 rfl) rfl (lb_ rfl) ?_
  refine xx_iload_n C (dl_18.at 2 rfl) rfl ?_
  refine xx_iconst C (dl_18.at 3 rfl) ic_1 ?_
  refine xx_iadd C (dl_18.at 4 rfl) ?_
  refine xx_sld C X (dl_18.at 5 rfl) (hin 1 (lb_ rfl) (lb_ rfl)) ?_
  refine xx_callVi C (ss_X7_undo e1) (dl_18.at 6 rfl) ck_6 rfl sh_k1 kk_X7_undo ki_X7_undo ll_89 (lb_ rfl) rfl rfl (lb_ rfl) ?_
  refine xx_aload_n C (dl_18.at 7 rfl) rfl (lb_ rfl) ?_
  refine xx_aload_n C (dl_18.at 8 rfl) rfl (lb_ rfl) ?_
  refine xx_iload_n C (dl_18.at 9 rfl) rfl ?_
  refine xx_iconst C (dl_18.at 10 rfl) ic_1 ?_
  refine xx_iadd C (dl_18.at 11 rfl) ?_
  refine xx_sld C X (dl_18.at 12 rfl) (hin 1 (lb_ rfl) (lb_ rfl)) ?_
  refine xx_callVi C (ss_X8_undo e2) (dl_18.at 13 rfl) ck_7 rfl sh_k98 kk_X8_undo ki_X8_undo ll_92 (lb_ rfl) rfl rfl (lb_ rfl) ?_
  refine xx_icmp_eq_t (tgt := 1727) C (dl_18.at 14 rfl) (by decide) rfl ?_
  exact K h2 hi
theorem law_19 {I : hh_ → Prop} (S : sp_19 I) {Z : zz_} (C : cx_ Z mt_law 100) {b L : Nat} {xs : Nat → Int32} (X : lx_ Z b L xs) {x3 : Int32} (hin : ∀ j : Nat, 1 ≤ j → j ≤ 5 → vp_in (x3 + Int32.ofNat j) L) {h : hh_} (hI : I h) (K : ∀ h2, I h2 → xx_ Z 1727 [some (.ref 509), some (.ref 1), some (.ref 98), some (.int x3)] [] h2) : xx_ Z 857 [some (.ref 509), some (.ref 1), some (.ref 98), some (.int x3)] [] h := by
  obtain ⟨r, h1, h2, e1, e2, hi⟩ := S h (xs (x3 + (1 : Int32)).toNatClampNeg) hI
  refine xx_aload_n C (dl_19.at 0 rfl) rfl (lb_ rfl) ?_
  refine xx_aload_n C (dl_19.at 1 rfl) rfl (lb_ rfl) ?_
  refine xx_iload_n C (dl_19.at 2 rfl) rfl ?_
  refine xx_iconst C (dl_19.at 3 rfl) ic_1 ?_
  refine xx_iadd C (dl_19.at 4 rfl) ?_
  refine xx_sld C X (dl_19.at 5 rfl) (hin 1 (lb_ rfl) (lb_ rfl)) ?_
  refine xx_callVi C (ss_X7_keep e1) (dl_19.at 6 rfl) ck_6 rfl sh_k1 kk_X7_keep ki_X7_keep ll_93 (lb_ rfl) rfl rfl (lb_ rfl) ?_
  refine xx_aload_n C (dl_19.at 7 rfl) rfl (lb_ rfl) ?_
  refine xx_aload_n C (dl_19.at 8 rfl) rfl (lb_ rfl) ?_
  refine xx_iload_n C (dl_19.at 9 rfl) rfl ?_
  refine xx_iconst C (dl_19.at 10 rfl) ic_1 ?_
  refine xx_iadd C (dl_19.at 11 rfl) ?_
  refine xx_sld C X (dl_19.at 12 rfl) (hin 1 (lb_ rfl) (lb_ rfl)) ?_
  refine xx_callVi C (ss_X8_keep e2) (dl_19.at 13 rfl) ck_7 rfl sh_k98 kk_X8_keep ki_X8_keep ll_96 (lb_ rfl) rfl rfl (lb_ rfl) ?_
  refine xx_icmp_eq_t (tgt := 1727) C (dl_19.at 14 rfl) (by decide) rfl ?_
  exact K h2 hi
theorem law_20 {I : hh_ → Prop} (S : sp_20 I) {Z : zz_} (C : cx_ Z mt_law 100) {b L : Nat} {xs : Nat → Int32} (X : lx_ Z b L xs) {x3 : Int32} (hin : ∀ j : Nat, 1 ≤ j → j ≤ 5 → vp_in (x3 + Int32.ofNat j) L) {h : hh_} (hI : I h) (K : ∀ h2, I h2 → xx_ Z 1727 [some (.ref 509), some (.ref 1), some (.ref 98), some (.int x3)] [] h2) : xx_ Z 880 [some (.ref 509), some (.ref 1), some (.ref 98), some (.int x3)] [] h := by
  obtain ⟨r, h1, h2, e1, e2, hi⟩ := S h (xs (x3 + (1 : Int32)).toNatClampNeg) hI
  refine xx_aload_n C (dl_20.at 0 rfl) rfl (lb_ rfl) ?_
  refine xx_aload_n C (dl_20.at 1 rfl) rfl (lb_ rfl) ?_
  refine xx_iload_n C (dl_20.at 2 rfl) rfl ?_
  refine xx_iconst C (dl_20.at 3 rfl) ic_1 ?_
  refine xx_iadd C (dl_20.at 4 rfl) ?_
  refine xx_sld C X (dl_20.at 5 rfl) (hin 1 (lb_ rfl) (lb_ rfl)) ?_
  refine xx_callVi C (ss_X7_on e1) (dl_20.at 6 rfl) ck_6 rfl sh_k1 kk_X7_on ki_X7_on ll_97 (lb_ rfl) rfl rfl (lb_ rfl) ?_
  refine xx_aload_n C (dl_20.at 7 rfl) rfl (lb_ rfl) ?_
  refine xx_aload_n C (dl_20.at 8 rfl) rfl (lb_ rfl) ?_
  refine xx_iload_n C (dl_20.at 9 rfl) rfl ?_
  refine xx_iconst C (dl_20.at 10 rfl) ic_1 ?_
  refine xx_iadd C (dl_20.at 11 rfl) ?_
  refine xx_sld C X (dl_20.at 12 rfl) (hin 1 (lb_ rfl) (lb_ rfl)) ?_
  refine xx_callVi C (ss_X8_on e2) (dl_20.at 13 rfl) ck_7 rfl sh_k98 kk_X8_on ki_X8_on ll_100 (lb_ rfl) rfl rfl (lb_ rfl) ?_
  refine xx_icmp_eq_t (tgt := 1727) C (dl_20.at 14 rfl) (by decide) rfl ?_
  exact K h2 hi
theorem law_21 {I : hh_ → Prop} (S : sp_21 I) {Z : zz_} (C : cx_ Z mt_law 100) {b L : Nat} {xs : Nat → Int32} (X : lx_ Z b L xs) {x3 : Int32} (hin : ∀ j : Nat, 1 ≤ j → j ≤ 5 → vp_in (x3 + Int32.ofNat j) L) {h : hh_} (hI : I h) (K : ∀ h2, I h2 → xx_ Z 1727 [some (.ref 509), some (.ref 1), some (.ref 98), some (.int x3)] [] h2) : xx_ Z 903 [some (.ref 509), some (.ref 1), some (.ref 98), some (.int x3)] [] h := by
  obtain ⟨r, h1, h2, e1, e2, hi⟩ := S h (xs (x3 + (1 : Int32)).toNatClampNeg) (xs (x3 + (2 : Int32)).toNatClampNeg) (xs (x3 + (3 : Int32)).toNatClampNeg) hI
  refine xx_aload_n C (dl_21.at 0 rfl) rfl (lb_ rfl) ?_
  refine xx_aload_n C (dl_21.at 1 rfl) rfl (lb_ rfl) ?_
  refine xx_iload_n C (dl_21.at 2 rfl) rfl ?_
  refine xx_iconst C (dl_21.at 3 rfl) ic_1 ?_
  refine xx_iadd C (dl_21.at 4 rfl) ?_
  refine xx_sld C X (dl_21.at 5 rfl) (hin 1 (lb_ rfl) (lb_ rfl)) ?_
  refine xx_aload_n C (dl_21.at 6 rfl) rfl (lb_ rfl) ?_
  refine xx_iload_n C (dl_21.at 7 rfl) rfl ?_
  refine xx_iconst C (dl_21.at 8 rfl) ic_2 ?_
  refine xx_iadd C (dl_21.at 9 rfl) ?_
  refine xx_sld C X (dl_21.at 10 rfl) (hin 2 (lb_ rfl) (lb_ rfl)) ?_
  refine xx_aload_n C (dl_21.at 11 rfl) rfl (lb_ rfl) ?_
  refine xx_iload_n C (dl_21.at 12 rfl) rfl ?_
  refine xx_iconst C (dl_21.at 13 rfl) ic_3 ?_
  refine xx_iadd C (dl_21.at 14 rfl) ?_
  refine xx_sld C X (dl_21.at 15 rfl) (hin 3 (lb_ rfl) (lb_ rfl)) ?_
  refine xx_callVi C (ss_X7_reads e1) (dl_21.at 16 rfl) ck_6 rfl sh_k1 kk_X7_reads ki_X7_reads ll_101 (lb_ rfl) rfl rfl (lb_ rfl) ?_
  refine xx_aload_n C (dl_21.at 17 rfl) rfl (lb_ rfl) ?_
  refine xx_aload_n C (dl_21.at 18 rfl) rfl (lb_ rfl) ?_
  refine xx_iload_n C (dl_21.at 19 rfl) rfl ?_
  refine xx_iconst C (dl_21.at 20 rfl) ic_1 ?_
  refine xx_iadd C (dl_21.at 21 rfl) ?_
  refine xx_sld C X (dl_21.at 22 rfl) (hin 1 (lb_ rfl) (lb_ rfl)) ?_
  refine xx_aload_n C (dl_21.at 23 rfl) rfl (lb_ rfl) ?_
  refine xx_iload_n C (dl_21.at 24 rfl) rfl ?_
  refine xx_iconst C (dl_21.at 25 rfl) ic_2 ?_
  refine xx_iadd C (dl_21.at 26 rfl) ?_
  refine xx_sld C X (dl_21.at 27 rfl) (hin 2 (lb_ rfl) (lb_ rfl)) ?_
  refine xx_aload_n C (dl_21.at 28 rfl) rfl (lb_ rfl) ?_
  refine xx_iload_n C (dl_21.at 29 rfl) rfl ?_
  refine xx_iconst C (dl_21.at 30 rfl) ic_3 ?_
  refine xx_iadd C (dl_21.at 31 rfl) ?_
  refine xx_sld C X (dl_21.at 32 rfl) (hin 3 (lb_ rfl) (lb_ rfl)) ?_
  refine xx_callVi C (ss_X8_reads e2) (dl_21.at 33 rfl) ck_7 rfl sh_k98 kk_X8_reads ki_X8_reads ll_104 (lb_ rfl) rfl rfl (lb_ rfl) ?_
  refine xx_icmp_eq_t (tgt := 1727) C (dl_21.at 34 rfl) (by decide) rfl ?_
  exact K h2 hi
theorem law_22 {I : hh_ → Prop} (S : sp_22 I) {Z : zz_} (C : cx_ Z mt_law 100) {b L : Nat} {xs : Nat → Int32} (X : lx_ Z b L xs) {x3 : Int32} (hin : ∀ j : Nat, 1 ≤ j → j ≤ 5 → vp_in (x3 + Int32.ofNat j) L) {h : hh_} (hI : I h) (K : ∀ h2, I h2 → xx_ Z 1727 [some (.ref 509), some (.ref 1), some (.ref 98), some (.int x3)] [] h2) : xx_ Z 946 [some (.ref 509), some (.ref 1), some (.ref 98), some (.int x3)] [] h := by
  obtain ⟨r, h1, h2, e1, e2, hi⟩ := S h (xs (x3 + (1 : Int32)).toNatClampNeg) (xs (x3 + (2 : Int32)).toNatClampNeg) (xs (x3 + (3 : Int32)).toNatClampNeg) hI
  refine xx_aload_n C (dl_22.at 0 rfl) rfl (lb_ rfl) ?_
  refine xx_aload_n C (dl_22.at 1 rfl) rfl (lb_ rfl) ?_
  refine xx_iload_n C (dl_22.at 2 rfl) rfl ?_
  refine xx_iconst C (dl_22.at 3 rfl) ic_1 ?_
  refine xx_iadd C (dl_22.at 4 rfl) ?_
  refine xx_sld C X (dl_22.at 5 rfl) (hin 1 (lb_ rfl) (lb_ rfl)) ?_
  refine xx_aload_n C (dl_22.at 6 rfl) rfl (lb_ rfl) ?_
  refine xx_iload_n C (dl_22.at 7 rfl) rfl ?_
  refine xx_iconst C (dl_22.at 8 rfl) ic_2 ?_
  refine xx_iadd C (dl_22.at 9 rfl) ?_
  refine xx_sld C X (dl_22.at 10 rfl) (hin 2 (lb_ rfl) (lb_ rfl)) ?_
  refine xx_aload_n C (dl_22.at 11 rfl) rfl (lb_ rfl) ?_
  refine xx_iload_n C (dl_22.at 12 rfl) rfl ?_
  refine xx_iconst C (dl_22.at 13 rfl) ic_3 ?_
  refine xx_iadd C (dl_22.at 14 rfl) ?_
  refine xx_sld C X (dl_22.at 15 rfl) (hin 3 (lb_ rfl) (lb_ rfl)) ?_
  refine xx_callVi C (ss_X7_fits e1) (dl_22.at 16 rfl) ck_6 rfl sh_k1 kk_X7_fits ki_X7_fits ll_105 (lb_ rfl) rfl rfl (lb_ rfl) ?_
  refine xx_aload_n C (dl_22.at 17 rfl) rfl (lb_ rfl) ?_
  refine xx_aload_n C (dl_22.at 18 rfl) rfl (lb_ rfl) ?_
  refine xx_iload_n C (dl_22.at 19 rfl) rfl ?_
  refine xx_iconst C (dl_22.at 20 rfl) ic_1 ?_
  refine xx_iadd C (dl_22.at 21 rfl) ?_
  refine xx_sld C X (dl_22.at 22 rfl) (hin 1 (lb_ rfl) (lb_ rfl)) ?_
  refine xx_aload_n C (dl_22.at 23 rfl) rfl (lb_ rfl) ?_
  refine xx_iload_n C (dl_22.at 24 rfl) rfl ?_
  refine xx_iconst C (dl_22.at 25 rfl) ic_2 ?_
  refine xx_iadd C (dl_22.at 26 rfl) ?_
  refine xx_sld C X (dl_22.at 27 rfl) (hin 2 (lb_ rfl) (lb_ rfl)) ?_
  refine xx_aload_n C (dl_22.at 28 rfl) rfl (lb_ rfl) ?_
  refine xx_iload_n C (dl_22.at 29 rfl) rfl ?_
  refine xx_iconst C (dl_22.at 30 rfl) ic_3 ?_
  refine xx_iadd C (dl_22.at 31 rfl) ?_
  refine xx_sld C X (dl_22.at 32 rfl) (hin 3 (lb_ rfl) (lb_ rfl)) ?_
  refine xx_callVi C (ss_X8_fits e2) (dl_22.at 33 rfl) ck_7 rfl sh_k98 kk_X8_fits ki_X8_fits ll_108 (lb_ rfl) rfl rfl (lb_ rfl) ?_
  refine xx_icmp_eq_t (tgt := 1727) C (dl_22.at 34 rfl) (by decide) rfl ?_
  exact K h2 hi
theorem law_23 {I : hh_ → Prop} (S : sp_23 I) {Z : zz_} (C : cx_ Z mt_law 100) {b L : Nat} {xs : Nat → Int32} (X : lx_ Z b L xs) {x3 : Int32} (hin : ∀ j : Nat, 1 ≤ j → j ≤ 5 → vp_in (x3 + Int32.ofNat j) L) {h : hh_} (hI : I h) (K : ∀ h2, I h2 → xx_ Z 1727 [some (.ref 509), some (.ref 1), some (.ref 98), some (.int x3)] [] h2) : xx_ Z 989 [some (.ref 509), some (.ref 1), some (.ref 98), some (.int x3)] [] h := by
  obtain ⟨r, h1, h2, e1, e2, hi⟩ := S h (xs (x3 + (1 : Int32)).toNatClampNeg) (xs (x3 + (2 : Int32)).toNatClampNeg) hI
  refine xx_aload_n C (dl_23.at 0 rfl) rfl (lb_ rfl) ?_
  refine xx_aload_n C (dl_23.at 1 rfl) rfl (lb_ rfl) ?_
  refine xx_iload_n C (dl_23.at 2 rfl) rfl ?_
  refine xx_iconst C (dl_23.at 3 rfl) ic_1 ?_
  refine xx_iadd C (dl_23.at 4 rfl) ?_
  refine xx_sld C X (dl_23.at 5 rfl) (hin 1 (lb_ rfl) (lb_ rfl)) ?_
  refine xx_aload_n C (dl_23.at 6 rfl) rfl (lb_ rfl) ?_
  refine xx_iload_n C (dl_23.at 7 rfl) rfl ?_
  refine xx_iconst C (dl_23.at 8 rfl) ic_2 ?_
  refine xx_iadd C (dl_23.at 9 rfl) ?_
  refine xx_sld C X (dl_23.at 10 rfl) (hin 2 (lb_ rfl) (lb_ rfl)) ?_
  refine xx_callVi C (ss_X7_whose e1) (dl_23.at 11 rfl) ck_6 rfl sh_k1 kk_X7_whose ki_X7_whose ll_109 (lb_ rfl) rfl rfl (lb_ rfl) ?_
  refine xx_aload_n C (dl_23.at 12 rfl) rfl (lb_ rfl) ?_
  refine xx_aload_n C (dl_23.at 13 rfl) rfl (lb_ rfl) ?_
  refine xx_iload_n C (dl_23.at 14 rfl) rfl ?_
  refine xx_iconst C (dl_23.at 15 rfl) ic_1 ?_
  refine xx_iadd C (dl_23.at 16 rfl) ?_
  refine xx_sld C X (dl_23.at 17 rfl) (hin 1 (lb_ rfl) (lb_ rfl)) ?_
  refine xx_aload_n C (dl_23.at 18 rfl) rfl (lb_ rfl) ?_
  refine xx_iload_n C (dl_23.at 19 rfl) rfl ?_
  refine xx_iconst C (dl_23.at 20 rfl) ic_2 ?_
  refine xx_iadd C (dl_23.at 21 rfl) ?_
  refine xx_sld C X (dl_23.at 22 rfl) (hin 2 (lb_ rfl) (lb_ rfl)) ?_
  refine xx_callVi C (ss_X8_whose e2) (dl_23.at 23 rfl) ck_7 rfl sh_k98 kk_X8_whose ki_X8_whose ll_112 (lb_ rfl) rfl rfl (lb_ rfl) ?_
  refine xx_icmp_eq_t (tgt := 1727) C (dl_23.at 24 rfl) (by decide) rfl ?_
  exact K h2 hi
theorem law_24 {I : hh_ → Prop} (S : sp_24 I) {Z : zz_} (C : cx_ Z mt_law 100) {b L : Nat} {xs : Nat → Int32} (X : lx_ Z b L xs) {x3 : Int32} (hin : ∀ j : Nat, 1 ≤ j → j ≤ 5 → vp_in (x3 + Int32.ofNat j) L) {h : hh_} (hI : I h) (K : ∀ h2, I h2 → xx_ Z 1727 [some (.ref 509), some (.ref 1), some (.ref 98), some (.int x3)] [] h2) : xx_ Z 1022 [some (.ref 509), some (.ref 1), some (.ref 98), some (.int x3)] [] h := by
  obtain ⟨r, h1, h2, e1, e2, hi⟩ := S h (xs (x3 + (1 : Int32)).toNatClampNeg) (xs (x3 + (2 : Int32)).toNatClampNeg) hI
  refine xx_aload_n C (dl_24.at 0 rfl) rfl (lb_ rfl) ?_
  refine xx_aload_n C (dl_24.at 1 rfl) rfl (lb_ rfl) ?_
  refine xx_iload_n C (dl_24.at 2 rfl) rfl ?_
  refine xx_iconst C (dl_24.at 3 rfl) ic_1 ?_
  refine xx_iadd C (dl_24.at 4 rfl) ?_
  refine xx_sld C X (dl_24.at 5 rfl) (hin 1 (lb_ rfl) (lb_ rfl)) ?_
  refine xx_aload_n C (dl_24.at 6 rfl) rfl (lb_ rfl) ?_
  refine xx_iload_n C (dl_24.at 7 rfl) rfl ?_
  refine xx_iconst C (dl_24.at 8 rfl) ic_2 ?_
  refine xx_iadd C (dl_24.at 9 rfl) ?_
  refine xx_sld C X (dl_24.at 10 rfl) (hin 2 (lb_ rfl) (lb_ rfl)) ?_
  refine xx_callVi C (ss_X7_who e1) (dl_24.at 11 rfl) ck_6 rfl sh_k1 kk_X7_who ki_X7_who ll_113 (lb_ rfl) rfl rfl (lb_ rfl) ?_
  refine xx_aload_n C (dl_24.at 12 rfl) rfl (lb_ rfl) ?_
  refine xx_aload_n C (dl_24.at 13 rfl) rfl (lb_ rfl) ?_
  refine xx_iload_n C (dl_24.at 14 rfl) rfl ?_
  refine xx_iconst C (dl_24.at 15 rfl) ic_1 ?_
  refine xx_iadd C (dl_24.at 16 rfl) ?_
  refine xx_sld C X (dl_24.at 17 rfl) (hin 1 (lb_ rfl) (lb_ rfl)) ?_
  refine xx_aload_n C (dl_24.at 18 rfl) rfl (lb_ rfl) ?_
  refine xx_iload_n C (dl_24.at 19 rfl) rfl ?_
  refine xx_iconst C (dl_24.at 20 rfl) ic_2 ?_
  refine xx_iadd C (dl_24.at 21 rfl) ?_
  refine xx_sld C X (dl_24.at 22 rfl) (hin 2 (lb_ rfl) (lb_ rfl)) ?_
  refine xx_callVi C (ss_X8_who e2) (dl_24.at 23 rfl) ck_7 rfl sh_k98 kk_X8_who ki_X8_who ll_116 (lb_ rfl) rfl rfl (lb_ rfl) ?_
  refine xx_icmp_eq_t (tgt := 1727) C (dl_24.at 24 rfl) (by decide) rfl ?_
  exact K h2 hi
theorem law_25 {I : hh_ → Prop} (S : sp_25 I) {Z : zz_} (C : cx_ Z mt_law 100) {b L : Nat} {xs : Nat → Int32} (X : lx_ Z b L xs) {x3 : Int32} (hin : ∀ j : Nat, 1 ≤ j → j ≤ 5 → vp_in (x3 + Int32.ofNat j) L) {h : hh_} (hI : I h) (K : ∀ h2, I h2 → xx_ Z 1727 [some (.ref 509), some (.ref 1), some (.ref 98), some (.int x3)] [] h2) : xx_ Z 1055 [some (.ref 509), some (.ref 1), some (.ref 98), some (.int x3)] [] h := by
  obtain ⟨r, h1, h2, e1, e2, hi⟩ := S h (xs (x3 + (1 : Int32)).toNatClampNeg) (xs (x3 + (2 : Int32)).toNatClampNeg) (xs (x3 + (3 : Int32)).toNatClampNeg) hI
  refine xx_aload_n C (dl_25.at 0 rfl) rfl (lb_ rfl) ?_
  refine xx_aload_n C (dl_25.at 1 rfl) rfl (lb_ rfl) ?_
  refine xx_iload_n C (dl_25.at 2 rfl) rfl ?_
  refine xx_iconst C (dl_25.at 3 rfl) ic_1 ?_
  refine xx_iadd C (dl_25.at 4 rfl) ?_
  refine xx_sld C X (dl_25.at 5 rfl) (hin 1 (lb_ rfl) (lb_ rfl)) ?_
  refine xx_aload_n C (dl_25.at 6 rfl) rfl (lb_ rfl) ?_
  refine xx_iload_n C (dl_25.at 7 rfl) rfl ?_
  refine xx_iconst C (dl_25.at 8 rfl) ic_2 ?_
  refine xx_iadd C (dl_25.at 9 rfl) ?_
  refine xx_sld C X (dl_25.at 10 rfl) (hin 2 (lb_ rfl) (lb_ rfl)) ?_
  refine xx_aload_n C (dl_25.at 11 rfl) rfl (lb_ rfl) ?_
  refine xx_iload_n C (dl_25.at 12 rfl) rfl ?_
  refine xx_iconst C (dl_25.at 13 rfl) ic_3 ?_
  refine xx_iadd C (dl_25.at 14 rfl) ?_
  refine xx_sld C X (dl_25.at 15 rfl) (hin 3 (lb_ rfl) (lb_ rfl)) ?_
  refine xx_callVi C (ss_X7_odds e1) (dl_25.at 16 rfl) ck_6 rfl sh_k1 kk_X7_odds ki_X7_odds ll_117 (lb_ rfl) rfl rfl (lb_ rfl) ?_
  refine xx_aload_n C (dl_25.at 17 rfl) rfl (lb_ rfl) ?_
  refine xx_aload_n C (dl_25.at 18 rfl) rfl (lb_ rfl) ?_
  refine xx_iload_n C (dl_25.at 19 rfl) rfl ?_
  refine xx_iconst C (dl_25.at 20 rfl) ic_1 ?_
  refine xx_iadd C (dl_25.at 21 rfl) ?_
  refine xx_sld C X (dl_25.at 22 rfl) (hin 1 (lb_ rfl) (lb_ rfl)) ?_
  refine xx_aload_n C (dl_25.at 23 rfl) rfl (lb_ rfl) ?_
  refine xx_iload_n C (dl_25.at 24 rfl) rfl ?_
  refine xx_iconst C (dl_25.at 25 rfl) ic_2 ?_
  refine xx_iadd C (dl_25.at 26 rfl) ?_
  refine xx_sld C X (dl_25.at 27 rfl) (hin 2 (lb_ rfl) (lb_ rfl)) ?_
  refine xx_aload_n C (dl_25.at 28 rfl) rfl (lb_ rfl) ?_
  refine xx_iload_n C (dl_25.at 29 rfl) rfl ?_
  refine xx_iconst C (dl_25.at 30 rfl) ic_3 ?_
  refine xx_iadd C (dl_25.at 31 rfl) ?_
  refine xx_sld C X (dl_25.at 32 rfl) (hin 3 (lb_ rfl) (lb_ rfl)) ?_
  refine xx_callVi C (ss_X8_odds e2) (dl_25.at 33 rfl) ck_7 rfl sh_k98 kk_X8_odds ki_X8_odds ll_120 (lb_ rfl) rfl rfl (lb_ rfl) ?_
  refine xx_icmp_eq_t (tgt := 1727) C (dl_25.at 34 rfl) (by decide) rfl ?_
  exact K h2 hi
theorem law_26 {I : hh_ → Prop} (S : sp_26 I) {Z : zz_} (C : cx_ Z mt_law 100) {b L : Nat} {xs : Nat → Int32} (X : lx_ Z b L xs) {x3 : Int32} (hin : ∀ j : Nat, 1 ≤ j → j ≤ 5 → vp_in (x3 + Int32.ofNat j) L) {h : hh_} (hI : I h) (K : ∀ h2, I h2 → xx_ Z 1727 [some (.ref 509), some (.ref 1), some (.ref 98), some (.int x3)] [] h2) : xx_ Z 1098 [some (.ref 509), some (.ref 1), some (.ref 98), some (.int x3)] [] h := by
  obtain ⟨r, h1, h2, e1, e2, hi⟩ := S h (xs (x3 + (1 : Int32)).toNatClampNeg) hI
  refine xx_aload_n C (dl_26.at 0 rfl) rfl (lb_ rfl) ?_
  refine xx_aload_n C (dl_26.at 1 rfl) rfl (lb_ rfl) ?_
  refine xx_iload_n C (dl_26.at 2 rfl) rfl ?_
  refine xx_iconst C (dl_26.at 3 rfl) ic_1 ?_
  refine xx_iadd C (dl_26.at 4 rfl) ?_
  refine xx_sld C X (dl_26.at 5 rfl) (hin 1 (lb_ rfl) (lb_ rfl)) ?_
  refine xx_callVi C (ss_X7_look e1) (dl_26.at 6 rfl) ck_6 rfl sh_k1 kk_X7_look ki_X7_look ll_121 (lb_ rfl) rfl rfl (lb_ rfl) ?_
  refine xx_aload_n C (dl_26.at 7 rfl) rfl (lb_ rfl) ?_
  refine xx_aload_n C (dl_26.at 8 rfl) rfl (lb_ rfl) ?_
  refine xx_iload_n C (dl_26.at 9 rfl) rfl ?_
  refine xx_iconst C (dl_26.at 10 rfl) ic_1 ?_
  refine xx_iadd C (dl_26.at 11 rfl) ?_
  refine xx_sld C X (dl_26.at 12 rfl) (hin 1 (lb_ rfl) (lb_ rfl)) ?_
  refine xx_callVi C (ss_X8_look e2) (dl_26.at 13 rfl) ck_7 rfl sh_k98 kk_X8_look ki_X8_look ll_124 (lb_ rfl) rfl rfl (lb_ rfl) ?_
  refine xx_icmp_eq_t (tgt := 1727) C (dl_26.at 14 rfl) (by decide) rfl ?_
  exact K h2 hi
theorem law_27 {I : hh_ → Prop} (S : sp_27 I) {Z : zz_} (C : cx_ Z mt_law 100) {b L : Nat} {xs : Nat → Int32} (X : lx_ Z b L xs) {x3 : Int32} (hin : ∀ j : Nat, 1 ≤ j → j ≤ 5 → vp_in (x3 + Int32.ofNat j) L) {h : hh_} (hI : I h) (K : ∀ h2, I h2 → xx_ Z 1727 [some (.ref 509), some (.ref 1), some (.ref 98), some (.int x3)] [] h2) : xx_ Z 1121 [some (.ref 509), some (.ref 1), some (.ref 98), some (.int x3)] [] h := by
  obtain ⟨r, e1, e2, hi⟩ := S h (xs (x3 + (1 : Int32)).toNatClampNeg) (xs (x3 + (2 : Int32)).toNatClampNeg) hI
  refine xx_aload_n C (dl_27.at 0 rfl) rfl (lb_ rfl) ?_
  refine xx_aload_n C (dl_27.at 1 rfl) rfl (lb_ rfl) ?_
  refine xx_iload_n C (dl_27.at 2 rfl) rfl ?_
  refine xx_iconst C (dl_27.at 3 rfl) ic_1 ?_
  refine xx_iadd C (dl_27.at 4 rfl) ?_
  refine xx_sld C X (dl_27.at 5 rfl) (hin 1 (lb_ rfl) (lb_ rfl)) ?_
  refine xx_aload_n C (dl_27.at 6 rfl) rfl (lb_ rfl) ?_
  refine xx_iload_n C (dl_27.at 7 rfl) rfl ?_
  refine xx_iconst C (dl_27.at 8 rfl) ic_2 ?_
  refine xx_iadd C (dl_27.at 9 rfl) ?_
  refine xx_sld C X (dl_27.at 10 rfl) (hin 2 (lb_ rfl) (lb_ rfl)) ?_
  refine xx_callVi C (ss_X7_alike e1) (dl_27.at 11 rfl) ck_6 rfl sh_k1 kk_X7_alike ki_X7_alike ll_125 (lb_ rfl) rfl rfl (lb_ rfl) ?_
  refine xx_aload_n C (dl_27.at 12 rfl) rfl (lb_ rfl) ?_
  refine xx_aload_n C (dl_27.at 13 rfl) rfl (lb_ rfl) ?_
  refine xx_iload_n C (dl_27.at 14 rfl) rfl ?_
  refine xx_iconst C (dl_27.at 15 rfl) ic_1 ?_
  refine xx_iadd C (dl_27.at 16 rfl) ?_
  refine xx_sld C X (dl_27.at 17 rfl) (hin 1 (lb_ rfl) (lb_ rfl)) ?_
  refine xx_aload_n C (dl_27.at 18 rfl) rfl (lb_ rfl) ?_
  refine xx_iload_n C (dl_27.at 19 rfl) rfl ?_
  refine xx_iconst C (dl_27.at 20 rfl) ic_2 ?_
  refine xx_iadd C (dl_27.at 21 rfl) ?_
  refine xx_sld C X (dl_27.at 22 rfl) (hin 2 (lb_ rfl) (lb_ rfl)) ?_
  refine xx_callVi C (ss_X8_alike e2) (dl_27.at 23 rfl) ck_7 rfl sh_k98 kk_X8_alike ki_X8_alike ll_128 (lb_ rfl) rfl rfl (lb_ rfl) ?_
  refine xx_icmp_eq_t (tgt := 1727) C (dl_27.at 24 rfl) (by decide) rfl ?_
  exact K h hi
theorem law_28 {I : hh_ → Prop} (S : sp_28 I) {Z : zz_} (C : cx_ Z mt_law 100) {b L : Nat} {xs : Nat → Int32} (X : lx_ Z b L xs) {x3 : Int32} (hin : ∀ j : Nat, 1 ≤ j → j ≤ 5 → vp_in (x3 + Int32.ofNat j) L) {h : hh_} (hI : I h) (K : ∀ h2, I h2 → xx_ Z 1727 [some (.ref 509), some (.ref 1), some (.ref 98), some (.int x3)] [] h2) : xx_ Z 1154 [some (.ref 509), some (.ref 1), some (.ref 98), some (.int x3)] [] h := by
  obtain ⟨r, e1, e2, hi⟩ := S h (xs (x3 + (1 : Int32)).toNatClampNeg) (xs (x3 + (2 : Int32)).toNatClampNeg) (xs (x3 + (3 : Int32)).toNatClampNeg) hI
  refine xx_aload_n C (dl_28.at 0 rfl) rfl (lb_ rfl) ?_
  refine xx_aload_n C (dl_28.at 1 rfl) rfl (lb_ rfl) ?_
  refine xx_iload_n C (dl_28.at 2 rfl) rfl ?_
  refine xx_iconst C (dl_28.at 3 rfl) ic_1 ?_
  refine xx_iadd C (dl_28.at 4 rfl) ?_
  refine xx_sld C X (dl_28.at 5 rfl) (hin 1 (lb_ rfl) (lb_ rfl)) ?_
  refine xx_aload_n C (dl_28.at 6 rfl) rfl (lb_ rfl) ?_
  refine xx_iload_n C (dl_28.at 7 rfl) rfl ?_
  refine xx_iconst C (dl_28.at 8 rfl) ic_2 ?_
  refine xx_iadd C (dl_28.at 9 rfl) ?_
  refine xx_sld C X (dl_28.at 10 rfl) (hin 2 (lb_ rfl) (lb_ rfl)) ?_
  refine xx_aload_n C (dl_28.at 11 rfl) rfl (lb_ rfl) ?_
  refine xx_iload_n C (dl_28.at 12 rfl) rfl ?_
  refine xx_iconst C (dl_28.at 13 rfl) ic_3 ?_
  refine xx_iadd C (dl_28.at 14 rfl) ?_
  refine xx_sld C X (dl_28.at 15 rfl) (hin 3 (lb_ rfl) (lb_ rfl)) ?_
  refine xx_callVi C (ss_X7_suits e1) (dl_28.at 16 rfl) ck_6 rfl sh_k1 kk_X7_suits ki_X7_suits ll_129 (lb_ rfl) rfl rfl (lb_ rfl) ?_
  refine xx_aload_n C (dl_28.at 17 rfl) rfl (lb_ rfl) ?_
  refine xx_aload_n C (dl_28.at 18 rfl) rfl (lb_ rfl) ?_
  refine xx_iload_n C (dl_28.at 19 rfl) rfl ?_
  refine xx_iconst C (dl_28.at 20 rfl) ic_1 ?_
  refine xx_iadd C (dl_28.at 21 rfl) ?_
  refine xx_sld C X (dl_28.at 22 rfl) (hin 1 (lb_ rfl) (lb_ rfl)) ?_
  refine xx_aload_n C (dl_28.at 23 rfl) rfl (lb_ rfl) ?_
  refine xx_iload_n C (dl_28.at 24 rfl) rfl ?_
  refine xx_iconst C (dl_28.at 25 rfl) ic_2 ?_
  refine xx_iadd C (dl_28.at 26 rfl) ?_
  refine xx_sld C X (dl_28.at 27 rfl) (hin 2 (lb_ rfl) (lb_ rfl)) ?_
  refine xx_aload_n C (dl_28.at 28 rfl) rfl (lb_ rfl) ?_
  refine xx_iload_n C (dl_28.at 29 rfl) rfl ?_
  refine xx_iconst C (dl_28.at 30 rfl) ic_3 ?_
  refine xx_iadd C (dl_28.at 31 rfl) ?_
  refine xx_sld C X (dl_28.at 32 rfl) (hin 3 (lb_ rfl) (lb_ rfl)) ?_
  refine xx_callVi C (ss_X8_suits e2) (dl_28.at 33 rfl) ck_7 rfl sh_k98 kk_X8_suits ki_X8_suits ll_132 (lb_ rfl) rfl rfl (lb_ rfl) ?_
  refine xx_icmp_eq_t (tgt := 1727) C (dl_28.at 34 rfl) (by decide) rfl ?_
  exact K h hi
theorem law_29 {I : hh_ → Prop} (S : sp_29 I) {Z : zz_} (C : cx_ Z mt_law 100) {b L : Nat} {xs : Nat → Int32} (X : lx_ Z b L xs) {x3 : Int32} (hin : ∀ j : Nat, 1 ≤ j → j ≤ 5 → vp_in (x3 + Int32.ofNat j) L) {h : hh_} (hI : I h) (K : ∀ h2, I h2 → xx_ Z 1727 [some (.ref 509), some (.ref 1), some (.ref 98), some (.int x3)] [] h2) : xx_ Z 1197 [some (.ref 509), some (.ref 1), some (.ref 98), some (.int x3)] [] h := by
  obtain ⟨r, h1, h2, e1, e2, hi⟩ := S h (xs (x3 + (1 : Int32)).toNatClampNeg) (xs (x3 + (2 : Int32)).toNatClampNeg) (xs (x3 + (3 : Int32)).toNatClampNeg) hI
  refine xx_aload_n C (dl_29.at 0 rfl) rfl (lb_ rfl) ?_
  refine xx_aload_n C (dl_29.at 1 rfl) rfl (lb_ rfl) ?_
  refine xx_iload_n C (dl_29.at 2 rfl) rfl ?_
  refine xx_iconst C (dl_29.at 3 rfl) ic_1 ?_
  refine xx_iadd C (dl_29.at 4 rfl) ?_
  refine xx_sld C X (dl_29.at 5 rfl) (hin 1 (lb_ rfl) (lb_ rfl)) ?_
  refine xx_aload_n C (dl_29.at 6 rfl) rfl (lb_ rfl) ?_
  refine xx_iload_n C (dl_29.at 7 rfl) rfl ?_
  refine xx_iconst C (dl_29.at 8 rfl) ic_2 ?_
  refine xx_iadd C (dl_29.at 9 rfl) ?_
  refine xx_sld C X (dl_29.at 10 rfl) (hin 2 (lb_ rfl) (lb_ rfl)) ?_
  refine xx_aload_n C (dl_29.at 11 rfl) rfl (lb_ rfl) ?_
  refine xx_iload_n C (dl_29.at 12 rfl) rfl ?_
  refine xx_iconst C (dl_29.at 13 rfl) ic_3 ?_
  refine xx_iadd C (dl_29.at 14 rfl) ?_
  refine xx_sld C X (dl_29.at 15 rfl) (hin 3 (lb_ rfl) (lb_ rfl)) ?_
  refine xx_callVi C (ss_X7_luck e1) (dl_29.at 16 rfl) ck_6 rfl sh_k1 kk_X7_luck ki_X7_luck ll_133 (lb_ rfl) rfl rfl (lb_ rfl) ?_
  refine xx_aload_n C (dl_29.at 17 rfl) rfl (lb_ rfl) ?_
  refine xx_aload_n C (dl_29.at 18 rfl) rfl (lb_ rfl) ?_
  refine xx_iload_n C (dl_29.at 19 rfl) rfl ?_
  refine xx_iconst C (dl_29.at 20 rfl) ic_1 ?_
  refine xx_iadd C (dl_29.at 21 rfl) ?_
  refine xx_sld C X (dl_29.at 22 rfl) (hin 1 (lb_ rfl) (lb_ rfl)) ?_
  refine xx_aload_n C (dl_29.at 23 rfl) rfl (lb_ rfl) ?_
  refine xx_iload_n C (dl_29.at 24 rfl) rfl ?_
  refine xx_iconst C (dl_29.at 25 rfl) ic_2 ?_
  refine xx_iadd C (dl_29.at 26 rfl) ?_
  refine xx_sld C X (dl_29.at 27 rfl) (hin 2 (lb_ rfl) (lb_ rfl)) ?_
  refine xx_aload_n C (dl_29.at 28 rfl) rfl (lb_ rfl) ?_
  refine xx_iload_n C (dl_29.at 29 rfl) rfl ?_
  refine xx_iconst C (dl_29.at 30 rfl) ic_3 ?_
  refine xx_iadd C (dl_29.at 31 rfl) ?_
  refine xx_sld C X (dl_29.at 32 rfl) (hin 3 (lb_ rfl) (lb_ rfl)) ?_
  refine xx_callVi C (ss_X8_luck e2) (dl_29.at 33 rfl) ck_7 rfl sh_k98 kk_X8_luck ki_X8_luck ll_136 (lb_ rfl) rfl rfl (lb_ rfl) ?_
  refine xx_icmp_eq_t (tgt := 1727) C (dl_29.at 34 rfl) (by decide) rfl ?_
  exact K h2 hi
theorem law_30 {I : hh_ → Prop} (S : sp_30 I) {Z : zz_} (C : cx_ Z mt_law 100) {b L : Nat} {xs : Nat → Int32} (X : lx_ Z b L xs) {x3 : Int32} (hin : ∀ j : Nat, 1 ≤ j → j ≤ 5 → vp_in (x3 + Int32.ofNat j) L) {h : hh_} (hI : I h) (K : ∀ h2, I h2 → xx_ Z 1727 [some (.ref 509), some (.ref 1), some (.ref 98), some (.int x3)] [] h2) : xx_ Z 1240 [some (.ref 509), some (.ref 1), some (.ref 98), some (.int x3)] [] h := by
  obtain ⟨r, h1, h2, e1, e2, hi⟩ := S h (xs (x3 + (1 : Int32)).toNatClampNeg) (xs (x3 + (2 : Int32)).toNatClampNeg) (xs (x3 + (3 : Int32)).toNatClampNeg) (xs (x3 + (4 : Int32)).toNatClampNeg) hI
  refine xx_aload_n C (dl_30.at 0 rfl) rfl (lb_ rfl) ?_
  refine xx_aload_n C (dl_30.at 1 rfl) rfl (lb_ rfl) ?_
  refine xx_iload_n C (dl_30.at 2 rfl) rfl ?_
  refine xx_iconst C (dl_30.at 3 rfl) ic_1 ?_
  refine xx_iadd C (dl_30.at 4 rfl) ?_
  refine xx_sld C X (dl_30.at 5 rfl) (hin 1 (lb_ rfl) (lb_ rfl)) ?_
  refine xx_aload_n C (dl_30.at 6 rfl) rfl (lb_ rfl) ?_
  refine xx_iload_n C (dl_30.at 7 rfl) rfl ?_
  refine xx_iconst C (dl_30.at 8 rfl) ic_2 ?_
  refine xx_iadd C (dl_30.at 9 rfl) ?_
  refine xx_sld C X (dl_30.at 10 rfl) (hin 2 (lb_ rfl) (lb_ rfl)) ?_
  refine xx_aload_n C (dl_30.at 11 rfl) rfl (lb_ rfl) ?_
  refine xx_iload_n C (dl_30.at 12 rfl) rfl ?_
  refine xx_iconst C (dl_30.at 13 rfl) ic_3 ?_
  refine xx_iadd C (dl_30.at 14 rfl) ?_
  refine xx_sld C X (dl_30.at 15 rfl) (hin 3 (lb_ rfl) (lb_ rfl)) ?_
  refine xx_aload_n C (dl_30.at 16 rfl) rfl (lb_ rfl) ?_
  refine xx_iload_n C (dl_30.at 17 rfl) rfl ?_
  refine xx_iconst C (dl_30.at 18 rfl) ic_4 ?_
  refine xx_iadd C (dl_30.at 19 rfl) ?_
  refine xx_sld C X (dl_30.at 20 rfl) (hin 4 (lb_ rfl) (lb_ rfl)) ?_
  refine xx_callVi C (ss_X7_pads e1) (dl_30.at 21 rfl) ck_6 rfl sh_k1 kk_X7_pads ki_X7_pads ll_137 (lb_ rfl) rfl rfl (lb_ rfl) ?_
  refine xx_aload_n C (dl_30.at 22 rfl) rfl (lb_ rfl) ?_
  refine xx_aload_n C (dl_30.at 23 rfl) rfl (lb_ rfl) ?_
  refine xx_iload_n C (dl_30.at 24 rfl) rfl ?_
  refine xx_iconst C (dl_30.at 25 rfl) ic_1 ?_
  refine xx_iadd C (dl_30.at 26 rfl) ?_
  refine xx_sld C X (dl_30.at 27 rfl) (hin 1 (lb_ rfl) (lb_ rfl)) ?_
  refine xx_aload_n C (dl_30.at 28 rfl) rfl (lb_ rfl) ?_
  refine xx_iload_n C (dl_30.at 29 rfl) rfl ?_
  refine xx_iconst C (dl_30.at 30 rfl) ic_2 ?_
  refine xx_iadd C (dl_30.at 31 rfl) ?_
  refine xx_sld C X (dl_30.at 32 rfl) (hin 2 (lb_ rfl) (lb_ rfl)) ?_
  refine xx_aload_n C (dl_30.at 33 rfl) rfl (lb_ rfl) ?_
  refine xx_iload_n C (dl_30.at 34 rfl) rfl ?_
  refine xx_iconst C (dl_30.at 35 rfl) ic_3 ?_
  refine xx_iadd C (dl_30.at 36 rfl) ?_
  refine xx_sld C X (dl_30.at 37 rfl) (hin 3 (lb_ rfl) (lb_ rfl)) ?_
  refine xx_aload_n C (dl_30.at 38 rfl) rfl (lb_ rfl) ?_
  refine xx_iload_n C (dl_30.at 39 rfl) rfl ?_
  refine xx_iconst C (dl_30.at 40 rfl) ic_4 ?_
  refine xx_iadd C (dl_30.at 41 rfl) ?_
  refine xx_sld C X (dl_30.at 42 rfl) (hin 4 (lb_ rfl) (lb_ rfl)) ?_
  refine xx_callVi C (ss_X8_pads e2) (dl_30.at 43 rfl) ck_7 rfl sh_k98 kk_X8_pads ki_X8_pads ll_141 (lb_ rfl) rfl rfl (lb_ rfl) ?_
  refine xx_icmp_eq_t (tgt := 1727) C (dl_30.at 44 rfl) (by decide) rfl ?_
  exact K h2 hi
theorem law_31 {I : hh_ → Prop} (S : sp_31 I) {Z : zz_} (C : cx_ Z mt_law 100) {b L : Nat} {xs : Nat → Int32} (X : lx_ Z b L xs) {x3 : Int32} (hin : ∀ j : Nat, 1 ≤ j → j ≤ 5 → vp_in (x3 + Int32.ofNat j) L) {h : hh_} (hI : I h) (K : ∀ h2, I h2 → xx_ Z 1727 [some (.ref 509), some (.ref 1), some (.ref 98), some (.int x3)] [] h2) : xx_ Z 1293 [some (.ref 509), some (.ref 1), some (.ref 98), some (.int x3)] [] h := by
  obtain ⟨r, h2, e1, e2, hi⟩ := S h (xs (x3 + (1 : Int32)).toNatClampNeg) (xs (x3 + (2 : Int32)).toNatClampNeg) hI
  refine xx_aload_n C (dl_31.at 0 rfl) rfl (lb_ rfl) ?_
  refine xx_aload_n C (dl_31.at 1 rfl) rfl (lb_ rfl) ?_
  refine xx_iload_n C (dl_31.at 2 rfl) rfl ?_
  refine xx_iconst C (dl_31.at 3 rfl) ic_1 ?_
  refine xx_iadd C (dl_31.at 4 rfl) ?_
  refine xx_sld C X (dl_31.at 5 rfl) (hin 1 (lb_ rfl) (lb_ rfl)) ?_
  refine xx_aload_n C (dl_31.at 6 rfl) rfl (lb_ rfl) ?_
  refine xx_iload_n C (dl_31.at 7 rfl) rfl ?_
  refine xx_iconst C (dl_31.at 8 rfl) ic_2 ?_
  refine xx_iadd C (dl_31.at 9 rfl) ?_
  refine xx_sld C X (dl_31.at 10 rfl) (hin 2 (lb_ rfl) (lb_ rfl)) ?_
  refine xx_callVi C (ss_X7_all e1) (dl_31.at 11 rfl) ck_6 rfl sh_k1 kk_X7_all ki_X7_all ll_142 (lb_ rfl) rfl rfl (lb_ rfl) ?_
  refine xx_aload_n C (dl_31.at 12 rfl) rfl (lb_ rfl) ?_
  refine xx_aload_n C (dl_31.at 13 rfl) rfl (lb_ rfl) ?_
  refine xx_iload_n C (dl_31.at 14 rfl) rfl ?_
  refine xx_iconst C (dl_31.at 15 rfl) ic_1 ?_
  refine xx_iadd C (dl_31.at 16 rfl) ?_
  refine xx_sld C X (dl_31.at 17 rfl) (hin 1 (lb_ rfl) (lb_ rfl)) ?_
  refine xx_aload_n C (dl_31.at 18 rfl) rfl (lb_ rfl) ?_
  refine xx_iload_n C (dl_31.at 19 rfl) rfl ?_
  refine xx_iconst C (dl_31.at 20 rfl) ic_2 ?_
  refine xx_iadd C (dl_31.at 21 rfl) ?_
  refine xx_sld C X (dl_31.at 22 rfl) (hin 2 (lb_ rfl) (lb_ rfl)) ?_
  refine xx_callVi C (ss_X8_all e2) (dl_31.at 23 rfl) ck_7 rfl sh_k98 kk_X8_all ki_X8_all ll_145 (lb_ rfl) rfl rfl (lb_ rfl) ?_
  refine xx_icmp_eq_t (tgt := 1727) C (dl_31.at 24 rfl) (by decide) rfl ?_
  exact K h2 hi
theorem law_32 {I : hh_ → Prop} (S : sp_32 I) {Z : zz_} (C : cx_ Z mt_law 100) {b L : Nat} {xs : Nat → Int32} (X : lx_ Z b L xs) {x3 : Int32} (hin : ∀ j : Nat, 1 ≤ j → j ≤ 5 → vp_in (x3 + Int32.ofNat j) L) {h : hh_} (hI : I h) (K : ∀ h2, I h2 → xx_ Z 1727 [some (.ref 509), some (.ref 1), some (.ref 98), some (.int x3)] [] h2) : xx_ Z 1326 [some (.ref 509), some (.ref 1), some (.ref 98), some (.int x3)] [] h := by
  obtain ⟨r, h2, e1, e2, hi⟩ := S h (xs (x3 + (1 : Int32)).toNatClampNeg) (xs (x3 + (2 : Int32)).toNatClampNeg) (xs (x3 + (3 : Int32)).toNatClampNeg) hI
  refine xx_aload_n C (dl_32.at 0 rfl) rfl (lb_ rfl) ?_
  refine xx_aload_n C (dl_32.at 1 rfl) rfl (lb_ rfl) ?_
  refine xx_iload_n C (dl_32.at 2 rfl) rfl ?_
  refine xx_iconst C (dl_32.at 3 rfl) ic_1 ?_
  refine xx_iadd C (dl_32.at 4 rfl) ?_
  refine xx_sld C X (dl_32.at 5 rfl) (hin 1 (lb_ rfl) (lb_ rfl)) ?_
  refine xx_aload_n C (dl_32.at 6 rfl) rfl (lb_ rfl) ?_
  refine xx_iload_n C (dl_32.at 7 rfl) rfl ?_
  refine xx_iconst C (dl_32.at 8 rfl) ic_2 ?_
  refine xx_iadd C (dl_32.at 9 rfl) ?_
  refine xx_sld C X (dl_32.at 10 rfl) (hin 2 (lb_ rfl) (lb_ rfl)) ?_
  refine xx_aload_n C (dl_32.at 11 rfl) rfl (lb_ rfl) ?_
  refine xx_iload_n C (dl_32.at 12 rfl) rfl ?_
  refine xx_iconst C (dl_32.at 13 rfl) ic_3 ?_
  refine xx_iadd C (dl_32.at 14 rfl) ?_
  refine xx_sld C X (dl_32.at 15 rfl) (hin 3 (lb_ rfl) (lb_ rfl)) ?_
  refine xx_callVi C (ss_X7_finds e1) (dl_32.at 16 rfl) ck_6 rfl sh_k1 kk_X7_finds ki_X7_finds ll_146 (lb_ rfl) rfl rfl (lb_ rfl) ?_
  refine xx_aload_n C (dl_32.at 17 rfl) rfl (lb_ rfl) ?_
  refine xx_aload_n C (dl_32.at 18 rfl) rfl (lb_ rfl) ?_
  refine xx_iload_n C (dl_32.at 19 rfl) rfl ?_
  refine xx_iconst C (dl_32.at 20 rfl) ic_1 ?_
  refine xx_iadd C (dl_32.at 21 rfl) ?_
  refine xx_sld C X (dl_32.at 22 rfl) (hin 1 (lb_ rfl) (lb_ rfl)) ?_
  refine xx_aload_n C (dl_32.at 23 rfl) rfl (lb_ rfl) ?_
  refine xx_iload_n C (dl_32.at 24 rfl) rfl ?_
  refine xx_iconst C (dl_32.at 25 rfl) ic_2 ?_
  refine xx_iadd C (dl_32.at 26 rfl) ?_
  refine xx_sld C X (dl_32.at 27 rfl) (hin 2 (lb_ rfl) (lb_ rfl)) ?_
  refine xx_aload_n C (dl_32.at 28 rfl) rfl (lb_ rfl) ?_
  refine xx_iload_n C (dl_32.at 29 rfl) rfl ?_
  refine xx_iconst C (dl_32.at 30 rfl) ic_3 ?_
  refine xx_iadd C (dl_32.at 31 rfl) ?_
  refine xx_sld C X (dl_32.at 32 rfl) (hin 3 (lb_ rfl) (lb_ rfl)) ?_
  refine xx_callVi C (ss_X8_finds e2) (dl_32.at 33 rfl) ck_7 rfl sh_k98 kk_X8_finds ki_X8_finds ll_149 (lb_ rfl) rfl rfl (lb_ rfl) ?_
  refine xx_icmp_eq_t (tgt := 1727) C (dl_32.at 34 rfl) (by decide) rfl ?_
  exact K h2 hi
theorem law_33 {I : hh_ → Prop} (S : sp_33 I) {Z : zz_} (C : cx_ Z mt_law 100) {b L : Nat} {xs : Nat → Int32} (X : lx_ Z b L xs) {x3 : Int32} (hin : ∀ j : Nat, 1 ≤ j → j ≤ 5 → vp_in (x3 + Int32.ofNat j) L) {h : hh_} (hI : I h) (K : ∀ h2, I h2 → xx_ Z 1727 [some (.ref 509), some (.ref 1), some (.ref 98), some (.int x3)] [] h2) : xx_ Z 1369 [some (.ref 509), some (.ref 1), some (.ref 98), some (.int x3)] [] h := by
  obtain ⟨r, h1, h2, e1, e2, hi⟩ := S h (xs (x3 + (1 : Int32)).toNatClampNeg) (xs (x3 + (2 : Int32)).toNatClampNeg) hI
  refine xx_aload_n C (dl_33.at 0 rfl) rfl (lb_ rfl) ?_
  refine xx_aload_n C (dl_33.at 1 rfl) rfl (lb_ rfl) ?_
  refine xx_iload_n C (dl_33.at 2 rfl) rfl ?_
  refine xx_iconst C (dl_33.at 3 rfl) ic_1 ?_
  refine xx_iadd C (dl_33.at 4 rfl) ?_
  refine xx_sld C X (dl_33.at 5 rfl) (hin 1 (lb_ rfl) (lb_ rfl)) ?_
  refine xx_aload_n C (dl_33.at 6 rfl) rfl (lb_ rfl) ?_
  refine xx_iload_n C (dl_33.at 7 rfl) rfl ?_
  refine xx_iconst C (dl_33.at 8 rfl) ic_2 ?_
  refine xx_iadd C (dl_33.at 9 rfl) ?_
  refine xx_sld C X (dl_33.at 10 rfl) (hin 2 (lb_ rfl) (lb_ rfl)) ?_
  refine xx_callVi C (ss_X7_posts e1) (dl_33.at 11 rfl) ck_6 rfl sh_k1 kk_X7_posts ki_X7_posts ll_150 (lb_ rfl) rfl rfl (lb_ rfl) ?_
  refine xx_aload_n C (dl_33.at 12 rfl) rfl (lb_ rfl) ?_
  refine xx_aload_n C (dl_33.at 13 rfl) rfl (lb_ rfl) ?_
  refine xx_iload_n C (dl_33.at 14 rfl) rfl ?_
  refine xx_iconst C (dl_33.at 15 rfl) ic_1 ?_
  refine xx_iadd C (dl_33.at 16 rfl) ?_
  refine xx_sld C X (dl_33.at 17 rfl) (hin 1 (lb_ rfl) (lb_ rfl)) ?_
  refine xx_aload_n C (dl_33.at 18 rfl) rfl (lb_ rfl) ?_
  refine xx_iload_n C (dl_33.at 19 rfl) rfl ?_
  refine xx_iconst C (dl_33.at 20 rfl) ic_2 ?_
  refine xx_iadd C (dl_33.at 21 rfl) ?_
  refine xx_sld C X (dl_33.at 22 rfl) (hin 2 (lb_ rfl) (lb_ rfl)) ?_
  refine xx_callVi C (ss_X8_posts e2) (dl_33.at 23 rfl) ck_7 rfl sh_k98 kk_X8_posts ki_X8_posts ll_153 (lb_ rfl) rfl rfl (lb_ rfl) ?_
  refine xx_icmp_eq_t (tgt := 1727) C (dl_33.at 24 rfl) (by decide) rfl ?_
  exact K h2 hi
theorem law_34 {I : hh_ → Prop} (S : sp_34 I) {Z : zz_} (C : cx_ Z mt_law 100) {b L : Nat} {xs : Nat → Int32} (X : lx_ Z b L xs) {x3 : Int32} (hin : ∀ j : Nat, 1 ≤ j → j ≤ 5 → vp_in (x3 + Int32.ofNat j) L) {h : hh_} (hI : I h) (K : ∀ h2, I h2 → xx_ Z 1727 [some (.ref 509), some (.ref 1), some (.ref 98), some (.int x3)] [] h2) : xx_ Z 1402 [some (.ref 509), some (.ref 1), some (.ref 98), some (.int x3)] [] h := by
  obtain ⟨r, h1, h2, e1, e2, hi⟩ := S h (xs (x3 + (1 : Int32)).toNatClampNeg) (xs (x3 + (2 : Int32)).toNatClampNeg) hI
  refine xx_aload_n C (dl_34.at 0 rfl) rfl (lb_ rfl) ?_
  refine xx_aload_n C (dl_34.at 1 rfl) rfl (lb_ rfl) ?_
  refine xx_iload_n C (dl_34.at 2 rfl) rfl ?_
  refine xx_iconst C (dl_34.at 3 rfl) ic_1 ?_
  refine xx_iadd C (dl_34.at 4 rfl) ?_
  refine xx_sld C X (dl_34.at 5 rfl) (hin 1 (lb_ rfl) (lb_ rfl)) ?_
  refine xx_aload_n C (dl_34.at 6 rfl) rfl (lb_ rfl) ?_
  refine xx_iload_n C (dl_34.at 7 rfl) rfl ?_
  refine xx_iconst C (dl_34.at 8 rfl) ic_2 ?_
  refine xx_iadd C (dl_34.at 9 rfl) ?_
  refine xx_sld C X (dl_34.at 10 rfl) (hin 2 (lb_ rfl) (lb_ rfl)) ?_
  refine xx_callVi C (ss_X7_plan e1) (dl_34.at 11 rfl) ck_6 rfl sh_k1 kk_X7_plan ki_X7_plan ll_154 (lb_ rfl) rfl rfl (lb_ rfl) ?_
  refine xx_aload_n C (dl_34.at 12 rfl) rfl (lb_ rfl) ?_
  refine xx_aload_n C (dl_34.at 13 rfl) rfl (lb_ rfl) ?_
  refine xx_iload_n C (dl_34.at 14 rfl) rfl ?_
  refine xx_iconst C (dl_34.at 15 rfl) ic_1 ?_
  refine xx_iadd C (dl_34.at 16 rfl) ?_
  refine xx_sld C X (dl_34.at 17 rfl) (hin 1 (lb_ rfl) (lb_ rfl)) ?_
  refine xx_aload_n C (dl_34.at 18 rfl) rfl (lb_ rfl) ?_
  refine xx_iload_n C (dl_34.at 19 rfl) rfl ?_
  refine xx_iconst C (dl_34.at 20 rfl) ic_2 ?_
  refine xx_iadd C (dl_34.at 21 rfl) ?_
  refine xx_sld C X (dl_34.at 22 rfl) (hin 2 (lb_ rfl) (lb_ rfl)) ?_
  refine xx_callVi C (ss_X8_plan e2) (dl_34.at 23 rfl) ck_7 rfl sh_k98 kk_X8_plan ki_X8_plan ll_157 (lb_ rfl) rfl rfl (lb_ rfl) ?_
  refine xx_icmp_eq_t (tgt := 1727) C (dl_34.at 24 rfl) (by decide) rfl ?_
  exact K h2 hi
theorem law_35 {I : hh_ → Prop} (S : sp_35 I) {Z : zz_} (C : cx_ Z mt_law 100) {b L : Nat} {xs : Nat → Int32} (X : lx_ Z b L xs) {x3 : Int32} (hin : ∀ j : Nat, 1 ≤ j → j ≤ 5 → vp_in (x3 + Int32.ofNat j) L) {h : hh_} (hI : I h) (K : ∀ h2, I h2 → xx_ Z 1727 [some (.ref 509), some (.ref 1), some (.ref 98), some (.int x3)] [] h2) : xx_ Z 1435 [some (.ref 509), some (.ref 1), some (.ref 98), some (.int x3)] [] h := by
  obtain ⟨r, h1, h2, e1, e2, hi⟩ := S h (xs (x3 + (1 : Int32)).toNatClampNeg) hI
  refine xx_aload_n C (dl_35.at 0 rfl) rfl (lb_ rfl) ?_
  refine xx_aload_n C (dl_35.at 1 rfl) rfl (lb_ rfl) ?_
  refine xx_iload_n C (dl_35.at 2 rfl) rfl ?_
  refine xx_iconst C (dl_35.at 3 rfl) ic_1 ?_
  refine xx_iadd C (dl_35.at 4 rfl) ?_
  refine xx_sld C X (dl_35.at 5 rfl) (hin 1 (lb_ rfl) (lb_ rfl)) ?_
  refine xx_callVi C (ss_X7_plans e1) (dl_35.at 6 rfl) ck_6 rfl sh_k1 kk_X7_plans ki_X7_plans ll_158 (lb_ rfl) rfl rfl (lb_ rfl) ?_
  refine xx_aload_n C (dl_35.at 7 rfl) rfl (lb_ rfl) ?_
  refine xx_aload_n C (dl_35.at 8 rfl) rfl (lb_ rfl) ?_
  refine xx_iload_n C (dl_35.at 9 rfl) rfl ?_
  refine xx_iconst C (dl_35.at 10 rfl) ic_1 ?_
  refine xx_iadd C (dl_35.at 11 rfl) ?_
  refine xx_sld C X (dl_35.at 12 rfl) (hin 1 (lb_ rfl) (lb_ rfl)) ?_
  refine xx_callVi C (ss_X8_plans e2) (dl_35.at 13 rfl) ck_7 rfl sh_k98 kk_X8_plans ki_X8_plans ll_161 (lb_ rfl) rfl rfl (lb_ rfl) ?_
  refine xx_icmp_eq_t (tgt := 1727) C (dl_35.at 14 rfl) (by decide) rfl ?_
  exact K h2 hi
theorem law_36 {I : hh_ → Prop} (S : sp_36 I) {Z : zz_} (C : cx_ Z mt_law 100) {b L : Nat} {xs : Nat → Int32} (X : lx_ Z b L xs) {x3 : Int32} (hin : ∀ j : Nat, 1 ≤ j → j ≤ 5 → vp_in (x3 + Int32.ofNat j) L) {h : hh_} (hI : I h) (K : ∀ h2, I h2 → xx_ Z 1727 [some (.ref 509), some (.ref 1), some (.ref 98), some (.int x3)] [] h2) : xx_ Z 1458 [some (.ref 509), some (.ref 1), some (.ref 98), some (.int x3)] [] h := by
  obtain ⟨r, h1, h2, e1, e2, hi⟩ := S h (xs (x3 + (1 : Int32)).toNatClampNeg) hI
  refine xx_aload_n C (dl_36.at 0 rfl) rfl (lb_ rfl) ?_
  refine xx_aload_n C (dl_36.at 1 rfl) rfl (lb_ rfl) ?_
  refine xx_iload_n C (dl_36.at 2 rfl) rfl ?_
  refine xx_iconst C (dl_36.at 3 rfl) ic_1 ?_
  refine xx_iadd C (dl_36.at 4 rfl) ?_
  refine xx_sld C X (dl_36.at 5 rfl) (hin 1 (lb_ rfl) (lb_ rfl)) ?_
  refine xx_callVi C (ss_X7_safest e1) (dl_36.at 6 rfl) ck_6 rfl sh_k1 kk_X7_safest ki_X7_safest ll_162 (lb_ rfl) rfl rfl (lb_ rfl) ?_
  refine xx_aload_n C (dl_36.at 7 rfl) rfl (lb_ rfl) ?_
  refine xx_aload_n C (dl_36.at 8 rfl) rfl (lb_ rfl) ?_
  refine xx_iload_n C (dl_36.at 9 rfl) rfl ?_
  refine xx_iconst C (dl_36.at 10 rfl) ic_1 ?_
  refine xx_iadd C (dl_36.at 11 rfl) ?_
  refine xx_sld C X (dl_36.at 12 rfl) (hin 1 (lb_ rfl) (lb_ rfl)) ?_
  refine xx_callVi C (ss_X8_safest e2) (dl_36.at 13 rfl) ck_7 rfl sh_k98 kk_X8_safest ki_X8_safest ll_165 (lb_ rfl) rfl rfl (lb_ rfl) ?_
  refine xx_icmp_eq_t (tgt := 1727) C (dl_36.at 14 rfl) (by decide) rfl ?_
  exact K h2 hi
theorem law_37 {I : hh_ → Prop} (S : sp_37 I) {Z : zz_} (C : cx_ Z mt_law 100) {b L : Nat} {xs : Nat → Int32} (X : lx_ Z b L xs) {x3 : Int32} (hin : ∀ j : Nat, 1 ≤ j → j ≤ 5 → vp_in (x3 + Int32.ofNat j) L) {h : hh_} (hI : I h) (K : ∀ h2, I h2 → xx_ Z 1727 [some (.ref 509), some (.ref 1), some (.ref 98), some (.int x3)] [] h2) : xx_ Z 1481 [some (.ref 509), some (.ref 1), some (.ref 98), some (.int x3)] [] h := by
  obtain ⟨r, h1, h2, e1, e2, hi⟩ := S h (xs (x3 + (1 : Int32)).toNatClampNeg) (xs (x3 + (2 : Int32)).toNatClampNeg) hI
  refine xx_aload_n C (dl_37.at 0 rfl) rfl (lb_ rfl) ?_
  refine xx_aload_n C (dl_37.at 1 rfl) rfl (lb_ rfl) ?_
  refine xx_iload_n C (dl_37.at 2 rfl) rfl ?_
  refine xx_iconst C (dl_37.at 3 rfl) ic_1 ?_
  refine xx_iadd C (dl_37.at 4 rfl) ?_
  refine xx_sld C X (dl_37.at 5 rfl) (hin 1 (lb_ rfl) (lb_ rfl)) ?_
  refine xx_aload_n C (dl_37.at 6 rfl) rfl (lb_ rfl) ?_
  refine xx_iload_n C (dl_37.at 7 rfl) rfl ?_
  refine xx_iconst C (dl_37.at 8 rfl) ic_2 ?_
  refine xx_iadd C (dl_37.at 9 rfl) ?_
  refine xx_sld C X (dl_37.at 10 rfl) (hin 2 (lb_ rfl) (lb_ rfl)) ?_
  refine xx_callVi C (ss_X7_gain e1) (dl_37.at 11 rfl) ck_6 rfl sh_k1 kk_X7_gain ki_X7_gain ll_166 (lb_ rfl) rfl rfl (lb_ rfl) ?_
  refine xx_aload_n C (dl_37.at 12 rfl) rfl (lb_ rfl) ?_
  refine xx_aload_n C (dl_37.at 13 rfl) rfl (lb_ rfl) ?_
  refine xx_iload_n C (dl_37.at 14 rfl) rfl ?_
  refine xx_iconst C (dl_37.at 15 rfl) ic_1 ?_
  refine xx_iadd C (dl_37.at 16 rfl) ?_
  refine xx_sld C X (dl_37.at 17 rfl) (hin 1 (lb_ rfl) (lb_ rfl)) ?_
  refine xx_aload_n C (dl_37.at 18 rfl) rfl (lb_ rfl) ?_
  refine xx_iload_n C (dl_37.at 19 rfl) rfl ?_
  refine xx_iconst C (dl_37.at 20 rfl) ic_2 ?_
  refine xx_iadd C (dl_37.at 21 rfl) ?_
  refine xx_sld C X (dl_37.at 22 rfl) (hin 2 (lb_ rfl) (lb_ rfl)) ?_
  refine xx_callVi C (ss_X8_gain e2) (dl_37.at 23 rfl) ck_7 rfl sh_k98 kk_X8_gain ki_X8_gain ll_169 (lb_ rfl) rfl rfl (lb_ rfl) ?_
  refine xx_icmp_eq_t (tgt := 1727) C (dl_37.at 24 rfl) (by decide) rfl ?_
  exact K h2 hi
theorem law_38 {I : hh_ → Prop} (S : sp_38 I) {Z : zz_} (C : cx_ Z mt_law 100) {b L : Nat} {xs : Nat → Int32} (X : lx_ Z b L xs) {x3 : Int32} (hin : ∀ j : Nat, 1 ≤ j → j ≤ 5 → vp_in (x3 + Int32.ofNat j) L) {h : hh_} (hI : I h) (K : ∀ h2, I h2 → xx_ Z 1727 [some (.ref 509), some (.ref 1), some (.ref 98), some (.int x3)] [] h2) : xx_ Z 1514 [some (.ref 509), some (.ref 1), some (.ref 98), some (.int x3)] [] h := by
  obtain ⟨r, h1, h2, e1, e2, hi⟩ := S h (xs (x3 + (1 : Int32)).toNatClampNeg) (xs (x3 + (2 : Int32)).toNatClampNeg) hI
  refine xx_aload_n C (dl_38.at 0 rfl) rfl (lb_ rfl) ?_
  refine xx_aload_n C (dl_38.at 1 rfl) rfl (lb_ rfl) ?_
  refine xx_iload_n C (dl_38.at 2 rfl) rfl ?_
  refine xx_iconst C (dl_38.at 3 rfl) ic_1 ?_
  refine xx_iadd C (dl_38.at 4 rfl) ?_
  refine xx_sld C X (dl_38.at 5 rfl) (hin 1 (lb_ rfl) (lb_ rfl)) ?_
  refine xx_aload_n C (dl_38.at 6 rfl) rfl (lb_ rfl) ?_
  refine xx_iload_n C (dl_38.at 7 rfl) rfl ?_
  refine xx_iconst C (dl_38.at 8 rfl) ic_2 ?_
  refine xx_iadd C (dl_38.at 9 rfl) ?_
  refine xx_sld C X (dl_38.at 10 rfl) (hin 2 (lb_ rfl) (lb_ rfl)) ?_
  refine xx_callVi C (ss_X7_learn e1) (dl_38.at 11 rfl) ck_6 rfl sh_k1 kk_X7_learn ki_X7_learn ll_170 (lb_ rfl) rfl rfl (lb_ rfl) ?_
  refine xx_aload_n C (dl_38.at 12 rfl) rfl (lb_ rfl) ?_
  refine xx_aload_n C (dl_38.at 13 rfl) rfl (lb_ rfl) ?_
  refine xx_iload_n C (dl_38.at 14 rfl) rfl ?_
  refine xx_iconst C (dl_38.at 15 rfl) ic_1 ?_
  refine xx_iadd C (dl_38.at 16 rfl) ?_
  refine xx_sld C X (dl_38.at 17 rfl) (hin 1 (lb_ rfl) (lb_ rfl)) ?_
  refine xx_aload_n C (dl_38.at 18 rfl) rfl (lb_ rfl) ?_
  refine xx_iload_n C (dl_38.at 19 rfl) rfl ?_
  refine xx_iconst C (dl_38.at 20 rfl) ic_2 ?_
  refine xx_iadd C (dl_38.at 21 rfl) ?_
  refine xx_sld C X (dl_38.at 22 rfl) (hin 2 (lb_ rfl) (lb_ rfl)) ?_
  refine xx_callVi C (ss_X8_learn e2) (dl_38.at 23 rfl) ck_7 rfl sh_k98 kk_X8_learn ki_X8_learn ll_173 (lb_ rfl) rfl rfl (lb_ rfl) ?_
  refine xx_icmp_eq_t (tgt := 1727) C (dl_38.at 24 rfl) (by decide) rfl ?_
  exact K h2 hi
theorem law_39 {I : hh_ → Prop} (S : sp_39 I) {Z : zz_} (C : cx_ Z mt_law 100) {b L : Nat} {xs : Nat → Int32} (X : lx_ Z b L xs) {x3 : Int32} (hin : ∀ j : Nat, 1 ≤ j → j ≤ 5 → vp_in (x3 + Int32.ofNat j) L) {h : hh_} (hI : I h) (K : ∀ h2, I h2 → xx_ Z 1727 [some (.ref 509), some (.ref 1), some (.ref 98), some (.int x3)] [] h2) : xx_ Z 1547 [some (.ref 509), some (.ref 1), some (.ref 98), some (.int x3)] [] h := by
  obtain ⟨r, h1, h2, e1, e2, hi⟩ := S h (xs (x3 + (1 : Int32)).toNatClampNeg) hI
  refine xx_aload_n C (dl_39.at 0 rfl) rfl (lb_ rfl) ?_
  refine xx_aload_n C (dl_39.at 1 rfl) rfl (lb_ rfl) ?_
  refine xx_iload_n C (dl_39.at 2 rfl) rfl ?_
  refine xx_iconst C (dl_39.at 3 rfl) ic_1 ?_
  refine xx_iadd C (dl_39.at 4 rfl) ?_
  refine xx_sld C X (dl_39.at 5 rfl) (hin 1 (lb_ rfl) (lb_ rfl)) ?_
  refine xx_callVi C (ss_X7_tells e1) (dl_39.at 6 rfl) ck_6 rfl sh_k1 kk_X7_tells ki_X7_tells ll_174 (lb_ rfl) rfl rfl (lb_ rfl) ?_
  refine xx_aload_n C (dl_39.at 7 rfl) rfl (lb_ rfl) ?_
  refine xx_aload_n C (dl_39.at 8 rfl) rfl (lb_ rfl) ?_
  refine xx_iload_n C (dl_39.at 9 rfl) rfl ?_
  refine xx_iconst C (dl_39.at 10 rfl) ic_1 ?_
  refine xx_iadd C (dl_39.at 11 rfl) ?_
  refine xx_sld C X (dl_39.at 12 rfl) (hin 1 (lb_ rfl) (lb_ rfl)) ?_
  refine xx_callVi C (ss_X8_tells e2) (dl_39.at 13 rfl) ck_7 rfl sh_k98 kk_X8_tells ki_X8_tells ll_177 (lb_ rfl) rfl rfl (lb_ rfl) ?_
  refine xx_icmp_eq_t (tgt := 1727) C (dl_39.at 14 rfl) (by decide) rfl ?_
  exact K h2 hi
theorem law_40 {I : hh_ → Prop} (S : sp_40 I) {Z : zz_} (C : cx_ Z mt_law 100) {b L : Nat} {xs : Nat → Int32} (X : lx_ Z b L xs) {x3 : Int32} (hin : ∀ j : Nat, 1 ≤ j → j ≤ 5 → vp_in (x3 + Int32.ofNat j) L) {h : hh_} (hI : I h) (K : ∀ h2, I h2 → xx_ Z 1727 [some (.ref 509), some (.ref 1), some (.ref 98), some (.int x3)] [] h2) : xx_ Z 1570 [some (.ref 509), some (.ref 1), some (.ref 98), some (.int x3)] [] h := by
  obtain ⟨r, h1, h2, e1, e2, hi⟩ := S h (xs (x3 + (1 : Int32)).toNatClampNeg) (xs (x3 + (2 : Int32)).toNatClampNeg) (xs (x3 + (3 : Int32)).toNatClampNeg) hI
  refine xx_aload_n C (dl_40.at 0 rfl) rfl (lb_ rfl) ?_
  refine xx_aload_n C (dl_40.at 1 rfl) rfl (lb_ rfl) ?_
  refine xx_iload_n C (dl_40.at 2 rfl) rfl ?_
  refine xx_iconst C (dl_40.at 3 rfl) ic_1 ?_
  refine xx_iadd C (dl_40.at 4 rfl) ?_
  refine xx_sld C X (dl_40.at 5 rfl) (hin 1 (lb_ rfl) (lb_ rfl)) ?_
  refine xx_aload_n C (dl_40.at 6 rfl) rfl (lb_ rfl) ?_
  refine xx_iload_n C (dl_40.at 7 rfl) rfl ?_
  refine xx_iconst C (dl_40.at 8 rfl) ic_2 ?_
  refine xx_iadd C (dl_40.at 9 rfl) ?_
  refine xx_sld C X (dl_40.at 10 rfl) (hin 2 (lb_ rfl) (lb_ rfl)) ?_
  refine xx_aload_n C (dl_40.at 11 rfl) rfl (lb_ rfl) ?_
  refine xx_iload_n C (dl_40.at 12 rfl) rfl ?_
  refine xx_iconst C (dl_40.at 13 rfl) ic_3 ?_
  refine xx_iadd C (dl_40.at 14 rfl) ?_
  refine xx_sld C X (dl_40.at 15 rfl) (hin 3 (lb_ rfl) (lb_ rfl)) ?_
  refine xx_callVi C (ss_X7_lots e1) (dl_40.at 16 rfl) ck_6 rfl sh_k1 kk_X7_lots ki_X7_lots ll_178 (lb_ rfl) rfl rfl (lb_ rfl) ?_
  refine xx_aload_n C (dl_40.at 17 rfl) rfl (lb_ rfl) ?_
  refine xx_aload_n C (dl_40.at 18 rfl) rfl (lb_ rfl) ?_
  refine xx_iload_n C (dl_40.at 19 rfl) rfl ?_
  refine xx_iconst C (dl_40.at 20 rfl) ic_1 ?_
  refine xx_iadd C (dl_40.at 21 rfl) ?_
  refine xx_sld C X (dl_40.at 22 rfl) (hin 1 (lb_ rfl) (lb_ rfl)) ?_
  refine xx_aload_n C (dl_40.at 23 rfl) rfl (lb_ rfl) ?_
  refine xx_iload_n C (dl_40.at 24 rfl) rfl ?_
  refine xx_iconst C (dl_40.at 25 rfl) ic_2 ?_
  refine xx_iadd C (dl_40.at 26 rfl) ?_
  refine xx_sld C X (dl_40.at 27 rfl) (hin 2 (lb_ rfl) (lb_ rfl)) ?_
  refine xx_aload_n C (dl_40.at 28 rfl) rfl (lb_ rfl) ?_
  refine xx_iload_n C (dl_40.at 29 rfl) rfl ?_
  refine xx_iconst C (dl_40.at 30 rfl) ic_3 ?_
  refine xx_iadd C (dl_40.at 31 rfl) ?_
  refine xx_sld C X (dl_40.at 32 rfl) (hin 3 (lb_ rfl) (lb_ rfl)) ?_
  refine xx_callVi C (ss_X8_lots e2) (dl_40.at 33 rfl) ck_7 rfl sh_k98 kk_X8_lots ki_X8_lots ll_181 (lb_ rfl) rfl rfl (lb_ rfl) ?_
  refine xx_icmp_eq_t (tgt := 1727) C (dl_40.at 34 rfl) (by decide) rfl ?_
  exact K h2 hi
theorem law_41 {I : hh_ → Prop} (S : sp_41 I) {Z : zz_} (C : cx_ Z mt_law 100) {b L : Nat} {xs : Nat → Int32} (X : lx_ Z b L xs) {x3 : Int32} (hin : ∀ j : Nat, 1 ≤ j → j ≤ 5 → vp_in (x3 + Int32.ofNat j) L) {h : hh_} (hI : I h) (K : ∀ h2, I h2 → xx_ Z 1727 [some (.ref 509), some (.ref 1), some (.ref 98), some (.int x3)] [] h2) : xx_ Z 1613 [some (.ref 509), some (.ref 1), some (.ref 98), some (.int x3)] [] h := by
  obtain ⟨r, e1, e2, hi⟩ := S h hI
  refine xx_aload_n C (dl_41.at 0 rfl) rfl (lb_ rfl) ?_
  refine xx_callVi C (ss_X7_asked e1) (dl_41.at 1 rfl) ck_6 rfl sh_k1 kk_X7_asked ki_X7_asked ll_182 (lb_ rfl) rfl rfl (lb_ rfl) ?_
  refine xx_aload_n C (dl_41.at 2 rfl) rfl (lb_ rfl) ?_
  refine xx_callVi C (ss_X8_asked e2) (dl_41.at 3 rfl) ck_7 rfl sh_k98 kk_X8_asked ki_X8_asked ll_186 (lb_ rfl) rfl rfl (lb_ rfl) ?_
  refine xx_icmp_eq_t (tgt := 1727) C (dl_41.at 4 rfl) (by decide) rfl ?_
  exact K h hi
theorem law_42 {I : hh_ → Prop} (S : sp_42 I) {Z : zz_} (C : cx_ Z mt_law 100) {b L : Nat} {xs : Nat → Int32} (X : lx_ Z b L xs) {x3 : Int32} (hin : ∀ j : Nat, 1 ≤ j → j ≤ 5 → vp_in (x3 + Int32.ofNat j) L) {h : hh_} (hI : I h) (K : ∀ h2, I h2 → xx_ Z 1727 [some (.ref 509), some (.ref 1), some (.ref 98), some (.int x3)] [] h2) : xx_ Z 1626 [some (.ref 509), some (.ref 1), some (.ref 98), some (.int x3)] [] h := by
  obtain ⟨r, e1, e2, hi⟩ := S h hI
  refine xx_aload_n C (dl_42.at 0 rfl) rfl (lb_ rfl) ?_
  refine xx_callVl C (ss_X7_upper e1) (dl_42.at 1 rfl) ck_6 rfl sh_k1 kk_X7_upper ki_X7_upper ll_187 (lb_ rfl) rfl rfl (lb_ rfl) ?_
  refine xx_aload_n C (dl_42.at 2 rfl) rfl (lb_ rfl) ?_
  refine xx_callVl C (ss_X8_upper e2) (dl_42.at 3 rfl) ck_7 rfl sh_k98 kk_X8_upper ki_X8_upper ll_191 (lb_ rfl) rfl rfl (lb_ rfl) ?_
  refine xx_lcmp C (dl_42.at 4 rfl) ?_
  refine xx_if_eq_t (tgt := 1727) C (dl_42.at 5 rfl) (by decide) (lg_same _) ?_
  exact K h hi
theorem law_43 {I : hh_ → Prop} (S : sp_43 I) {Z : zz_} (C : cx_ Z mt_law 100) {b L : Nat} {xs : Nat → Int32} (X : lx_ Z b L xs) {x3 : Int32} (hin : ∀ j : Nat, 1 ≤ j → j ≤ 5 → vp_in (x3 + Int32.ofNat j) L) {h : hh_} (hI : I h) (K : ∀ h2, I h2 → xx_ Z 1727 [some (.ref 509), some (.ref 1), some (.ref 98), some (.int x3)] [] h2) : xx_ Z 1640 [some (.ref 509), some (.ref 1), some (.ref 98), some (.int x3)] [] h := by
  obtain ⟨r, e1, e2, hi⟩ := S h hI
  refine xx_aload_n C (dl_43.at 0 rfl) rfl (lb_ rfl) ?_
  refine xx_callVl C (ss_X7_lower e1) (dl_43.at 1 rfl) ck_6 rfl sh_k1 kk_X7_lower ki_X7_lower ll_192 (lb_ rfl) rfl rfl (lb_ rfl) ?_
  refine xx_aload_n C (dl_43.at 2 rfl) rfl (lb_ rfl) ?_
  refine xx_callVl C (ss_X8_lower e2) (dl_43.at 3 rfl) ck_7 rfl sh_k98 kk_X8_lower ki_X8_lower ll_195 (lb_ rfl) rfl rfl (lb_ rfl) ?_
  refine xx_lcmp C (dl_43.at 4 rfl) ?_
  refine xx_if_eq_t (tgt := 1727) C (dl_43.at 5 rfl) (by decide) (lg_same _) ?_
  exact K h hi
theorem law_44 {I : hh_ → Prop} (S : sp_44 I) {Z : zz_} (C : cx_ Z mt_law 100) {b L : Nat} {xs : Nat → Int32} (X : lx_ Z b L xs) {x3 : Int32} (hin : ∀ j : Nat, 1 ≤ j → j ≤ 5 → vp_in (x3 + Int32.ofNat j) L) {h : hh_} (hI : I h) (K : ∀ h2, I h2 → xx_ Z 1727 [some (.ref 509), some (.ref 1), some (.ref 98), some (.int x3)] [] h2) : xx_ Z 1654 [some (.ref 509), some (.ref 1), some (.ref 98), some (.int x3)] [] h := by
  obtain ⟨r, e1, e2, hi⟩ := S h (xs (x3 + (1 : Int32)).toNatClampNeg) hI
  refine xx_aload_n C (dl_44.at 0 rfl) rfl (lb_ rfl) ?_
  refine xx_aload_n C (dl_44.at 1 rfl) rfl (lb_ rfl) ?_
  refine xx_iload_n C (dl_44.at 2 rfl) rfl ?_
  refine xx_iconst C (dl_44.at 3 rfl) ic_1 ?_
  refine xx_iadd C (dl_44.at 4 rfl) ?_
  refine xx_sld C X (dl_44.at 5 rfl) (hin 1 (lb_ rfl) (lb_ rfl)) ?_
  refine xx_callVi C (ss_X7_count e1) (dl_44.at 6 rfl) ck_6 rfl sh_k1 kk_X7_count ki_X7_count ll_196 (lb_ rfl) rfl rfl (lb_ rfl) ?_
  refine xx_aload_n C (dl_44.at 7 rfl) rfl (lb_ rfl) ?_
  refine xx_aload_n C (dl_44.at 8 rfl) rfl (lb_ rfl) ?_
  refine xx_iload_n C (dl_44.at 9 rfl) rfl ?_
  refine xx_iconst C (dl_44.at 10 rfl) ic_1 ?_
  refine xx_iadd C (dl_44.at 11 rfl) ?_
  refine xx_sld C X (dl_44.at 12 rfl) (hin 1 (lb_ rfl) (lb_ rfl)) ?_
  refine xx_callVi C (ss_X8_count e2) (dl_44.at 13 rfl) ck_7 rfl sh_k98 kk_X8_count ki_X8_count ll_199 (lb_ rfl) rfl rfl (lb_ rfl) ?_
  refine xx_icmp_eq_t (tgt := 1727) C (dl_44.at 14 rfl) (by decide) rfl ?_
  exact K h hi
theorem law_45 {I : hh_ → Prop} (S : sp_45 I) {Z : zz_} (C : cx_ Z mt_law 100) {b L : Nat} {xs : Nat → Int32} (X : lx_ Z b L xs) {x3 : Int32} (hin : ∀ j : Nat, 1 ≤ j → j ≤ 5 → vp_in (x3 + Int32.ofNat j) L) {h : hh_} (hI : I h) (K : ∀ h2, I h2 → xx_ Z 1727 [some (.ref 509), some (.ref 1), some (.ref 98), some (.int x3)] [] h2) : xx_ Z 1677 [some (.ref 509), some (.ref 1), some (.ref 98), some (.int x3)] [] h := by
  obtain ⟨r, e1, e2, hi⟩ := S h hI
  refine xx_aload_n C (dl_45.at 0 rfl) rfl (lb_ rfl) ?_
  refine xx_callVi C (ss_X7_finding e1) (dl_45.at 1 rfl) ck_6 rfl sh_k1 kk_X7_finding ki_X7_finding ll_200 (lb_ rfl) rfl rfl (lb_ rfl) ?_
  refine xx_aload_n C (dl_45.at 2 rfl) rfl (lb_ rfl) ?_
  refine xx_callVi C (ss_X8_finding e2) (dl_45.at 3 rfl) ck_7 rfl sh_k98 kk_X8_finding ki_X8_finding ll_203 (lb_ rfl) rfl rfl (lb_ rfl) ?_
  refine xx_icmp_eq_t (tgt := 1727) C (dl_45.at 4 rfl) (by decide) rfl ?_
  exact K h hi
theorem law_46 {I : hh_ → Prop} (S : sp_46 I) {Z : zz_} (C : cx_ Z mt_law 100) {b L : Nat} {xs : Nat → Int32} (X : lx_ Z b L xs) {x3 : Int32} (hin : ∀ j : Nat, 1 ≤ j → j ≤ 5 → vp_in (x3 + Int32.ofNat j) L) {h : hh_} (hI : I h) (K : ∀ h2, I h2 → xx_ Z 1727 [some (.ref 509), some (.ref 1), some (.ref 98), some (.int x3)] [] h2) : xx_ Z 1690 [some (.ref 509), some (.ref 1), some (.ref 98), some (.int x3)] [] h := by
  obtain ⟨r, e1, e2, hi⟩ := S h (xs (x3 + (1 : Int32)).toNatClampNeg) hI
  refine xx_aload_n C (dl_46.at 0 rfl) rfl (lb_ rfl) ?_
  refine xx_aload_n C (dl_46.at 1 rfl) rfl (lb_ rfl) ?_
  refine xx_iload_n C (dl_46.at 2 rfl) rfl ?_
  refine xx_iconst C (dl_46.at 3 rfl) ic_1 ?_
  refine xx_iadd C (dl_46.at 4 rfl) ?_
  refine xx_sld C X (dl_46.at 5 rfl) (hin 1 (lb_ rfl) (lb_ rfl)) ?_
  refine xx_callVi C (ss_X7_findings e1) (dl_46.at 6 rfl) ck_6 rfl sh_k1 kk_X7_findings ki_X7_findings ll_204 (lb_ rfl) rfl rfl (lb_ rfl) ?_
  refine xx_aload_n C (dl_46.at 7 rfl) rfl (lb_ rfl) ?_
  refine xx_aload_n C (dl_46.at 8 rfl) rfl (lb_ rfl) ?_
  refine xx_iload_n C (dl_46.at 9 rfl) rfl ?_
  refine xx_iconst C (dl_46.at 10 rfl) ic_1 ?_
  refine xx_iadd C (dl_46.at 11 rfl) ?_
  refine xx_sld C X (dl_46.at 12 rfl) (hin 1 (lb_ rfl) (lb_ rfl)) ?_
  refine xx_callVi C (ss_X8_findings e2) (dl_46.at 13 rfl) ck_7 rfl sh_k98 kk_X8_findings ki_X8_findings ll_207 (lb_ rfl) rfl rfl (lb_ rfl) ?_
  refine xx_icmp_eq_t (tgt := 1727) C (dl_46.at 14 rfl) (by decide) rfl ?_
  exact K h hi
theorem law_47 {I : hh_ → Prop} (S : sp_47 I) {Z : zz_} (C : cx_ Z mt_law 100) {b L : Nat} {xs : Nat → Int32} (X : lx_ Z b L xs) {x3 : Int32} (hin : ∀ j : Nat, 1 ≤ j → j ≤ 5 → vp_in (x3 + Int32.ofNat j) L) {h : hh_} (hI : I h) (K : ∀ h2, I h2 → xx_ Z 1727 [some (.ref 509), some (.ref 1), some (.ref 98), some (.int x3)] [] h2) : xx_ Z 1713 [some (.ref 509), some (.ref 1), some (.ref 98), some (.int x3)] [] h := by
  obtain ⟨r, h2, e1, e2, hi⟩ := S h hI
  refine xx_aload_n C (dl_47.at 0 rfl) rfl (lb_ rfl) ?_
  refine xx_callVl C (ss_X7_digest e1) (dl_47.at 1 rfl) ck_6 rfl sh_k1 kk_X7_digest ki_X7_digest ll_208 (lb_ rfl) rfl rfl (lb_ rfl) ?_
  refine xx_aload_n C (dl_47.at 2 rfl) rfl (lb_ rfl) ?_
  refine xx_callVl C (ss_X8_digest e2) (dl_47.at 3 rfl) ck_7 rfl sh_k98 kk_X8_digest ki_X8_digest ll_211 (lb_ rfl) rfl rfl (lb_ rfl) ?_
  refine xx_lcmp C (dl_47.at 4 rfl) ?_
  refine xx_if_eq_t (tgt := 1727) C (dl_47.at 5 rfl) (by decide) (lg_same _) ?_
  exact K h2 hi
theorem dl_head : dd_ code [(0, .new 7, 3), (3, .dup, 1), (4, .invokespecial 9, 3), (7, .astore_n 1, 1), (8, .new 10, 3), (11, .dup, 1), (12, .invokespecial 12, 3), (15, .astore_n 2, 1), (16, .iconst 0, 1), (17, .istore_n 3, 1), (18, .iload_n 3, 1), (19, .aload_n 0, 1), (20, .arraylength, 1), (21, .bipush 6, 2), (23, .isub, 1), (24, .if_icmp .gt 1709, 3), (27, .aload_n 0, 1), (28, .iload_n 3, 1), (29, .iaload, 1), (30, .bipush 63, 2), (32, .iand, 1), (33, .tableswitch 1694 0 47 #[207, 240, 283, 316, 339, 402, 425, 458, 501, 524, 547, 580, 613, 646, 679, 712, 745, 768, 801, 824, 847, 870, 913, 956, 989, 1022, 1065, 1088, 1121, 1164, 1207, 1260, 1293, 1336, 1369, 1402, 1425, 1448, 1481, 1514, 1537, 1580, 1593, 1607, 1621, 1644, 1657, 1680], 207)] := by decide +kernel
theorem dl_tail : dd_ code [(1727, .iinc 3 6, 3), (1730, .goto (-1712), 3), (1733, .iconst 1, 1), (1734, .ireturn, 1)] := by decide +kernel
