/-! the law's own code -/
theorem k_dlw {l : List cRow} {p : Nat} (h : k_walk code l p (code.data.toList.drop p) = true) (i : Nat) {x : cRow} (hx : l[i]? = some x) : decode code x.1 = .ok x.2 := k_walk_ok rfl h x (List.mem_of_getElem? hx)
def k_lr0 : List cRow := [(0, .new 7, 3), (3, .dup, 1), (4, .invokespecial 9, 3), (7, .astore_n 1, 1), (8, .new 10, 3), (11, .dup, 1), (12, .invokespecial 12, 3), (15, .astore_n 2, 1), (16, .iconst 0, 1), (17, .istore_n 3, 1), (18, .iload_n 3, 1), (19, .aload_n 0, 1), (20, .arraylength, 1), (21, .bipush 7, 2), (23, .isub, 1), (24, .if_icmp .gt 1971, 3), (27, .aload_n 0, 1), (28, .iload_n 3, 1), (29, .iaload, 1), (30, .bipush 63, 2), (32, .iand, 1), (33, .tableswitch 1956 0 52 #[227, 240, 253, 266, 309, 382, 415, 478, 541, 564, 587, 610, 643, 718, 741, 774, 833, 856, 889, 942, 981, 1004, 1047, 1090, 1113, 1136, 1159, 1192, 1215, 1238, 1281, 1314, 1337, 1416, 1429, 1462, 1495, 1518, 1541, 1564, 1587, 1610, 1643, 1706, 1769, 1792, 1815, 1838, 1861, 1884, 1907, 1930, 1943], 227), (260, .aload_n 1, 1), (261, .invokevirtual 13, 3), (264, .pop, 1)]
theorem k_ld0 : k_walk code k_lr0 0 (code.data.toList.drop 0) = true := by decide +kernel
def k_lr1 : List cRow := [(265, .aload_n 2, 1), (266, .invokevirtual 17, 3), (269, .pop, 1), (270, .goto 1719, 3), (273, .aload_n 1, 1), (274, .invokevirtual 18, 3), (277, .pop2, 1), (278, .aload_n 2, 1), (279, .invokevirtual 22, 3), (282, .pop2, 1), (283, .goto 1706, 3), (286, .aload_n 1, 1), (287, .invokevirtual 23, 3), (290, .pop2, 1), (291, .aload_n 2, 1), (292, .invokevirtual 26, 3), (295, .pop2, 1), (296, .goto 1693, 3), (299, .aload_n 1, 1), (300, .aload_n 0, 1), (301, .iload_n 3, 1), (302, .iconst 1, 1), (303, .iadd, 1), (304, .iaload, 1), (305, .aload_n 0, 1)]
theorem k_ld1 : k_walk code k_lr1 265 (code.data.toList.drop 265) = true := by decide +kernel
def k_lr2 : List cRow := [(306, .iload_n 3, 1), (307, .iconst 2, 1), (308, .iadd, 1), (309, .iaload, 1), (310, .aload_n 0, 1), (311, .iload_n 3, 1), (312, .iconst 3, 1), (313, .iadd, 1), (314, .iaload, 1), (315, .invokevirtual 27, 3), (318, .pop, 1), (319, .aload_n 2, 1), (320, .aload_n 0, 1), (321, .iload_n 3, 1), (322, .iconst 1, 1), (323, .iadd, 1), (324, .iaload, 1), (325, .aload_n 0, 1), (326, .iload_n 3, 1), (327, .iconst 2, 1), (328, .iadd, 1), (329, .iaload, 1), (330, .aload_n 0, 1), (331, .iload_n 3, 1), (332, .iconst 3, 1)]
theorem k_ld2 : k_walk code k_lr2 306 (code.data.toList.drop 306) = true := by decide +kernel
def k_lr3 : List cRow := [(333, .iadd, 1), (334, .iaload, 1), (335, .invokevirtual 31, 3), (338, .pop, 1), (339, .goto 1650, 3), (342, .aload_n 1, 1), (343, .aload_n 0, 1), (344, .iload_n 3, 1), (345, .iconst 1, 1), (346, .iadd, 1), (347, .iaload, 1), (348, .aload_n 0, 1), (349, .iload_n 3, 1), (350, .iconst 2, 1), (351, .iadd, 1), (352, .iaload, 1), (353, .aload_n 0, 1), (354, .iload_n 3, 1), (355, .iconst 3, 1), (356, .iadd, 1), (357, .iaload, 1), (358, .i2l, 1), (359, .bipush 32, 2), (361, .lshl, 1), (362, .aload_n 0, 1)]
theorem k_ld3 : k_walk code k_lr3 333 (code.data.toList.drop 333) = true := by decide +kernel
def k_lr4 : List cRow := [(363, .iload_n 3, 1), (364, .iconst 4, 1), (365, .iadd, 1), (366, .iaload, 1), (367, .i2l, 1), (368, .ldc2_w 32, 3), (371, .land, 1), (372, .lor, 1), (373, .invokevirtual 34, 3), (376, .pop, 1), (377, .aload_n 2, 1), (378, .aload_n 0, 1), (379, .iload_n 3, 1), (380, .iconst 1, 1), (381, .iadd, 1), (382, .iaload, 1), (383, .aload_n 0, 1), (384, .iload_n 3, 1), (385, .iconst 2, 1), (386, .iadd, 1), (387, .iaload, 1), (388, .aload_n 0, 1), (389, .iload_n 3, 1), (390, .iconst 3, 1), (391, .iadd, 1)]
theorem k_ld4 : k_walk code k_lr4 363 (code.data.toList.drop 363) = true := by decide +kernel
def k_lr5 : List cRow := [(392, .iaload, 1), (393, .i2l, 1), (394, .bipush 32, 2), (396, .lshl, 1), (397, .aload_n 0, 1), (398, .iload_n 3, 1), (399, .iconst 4, 1), (400, .iadd, 1), (401, .iaload, 1), (402, .i2l, 1), (403, .ldc2_w 32, 3), (406, .land, 1), (407, .lor, 1), (408, .invokevirtual 38, 3), (411, .pop, 1), (412, .goto 1577, 3), (415, .aload_n 1, 1), (416, .aload_n 0, 1), (417, .iload_n 3, 1), (418, .iconst 1, 1), (419, .iadd, 1), (420, .iaload, 1), (421, .aload_n 0, 1), (422, .iload_n 3, 1), (423, .iconst 2, 1)]
theorem k_ld5 : k_walk code k_lr5 392 (code.data.toList.drop 392) = true := by decide +kernel
def k_lr6 : List cRow := [(424, .iadd, 1), (425, .iaload, 1), (426, .invokevirtual 39, 3), (429, .pop2, 1), (430, .aload_n 2, 1), (431, .aload_n 0, 1), (432, .iload_n 3, 1), (433, .iconst 1, 1), (434, .iadd, 1), (435, .iaload, 1), (436, .aload_n 0, 1), (437, .iload_n 3, 1), (438, .iconst 2, 1), (439, .iadd, 1), (440, .iaload, 1), (441, .invokevirtual 43, 3), (444, .pop2, 1), (445, .goto 1544, 3), (448, .aload_n 1, 1), (449, .aload_n 0, 1), (450, .iload_n 3, 1), (451, .iconst 1, 1), (452, .iadd, 1), (453, .iaload, 1), (454, .aload_n 0, 1)]
theorem k_ld6 : k_walk code k_lr6 424 (code.data.toList.drop 424) = true := by decide +kernel
def k_lr7 : List cRow := [(455, .iload_n 3, 1), (456, .iconst 2, 1), (457, .iadd, 1), (458, .iaload, 1), (459, .aload_n 0, 1), (460, .iload_n 3, 1), (461, .iconst 3, 1), (462, .iadd, 1), (463, .iaload, 1), (464, .aload_n 0, 1), (465, .iload_n 3, 1), (466, .iconst 4, 1), (467, .iadd, 1), (468, .iaload, 1), (469, .aload_n 0, 1), (470, .iload_n 3, 1), (471, .iconst 5, 1), (472, .iadd, 1), (473, .iaload, 1), (474, .invokevirtual 44, 3), (477, .pop, 1), (478, .aload_n 2, 1), (479, .aload_n 0, 1), (480, .iload_n 3, 1), (481, .iconst 1, 1)]
theorem k_ld7 : k_walk code k_lr7 455 (code.data.toList.drop 455) = true := by decide +kernel
def k_lr8 : List cRow := [(482, .iadd, 1), (483, .iaload, 1), (484, .aload_n 0, 1), (485, .iload_n 3, 1), (486, .iconst 2, 1), (487, .iadd, 1), (488, .iaload, 1), (489, .aload_n 0, 1), (490, .iload_n 3, 1), (491, .iconst 3, 1), (492, .iadd, 1), (493, .iaload, 1), (494, .aload_n 0, 1), (495, .iload_n 3, 1), (496, .iconst 4, 1), (497, .iadd, 1), (498, .iaload, 1), (499, .aload_n 0, 1), (500, .iload_n 3, 1), (501, .iconst 5, 1), (502, .iadd, 1), (503, .iaload, 1), (504, .invokevirtual 48, 3), (507, .pop, 1), (508, .goto 1481, 3)]
theorem k_ld8 : k_walk code k_lr8 482 (code.data.toList.drop 482) = true := by decide +kernel
def k_lr9 : List cRow := [(511, .aload_n 1, 1), (512, .aload_n 0, 1), (513, .iload_n 3, 1), (514, .iconst 1, 1), (515, .iadd, 1), (516, .iaload, 1), (517, .aload_n 0, 1), (518, .iload_n 3, 1), (519, .iconst 2, 1), (520, .iadd, 1), (521, .iaload, 1), (522, .aload_n 0, 1), (523, .iload_n 3, 1), (524, .iconst 3, 1), (525, .iadd, 1), (526, .iaload, 1), (527, .aload_n 0, 1), (528, .iload_n 3, 1), (529, .iconst 4, 1), (530, .iadd, 1), (531, .iaload, 1), (532, .aload_n 0, 1), (533, .iload_n 3, 1), (534, .iconst 5, 1), (535, .iadd, 1)]
theorem k_ld9 : k_walk code k_lr9 511 (code.data.toList.drop 511) = true := by decide +kernel
def k_lr10 : List cRow := [(536, .iaload, 1), (537, .invokevirtual 49, 3), (540, .pop, 1), (541, .aload_n 2, 1), (542, .aload_n 0, 1), (543, .iload_n 3, 1), (544, .iconst 1, 1), (545, .iadd, 1), (546, .iaload, 1), (547, .aload_n 0, 1), (548, .iload_n 3, 1), (549, .iconst 2, 1), (550, .iadd, 1), (551, .iaload, 1), (552, .aload_n 0, 1), (553, .iload_n 3, 1), (554, .iconst 3, 1), (555, .iadd, 1), (556, .iaload, 1), (557, .aload_n 0, 1), (558, .iload_n 3, 1), (559, .iconst 4, 1), (560, .iadd, 1), (561, .iaload, 1), (562, .aload_n 0, 1)]
theorem k_ld10 : k_walk code k_lr10 536 (code.data.toList.drop 536) = true := by decide +kernel
def k_lr11 : List cRow := [(563, .iload_n 3, 1), (564, .iconst 5, 1), (565, .iadd, 1), (566, .iaload, 1), (567, .invokevirtual 53, 3), (570, .pop, 1), (571, .goto 1418, 3), (574, .aload_n 1, 1), (575, .aload_n 0, 1), (576, .iload_n 3, 1), (577, .iconst 1, 1), (578, .iadd, 1), (579, .iaload, 1), (580, .invokevirtual 54, 3), (583, .aload_n 2, 1), (584, .aload_n 0, 1), (585, .iload_n 3, 1), (586, .iconst 1, 1), (587, .iadd, 1), (588, .iaload, 1), (589, .invokevirtual 58, 3), (592, .if_icmp .eq 1397, 3), (595, .iconst 0, 1), (596, .ireturn, 1), (597, .aload_n 1, 1)]
theorem k_ld11 : k_walk code k_lr11 563 (code.data.toList.drop 563) = true := by decide +kernel
def k_lr12 : List cRow := [(598, .aload_n 0, 1), (599, .iload_n 3, 1), (600, .iconst 1, 1), (601, .iadd, 1), (602, .iaload, 1), (603, .invokevirtual 59, 3), (606, .pop, 1), (607, .aload_n 2, 1), (608, .aload_n 0, 1), (609, .iload_n 3, 1), (610, .iconst 1, 1), (611, .iadd, 1), (612, .iaload, 1), (613, .invokevirtual 62, 3), (616, .pop, 1), (617, .goto 1372, 3), (620, .aload_n 1, 1), (621, .aload_n 0, 1), (622, .iload_n 3, 1), (623, .iconst 1, 1), (624, .iadd, 1), (625, .iaload, 1), (626, .invokevirtual 63, 3), (629, .pop, 1), (630, .aload_n 2, 1)]
theorem k_ld12 : k_walk code k_lr12 598 (code.data.toList.drop 598) = true := by decide +kernel
def k_lr13 : List cRow := [(631, .aload_n 0, 1), (632, .iload_n 3, 1), (633, .iconst 1, 1), (634, .iadd, 1), (635, .iaload, 1), (636, .invokevirtual 66, 3), (639, .pop, 1), (640, .goto 1349, 3), (643, .aload_n 1, 1), (644, .aload_n 0, 1), (645, .iload_n 3, 1), (646, .iconst 1, 1), (647, .iadd, 1), (648, .iaload, 1), (649, .aload_n 0, 1), (650, .iload_n 3, 1), (651, .iconst 2, 1), (652, .iadd, 1), (653, .iaload, 1), (654, .invokevirtual 67, 3), (657, .pop, 1), (658, .aload_n 2, 1), (659, .aload_n 0, 1), (660, .iload_n 3, 1), (661, .iconst 1, 1)]
theorem k_ld13 : k_walk code k_lr13 631 (code.data.toList.drop 631) = true := by decide +kernel
def k_lr14 : List cRow := [(662, .iadd, 1), (663, .iaload, 1), (664, .aload_n 0, 1), (665, .iload_n 3, 1), (666, .iconst 2, 1), (667, .iadd, 1), (668, .iaload, 1), (669, .invokevirtual 71, 3), (672, .pop, 1), (673, .goto 1316, 3), (676, .aload_n 1, 1), (677, .aload_n 0, 1), (678, .iload_n 3, 1), (679, .iconst 1, 1), (680, .iadd, 1), (681, .iaload, 1), (682, .aload_n 0, 1), (683, .iload_n 3, 1), (684, .iconst 2, 1), (685, .iadd, 1), (686, .iaload, 1), (687, .aload_n 0, 1), (688, .iload_n 3, 1), (689, .iconst 3, 1), (690, .iadd, 1)]
theorem k_ld14 : k_walk code k_lr14 662 (code.data.toList.drop 662) = true := by decide +kernel
def k_lr15 : List cRow := [(691, .iaload, 1), (692, .aload_n 0, 1), (693, .iload_n 3, 1), (694, .iconst 4, 1), (695, .iadd, 1), (696, .iaload, 1), (697, .aload_n 0, 1), (698, .iload_n 3, 1), (699, .iconst 5, 1), (700, .iadd, 1), (701, .iaload, 1), (702, .aload_n 0, 1), (703, .iload_n 3, 1), (704, .bipush 6, 2), (706, .iadd, 1), (707, .iaload, 1), (708, .invokevirtual 72, 3), (711, .pop, 1), (712, .aload_n 2, 1), (713, .aload_n 0, 1), (714, .iload_n 3, 1), (715, .iconst 1, 1), (716, .iadd, 1), (717, .iaload, 1), (718, .aload_n 0, 1)]
theorem k_ld15 : k_walk code k_lr15 691 (code.data.toList.drop 691) = true := by decide +kernel
def k_lr16 : List cRow := [(719, .iload_n 3, 1), (720, .iconst 2, 1), (721, .iadd, 1), (722, .iaload, 1), (723, .aload_n 0, 1), (724, .iload_n 3, 1), (725, .iconst 3, 1), (726, .iadd, 1), (727, .iaload, 1), (728, .aload_n 0, 1), (729, .iload_n 3, 1), (730, .iconst 4, 1), (731, .iadd, 1), (732, .iaload, 1), (733, .aload_n 0, 1), (734, .iload_n 3, 1), (735, .iconst 5, 1), (736, .iadd, 1), (737, .iaload, 1), (738, .aload_n 0, 1), (739, .iload_n 3, 1), (740, .bipush 6, 2), (742, .iadd, 1), (743, .iaload, 1), (744, .invokevirtual 76, 3)]
theorem k_ld16 : k_walk code k_lr16 719 (code.data.toList.drop 719) = true := by decide +kernel
def k_lr17 : List cRow := [(747, .pop, 1), (748, .goto 1241, 3), (751, .aload_n 1, 1), (752, .aload_n 0, 1), (753, .iload_n 3, 1), (754, .iconst 1, 1), (755, .iadd, 1), (756, .iaload, 1), (757, .invokevirtual 77, 3), (760, .pop, 1), (761, .aload_n 2, 1), (762, .aload_n 0, 1), (763, .iload_n 3, 1), (764, .iconst 1, 1), (765, .iadd, 1), (766, .iaload, 1), (767, .invokevirtual 80, 3), (770, .pop, 1), (771, .goto 1218, 3), (774, .aload_n 1, 1), (775, .aload_n 0, 1), (776, .iload_n 3, 1), (777, .iconst 1, 1), (778, .iadd, 1), (779, .iaload, 1)]
theorem k_ld17 : k_walk code k_lr17 747 (code.data.toList.drop 747) = true := by decide +kernel
def k_lr18 : List cRow := [(780, .aload_n 0, 1), (781, .iload_n 3, 1), (782, .iconst 2, 1), (783, .iadd, 1), (784, .iaload, 1), (785, .invokevirtual 81, 3), (788, .pop, 1), (789, .aload_n 2, 1), (790, .aload_n 0, 1), (791, .iload_n 3, 1), (792, .iconst 1, 1), (793, .iadd, 1), (794, .iaload, 1), (795, .aload_n 0, 1), (796, .iload_n 3, 1), (797, .iconst 2, 1), (798, .iadd, 1), (799, .iaload, 1), (800, .invokevirtual 84, 3), (803, .pop, 1), (804, .goto 1185, 3), (807, .aload_n 1, 1), (808, .aload_n 0, 1), (809, .iload_n 3, 1), (810, .iconst 1, 1)]
theorem k_ld18 : k_walk code k_lr18 780 (code.data.toList.drop 780) = true := by decide +kernel
def k_lr19 : List cRow := [(811, .iadd, 1), (812, .iaload, 1), (813, .aload_n 0, 1), (814, .iload_n 3, 1), (815, .iconst 2, 1), (816, .iadd, 1), (817, .iaload, 1), (818, .ifCond .eq 7, 3), (821, .iconst 1, 1), (822, .goto 4, 3), (825, .iconst 0, 1), (826, .aload_n 0, 1), (827, .iload_n 3, 1), (828, .iconst 3, 1), (829, .iadd, 1), (830, .iaload, 1), (831, .invokevirtual 85, 3), (834, .pop, 1), (835, .aload_n 2, 1), (836, .aload_n 0, 1), (837, .iload_n 3, 1), (838, .iconst 1, 1), (839, .iadd, 1), (840, .iaload, 1), (841, .aload_n 0, 1)]
theorem k_ld19 : k_walk code k_lr19 811 (code.data.toList.drop 811) = true := by decide +kernel
def k_lr20 : List cRow := [(842, .iload_n 3, 1), (843, .iconst 2, 1), (844, .iadd, 1), (845, .iaload, 1), (846, .ifCond .eq 7, 3), (849, .iconst 1, 1), (850, .goto 4, 3), (853, .iconst 0, 1), (854, .aload_n 0, 1), (855, .iload_n 3, 1), (856, .iconst 3, 1), (857, .iadd, 1), (858, .iaload, 1), (859, .invokevirtual 89, 3), (862, .pop, 1), (863, .goto 1126, 3), (866, .aload_n 1, 1), (867, .aload_n 0, 1), (868, .iload_n 3, 1), (869, .iconst 1, 1), (870, .iadd, 1), (871, .iaload, 1), (872, .invokevirtual 90, 3), (875, .pop, 1), (876, .aload_n 2, 1)]
theorem k_ld20 : k_walk code k_lr20 842 (code.data.toList.drop 842) = true := by decide +kernel
def k_lr21 : List cRow := [(877, .aload_n 0, 1), (878, .iload_n 3, 1), (879, .iconst 1, 1), (880, .iadd, 1), (881, .iaload, 1), (882, .invokevirtual 94, 3), (885, .pop, 1), (886, .goto 1103, 3), (889, .aload_n 1, 1), (890, .aload_n 0, 1), (891, .iload_n 3, 1), (892, .iconst 1, 1), (893, .iadd, 1), (894, .iaload, 1), (895, .aload_n 0, 1), (896, .iload_n 3, 1), (897, .iconst 2, 1), (898, .iadd, 1), (899, .iaload, 1), (900, .invokevirtual 95, 3), (903, .pop, 1), (904, .aload_n 2, 1), (905, .aload_n 0, 1), (906, .iload_n 3, 1), (907, .iconst 1, 1)]
theorem k_ld21 : k_walk code k_lr21 877 (code.data.toList.drop 877) = true := by decide +kernel
def k_lr22 : List cRow := [(908, .iadd, 1), (909, .iaload, 1), (910, .aload_n 0, 1), (911, .iload_n 3, 1), (912, .iconst 2, 1), (913, .iadd, 1), (914, .iaload, 1), (915, .invokevirtual 99, 3), (918, .pop, 1), (919, .goto 1070, 3), (922, .aload_n 1, 1), (923, .aload_n 0, 1), (924, .iload_n 3, 1), (925, .iconst 1, 1), (926, .iadd, 1), (927, .iaload, 1), (928, .aload_n 0, 1), (929, .iload_n 3, 1), (930, .iconst 2, 1), (931, .iadd, 1), (932, .iaload, 1), (933, .aload_n 0, 1), (934, .iload_n 3, 1), (935, .iconst 3, 1), (936, .iadd, 1)]
theorem k_ld22 : k_walk code k_lr22 908 (code.data.toList.drop 908) = true := by decide +kernel
def k_lr23 : List cRow := [(937, .iaload, 1), (938, .aload_n 0, 1), (939, .iload_n 3, 1), (940, .iconst 4, 1), (941, .iadd, 1), (942, .iaload, 1), (943, .invokevirtual 100, 3), (946, .pop, 1), (947, .aload_n 2, 1), (948, .aload_n 0, 1), (949, .iload_n 3, 1), (950, .iconst 1, 1), (951, .iadd, 1), (952, .iaload, 1), (953, .aload_n 0, 1), (954, .iload_n 3, 1), (955, .iconst 2, 1), (956, .iadd, 1), (957, .iaload, 1), (958, .aload_n 0, 1), (959, .iload_n 3, 1), (960, .iconst 3, 1), (961, .iadd, 1), (962, .iaload, 1), (963, .aload_n 0, 1)]
theorem k_ld23 : k_walk code k_lr23 937 (code.data.toList.drop 937) = true := by decide +kernel
def k_lr24 : List cRow := [(964, .iload_n 3, 1), (965, .iconst 4, 1), (966, .iadd, 1), (967, .iaload, 1), (968, .invokevirtual 104, 3), (971, .pop, 1), (972, .goto 1017, 3), (975, .aload_n 1, 1), (976, .aload_n 0, 1), (977, .iload_n 3, 1), (978, .iconst 1, 1), (979, .iadd, 1), (980, .iaload, 1), (981, .ifCond .eq 7, 3), (984, .iconst 1, 1), (985, .goto 4, 3), (988, .iconst 0, 1), (989, .invokevirtual 105, 3), (992, .pop, 1), (993, .aload_n 2, 1), (994, .aload_n 0, 1), (995, .iload_n 3, 1), (996, .iconst 1, 1), (997, .iadd, 1), (998, .iaload, 1)]
theorem k_ld24 : k_walk code k_lr24 964 (code.data.toList.drop 964) = true := by decide +kernel
def k_lr25 : List cRow := [(999, .ifCond .eq 7, 3), (1002, .iconst 1, 1), (1003, .goto 4, 3), (1006, .iconst 0, 1), (1007, .invokevirtual 109, 3), (1010, .pop, 1), (1011, .goto 978, 3), (1014, .aload_n 1, 1), (1015, .aload_n 0, 1), (1016, .iload_n 3, 1), (1017, .iconst 1, 1), (1018, .iadd, 1), (1019, .iaload, 1), (1020, .invokevirtual 110, 3), (1023, .pop, 1), (1024, .aload_n 2, 1), (1025, .aload_n 0, 1), (1026, .iload_n 3, 1), (1027, .iconst 1, 1), (1028, .iadd, 1), (1029, .iaload, 1), (1030, .invokevirtual 113, 3), (1033, .pop, 1), (1034, .goto 955, 3), (1037, .aload_n 1, 1)]
theorem k_ld25 : k_walk code k_lr25 999 (code.data.toList.drop 999) = true := by decide +kernel
def k_lr26 : List cRow := [(1038, .aload_n 0, 1), (1039, .iload_n 3, 1), (1040, .iconst 1, 1), (1041, .iadd, 1), (1042, .iaload, 1), (1043, .aload_n 0, 1), (1044, .iload_n 3, 1), (1045, .iconst 2, 1), (1046, .iadd, 1), (1047, .iaload, 1), (1048, .aload_n 0, 1), (1049, .iload_n 3, 1), (1050, .iconst 3, 1), (1051, .iadd, 1), (1052, .iaload, 1), (1053, .invokevirtual 114, 3), (1056, .pop, 1), (1057, .aload_n 2, 1), (1058, .aload_n 0, 1), (1059, .iload_n 3, 1), (1060, .iconst 1, 1), (1061, .iadd, 1), (1062, .iaload, 1), (1063, .aload_n 0, 1), (1064, .iload_n 3, 1)]
theorem k_ld26 : k_walk code k_lr26 1038 (code.data.toList.drop 1038) = true := by decide +kernel
def k_lr27 : List cRow := [(1065, .iconst 2, 1), (1066, .iadd, 1), (1067, .iaload, 1), (1068, .aload_n 0, 1), (1069, .iload_n 3, 1), (1070, .iconst 3, 1), (1071, .iadd, 1), (1072, .iaload, 1), (1073, .invokevirtual 118, 3), (1076, .pop, 1), (1077, .goto 912, 3), (1080, .aload_n 1, 1), (1081, .aload_n 0, 1), (1082, .iload_n 3, 1), (1083, .iconst 1, 1), (1084, .iadd, 1), (1085, .iaload, 1), (1086, .aload_n 0, 1), (1087, .iload_n 3, 1), (1088, .iconst 2, 1), (1089, .iadd, 1), (1090, .iaload, 1), (1091, .aload_n 0, 1), (1092, .iload_n 3, 1), (1093, .iconst 3, 1)]
theorem k_ld27 : k_walk code k_lr27 1065 (code.data.toList.drop 1065) = true := by decide +kernel
def k_lr28 : List cRow := [(1094, .iadd, 1), (1095, .iaload, 1), (1096, .invokevirtual 119, 3), (1099, .pop, 1), (1100, .aload_n 2, 1), (1101, .aload_n 0, 1), (1102, .iload_n 3, 1), (1103, .iconst 1, 1), (1104, .iadd, 1), (1105, .iaload, 1), (1106, .aload_n 0, 1), (1107, .iload_n 3, 1), (1108, .iconst 2, 1), (1109, .iadd, 1), (1110, .iaload, 1), (1111, .aload_n 0, 1), (1112, .iload_n 3, 1), (1113, .iconst 3, 1), (1114, .iadd, 1), (1115, .iaload, 1), (1116, .invokevirtual 122, 3), (1119, .pop, 1), (1120, .goto 869, 3), (1123, .aload_n 1, 1), (1124, .aload_n 0, 1)]
theorem k_ld28 : k_walk code k_lr28 1094 (code.data.toList.drop 1094) = true := by decide +kernel
def k_lr29 : List cRow := [(1125, .iload_n 3, 1), (1126, .iconst 1, 1), (1127, .iadd, 1), (1128, .iaload, 1), (1129, .invokevirtual 123, 3), (1132, .pop, 1), (1133, .aload_n 2, 1), (1134, .aload_n 0, 1), (1135, .iload_n 3, 1), (1136, .iconst 1, 1), (1137, .iadd, 1), (1138, .iaload, 1), (1139, .invokevirtual 126, 3), (1142, .pop, 1), (1143, .goto 846, 3), (1146, .aload_n 1, 1), (1147, .aload_n 0, 1), (1148, .iload_n 3, 1), (1149, .iconst 1, 1), (1150, .iadd, 1), (1151, .iaload, 1), (1152, .invokevirtual 127, 3), (1155, .pop, 1), (1156, .aload_n 2, 1), (1157, .aload_n 0, 1)]
theorem k_ld29 : k_walk code k_lr29 1125 (code.data.toList.drop 1125) = true := by decide +kernel
def k_lr30 : List cRow := [(1158, .iload_n 3, 1), (1159, .iconst 1, 1), (1160, .iadd, 1), (1161, .iaload, 1), (1162, .invokevirtual 130, 3), (1165, .pop, 1), (1166, .goto 823, 3), (1169, .aload_n 1, 1), (1170, .aload_n 0, 1), (1171, .iload_n 3, 1), (1172, .iconst 1, 1), (1173, .iadd, 1), (1174, .iaload, 1), (1175, .invokevirtual 131, 3), (1178, .pop, 1), (1179, .aload_n 2, 1), (1180, .aload_n 0, 1), (1181, .iload_n 3, 1), (1182, .iconst 1, 1), (1183, .iadd, 1), (1184, .iaload, 1), (1185, .invokevirtual 134, 3), (1188, .pop, 1), (1189, .goto 800, 3), (1192, .aload_n 1, 1)]
theorem k_ld30 : k_walk code k_lr30 1158 (code.data.toList.drop 1158) = true := by decide +kernel
def k_lr31 : List cRow := [(1193, .aload_n 0, 1), (1194, .iload_n 3, 1), (1195, .iconst 1, 1), (1196, .iadd, 1), (1197, .iaload, 1), (1198, .aload_n 0, 1), (1199, .iload_n 3, 1), (1200, .iconst 2, 1), (1201, .iadd, 1), (1202, .iaload, 1), (1203, .invokevirtual 135, 3), (1206, .pop2, 1), (1207, .aload_n 2, 1), (1208, .aload_n 0, 1), (1209, .iload_n 3, 1), (1210, .iconst 1, 1), (1211, .iadd, 1), (1212, .iaload, 1), (1213, .aload_n 0, 1), (1214, .iload_n 3, 1), (1215, .iconst 2, 1), (1216, .iadd, 1), (1217, .iaload, 1), (1218, .invokevirtual 138, 3), (1221, .pop2, 1)]
theorem k_ld31 : k_walk code k_lr31 1193 (code.data.toList.drop 1193) = true := by decide +kernel
def k_lr32 : List cRow := [(1222, .goto 767, 3), (1225, .aload_n 1, 1), (1226, .aload_n 0, 1), (1227, .iload_n 3, 1), (1228, .iconst 1, 1), (1229, .iadd, 1), (1230, .iaload, 1), (1231, .invokevirtual 139, 3), (1234, .pop, 1), (1235, .aload_n 2, 1), (1236, .aload_n 0, 1), (1237, .iload_n 3, 1), (1238, .iconst 1, 1), (1239, .iadd, 1), (1240, .iaload, 1), (1241, .invokevirtual 142, 3), (1244, .pop, 1), (1245, .goto 744, 3), (1248, .aload_n 1, 1), (1249, .aload_n 0, 1), (1250, .iload_n 3, 1), (1251, .iconst 1, 1), (1252, .iadd, 1), (1253, .iaload, 1), (1254, .invokevirtual 143, 3)]
theorem k_ld32 : k_walk code k_lr32 1222 (code.data.toList.drop 1222) = true := by decide +kernel
def k_lr33 : List cRow := [(1257, .pop, 1), (1258, .aload_n 2, 1), (1259, .aload_n 0, 1), (1260, .iload_n 3, 1), (1261, .iconst 1, 1), (1262, .iadd, 1), (1263, .iaload, 1), (1264, .invokevirtual 146, 3), (1267, .pop, 1), (1268, .goto 721, 3), (1271, .aload_n 1, 1), (1272, .aload_n 0, 1), (1273, .iload_n 3, 1), (1274, .iconst 1, 1), (1275, .iadd, 1), (1276, .iaload, 1), (1277, .aload_n 0, 1), (1278, .iload_n 3, 1), (1279, .iconst 2, 1), (1280, .iadd, 1), (1281, .iaload, 1), (1282, .aload_n 0, 1), (1283, .iload_n 3, 1), (1284, .iconst 3, 1), (1285, .iadd, 1)]
theorem k_ld33 : k_walk code k_lr33 1257 (code.data.toList.drop 1257) = true := by decide +kernel
def k_lr34 : List cRow := [(1286, .iaload, 1), (1287, .invokevirtual 147, 3), (1290, .pop, 1), (1291, .aload_n 2, 1), (1292, .aload_n 0, 1), (1293, .iload_n 3, 1), (1294, .iconst 1, 1), (1295, .iadd, 1), (1296, .iaload, 1), (1297, .aload_n 0, 1), (1298, .iload_n 3, 1), (1299, .iconst 2, 1), (1300, .iadd, 1), (1301, .iaload, 1), (1302, .aload_n 0, 1), (1303, .iload_n 3, 1), (1304, .iconst 3, 1), (1305, .iadd, 1), (1306, .iaload, 1), (1307, .invokevirtual 150, 3), (1310, .pop, 1), (1311, .goto 678, 3), (1314, .aload_n 1, 1), (1315, .aload_n 0, 1), (1316, .iload_n 3, 1)]
theorem k_ld34 : k_walk code k_lr34 1286 (code.data.toList.drop 1286) = true := by decide +kernel
def k_lr35 : List cRow := [(1317, .iconst 1, 1), (1318, .iadd, 1), (1319, .iaload, 1), (1320, .aload_n 0, 1), (1321, .iload_n 3, 1), (1322, .iconst 2, 1), (1323, .iadd, 1), (1324, .iaload, 1), (1325, .invokevirtual 151, 3), (1328, .pop, 1), (1329, .aload_n 2, 1), (1330, .aload_n 0, 1), (1331, .iload_n 3, 1), (1332, .iconst 1, 1), (1333, .iadd, 1), (1334, .iaload, 1), (1335, .aload_n 0, 1), (1336, .iload_n 3, 1), (1337, .iconst 2, 1), (1338, .iadd, 1), (1339, .iaload, 1), (1340, .invokevirtual 154, 3), (1343, .pop, 1), (1344, .goto 645, 3), (1347, .aload_n 1, 1)]
theorem k_ld35 : k_walk code k_lr35 1317 (code.data.toList.drop 1317) = true := by decide +kernel
def k_lr36 : List cRow := [(1348, .aload_n 0, 1), (1349, .iload_n 3, 1), (1350, .iconst 1, 1), (1351, .iadd, 1), (1352, .iaload, 1), (1353, .invokevirtual 155, 3), (1356, .pop, 1), (1357, .aload_n 2, 1), (1358, .aload_n 0, 1), (1359, .iload_n 3, 1), (1360, .iconst 1, 1), (1361, .iadd, 1), (1362, .iaload, 1), (1363, .invokevirtual 158, 3), (1366, .pop, 1), (1367, .goto 622, 3), (1370, .aload_n 1, 1), (1371, .aload_n 0, 1), (1372, .iload_n 3, 1), (1373, .iconst 1, 1), (1374, .iadd, 1), (1375, .iaload, 1), (1376, .aload_n 0, 1), (1377, .iload_n 3, 1), (1378, .iconst 2, 1)]
theorem k_ld36 : k_walk code k_lr36 1348 (code.data.toList.drop 1348) = true := by decide +kernel
def k_lr37 : List cRow := [(1379, .iadd, 1), (1380, .iaload, 1), (1381, .aload_n 0, 1), (1382, .iload_n 3, 1), (1383, .iconst 3, 1), (1384, .iadd, 1), (1385, .iaload, 1), (1386, .aload_n 0, 1), (1387, .iload_n 3, 1), (1388, .iconst 4, 1), (1389, .iadd, 1), (1390, .iaload, 1), (1391, .aload_n 0, 1), (1392, .iload_n 3, 1), (1393, .iconst 5, 1), (1394, .iadd, 1), (1395, .iaload, 1), (1396, .ifCond .eq 7, 3), (1399, .iconst 1, 1), (1400, .goto 4, 3), (1403, .iconst 0, 1), (1404, .invokevirtual 159, 3), (1407, .pop, 1), (1408, .aload_n 2, 1), (1409, .aload_n 0, 1)]
theorem k_ld37 : k_walk code k_lr37 1379 (code.data.toList.drop 1379) = true := by decide +kernel
def k_lr38 : List cRow := [(1410, .iload_n 3, 1), (1411, .iconst 1, 1), (1412, .iadd, 1), (1413, .iaload, 1), (1414, .aload_n 0, 1), (1415, .iload_n 3, 1), (1416, .iconst 2, 1), (1417, .iadd, 1), (1418, .iaload, 1), (1419, .aload_n 0, 1), (1420, .iload_n 3, 1), (1421, .iconst 3, 1), (1422, .iadd, 1), (1423, .iaload, 1), (1424, .aload_n 0, 1), (1425, .iload_n 3, 1), (1426, .iconst 4, 1), (1427, .iadd, 1), (1428, .iaload, 1), (1429, .aload_n 0, 1), (1430, .iload_n 3, 1), (1431, .iconst 5, 1), (1432, .iadd, 1), (1433, .iaload, 1), (1434, .ifCond .eq 7, 3)]
theorem k_ld38 : k_walk code k_lr38 1410 (code.data.toList.drop 1410) = true := by decide +kernel
def k_lr39 : List cRow := [(1437, .iconst 1, 1), (1438, .goto 4, 3), (1441, .iconst 0, 1), (1442, .invokevirtual 163, 3), (1445, .pop, 1), (1446, .goto 543, 3), (1449, .aload_n 1, 1), (1450, .invokevirtual 164, 3), (1453, .pop, 1), (1454, .aload_n 2, 1), (1455, .invokevirtual 168, 3), (1458, .pop, 1), (1459, .goto 530, 3), (1462, .aload_n 1, 1), (1463, .aload_n 0, 1), (1464, .iload_n 3, 1), (1465, .iconst 1, 1), (1466, .iadd, 1), (1467, .iaload, 1), (1468, .aload_n 0, 1), (1469, .iload_n 3, 1), (1470, .iconst 2, 1), (1471, .iadd, 1), (1472, .iaload, 1), (1473, .invokevirtual 169, 3)]
theorem k_ld39 : k_walk code k_lr39 1437 (code.data.toList.drop 1437) = true := by decide +kernel
def k_lr40 : List cRow := [(1476, .pop, 1), (1477, .aload_n 2, 1), (1478, .aload_n 0, 1), (1479, .iload_n 3, 1), (1480, .iconst 1, 1), (1481, .iadd, 1), (1482, .iaload, 1), (1483, .aload_n 0, 1), (1484, .iload_n 3, 1), (1485, .iconst 2, 1), (1486, .iadd, 1), (1487, .iaload, 1), (1488, .invokevirtual 172, 3), (1491, .pop, 1), (1492, .goto 497, 3), (1495, .aload_n 1, 1), (1496, .aload_n 0, 1), (1497, .iload_n 3, 1), (1498, .iconst 1, 1), (1499, .iadd, 1), (1500, .iaload, 1), (1501, .aload_n 0, 1), (1502, .iload_n 3, 1), (1503, .iconst 2, 1), (1504, .iadd, 1)]
theorem k_ld40 : k_walk code k_lr40 1476 (code.data.toList.drop 1476) = true := by decide +kernel
def k_lr41 : List cRow := [(1505, .iaload, 1), (1506, .invokevirtual 173, 3), (1509, .pop, 1), (1510, .aload_n 2, 1), (1511, .aload_n 0, 1), (1512, .iload_n 3, 1), (1513, .iconst 1, 1), (1514, .iadd, 1), (1515, .iaload, 1), (1516, .aload_n 0, 1), (1517, .iload_n 3, 1), (1518, .iconst 2, 1), (1519, .iadd, 1), (1520, .iaload, 1), (1521, .invokevirtual 176, 3), (1524, .pop, 1), (1525, .goto 464, 3), (1528, .aload_n 1, 1), (1529, .aload_n 0, 1), (1530, .iload_n 3, 1), (1531, .iconst 1, 1), (1532, .iadd, 1), (1533, .iaload, 1), (1534, .invokevirtual 177, 3), (1537, .pop, 1)]
theorem k_ld41 : k_walk code k_lr41 1505 (code.data.toList.drop 1505) = true := by decide +kernel
def k_lr42 : List cRow := [(1538, .aload_n 2, 1), (1539, .aload_n 0, 1), (1540, .iload_n 3, 1), (1541, .iconst 1, 1), (1542, .iadd, 1), (1543, .iaload, 1), (1544, .invokevirtual 180, 3), (1547, .pop, 1), (1548, .goto 441, 3), (1551, .aload_n 1, 1), (1552, .aload_n 0, 1), (1553, .iload_n 3, 1), (1554, .iconst 1, 1), (1555, .iadd, 1), (1556, .iaload, 1), (1557, .invokevirtual 181, 3), (1560, .pop, 1), (1561, .aload_n 2, 1), (1562, .aload_n 0, 1), (1563, .iload_n 3, 1), (1564, .iconst 1, 1), (1565, .iadd, 1), (1566, .iaload, 1), (1567, .invokevirtual 184, 3), (1570, .pop, 1)]
theorem k_ld42 : k_walk code k_lr42 1538 (code.data.toList.drop 1538) = true := by decide +kernel
def k_lr43 : List cRow := [(1571, .goto 418, 3), (1574, .aload_n 1, 1), (1575, .aload_n 0, 1), (1576, .iload_n 3, 1), (1577, .iconst 1, 1), (1578, .iadd, 1), (1579, .iaload, 1), (1580, .invokevirtual 185, 3), (1583, .pop, 1), (1584, .aload_n 2, 1), (1585, .aload_n 0, 1), (1586, .iload_n 3, 1), (1587, .iconst 1, 1), (1588, .iadd, 1), (1589, .iaload, 1), (1590, .invokevirtual 188, 3), (1593, .pop, 1), (1594, .goto 395, 3), (1597, .aload_n 1, 1), (1598, .aload_n 0, 1), (1599, .iload_n 3, 1), (1600, .iconst 1, 1), (1601, .iadd, 1), (1602, .iaload, 1), (1603, .invokevirtual 189, 3)]
theorem k_ld43 : k_walk code k_lr43 1571 (code.data.toList.drop 1571) = true := by decide +kernel
def k_lr44 : List cRow := [(1606, .pop, 1), (1607, .aload_n 2, 1), (1608, .aload_n 0, 1), (1609, .iload_n 3, 1), (1610, .iconst 1, 1), (1611, .iadd, 1), (1612, .iaload, 1), (1613, .invokevirtual 192, 3), (1616, .pop, 1), (1617, .goto 372, 3), (1620, .aload_n 1, 1), (1621, .aload_n 0, 1), (1622, .iload_n 3, 1), (1623, .iconst 1, 1), (1624, .iadd, 1), (1625, .iaload, 1), (1626, .invokevirtual 193, 3), (1629, .pop, 1), (1630, .aload_n 2, 1), (1631, .aload_n 0, 1), (1632, .iload_n 3, 1), (1633, .iconst 1, 1), (1634, .iadd, 1), (1635, .iaload, 1), (1636, .invokevirtual 196, 3)]
theorem k_ld44 : k_walk code k_lr44 1606 (code.data.toList.drop 1606) = true := by decide +kernel
def k_lr45 : List cRow := [(1639, .pop, 1), (1640, .goto 349, 3), (1643, .aload_n 1, 1), (1644, .aload_n 0, 1), (1645, .iload_n 3, 1), (1646, .iconst 1, 1), (1647, .iadd, 1), (1648, .iaload, 1), (1649, .aload_n 0, 1), (1650, .iload_n 3, 1), (1651, .iconst 2, 1), (1652, .iadd, 1), (1653, .iaload, 1), (1654, .invokevirtual 197, 3), (1657, .pop, 1), (1658, .aload_n 2, 1), (1659, .aload_n 0, 1), (1660, .iload_n 3, 1), (1661, .iconst 1, 1), (1662, .iadd, 1), (1663, .iaload, 1), (1664, .aload_n 0, 1), (1665, .iload_n 3, 1), (1666, .iconst 2, 1), (1667, .iadd, 1)]
theorem k_ld45 : k_walk code k_lr45 1639 (code.data.toList.drop 1639) = true := by decide +kernel
def k_lr46 : List cRow := [(1668, .iaload, 1), (1669, .invokevirtual 200, 3), (1672, .pop, 1), (1673, .goto 316, 3), (1676, .aload_n 1, 1), (1677, .aload_n 0, 1), (1678, .iload_n 3, 1), (1679, .iconst 1, 1), (1680, .iadd, 1), (1681, .iaload, 1), (1682, .aload_n 0, 1), (1683, .iload_n 3, 1), (1684, .iconst 2, 1), (1685, .iadd, 1), (1686, .iaload, 1), (1687, .aload_n 0, 1), (1688, .iload_n 3, 1), (1689, .iconst 3, 1), (1690, .iadd, 1), (1691, .iaload, 1), (1692, .aload_n 0, 1), (1693, .iload_n 3, 1), (1694, .iconst 4, 1), (1695, .iadd, 1), (1696, .iaload, 1)]
theorem k_ld46 : k_walk code k_lr46 1668 (code.data.toList.drop 1668) = true := by decide +kernel
def k_lr47 : List cRow := [(1697, .aload_n 0, 1), (1698, .iload_n 3, 1), (1699, .iconst 5, 1), (1700, .iadd, 1), (1701, .iaload, 1), (1702, .invokevirtual 201, 3), (1705, .pop, 1), (1706, .aload_n 2, 1), (1707, .aload_n 0, 1), (1708, .iload_n 3, 1), (1709, .iconst 1, 1), (1710, .iadd, 1), (1711, .iaload, 1), (1712, .aload_n 0, 1), (1713, .iload_n 3, 1), (1714, .iconst 2, 1), (1715, .iadd, 1), (1716, .iaload, 1), (1717, .aload_n 0, 1), (1718, .iload_n 3, 1), (1719, .iconst 3, 1), (1720, .iadd, 1), (1721, .iaload, 1), (1722, .aload_n 0, 1), (1723, .iload_n 3, 1)]
theorem k_ld47 : k_walk code k_lr47 1697 (code.data.toList.drop 1697) = true := by decide +kernel
def k_lr48 : List cRow := [(1724, .iconst 4, 1), (1725, .iadd, 1), (1726, .iaload, 1), (1727, .aload_n 0, 1), (1728, .iload_n 3, 1), (1729, .iconst 5, 1), (1730, .iadd, 1), (1731, .iaload, 1), (1732, .invokevirtual 204, 3), (1735, .pop, 1), (1736, .goto 253, 3), (1739, .aload_n 1, 1), (1740, .aload_n 0, 1), (1741, .iload_n 3, 1), (1742, .iconst 1, 1), (1743, .iadd, 1), (1744, .iaload, 1), (1745, .aload_n 0, 1), (1746, .iload_n 3, 1), (1747, .iconst 2, 1), (1748, .iadd, 1), (1749, .iaload, 1), (1750, .aload_n 0, 1), (1751, .iload_n 3, 1), (1752, .iconst 3, 1)]
theorem k_ld48 : k_walk code k_lr48 1724 (code.data.toList.drop 1724) = true := by decide +kernel
def k_lr49 : List cRow := [(1753, .iadd, 1), (1754, .iaload, 1), (1755, .aload_n 0, 1), (1756, .iload_n 3, 1), (1757, .iconst 4, 1), (1758, .iadd, 1), (1759, .iaload, 1), (1760, .aload_n 0, 1), (1761, .iload_n 3, 1), (1762, .iconst 5, 1), (1763, .iadd, 1), (1764, .iaload, 1), (1765, .invokevirtual 205, 3), (1768, .pop, 1), (1769, .aload_n 2, 1), (1770, .aload_n 0, 1), (1771, .iload_n 3, 1), (1772, .iconst 1, 1), (1773, .iadd, 1), (1774, .iaload, 1), (1775, .aload_n 0, 1), (1776, .iload_n 3, 1), (1777, .iconst 2, 1), (1778, .iadd, 1), (1779, .iaload, 1)]
theorem k_ld49 : k_walk code k_lr49 1753 (code.data.toList.drop 1753) = true := by decide +kernel
def k_lr50 : List cRow := [(1780, .aload_n 0, 1), (1781, .iload_n 3, 1), (1782, .iconst 3, 1), (1783, .iadd, 1), (1784, .iaload, 1), (1785, .aload_n 0, 1), (1786, .iload_n 3, 1), (1787, .iconst 4, 1), (1788, .iadd, 1), (1789, .iaload, 1), (1790, .aload_n 0, 1), (1791, .iload_n 3, 1), (1792, .iconst 5, 1), (1793, .iadd, 1), (1794, .iaload, 1), (1795, .invokevirtual 208, 3), (1798, .pop, 1), (1799, .goto 190, 3), (1802, .aload_n 1, 1), (1803, .aload_n 0, 1), (1804, .iload_n 3, 1), (1805, .iconst 1, 1), (1806, .iadd, 1), (1807, .iaload, 1), (1808, .invokevirtual 209, 3)]
theorem k_ld50 : k_walk code k_lr50 1780 (code.data.toList.drop 1780) = true := by decide +kernel
def k_lr51 : List cRow := [(1811, .pop, 1), (1812, .aload_n 2, 1), (1813, .aload_n 0, 1), (1814, .iload_n 3, 1), (1815, .iconst 1, 1), (1816, .iadd, 1), (1817, .iaload, 1), (1818, .invokevirtual 212, 3), (1821, .pop, 1), (1822, .goto 167, 3), (1825, .aload_n 1, 1), (1826, .aload_n 0, 1), (1827, .iload_n 3, 1), (1828, .iconst 1, 1), (1829, .iadd, 1), (1830, .iaload, 1), (1831, .invokevirtual 213, 3), (1834, .pop, 1), (1835, .aload_n 2, 1), (1836, .aload_n 0, 1), (1837, .iload_n 3, 1), (1838, .iconst 1, 1), (1839, .iadd, 1), (1840, .iaload, 1), (1841, .invokevirtual 216, 3)]
theorem k_ld51 : k_walk code k_lr51 1811 (code.data.toList.drop 1811) = true := by decide +kernel
def k_lr52 : List cRow := [(1844, .pop, 1), (1845, .goto 144, 3), (1848, .aload_n 1, 1), (1849, .aload_n 0, 1), (1850, .iload_n 3, 1), (1851, .iconst 1, 1), (1852, .iadd, 1), (1853, .iaload, 1), (1854, .invokevirtual 217, 3), (1857, .pop, 1), (1858, .aload_n 2, 1), (1859, .aload_n 0, 1), (1860, .iload_n 3, 1), (1861, .iconst 1, 1), (1862, .iadd, 1), (1863, .iaload, 1), (1864, .invokevirtual 220, 3), (1867, .pop, 1), (1868, .goto 121, 3), (1871, .aload_n 1, 1), (1872, .aload_n 0, 1), (1873, .iload_n 3, 1), (1874, .iconst 1, 1), (1875, .iadd, 1), (1876, .iaload, 1)]
theorem k_ld52 : k_walk code k_lr52 1844 (code.data.toList.drop 1844) = true := by decide +kernel
def k_lr53 : List cRow := [(1877, .invokevirtual 221, 3), (1880, .pop, 1), (1881, .aload_n 2, 1), (1882, .aload_n 0, 1), (1883, .iload_n 3, 1), (1884, .iconst 1, 1), (1885, .iadd, 1), (1886, .iaload, 1), (1887, .invokevirtual 224, 3), (1890, .pop, 1), (1891, .goto 98, 3), (1894, .aload_n 1, 1), (1895, .aload_n 0, 1), (1896, .iload_n 3, 1), (1897, .iconst 1, 1), (1898, .iadd, 1), (1899, .iaload, 1), (1900, .invokevirtual 225, 3), (1903, .pop, 1), (1904, .aload_n 2, 1), (1905, .aload_n 0, 1), (1906, .iload_n 3, 1), (1907, .iconst 1, 1), (1908, .iadd, 1), (1909, .iaload, 1)]
theorem k_ld53 : k_walk code k_lr53 1877 (code.data.toList.drop 1877) = true := by decide +kernel
def k_lr54 : List cRow := [(1910, .invokevirtual 228, 3), (1913, .pop, 1), (1914, .goto 75, 3), (1917, .aload_n 1, 1), (1918, .aload_n 0, 1), (1919, .iload_n 3, 1), (1920, .iconst 1, 1), (1921, .iadd, 1), (1922, .iaload, 1), (1923, .invokevirtual 229, 3), (1926, .pop, 1), (1927, .aload_n 2, 1), (1928, .aload_n 0, 1), (1929, .iload_n 3, 1), (1930, .iconst 1, 1), (1931, .iadd, 1), (1932, .iaload, 1), (1933, .invokevirtual 232, 3), (1936, .pop, 1), (1937, .goto 52, 3), (1940, .aload_n 1, 1), (1941, .aload_n 0, 1), (1942, .iload_n 3, 1), (1943, .iconst 1, 1), (1944, .iadd, 1)]
theorem k_ld54 : k_walk code k_lr54 1910 (code.data.toList.drop 1910) = true := by decide +kernel
def k_lr55 : List cRow := [(1945, .iaload, 1), (1946, .invokevirtual 233, 3), (1949, .pop, 1), (1950, .aload_n 2, 1), (1951, .aload_n 0, 1), (1952, .iload_n 3, 1), (1953, .iconst 1, 1), (1954, .iadd, 1), (1955, .iaload, 1), (1956, .invokevirtual 236, 3), (1959, .pop, 1), (1960, .goto 29, 3), (1963, .aload_n 1, 1), (1964, .invokevirtual 237, 3), (1967, .pop, 1), (1968, .aload_n 2, 1), (1969, .invokevirtual 240, 3), (1972, .pop, 1), (1973, .goto 16, 3), (1976, .aload_n 1, 1), (1977, .invokevirtual 241, 3), (1980, .pop, 1), (1981, .aload_n 2, 1), (1982, .invokevirtual 244, 3), (1985, .pop, 1)]
theorem k_ld55 : k_walk code k_lr55 1945 (code.data.toList.drop 1945) = true := by decide +kernel
def k_lr56 : List cRow := [(1986, .goto 3, 3), (1989, .iinc 3 7, 3), (1992, .goto (-1974), 3), (1995, .iconst 1, 1), (1996, .ireturn, 1)]
theorem k_ld56 : k_walk code k_lr56 1986 (code.data.toList.drop 1986) = true := by decide +kernel
theorem k_L0 : decode code 0 = .ok (.new 7, 3) := k_dlw (x := (0, .new 7, 3)) k_ld0 0 rfl
theorem k_L3 : decode code 3 = .ok (.dup, 1) := k_dlw (x := (3, .dup, 1)) k_ld0 1 rfl
theorem k_L4 : decode code 4 = .ok (.invokespecial 9, 3) := k_dlw (x := (4, .invokespecial 9, 3)) k_ld0 2 rfl
theorem k_L7 : decode code 7 = .ok (.astore_n 1, 1) := k_dlw (x := (7, .astore_n 1, 1)) k_ld0 3 rfl
theorem k_L8 : decode code 8 = .ok (.new 10, 3) := k_dlw (x := (8, .new 10, 3)) k_ld0 4 rfl
theorem k_L11 : decode code 11 = .ok (.dup, 1) := k_dlw (x := (11, .dup, 1)) k_ld0 5 rfl
theorem k_L12 : decode code 12 = .ok (.invokespecial 12, 3) := k_dlw (x := (12, .invokespecial 12, 3)) k_ld0 6 rfl
theorem k_L15 : decode code 15 = .ok (.astore_n 2, 1) := k_dlw (x := (15, .astore_n 2, 1)) k_ld0 7 rfl
theorem k_L16 : decode code 16 = .ok (.iconst 0, 1) := k_dlw (x := (16, .iconst 0, 1)) k_ld0 8 rfl
theorem k_L17 : decode code 17 = .ok (.istore_n 3, 1) := k_dlw (x := (17, .istore_n 3, 1)) k_ld0 9 rfl
theorem k_L18 : decode code 18 = .ok (.iload_n 3, 1) := k_dlw (x := (18, .iload_n 3, 1)) k_ld0 10 rfl
theorem k_L19 : decode code 19 = .ok (.aload_n 0, 1) := k_dlw (x := (19, .aload_n 0, 1)) k_ld0 11 rfl
theorem k_L20 : decode code 20 = .ok (.arraylength, 1) := k_dlw (x := (20, .arraylength, 1)) k_ld0 12 rfl
theorem k_L21 : decode code 21 = .ok (.bipush 7, 2) := k_dlw (x := (21, .bipush 7, 2)) k_ld0 13 rfl
theorem k_L23 : decode code 23 = .ok (.isub, 1) := k_dlw (x := (23, .isub, 1)) k_ld0 14 rfl
theorem k_L24 : decode code 24 = .ok (.if_icmp .gt 1971, 3) := k_dlw (x := (24, .if_icmp .gt 1971, 3)) k_ld0 15 rfl
theorem k_L27 : decode code 27 = .ok (.aload_n 0, 1) := k_dlw (x := (27, .aload_n 0, 1)) k_ld0 16 rfl
theorem k_L28 : decode code 28 = .ok (.iload_n 3, 1) := k_dlw (x := (28, .iload_n 3, 1)) k_ld0 17 rfl
theorem k_L29 : decode code 29 = .ok (.iaload, 1) := k_dlw (x := (29, .iaload, 1)) k_ld0 18 rfl
theorem k_L30 : decode code 30 = .ok (.bipush 63, 2) := k_dlw (x := (30, .bipush 63, 2)) k_ld0 19 rfl
theorem k_L32 : decode code 32 = .ok (.iand, 1) := k_dlw (x := (32, .iand, 1)) k_ld0 20 rfl
theorem k_L33 : decode code 33 = .ok (.tableswitch 1956 0 52 #[227, 240, 253, 266, 309, 382, 415, 478, 541, 564, 587, 610, 643, 718, 741, 774, 833, 856, 889, 942, 981, 1004, 1047, 1090, 1113, 1136, 1159, 1192, 1215, 1238, 1281, 1314, 1337, 1416, 1429, 1462, 1495, 1518, 1541, 1564, 1587, 1610, 1643, 1706, 1769, 1792, 1815, 1838, 1861, 1884, 1907, 1930, 1943], 227) := k_dlw (x := (33, .tableswitch 1956 0 52 #[227, 240, 253, 266, 309, 382, 415, 478, 541, 564, 587, 610, 643, 718, 741, 774, 833, 856, 889, 942, 981, 1004, 1047, 1090, 1113, 1136, 1159, 1192, 1215, 1238, 1281, 1314, 1337, 1416, 1429, 1462, 1495, 1518, 1541, 1564, 1587, 1610, 1643, 1706, 1769, 1792, 1815, 1838, 1861, 1884, 1907, 1930, 1943], 227)) k_ld0 21 rfl
theorem k_L260 : decode code 260 = .ok (.aload_n 1, 1) := k_dlw (x := (260, .aload_n 1, 1)) k_ld0 22 rfl
theorem k_L261 : decode code 261 = .ok (.invokevirtual 13, 3) := k_dlw (x := (261, .invokevirtual 13, 3)) k_ld0 23 rfl
theorem k_L264 : decode code 264 = .ok (.pop, 1) := k_dlw (x := (264, .pop, 1)) k_ld0 24 rfl
theorem k_L265 : decode code 265 = .ok (.aload_n 2, 1) := k_dlw (x := (265, .aload_n 2, 1)) k_ld1 0 rfl
theorem k_L266 : decode code 266 = .ok (.invokevirtual 17, 3) := k_dlw (x := (266, .invokevirtual 17, 3)) k_ld1 1 rfl
theorem k_L269 : decode code 269 = .ok (.pop, 1) := k_dlw (x := (269, .pop, 1)) k_ld1 2 rfl
theorem k_L270 : decode code 270 = .ok (.goto 1719, 3) := k_dlw (x := (270, .goto 1719, 3)) k_ld1 3 rfl
theorem k_L273 : decode code 273 = .ok (.aload_n 1, 1) := k_dlw (x := (273, .aload_n 1, 1)) k_ld1 4 rfl
theorem k_L274 : decode code 274 = .ok (.invokevirtual 18, 3) := k_dlw (x := (274, .invokevirtual 18, 3)) k_ld1 5 rfl
theorem k_L277 : decode code 277 = .ok (.pop2, 1) := k_dlw (x := (277, .pop2, 1)) k_ld1 6 rfl
theorem k_L278 : decode code 278 = .ok (.aload_n 2, 1) := k_dlw (x := (278, .aload_n 2, 1)) k_ld1 7 rfl
theorem k_L279 : decode code 279 = .ok (.invokevirtual 22, 3) := k_dlw (x := (279, .invokevirtual 22, 3)) k_ld1 8 rfl
theorem k_L282 : decode code 282 = .ok (.pop2, 1) := k_dlw (x := (282, .pop2, 1)) k_ld1 9 rfl
theorem k_L283 : decode code 283 = .ok (.goto 1706, 3) := k_dlw (x := (283, .goto 1706, 3)) k_ld1 10 rfl
theorem k_L286 : decode code 286 = .ok (.aload_n 1, 1) := k_dlw (x := (286, .aload_n 1, 1)) k_ld1 11 rfl
theorem k_L287 : decode code 287 = .ok (.invokevirtual 23, 3) := k_dlw (x := (287, .invokevirtual 23, 3)) k_ld1 12 rfl
theorem k_L290 : decode code 290 = .ok (.pop2, 1) := k_dlw (x := (290, .pop2, 1)) k_ld1 13 rfl
theorem k_L291 : decode code 291 = .ok (.aload_n 2, 1) := k_dlw (x := (291, .aload_n 2, 1)) k_ld1 14 rfl
theorem k_L292 : decode code 292 = .ok (.invokevirtual 26, 3) := k_dlw (x := (292, .invokevirtual 26, 3)) k_ld1 15 rfl
theorem k_L295 : decode code 295 = .ok (.pop2, 1) := k_dlw (x := (295, .pop2, 1)) k_ld1 16 rfl
theorem k_L296 : decode code 296 = .ok (.goto 1693, 3) := k_dlw (x := (296, .goto 1693, 3)) k_ld1 17 rfl
theorem k_L299 : decode code 299 = .ok (.aload_n 1, 1) := k_dlw (x := (299, .aload_n 1, 1)) k_ld1 18 rfl
theorem k_L300 : decode code 300 = .ok (.aload_n 0, 1) := k_dlw (x := (300, .aload_n 0, 1)) k_ld1 19 rfl
theorem k_L301 : decode code 301 = .ok (.iload_n 3, 1) := k_dlw (x := (301, .iload_n 3, 1)) k_ld1 20 rfl
theorem k_L302 : decode code 302 = .ok (.iconst 1, 1) := k_dlw (x := (302, .iconst 1, 1)) k_ld1 21 rfl
theorem k_L303 : decode code 303 = .ok (.iadd, 1) := k_dlw (x := (303, .iadd, 1)) k_ld1 22 rfl
theorem k_L304 : decode code 304 = .ok (.iaload, 1) := k_dlw (x := (304, .iaload, 1)) k_ld1 23 rfl
theorem k_L305 : decode code 305 = .ok (.aload_n 0, 1) := k_dlw (x := (305, .aload_n 0, 1)) k_ld1 24 rfl
theorem k_L306 : decode code 306 = .ok (.iload_n 3, 1) := k_dlw (x := (306, .iload_n 3, 1)) k_ld2 0 rfl
theorem k_L307 : decode code 307 = .ok (.iconst 2, 1) := k_dlw (x := (307, .iconst 2, 1)) k_ld2 1 rfl
theorem k_L308 : decode code 308 = .ok (.iadd, 1) := k_dlw (x := (308, .iadd, 1)) k_ld2 2 rfl
theorem k_L309 : decode code 309 = .ok (.iaload, 1) := k_dlw (x := (309, .iaload, 1)) k_ld2 3 rfl
theorem k_L310 : decode code 310 = .ok (.aload_n 0, 1) := k_dlw (x := (310, .aload_n 0, 1)) k_ld2 4 rfl
theorem k_L311 : decode code 311 = .ok (.iload_n 3, 1) := k_dlw (x := (311, .iload_n 3, 1)) k_ld2 5 rfl
theorem k_L312 : decode code 312 = .ok (.iconst 3, 1) := k_dlw (x := (312, .iconst 3, 1)) k_ld2 6 rfl
theorem k_L313 : decode code 313 = .ok (.iadd, 1) := k_dlw (x := (313, .iadd, 1)) k_ld2 7 rfl
theorem k_L314 : decode code 314 = .ok (.iaload, 1) := k_dlw (x := (314, .iaload, 1)) k_ld2 8 rfl
theorem k_L315 : decode code 315 = .ok (.invokevirtual 27, 3) := k_dlw (x := (315, .invokevirtual 27, 3)) k_ld2 9 rfl
theorem k_L318 : decode code 318 = .ok (.pop, 1) := k_dlw (x := (318, .pop, 1)) k_ld2 10 rfl
theorem k_L319 : decode code 319 = .ok (.aload_n 2, 1) := k_dlw (x := (319, .aload_n 2, 1)) k_ld2 11 rfl
theorem k_L320 : decode code 320 = .ok (.aload_n 0, 1) := k_dlw (x := (320, .aload_n 0, 1)) k_ld2 12 rfl
theorem k_L321 : decode code 321 = .ok (.iload_n 3, 1) := k_dlw (x := (321, .iload_n 3, 1)) k_ld2 13 rfl
theorem k_L322 : decode code 322 = .ok (.iconst 1, 1) := k_dlw (x := (322, .iconst 1, 1)) k_ld2 14 rfl
theorem k_L323 : decode code 323 = .ok (.iadd, 1) := k_dlw (x := (323, .iadd, 1)) k_ld2 15 rfl
theorem k_L324 : decode code 324 = .ok (.iaload, 1) := k_dlw (x := (324, .iaload, 1)) k_ld2 16 rfl
theorem k_L325 : decode code 325 = .ok (.aload_n 0, 1) := k_dlw (x := (325, .aload_n 0, 1)) k_ld2 17 rfl
theorem k_L326 : decode code 326 = .ok (.iload_n 3, 1) := k_dlw (x := (326, .iload_n 3, 1)) k_ld2 18 rfl
theorem k_L327 : decode code 327 = .ok (.iconst 2, 1) := k_dlw (x := (327, .iconst 2, 1)) k_ld2 19 rfl
theorem k_L328 : decode code 328 = .ok (.iadd, 1) := k_dlw (x := (328, .iadd, 1)) k_ld2 20 rfl
theorem k_L329 : decode code 329 = .ok (.iaload, 1) := k_dlw (x := (329, .iaload, 1)) k_ld2 21 rfl
theorem k_L330 : decode code 330 = .ok (.aload_n 0, 1) := k_dlw (x := (330, .aload_n 0, 1)) k_ld2 22 rfl
theorem k_L331 : decode code 331 = .ok (.iload_n 3, 1) := k_dlw (x := (331, .iload_n 3, 1)) k_ld2 23 rfl
theorem k_L332 : decode code 332 = .ok (.iconst 3, 1) := k_dlw (x := (332, .iconst 3, 1)) k_ld2 24 rfl
theorem k_L333 : decode code 333 = .ok (.iadd, 1) := k_dlw (x := (333, .iadd, 1)) k_ld3 0 rfl
theorem k_L334 : decode code 334 = .ok (.iaload, 1) := k_dlw (x := (334, .iaload, 1)) k_ld3 1 rfl
theorem k_L335 : decode code 335 = .ok (.invokevirtual 31, 3) := k_dlw (x := (335, .invokevirtual 31, 3)) k_ld3 2 rfl
theorem k_L338 : decode code 338 = .ok (.pop, 1) := k_dlw (x := (338, .pop, 1)) k_ld3 3 rfl
theorem k_L339 : decode code 339 = .ok (.goto 1650, 3) := k_dlw (x := (339, .goto 1650, 3)) k_ld3 4 rfl
theorem k_L342 : decode code 342 = .ok (.aload_n 1, 1) := k_dlw (x := (342, .aload_n 1, 1)) k_ld3 5 rfl
theorem k_L343 : decode code 343 = .ok (.aload_n 0, 1) := k_dlw (x := (343, .aload_n 0, 1)) k_ld3 6 rfl
theorem k_L344 : decode code 344 = .ok (.iload_n 3, 1) := k_dlw (x := (344, .iload_n 3, 1)) k_ld3 7 rfl
theorem k_L345 : decode code 345 = .ok (.iconst 1, 1) := k_dlw (x := (345, .iconst 1, 1)) k_ld3 8 rfl
theorem k_L346 : decode code 346 = .ok (.iadd, 1) := k_dlw (x := (346, .iadd, 1)) k_ld3 9 rfl
theorem k_L347 : decode code 347 = .ok (.iaload, 1) := k_dlw (x := (347, .iaload, 1)) k_ld3 10 rfl
theorem k_L348 : decode code 348 = .ok (.aload_n 0, 1) := k_dlw (x := (348, .aload_n 0, 1)) k_ld3 11 rfl
theorem k_L349 : decode code 349 = .ok (.iload_n 3, 1) := k_dlw (x := (349, .iload_n 3, 1)) k_ld3 12 rfl
theorem k_L350 : decode code 350 = .ok (.iconst 2, 1) := k_dlw (x := (350, .iconst 2, 1)) k_ld3 13 rfl
theorem k_L351 : decode code 351 = .ok (.iadd, 1) := k_dlw (x := (351, .iadd, 1)) k_ld3 14 rfl
theorem k_L352 : decode code 352 = .ok (.iaload, 1) := k_dlw (x := (352, .iaload, 1)) k_ld3 15 rfl
theorem k_L353 : decode code 353 = .ok (.aload_n 0, 1) := k_dlw (x := (353, .aload_n 0, 1)) k_ld3 16 rfl
theorem k_L354 : decode code 354 = .ok (.iload_n 3, 1) := k_dlw (x := (354, .iload_n 3, 1)) k_ld3 17 rfl
theorem k_L355 : decode code 355 = .ok (.iconst 3, 1) := k_dlw (x := (355, .iconst 3, 1)) k_ld3 18 rfl
theorem k_L356 : decode code 356 = .ok (.iadd, 1) := k_dlw (x := (356, .iadd, 1)) k_ld3 19 rfl
theorem k_L357 : decode code 357 = .ok (.iaload, 1) := k_dlw (x := (357, .iaload, 1)) k_ld3 20 rfl
theorem k_L358 : decode code 358 = .ok (.i2l, 1) := k_dlw (x := (358, .i2l, 1)) k_ld3 21 rfl
theorem k_L359 : decode code 359 = .ok (.bipush 32, 2) := k_dlw (x := (359, .bipush 32, 2)) k_ld3 22 rfl
theorem k_L361 : decode code 361 = .ok (.lshl, 1) := k_dlw (x := (361, .lshl, 1)) k_ld3 23 rfl
theorem k_L362 : decode code 362 = .ok (.aload_n 0, 1) := k_dlw (x := (362, .aload_n 0, 1)) k_ld3 24 rfl
theorem k_L363 : decode code 363 = .ok (.iload_n 3, 1) := k_dlw (x := (363, .iload_n 3, 1)) k_ld4 0 rfl
theorem k_L364 : decode code 364 = .ok (.iconst 4, 1) := k_dlw (x := (364, .iconst 4, 1)) k_ld4 1 rfl
theorem k_L365 : decode code 365 = .ok (.iadd, 1) := k_dlw (x := (365, .iadd, 1)) k_ld4 2 rfl
theorem k_L366 : decode code 366 = .ok (.iaload, 1) := k_dlw (x := (366, .iaload, 1)) k_ld4 3 rfl
theorem k_L367 : decode code 367 = .ok (.i2l, 1) := k_dlw (x := (367, .i2l, 1)) k_ld4 4 rfl
theorem k_L368 : decode code 368 = .ok (.ldc2_w 32, 3) := k_dlw (x := (368, .ldc2_w 32, 3)) k_ld4 5 rfl
theorem k_L371 : decode code 371 = .ok (.land, 1) := k_dlw (x := (371, .land, 1)) k_ld4 6 rfl
theorem k_L372 : decode code 372 = .ok (.lor, 1) := k_dlw (x := (372, .lor, 1)) k_ld4 7 rfl
theorem k_L373 : decode code 373 = .ok (.invokevirtual 34, 3) := k_dlw (x := (373, .invokevirtual 34, 3)) k_ld4 8 rfl
theorem k_L376 : decode code 376 = .ok (.pop, 1) := k_dlw (x := (376, .pop, 1)) k_ld4 9 rfl
theorem k_L377 : decode code 377 = .ok (.aload_n 2, 1) := k_dlw (x := (377, .aload_n 2, 1)) k_ld4 10 rfl
theorem k_L378 : decode code 378 = .ok (.aload_n 0, 1) := k_dlw (x := (378, .aload_n 0, 1)) k_ld4 11 rfl
theorem k_L379 : decode code 379 = .ok (.iload_n 3, 1) := k_dlw (x := (379, .iload_n 3, 1)) k_ld4 12 rfl
theorem k_L380 : decode code 380 = .ok (.iconst 1, 1) := k_dlw (x := (380, .iconst 1, 1)) k_ld4 13 rfl
theorem k_L381 : decode code 381 = .ok (.iadd, 1) := k_dlw (x := (381, .iadd, 1)) k_ld4 14 rfl
theorem k_L382 : decode code 382 = .ok (.iaload, 1) := k_dlw (x := (382, .iaload, 1)) k_ld4 15 rfl
theorem k_L383 : decode code 383 = .ok (.aload_n 0, 1) := k_dlw (x := (383, .aload_n 0, 1)) k_ld4 16 rfl
theorem k_L384 : decode code 384 = .ok (.iload_n 3, 1) := k_dlw (x := (384, .iload_n 3, 1)) k_ld4 17 rfl
theorem k_L385 : decode code 385 = .ok (.iconst 2, 1) := k_dlw (x := (385, .iconst 2, 1)) k_ld4 18 rfl
theorem k_L386 : decode code 386 = .ok (.iadd, 1) := k_dlw (x := (386, .iadd, 1)) k_ld4 19 rfl
theorem k_L387 : decode code 387 = .ok (.iaload, 1) := k_dlw (x := (387, .iaload, 1)) k_ld4 20 rfl
theorem k_L388 : decode code 388 = .ok (.aload_n 0, 1) := k_dlw (x := (388, .aload_n 0, 1)) k_ld4 21 rfl
theorem k_L389 : decode code 389 = .ok (.iload_n 3, 1) := k_dlw (x := (389, .iload_n 3, 1)) k_ld4 22 rfl
theorem k_L390 : decode code 390 = .ok (.iconst 3, 1) := k_dlw (x := (390, .iconst 3, 1)) k_ld4 23 rfl
theorem k_L391 : decode code 391 = .ok (.iadd, 1) := k_dlw (x := (391, .iadd, 1)) k_ld4 24 rfl
theorem k_L392 : decode code 392 = .ok (.iaload, 1) := k_dlw (x := (392, .iaload, 1)) k_ld5 0 rfl
theorem k_L393 : decode code 393 = .ok (.i2l, 1) := k_dlw (x := (393, .i2l, 1)) k_ld5 1 rfl
theorem k_L394 : decode code 394 = .ok (.bipush 32, 2) := k_dlw (x := (394, .bipush 32, 2)) k_ld5 2 rfl
theorem k_L396 : decode code 396 = .ok (.lshl, 1) := k_dlw (x := (396, .lshl, 1)) k_ld5 3 rfl
theorem k_L397 : decode code 397 = .ok (.aload_n 0, 1) := k_dlw (x := (397, .aload_n 0, 1)) k_ld5 4 rfl
theorem k_L398 : decode code 398 = .ok (.iload_n 3, 1) := k_dlw (x := (398, .iload_n 3, 1)) k_ld5 5 rfl
theorem k_L399 : decode code 399 = .ok (.iconst 4, 1) := k_dlw (x := (399, .iconst 4, 1)) k_ld5 6 rfl
theorem k_L400 : decode code 400 = .ok (.iadd, 1) := k_dlw (x := (400, .iadd, 1)) k_ld5 7 rfl
theorem k_L401 : decode code 401 = .ok (.iaload, 1) := k_dlw (x := (401, .iaload, 1)) k_ld5 8 rfl
theorem k_L402 : decode code 402 = .ok (.i2l, 1) := k_dlw (x := (402, .i2l, 1)) k_ld5 9 rfl
theorem k_L403 : decode code 403 = .ok (.ldc2_w 32, 3) := k_dlw (x := (403, .ldc2_w 32, 3)) k_ld5 10 rfl
theorem k_L406 : decode code 406 = .ok (.land, 1) := k_dlw (x := (406, .land, 1)) k_ld5 11 rfl
theorem k_L407 : decode code 407 = .ok (.lor, 1) := k_dlw (x := (407, .lor, 1)) k_ld5 12 rfl
theorem k_L408 : decode code 408 = .ok (.invokevirtual 38, 3) := k_dlw (x := (408, .invokevirtual 38, 3)) k_ld5 13 rfl
theorem k_L411 : decode code 411 = .ok (.pop, 1) := k_dlw (x := (411, .pop, 1)) k_ld5 14 rfl
theorem k_L412 : decode code 412 = .ok (.goto 1577, 3) := k_dlw (x := (412, .goto 1577, 3)) k_ld5 15 rfl
theorem k_L415 : decode code 415 = .ok (.aload_n 1, 1) := k_dlw (x := (415, .aload_n 1, 1)) k_ld5 16 rfl
theorem k_L416 : decode code 416 = .ok (.aload_n 0, 1) := k_dlw (x := (416, .aload_n 0, 1)) k_ld5 17 rfl
theorem k_L417 : decode code 417 = .ok (.iload_n 3, 1) := k_dlw (x := (417, .iload_n 3, 1)) k_ld5 18 rfl
theorem k_L418 : decode code 418 = .ok (.iconst 1, 1) := k_dlw (x := (418, .iconst 1, 1)) k_ld5 19 rfl
theorem k_L419 : decode code 419 = .ok (.iadd, 1) := k_dlw (x := (419, .iadd, 1)) k_ld5 20 rfl
theorem k_L420 : decode code 420 = .ok (.iaload, 1) := k_dlw (x := (420, .iaload, 1)) k_ld5 21 rfl
theorem k_L421 : decode code 421 = .ok (.aload_n 0, 1) := k_dlw (x := (421, .aload_n 0, 1)) k_ld5 22 rfl
theorem k_L422 : decode code 422 = .ok (.iload_n 3, 1) := k_dlw (x := (422, .iload_n 3, 1)) k_ld5 23 rfl
theorem k_L423 : decode code 423 = .ok (.iconst 2, 1) := k_dlw (x := (423, .iconst 2, 1)) k_ld5 24 rfl
theorem k_L424 : decode code 424 = .ok (.iadd, 1) := k_dlw (x := (424, .iadd, 1)) k_ld6 0 rfl
theorem k_L425 : decode code 425 = .ok (.iaload, 1) := k_dlw (x := (425, .iaload, 1)) k_ld6 1 rfl
theorem k_L426 : decode code 426 = .ok (.invokevirtual 39, 3) := k_dlw (x := (426, .invokevirtual 39, 3)) k_ld6 2 rfl
theorem k_L429 : decode code 429 = .ok (.pop2, 1) := k_dlw (x := (429, .pop2, 1)) k_ld6 3 rfl
theorem k_L430 : decode code 430 = .ok (.aload_n 2, 1) := k_dlw (x := (430, .aload_n 2, 1)) k_ld6 4 rfl
theorem k_L431 : decode code 431 = .ok (.aload_n 0, 1) := k_dlw (x := (431, .aload_n 0, 1)) k_ld6 5 rfl
theorem k_L432 : decode code 432 = .ok (.iload_n 3, 1) := k_dlw (x := (432, .iload_n 3, 1)) k_ld6 6 rfl
theorem k_L433 : decode code 433 = .ok (.iconst 1, 1) := k_dlw (x := (433, .iconst 1, 1)) k_ld6 7 rfl
theorem k_L434 : decode code 434 = .ok (.iadd, 1) := k_dlw (x := (434, .iadd, 1)) k_ld6 8 rfl
theorem k_L435 : decode code 435 = .ok (.iaload, 1) := k_dlw (x := (435, .iaload, 1)) k_ld6 9 rfl
theorem k_L436 : decode code 436 = .ok (.aload_n 0, 1) := k_dlw (x := (436, .aload_n 0, 1)) k_ld6 10 rfl
theorem k_L437 : decode code 437 = .ok (.iload_n 3, 1) := k_dlw (x := (437, .iload_n 3, 1)) k_ld6 11 rfl
theorem k_L438 : decode code 438 = .ok (.iconst 2, 1) := k_dlw (x := (438, .iconst 2, 1)) k_ld6 12 rfl
theorem k_L439 : decode code 439 = .ok (.iadd, 1) := k_dlw (x := (439, .iadd, 1)) k_ld6 13 rfl
theorem k_L440 : decode code 440 = .ok (.iaload, 1) := k_dlw (x := (440, .iaload, 1)) k_ld6 14 rfl
theorem k_L441 : decode code 441 = .ok (.invokevirtual 43, 3) := k_dlw (x := (441, .invokevirtual 43, 3)) k_ld6 15 rfl
theorem k_L444 : decode code 444 = .ok (.pop2, 1) := k_dlw (x := (444, .pop2, 1)) k_ld6 16 rfl
theorem k_L445 : decode code 445 = .ok (.goto 1544, 3) := k_dlw (x := (445, .goto 1544, 3)) k_ld6 17 rfl
theorem k_L448 : decode code 448 = .ok (.aload_n 1, 1) := k_dlw (x := (448, .aload_n 1, 1)) k_ld6 18 rfl
theorem k_L449 : decode code 449 = .ok (.aload_n 0, 1) := k_dlw (x := (449, .aload_n 0, 1)) k_ld6 19 rfl
theorem k_L450 : decode code 450 = .ok (.iload_n 3, 1) := k_dlw (x := (450, .iload_n 3, 1)) k_ld6 20 rfl
theorem k_L451 : decode code 451 = .ok (.iconst 1, 1) := k_dlw (x := (451, .iconst 1, 1)) k_ld6 21 rfl
theorem k_L452 : decode code 452 = .ok (.iadd, 1) := k_dlw (x := (452, .iadd, 1)) k_ld6 22 rfl
theorem k_L453 : decode code 453 = .ok (.iaload, 1) := k_dlw (x := (453, .iaload, 1)) k_ld6 23 rfl
theorem k_L454 : decode code 454 = .ok (.aload_n 0, 1) := k_dlw (x := (454, .aload_n 0, 1)) k_ld6 24 rfl
theorem k_L455 : decode code 455 = .ok (.iload_n 3, 1) := k_dlw (x := (455, .iload_n 3, 1)) k_ld7 0 rfl
theorem k_L456 : decode code 456 = .ok (.iconst 2, 1) := k_dlw (x := (456, .iconst 2, 1)) k_ld7 1 rfl
theorem k_L457 : decode code 457 = .ok (.iadd, 1) := k_dlw (x := (457, .iadd, 1)) k_ld7 2 rfl
theorem k_L458 : decode code 458 = .ok (.iaload, 1) := k_dlw (x := (458, .iaload, 1)) k_ld7 3 rfl
theorem k_L459 : decode code 459 = .ok (.aload_n 0, 1) := k_dlw (x := (459, .aload_n 0, 1)) k_ld7 4 rfl
theorem k_L460 : decode code 460 = .ok (.iload_n 3, 1) := k_dlw (x := (460, .iload_n 3, 1)) k_ld7 5 rfl
theorem k_L461 : decode code 461 = .ok (.iconst 3, 1) := k_dlw (x := (461, .iconst 3, 1)) k_ld7 6 rfl
theorem k_L462 : decode code 462 = .ok (.iadd, 1) := k_dlw (x := (462, .iadd, 1)) k_ld7 7 rfl
theorem k_L463 : decode code 463 = .ok (.iaload, 1) := k_dlw (x := (463, .iaload, 1)) k_ld7 8 rfl
theorem k_L464 : decode code 464 = .ok (.aload_n 0, 1) := k_dlw (x := (464, .aload_n 0, 1)) k_ld7 9 rfl
theorem k_L465 : decode code 465 = .ok (.iload_n 3, 1) := k_dlw (x := (465, .iload_n 3, 1)) k_ld7 10 rfl
theorem k_L466 : decode code 466 = .ok (.iconst 4, 1) := k_dlw (x := (466, .iconst 4, 1)) k_ld7 11 rfl
theorem k_L467 : decode code 467 = .ok (.iadd, 1) := k_dlw (x := (467, .iadd, 1)) k_ld7 12 rfl
theorem k_L468 : decode code 468 = .ok (.iaload, 1) := k_dlw (x := (468, .iaload, 1)) k_ld7 13 rfl
theorem k_L469 : decode code 469 = .ok (.aload_n 0, 1) := k_dlw (x := (469, .aload_n 0, 1)) k_ld7 14 rfl
theorem k_L470 : decode code 470 = .ok (.iload_n 3, 1) := k_dlw (x := (470, .iload_n 3, 1)) k_ld7 15 rfl
theorem k_L471 : decode code 471 = .ok (.iconst 5, 1) := k_dlw (x := (471, .iconst 5, 1)) k_ld7 16 rfl
theorem k_L472 : decode code 472 = .ok (.iadd, 1) := k_dlw (x := (472, .iadd, 1)) k_ld7 17 rfl
theorem k_L473 : decode code 473 = .ok (.iaload, 1) := k_dlw (x := (473, .iaload, 1)) k_ld7 18 rfl
theorem k_L474 : decode code 474 = .ok (.invokevirtual 44, 3) := k_dlw (x := (474, .invokevirtual 44, 3)) k_ld7 19 rfl
theorem k_L477 : decode code 477 = .ok (.pop, 1) := k_dlw (x := (477, .pop, 1)) k_ld7 20 rfl
theorem k_L478 : decode code 478 = .ok (.aload_n 2, 1) := k_dlw (x := (478, .aload_n 2, 1)) k_ld7 21 rfl
theorem k_L479 : decode code 479 = .ok (.aload_n 0, 1) := k_dlw (x := (479, .aload_n 0, 1)) k_ld7 22 rfl
theorem k_L480 : decode code 480 = .ok (.iload_n 3, 1) := k_dlw (x := (480, .iload_n 3, 1)) k_ld7 23 rfl
theorem k_L481 : decode code 481 = .ok (.iconst 1, 1) := k_dlw (x := (481, .iconst 1, 1)) k_ld7 24 rfl
theorem k_L482 : decode code 482 = .ok (.iadd, 1) := k_dlw (x := (482, .iadd, 1)) k_ld8 0 rfl
theorem k_L483 : decode code 483 = .ok (.iaload, 1) := k_dlw (x := (483, .iaload, 1)) k_ld8 1 rfl
theorem k_L484 : decode code 484 = .ok (.aload_n 0, 1) := k_dlw (x := (484, .aload_n 0, 1)) k_ld8 2 rfl
theorem k_L485 : decode code 485 = .ok (.iload_n 3, 1) := k_dlw (x := (485, .iload_n 3, 1)) k_ld8 3 rfl
theorem k_L486 : decode code 486 = .ok (.iconst 2, 1) := k_dlw (x := (486, .iconst 2, 1)) k_ld8 4 rfl
theorem k_L487 : decode code 487 = .ok (.iadd, 1) := k_dlw (x := (487, .iadd, 1)) k_ld8 5 rfl
theorem k_L488 : decode code 488 = .ok (.iaload, 1) := k_dlw (x := (488, .iaload, 1)) k_ld8 6 rfl
theorem k_L489 : decode code 489 = .ok (.aload_n 0, 1) := k_dlw (x := (489, .aload_n 0, 1)) k_ld8 7 rfl
theorem k_L490 : decode code 490 = .ok (.iload_n 3, 1) := k_dlw (x := (490, .iload_n 3, 1)) k_ld8 8 rfl
theorem k_L491 : decode code 491 = .ok (.iconst 3, 1) := k_dlw (x := (491, .iconst 3, 1)) k_ld8 9 rfl
theorem k_L492 : decode code 492 = .ok (.iadd, 1) := k_dlw (x := (492, .iadd, 1)) k_ld8 10 rfl
theorem k_L493 : decode code 493 = .ok (.iaload, 1) := k_dlw (x := (493, .iaload, 1)) k_ld8 11 rfl
theorem k_L494 : decode code 494 = .ok (.aload_n 0, 1) := k_dlw (x := (494, .aload_n 0, 1)) k_ld8 12 rfl
theorem k_L495 : decode code 495 = .ok (.iload_n 3, 1) := k_dlw (x := (495, .iload_n 3, 1)) k_ld8 13 rfl
theorem k_L496 : decode code 496 = .ok (.iconst 4, 1) := k_dlw (x := (496, .iconst 4, 1)) k_ld8 14 rfl
theorem k_L497 : decode code 497 = .ok (.iadd, 1) := k_dlw (x := (497, .iadd, 1)) k_ld8 15 rfl
theorem k_L498 : decode code 498 = .ok (.iaload, 1) := k_dlw (x := (498, .iaload, 1)) k_ld8 16 rfl
theorem k_L499 : decode code 499 = .ok (.aload_n 0, 1) := k_dlw (x := (499, .aload_n 0, 1)) k_ld8 17 rfl
theorem k_L500 : decode code 500 = .ok (.iload_n 3, 1) := k_dlw (x := (500, .iload_n 3, 1)) k_ld8 18 rfl
theorem k_L501 : decode code 501 = .ok (.iconst 5, 1) := k_dlw (x := (501, .iconst 5, 1)) k_ld8 19 rfl
theorem k_L502 : decode code 502 = .ok (.iadd, 1) := k_dlw (x := (502, .iadd, 1)) k_ld8 20 rfl
theorem k_L503 : decode code 503 = .ok (.iaload, 1) := k_dlw (x := (503, .iaload, 1)) k_ld8 21 rfl
theorem k_L504 : decode code 504 = .ok (.invokevirtual 48, 3) := k_dlw (x := (504, .invokevirtual 48, 3)) k_ld8 22 rfl
theorem k_L507 : decode code 507 = .ok (.pop, 1) := k_dlw (x := (507, .pop, 1)) k_ld8 23 rfl
theorem k_L508 : decode code 508 = .ok (.goto 1481, 3) := k_dlw (x := (508, .goto 1481, 3)) k_ld8 24 rfl
theorem k_L511 : decode code 511 = .ok (.aload_n 1, 1) := k_dlw (x := (511, .aload_n 1, 1)) k_ld9 0 rfl
theorem k_L512 : decode code 512 = .ok (.aload_n 0, 1) := k_dlw (x := (512, .aload_n 0, 1)) k_ld9 1 rfl
theorem k_L513 : decode code 513 = .ok (.iload_n 3, 1) := k_dlw (x := (513, .iload_n 3, 1)) k_ld9 2 rfl
theorem k_L514 : decode code 514 = .ok (.iconst 1, 1) := k_dlw (x := (514, .iconst 1, 1)) k_ld9 3 rfl
theorem k_L515 : decode code 515 = .ok (.iadd, 1) := k_dlw (x := (515, .iadd, 1)) k_ld9 4 rfl
theorem k_L516 : decode code 516 = .ok (.iaload, 1) := k_dlw (x := (516, .iaload, 1)) k_ld9 5 rfl
theorem k_L517 : decode code 517 = .ok (.aload_n 0, 1) := k_dlw (x := (517, .aload_n 0, 1)) k_ld9 6 rfl
theorem k_L518 : decode code 518 = .ok (.iload_n 3, 1) := k_dlw (x := (518, .iload_n 3, 1)) k_ld9 7 rfl
theorem k_L519 : decode code 519 = .ok (.iconst 2, 1) := k_dlw (x := (519, .iconst 2, 1)) k_ld9 8 rfl
theorem k_L520 : decode code 520 = .ok (.iadd, 1) := k_dlw (x := (520, .iadd, 1)) k_ld9 9 rfl
theorem k_L521 : decode code 521 = .ok (.iaload, 1) := k_dlw (x := (521, .iaload, 1)) k_ld9 10 rfl
theorem k_L522 : decode code 522 = .ok (.aload_n 0, 1) := k_dlw (x := (522, .aload_n 0, 1)) k_ld9 11 rfl
theorem k_L523 : decode code 523 = .ok (.iload_n 3, 1) := k_dlw (x := (523, .iload_n 3, 1)) k_ld9 12 rfl
theorem k_L524 : decode code 524 = .ok (.iconst 3, 1) := k_dlw (x := (524, .iconst 3, 1)) k_ld9 13 rfl
theorem k_L525 : decode code 525 = .ok (.iadd, 1) := k_dlw (x := (525, .iadd, 1)) k_ld9 14 rfl
theorem k_L526 : decode code 526 = .ok (.iaload, 1) := k_dlw (x := (526, .iaload, 1)) k_ld9 15 rfl
theorem k_L527 : decode code 527 = .ok (.aload_n 0, 1) := k_dlw (x := (527, .aload_n 0, 1)) k_ld9 16 rfl
theorem k_L528 : decode code 528 = .ok (.iload_n 3, 1) := k_dlw (x := (528, .iload_n 3, 1)) k_ld9 17 rfl
theorem k_L529 : decode code 529 = .ok (.iconst 4, 1) := k_dlw (x := (529, .iconst 4, 1)) k_ld9 18 rfl
theorem k_L530 : decode code 530 = .ok (.iadd, 1) := k_dlw (x := (530, .iadd, 1)) k_ld9 19 rfl
theorem k_L531 : decode code 531 = .ok (.iaload, 1) := k_dlw (x := (531, .iaload, 1)) k_ld9 20 rfl
theorem k_L532 : decode code 532 = .ok (.aload_n 0, 1) := k_dlw (x := (532, .aload_n 0, 1)) k_ld9 21 rfl
theorem k_L533 : decode code 533 = .ok (.iload_n 3, 1) := k_dlw (x := (533, .iload_n 3, 1)) k_ld9 22 rfl
theorem k_L534 : decode code 534 = .ok (.iconst 5, 1) := k_dlw (x := (534, .iconst 5, 1)) k_ld9 23 rfl
theorem k_L535 : decode code 535 = .ok (.iadd, 1) := k_dlw (x := (535, .iadd, 1)) k_ld9 24 rfl
theorem k_L536 : decode code 536 = .ok (.iaload, 1) := k_dlw (x := (536, .iaload, 1)) k_ld10 0 rfl
theorem k_L537 : decode code 537 = .ok (.invokevirtual 49, 3) := k_dlw (x := (537, .invokevirtual 49, 3)) k_ld10 1 rfl
theorem k_L540 : decode code 540 = .ok (.pop, 1) := k_dlw (x := (540, .pop, 1)) k_ld10 2 rfl
theorem k_L541 : decode code 541 = .ok (.aload_n 2, 1) := k_dlw (x := (541, .aload_n 2, 1)) k_ld10 3 rfl
theorem k_L542 : decode code 542 = .ok (.aload_n 0, 1) := k_dlw (x := (542, .aload_n 0, 1)) k_ld10 4 rfl
theorem k_L543 : decode code 543 = .ok (.iload_n 3, 1) := k_dlw (x := (543, .iload_n 3, 1)) k_ld10 5 rfl
theorem k_L544 : decode code 544 = .ok (.iconst 1, 1) := k_dlw (x := (544, .iconst 1, 1)) k_ld10 6 rfl
theorem k_L545 : decode code 545 = .ok (.iadd, 1) := k_dlw (x := (545, .iadd, 1)) k_ld10 7 rfl
theorem k_L546 : decode code 546 = .ok (.iaload, 1) := k_dlw (x := (546, .iaload, 1)) k_ld10 8 rfl
theorem k_L547 : decode code 547 = .ok (.aload_n 0, 1) := k_dlw (x := (547, .aload_n 0, 1)) k_ld10 9 rfl
theorem k_L548 : decode code 548 = .ok (.iload_n 3, 1) := k_dlw (x := (548, .iload_n 3, 1)) k_ld10 10 rfl
theorem k_L549 : decode code 549 = .ok (.iconst 2, 1) := k_dlw (x := (549, .iconst 2, 1)) k_ld10 11 rfl
theorem k_L550 : decode code 550 = .ok (.iadd, 1) := k_dlw (x := (550, .iadd, 1)) k_ld10 12 rfl
theorem k_L551 : decode code 551 = .ok (.iaload, 1) := k_dlw (x := (551, .iaload, 1)) k_ld10 13 rfl
theorem k_L552 : decode code 552 = .ok (.aload_n 0, 1) := k_dlw (x := (552, .aload_n 0, 1)) k_ld10 14 rfl
theorem k_L553 : decode code 553 = .ok (.iload_n 3, 1) := k_dlw (x := (553, .iload_n 3, 1)) k_ld10 15 rfl
theorem k_L554 : decode code 554 = .ok (.iconst 3, 1) := k_dlw (x := (554, .iconst 3, 1)) k_ld10 16 rfl
theorem k_L555 : decode code 555 = .ok (.iadd, 1) := k_dlw (x := (555, .iadd, 1)) k_ld10 17 rfl
theorem k_L556 : decode code 556 = .ok (.iaload, 1) := k_dlw (x := (556, .iaload, 1)) k_ld10 18 rfl
theorem k_L557 : decode code 557 = .ok (.aload_n 0, 1) := k_dlw (x := (557, .aload_n 0, 1)) k_ld10 19 rfl
theorem k_L558 : decode code 558 = .ok (.iload_n 3, 1) := k_dlw (x := (558, .iload_n 3, 1)) k_ld10 20 rfl
theorem k_L559 : decode code 559 = .ok (.iconst 4, 1) := k_dlw (x := (559, .iconst 4, 1)) k_ld10 21 rfl
theorem k_L560 : decode code 560 = .ok (.iadd, 1) := k_dlw (x := (560, .iadd, 1)) k_ld10 22 rfl
theorem k_L561 : decode code 561 = .ok (.iaload, 1) := k_dlw (x := (561, .iaload, 1)) k_ld10 23 rfl
theorem k_L562 : decode code 562 = .ok (.aload_n 0, 1) := k_dlw (x := (562, .aload_n 0, 1)) k_ld10 24 rfl
theorem k_L563 : decode code 563 = .ok (.iload_n 3, 1) := k_dlw (x := (563, .iload_n 3, 1)) k_ld11 0 rfl
theorem k_L564 : decode code 564 = .ok (.iconst 5, 1) := k_dlw (x := (564, .iconst 5, 1)) k_ld11 1 rfl
theorem k_L565 : decode code 565 = .ok (.iadd, 1) := k_dlw (x := (565, .iadd, 1)) k_ld11 2 rfl
theorem k_L566 : decode code 566 = .ok (.iaload, 1) := k_dlw (x := (566, .iaload, 1)) k_ld11 3 rfl
theorem k_L567 : decode code 567 = .ok (.invokevirtual 53, 3) := k_dlw (x := (567, .invokevirtual 53, 3)) k_ld11 4 rfl
theorem k_L570 : decode code 570 = .ok (.pop, 1) := k_dlw (x := (570, .pop, 1)) k_ld11 5 rfl
theorem k_L571 : decode code 571 = .ok (.goto 1418, 3) := k_dlw (x := (571, .goto 1418, 3)) k_ld11 6 rfl
theorem k_L574 : decode code 574 = .ok (.aload_n 1, 1) := k_dlw (x := (574, .aload_n 1, 1)) k_ld11 7 rfl
theorem k_L575 : decode code 575 = .ok (.aload_n 0, 1) := k_dlw (x := (575, .aload_n 0, 1)) k_ld11 8 rfl
theorem k_L576 : decode code 576 = .ok (.iload_n 3, 1) := k_dlw (x := (576, .iload_n 3, 1)) k_ld11 9 rfl
theorem k_L577 : decode code 577 = .ok (.iconst 1, 1) := k_dlw (x := (577, .iconst 1, 1)) k_ld11 10 rfl
theorem k_L578 : decode code 578 = .ok (.iadd, 1) := k_dlw (x := (578, .iadd, 1)) k_ld11 11 rfl
theorem k_L579 : decode code 579 = .ok (.iaload, 1) := k_dlw (x := (579, .iaload, 1)) k_ld11 12 rfl
theorem k_L580 : decode code 580 = .ok (.invokevirtual 54, 3) := k_dlw (x := (580, .invokevirtual 54, 3)) k_ld11 13 rfl
theorem k_L583 : decode code 583 = .ok (.aload_n 2, 1) := k_dlw (x := (583, .aload_n 2, 1)) k_ld11 14 rfl
theorem k_L584 : decode code 584 = .ok (.aload_n 0, 1) := k_dlw (x := (584, .aload_n 0, 1)) k_ld11 15 rfl
theorem k_L585 : decode code 585 = .ok (.iload_n 3, 1) := k_dlw (x := (585, .iload_n 3, 1)) k_ld11 16 rfl
theorem k_L586 : decode code 586 = .ok (.iconst 1, 1) := k_dlw (x := (586, .iconst 1, 1)) k_ld11 17 rfl
theorem k_L587 : decode code 587 = .ok (.iadd, 1) := k_dlw (x := (587, .iadd, 1)) k_ld11 18 rfl
theorem k_L588 : decode code 588 = .ok (.iaload, 1) := k_dlw (x := (588, .iaload, 1)) k_ld11 19 rfl
theorem k_L589 : decode code 589 = .ok (.invokevirtual 58, 3) := k_dlw (x := (589, .invokevirtual 58, 3)) k_ld11 20 rfl
theorem k_L592 : decode code 592 = .ok (.if_icmp .eq 1397, 3) := k_dlw (x := (592, .if_icmp .eq 1397, 3)) k_ld11 21 rfl
theorem k_L595 : decode code 595 = .ok (.iconst 0, 1) := k_dlw (x := (595, .iconst 0, 1)) k_ld11 22 rfl
theorem k_L596 : decode code 596 = .ok (.ireturn, 1) := k_dlw (x := (596, .ireturn, 1)) k_ld11 23 rfl
theorem k_L597 : decode code 597 = .ok (.aload_n 1, 1) := k_dlw (x := (597, .aload_n 1, 1)) k_ld11 24 rfl
theorem k_L598 : decode code 598 = .ok (.aload_n 0, 1) := k_dlw (x := (598, .aload_n 0, 1)) k_ld12 0 rfl
theorem k_L599 : decode code 599 = .ok (.iload_n 3, 1) := k_dlw (x := (599, .iload_n 3, 1)) k_ld12 1 rfl
theorem k_L600 : decode code 600 = .ok (.iconst 1, 1) := k_dlw (x := (600, .iconst 1, 1)) k_ld12 2 rfl
theorem k_L601 : decode code 601 = .ok (.iadd, 1) := k_dlw (x := (601, .iadd, 1)) k_ld12 3 rfl
theorem k_L602 : decode code 602 = .ok (.iaload, 1) := k_dlw (x := (602, .iaload, 1)) k_ld12 4 rfl
theorem k_L603 : decode code 603 = .ok (.invokevirtual 59, 3) := k_dlw (x := (603, .invokevirtual 59, 3)) k_ld12 5 rfl
theorem k_L606 : decode code 606 = .ok (.pop, 1) := k_dlw (x := (606, .pop, 1)) k_ld12 6 rfl
theorem k_L607 : decode code 607 = .ok (.aload_n 2, 1) := k_dlw (x := (607, .aload_n 2, 1)) k_ld12 7 rfl
theorem k_L608 : decode code 608 = .ok (.aload_n 0, 1) := k_dlw (x := (608, .aload_n 0, 1)) k_ld12 8 rfl
theorem k_L609 : decode code 609 = .ok (.iload_n 3, 1) := k_dlw (x := (609, .iload_n 3, 1)) k_ld12 9 rfl
theorem k_L610 : decode code 610 = .ok (.iconst 1, 1) := k_dlw (x := (610, .iconst 1, 1)) k_ld12 10 rfl
theorem k_L611 : decode code 611 = .ok (.iadd, 1) := k_dlw (x := (611, .iadd, 1)) k_ld12 11 rfl
theorem k_L612 : decode code 612 = .ok (.iaload, 1) := k_dlw (x := (612, .iaload, 1)) k_ld12 12 rfl
theorem k_L613 : decode code 613 = .ok (.invokevirtual 62, 3) := k_dlw (x := (613, .invokevirtual 62, 3)) k_ld12 13 rfl
theorem k_L616 : decode code 616 = .ok (.pop, 1) := k_dlw (x := (616, .pop, 1)) k_ld12 14 rfl
theorem k_L617 : decode code 617 = .ok (.goto 1372, 3) := k_dlw (x := (617, .goto 1372, 3)) k_ld12 15 rfl
theorem k_L620 : decode code 620 = .ok (.aload_n 1, 1) := k_dlw (x := (620, .aload_n 1, 1)) k_ld12 16 rfl
theorem k_L621 : decode code 621 = .ok (.aload_n 0, 1) := k_dlw (x := (621, .aload_n 0, 1)) k_ld12 17 rfl
theorem k_L622 : decode code 622 = .ok (.iload_n 3, 1) := k_dlw (x := (622, .iload_n 3, 1)) k_ld12 18 rfl
theorem k_L623 : decode code 623 = .ok (.iconst 1, 1) := k_dlw (x := (623, .iconst 1, 1)) k_ld12 19 rfl
theorem k_L624 : decode code 624 = .ok (.iadd, 1) := k_dlw (x := (624, .iadd, 1)) k_ld12 20 rfl
theorem k_L625 : decode code 625 = .ok (.iaload, 1) := k_dlw (x := (625, .iaload, 1)) k_ld12 21 rfl
theorem k_L626 : decode code 626 = .ok (.invokevirtual 63, 3) := k_dlw (x := (626, .invokevirtual 63, 3)) k_ld12 22 rfl
theorem k_L629 : decode code 629 = .ok (.pop, 1) := k_dlw (x := (629, .pop, 1)) k_ld12 23 rfl
theorem k_L630 : decode code 630 = .ok (.aload_n 2, 1) := k_dlw (x := (630, .aload_n 2, 1)) k_ld12 24 rfl
theorem k_L631 : decode code 631 = .ok (.aload_n 0, 1) := k_dlw (x := (631, .aload_n 0, 1)) k_ld13 0 rfl
theorem k_L632 : decode code 632 = .ok (.iload_n 3, 1) := k_dlw (x := (632, .iload_n 3, 1)) k_ld13 1 rfl
theorem k_L633 : decode code 633 = .ok (.iconst 1, 1) := k_dlw (x := (633, .iconst 1, 1)) k_ld13 2 rfl
theorem k_L634 : decode code 634 = .ok (.iadd, 1) := k_dlw (x := (634, .iadd, 1)) k_ld13 3 rfl
theorem k_L635 : decode code 635 = .ok (.iaload, 1) := k_dlw (x := (635, .iaload, 1)) k_ld13 4 rfl
theorem k_L636 : decode code 636 = .ok (.invokevirtual 66, 3) := k_dlw (x := (636, .invokevirtual 66, 3)) k_ld13 5 rfl
theorem k_L639 : decode code 639 = .ok (.pop, 1) := k_dlw (x := (639, .pop, 1)) k_ld13 6 rfl
theorem k_L640 : decode code 640 = .ok (.goto 1349, 3) := k_dlw (x := (640, .goto 1349, 3)) k_ld13 7 rfl
theorem k_L643 : decode code 643 = .ok (.aload_n 1, 1) := k_dlw (x := (643, .aload_n 1, 1)) k_ld13 8 rfl
theorem k_L644 : decode code 644 = .ok (.aload_n 0, 1) := k_dlw (x := (644, .aload_n 0, 1)) k_ld13 9 rfl
theorem k_L645 : decode code 645 = .ok (.iload_n 3, 1) := k_dlw (x := (645, .iload_n 3, 1)) k_ld13 10 rfl
theorem k_L646 : decode code 646 = .ok (.iconst 1, 1) := k_dlw (x := (646, .iconst 1, 1)) k_ld13 11 rfl
theorem k_L647 : decode code 647 = .ok (.iadd, 1) := k_dlw (x := (647, .iadd, 1)) k_ld13 12 rfl
theorem k_L648 : decode code 648 = .ok (.iaload, 1) := k_dlw (x := (648, .iaload, 1)) k_ld13 13 rfl
theorem k_L649 : decode code 649 = .ok (.aload_n 0, 1) := k_dlw (x := (649, .aload_n 0, 1)) k_ld13 14 rfl
theorem k_L650 : decode code 650 = .ok (.iload_n 3, 1) := k_dlw (x := (650, .iload_n 3, 1)) k_ld13 15 rfl
theorem k_L651 : decode code 651 = .ok (.iconst 2, 1) := k_dlw (x := (651, .iconst 2, 1)) k_ld13 16 rfl
theorem k_L652 : decode code 652 = .ok (.iadd, 1) := k_dlw (x := (652, .iadd, 1)) k_ld13 17 rfl
theorem k_L653 : decode code 653 = .ok (.iaload, 1) := k_dlw (x := (653, .iaload, 1)) k_ld13 18 rfl
theorem k_L654 : decode code 654 = .ok (.invokevirtual 67, 3) := k_dlw (x := (654, .invokevirtual 67, 3)) k_ld13 19 rfl
theorem k_L657 : decode code 657 = .ok (.pop, 1) := k_dlw (x := (657, .pop, 1)) k_ld13 20 rfl
theorem k_L658 : decode code 658 = .ok (.aload_n 2, 1) := k_dlw (x := (658, .aload_n 2, 1)) k_ld13 21 rfl
theorem k_L659 : decode code 659 = .ok (.aload_n 0, 1) := k_dlw (x := (659, .aload_n 0, 1)) k_ld13 22 rfl
theorem k_L660 : decode code 660 = .ok (.iload_n 3, 1) := k_dlw (x := (660, .iload_n 3, 1)) k_ld13 23 rfl
theorem k_L661 : decode code 661 = .ok (.iconst 1, 1) := k_dlw (x := (661, .iconst 1, 1)) k_ld13 24 rfl
theorem k_L662 : decode code 662 = .ok (.iadd, 1) := k_dlw (x := (662, .iadd, 1)) k_ld14 0 rfl
theorem k_L663 : decode code 663 = .ok (.iaload, 1) := k_dlw (x := (663, .iaload, 1)) k_ld14 1 rfl
theorem k_L664 : decode code 664 = .ok (.aload_n 0, 1) := k_dlw (x := (664, .aload_n 0, 1)) k_ld14 2 rfl
theorem k_L665 : decode code 665 = .ok (.iload_n 3, 1) := k_dlw (x := (665, .iload_n 3, 1)) k_ld14 3 rfl
theorem k_L666 : decode code 666 = .ok (.iconst 2, 1) := k_dlw (x := (666, .iconst 2, 1)) k_ld14 4 rfl
theorem k_L667 : decode code 667 = .ok (.iadd, 1) := k_dlw (x := (667, .iadd, 1)) k_ld14 5 rfl
theorem k_L668 : decode code 668 = .ok (.iaload, 1) := k_dlw (x := (668, .iaload, 1)) k_ld14 6 rfl
theorem k_L669 : decode code 669 = .ok (.invokevirtual 71, 3) := k_dlw (x := (669, .invokevirtual 71, 3)) k_ld14 7 rfl
theorem k_L672 : decode code 672 = .ok (.pop, 1) := k_dlw (x := (672, .pop, 1)) k_ld14 8 rfl
theorem k_L673 : decode code 673 = .ok (.goto 1316, 3) := k_dlw (x := (673, .goto 1316, 3)) k_ld14 9 rfl
theorem k_L676 : decode code 676 = .ok (.aload_n 1, 1) := k_dlw (x := (676, .aload_n 1, 1)) k_ld14 10 rfl
theorem k_L677 : decode code 677 = .ok (.aload_n 0, 1) := k_dlw (x := (677, .aload_n 0, 1)) k_ld14 11 rfl
theorem k_L678 : decode code 678 = .ok (.iload_n 3, 1) := k_dlw (x := (678, .iload_n 3, 1)) k_ld14 12 rfl
theorem k_L679 : decode code 679 = .ok (.iconst 1, 1) := k_dlw (x := (679, .iconst 1, 1)) k_ld14 13 rfl
theorem k_L680 : decode code 680 = .ok (.iadd, 1) := k_dlw (x := (680, .iadd, 1)) k_ld14 14 rfl
theorem k_L681 : decode code 681 = .ok (.iaload, 1) := k_dlw (x := (681, .iaload, 1)) k_ld14 15 rfl
theorem k_L682 : decode code 682 = .ok (.aload_n 0, 1) := k_dlw (x := (682, .aload_n 0, 1)) k_ld14 16 rfl
theorem k_L683 : decode code 683 = .ok (.iload_n 3, 1) := k_dlw (x := (683, .iload_n 3, 1)) k_ld14 17 rfl
theorem k_L684 : decode code 684 = .ok (.iconst 2, 1) := k_dlw (x := (684, .iconst 2, 1)) k_ld14 18 rfl
theorem k_L685 : decode code 685 = .ok (.iadd, 1) := k_dlw (x := (685, .iadd, 1)) k_ld14 19 rfl
theorem k_L686 : decode code 686 = .ok (.iaload, 1) := k_dlw (x := (686, .iaload, 1)) k_ld14 20 rfl
theorem k_L687 : decode code 687 = .ok (.aload_n 0, 1) := k_dlw (x := (687, .aload_n 0, 1)) k_ld14 21 rfl
theorem k_L688 : decode code 688 = .ok (.iload_n 3, 1) := k_dlw (x := (688, .iload_n 3, 1)) k_ld14 22 rfl
theorem k_L689 : decode code 689 = .ok (.iconst 3, 1) := k_dlw (x := (689, .iconst 3, 1)) k_ld14 23 rfl
theorem k_L690 : decode code 690 = .ok (.iadd, 1) := k_dlw (x := (690, .iadd, 1)) k_ld14 24 rfl
theorem k_L691 : decode code 691 = .ok (.iaload, 1) := k_dlw (x := (691, .iaload, 1)) k_ld15 0 rfl
theorem k_L692 : decode code 692 = .ok (.aload_n 0, 1) := k_dlw (x := (692, .aload_n 0, 1)) k_ld15 1 rfl
theorem k_L693 : decode code 693 = .ok (.iload_n 3, 1) := k_dlw (x := (693, .iload_n 3, 1)) k_ld15 2 rfl
theorem k_L694 : decode code 694 = .ok (.iconst 4, 1) := k_dlw (x := (694, .iconst 4, 1)) k_ld15 3 rfl
theorem k_L695 : decode code 695 = .ok (.iadd, 1) := k_dlw (x := (695, .iadd, 1)) k_ld15 4 rfl
theorem k_L696 : decode code 696 = .ok (.iaload, 1) := k_dlw (x := (696, .iaload, 1)) k_ld15 5 rfl
theorem k_L697 : decode code 697 = .ok (.aload_n 0, 1) := k_dlw (x := (697, .aload_n 0, 1)) k_ld15 6 rfl
theorem k_L698 : decode code 698 = .ok (.iload_n 3, 1) := k_dlw (x := (698, .iload_n 3, 1)) k_ld15 7 rfl
theorem k_L699 : decode code 699 = .ok (.iconst 5, 1) := k_dlw (x := (699, .iconst 5, 1)) k_ld15 8 rfl
theorem k_L700 : decode code 700 = .ok (.iadd, 1) := k_dlw (x := (700, .iadd, 1)) k_ld15 9 rfl
theorem k_L701 : decode code 701 = .ok (.iaload, 1) := k_dlw (x := (701, .iaload, 1)) k_ld15 10 rfl
theorem k_L702 : decode code 702 = .ok (.aload_n 0, 1) := k_dlw (x := (702, .aload_n 0, 1)) k_ld15 11 rfl
theorem k_L703 : decode code 703 = .ok (.iload_n 3, 1) := k_dlw (x := (703, .iload_n 3, 1)) k_ld15 12 rfl
theorem k_L704 : decode code 704 = .ok (.bipush 6, 2) := k_dlw (x := (704, .bipush 6, 2)) k_ld15 13 rfl
theorem k_L706 : decode code 706 = .ok (.iadd, 1) := k_dlw (x := (706, .iadd, 1)) k_ld15 14 rfl
theorem k_L707 : decode code 707 = .ok (.iaload, 1) := k_dlw (x := (707, .iaload, 1)) k_ld15 15 rfl
theorem k_L708 : decode code 708 = .ok (.invokevirtual 72, 3) := k_dlw (x := (708, .invokevirtual 72, 3)) k_ld15 16 rfl
theorem k_L711 : decode code 711 = .ok (.pop, 1) := k_dlw (x := (711, .pop, 1)) k_ld15 17 rfl
theorem k_L712 : decode code 712 = .ok (.aload_n 2, 1) := k_dlw (x := (712, .aload_n 2, 1)) k_ld15 18 rfl
theorem k_L713 : decode code 713 = .ok (.aload_n 0, 1) := k_dlw (x := (713, .aload_n 0, 1)) k_ld15 19 rfl
theorem k_L714 : decode code 714 = .ok (.iload_n 3, 1) := k_dlw (x := (714, .iload_n 3, 1)) k_ld15 20 rfl
theorem k_L715 : decode code 715 = .ok (.iconst 1, 1) := k_dlw (x := (715, .iconst 1, 1)) k_ld15 21 rfl
theorem k_L716 : decode code 716 = .ok (.iadd, 1) := k_dlw (x := (716, .iadd, 1)) k_ld15 22 rfl
theorem k_L717 : decode code 717 = .ok (.iaload, 1) := k_dlw (x := (717, .iaload, 1)) k_ld15 23 rfl
theorem k_L718 : decode code 718 = .ok (.aload_n 0, 1) := k_dlw (x := (718, .aload_n 0, 1)) k_ld15 24 rfl
theorem k_L719 : decode code 719 = .ok (.iload_n 3, 1) := k_dlw (x := (719, .iload_n 3, 1)) k_ld16 0 rfl
theorem k_L720 : decode code 720 = .ok (.iconst 2, 1) := k_dlw (x := (720, .iconst 2, 1)) k_ld16 1 rfl
theorem k_L721 : decode code 721 = .ok (.iadd, 1) := k_dlw (x := (721, .iadd, 1)) k_ld16 2 rfl
theorem k_L722 : decode code 722 = .ok (.iaload, 1) := k_dlw (x := (722, .iaload, 1)) k_ld16 3 rfl
theorem k_L723 : decode code 723 = .ok (.aload_n 0, 1) := k_dlw (x := (723, .aload_n 0, 1)) k_ld16 4 rfl
theorem k_L724 : decode code 724 = .ok (.iload_n 3, 1) := k_dlw (x := (724, .iload_n 3, 1)) k_ld16 5 rfl
theorem k_L725 : decode code 725 = .ok (.iconst 3, 1) := k_dlw (x := (725, .iconst 3, 1)) k_ld16 6 rfl
theorem k_L726 : decode code 726 = .ok (.iadd, 1) := k_dlw (x := (726, .iadd, 1)) k_ld16 7 rfl
theorem k_L727 : decode code 727 = .ok (.iaload, 1) := k_dlw (x := (727, .iaload, 1)) k_ld16 8 rfl
theorem k_L728 : decode code 728 = .ok (.aload_n 0, 1) := k_dlw (x := (728, .aload_n 0, 1)) k_ld16 9 rfl
theorem k_L729 : decode code 729 = .ok (.iload_n 3, 1) := k_dlw (x := (729, .iload_n 3, 1)) k_ld16 10 rfl
theorem k_L730 : decode code 730 = .ok (.iconst 4, 1) := k_dlw (x := (730, .iconst 4, 1)) k_ld16 11 rfl
theorem k_L731 : decode code 731 = .ok (.iadd, 1) := k_dlw (x := (731, .iadd, 1)) k_ld16 12 rfl
theorem k_L732 : decode code 732 = .ok (.iaload, 1) := k_dlw (x := (732, .iaload, 1)) k_ld16 13 rfl
theorem k_L733 : decode code 733 = .ok (.aload_n 0, 1) := k_dlw (x := (733, .aload_n 0, 1)) k_ld16 14 rfl
theorem k_L734 : decode code 734 = .ok (.iload_n 3, 1) := k_dlw (x := (734, .iload_n 3, 1)) k_ld16 15 rfl
theorem k_L735 : decode code 735 = .ok (.iconst 5, 1) := k_dlw (x := (735, .iconst 5, 1)) k_ld16 16 rfl
theorem k_L736 : decode code 736 = .ok (.iadd, 1) := k_dlw (x := (736, .iadd, 1)) k_ld16 17 rfl
theorem k_L737 : decode code 737 = .ok (.iaload, 1) := k_dlw (x := (737, .iaload, 1)) k_ld16 18 rfl
theorem k_L738 : decode code 738 = .ok (.aload_n 0, 1) := k_dlw (x := (738, .aload_n 0, 1)) k_ld16 19 rfl
theorem k_L739 : decode code 739 = .ok (.iload_n 3, 1) := k_dlw (x := (739, .iload_n 3, 1)) k_ld16 20 rfl
theorem k_L740 : decode code 740 = .ok (.bipush 6, 2) := k_dlw (x := (740, .bipush 6, 2)) k_ld16 21 rfl
theorem k_L742 : decode code 742 = .ok (.iadd, 1) := k_dlw (x := (742, .iadd, 1)) k_ld16 22 rfl
theorem k_L743 : decode code 743 = .ok (.iaload, 1) := k_dlw (x := (743, .iaload, 1)) k_ld16 23 rfl
theorem k_L744 : decode code 744 = .ok (.invokevirtual 76, 3) := k_dlw (x := (744, .invokevirtual 76, 3)) k_ld16 24 rfl
theorem k_L747 : decode code 747 = .ok (.pop, 1) := k_dlw (x := (747, .pop, 1)) k_ld17 0 rfl
theorem k_L748 : decode code 748 = .ok (.goto 1241, 3) := k_dlw (x := (748, .goto 1241, 3)) k_ld17 1 rfl
theorem k_L751 : decode code 751 = .ok (.aload_n 1, 1) := k_dlw (x := (751, .aload_n 1, 1)) k_ld17 2 rfl
theorem k_L752 : decode code 752 = .ok (.aload_n 0, 1) := k_dlw (x := (752, .aload_n 0, 1)) k_ld17 3 rfl
theorem k_L753 : decode code 753 = .ok (.iload_n 3, 1) := k_dlw (x := (753, .iload_n 3, 1)) k_ld17 4 rfl
theorem k_L754 : decode code 754 = .ok (.iconst 1, 1) := k_dlw (x := (754, .iconst 1, 1)) k_ld17 5 rfl
theorem k_L755 : decode code 755 = .ok (.iadd, 1) := k_dlw (x := (755, .iadd, 1)) k_ld17 6 rfl
theorem k_L756 : decode code 756 = .ok (.iaload, 1) := k_dlw (x := (756, .iaload, 1)) k_ld17 7 rfl
theorem k_L757 : decode code 757 = .ok (.invokevirtual 77, 3) := k_dlw (x := (757, .invokevirtual 77, 3)) k_ld17 8 rfl
theorem k_L760 : decode code 760 = .ok (.pop, 1) := k_dlw (x := (760, .pop, 1)) k_ld17 9 rfl
theorem k_L761 : decode code 761 = .ok (.aload_n 2, 1) := k_dlw (x := (761, .aload_n 2, 1)) k_ld17 10 rfl
theorem k_L762 : decode code 762 = .ok (.aload_n 0, 1) := k_dlw (x := (762, .aload_n 0, 1)) k_ld17 11 rfl
theorem k_L763 : decode code 763 = .ok (.iload_n 3, 1) := k_dlw (x := (763, .iload_n 3, 1)) k_ld17 12 rfl
theorem k_L764 : decode code 764 = .ok (.iconst 1, 1) := k_dlw (x := (764, .iconst 1, 1)) k_ld17 13 rfl
theorem k_L765 : decode code 765 = .ok (.iadd, 1) := k_dlw (x := (765, .iadd, 1)) k_ld17 14 rfl
theorem k_L766 : decode code 766 = .ok (.iaload, 1) := k_dlw (x := (766, .iaload, 1)) k_ld17 15 rfl
theorem k_L767 : decode code 767 = .ok (.invokevirtual 80, 3) := k_dlw (x := (767, .invokevirtual 80, 3)) k_ld17 16 rfl
theorem k_L770 : decode code 770 = .ok (.pop, 1) := k_dlw (x := (770, .pop, 1)) k_ld17 17 rfl
theorem k_L771 : decode code 771 = .ok (.goto 1218, 3) := k_dlw (x := (771, .goto 1218, 3)) k_ld17 18 rfl
theorem k_L774 : decode code 774 = .ok (.aload_n 1, 1) := k_dlw (x := (774, .aload_n 1, 1)) k_ld17 19 rfl
theorem k_L775 : decode code 775 = .ok (.aload_n 0, 1) := k_dlw (x := (775, .aload_n 0, 1)) k_ld17 20 rfl
theorem k_L776 : decode code 776 = .ok (.iload_n 3, 1) := k_dlw (x := (776, .iload_n 3, 1)) k_ld17 21 rfl
theorem k_L777 : decode code 777 = .ok (.iconst 1, 1) := k_dlw (x := (777, .iconst 1, 1)) k_ld17 22 rfl
theorem k_L778 : decode code 778 = .ok (.iadd, 1) := k_dlw (x := (778, .iadd, 1)) k_ld17 23 rfl
theorem k_L779 : decode code 779 = .ok (.iaload, 1) := k_dlw (x := (779, .iaload, 1)) k_ld17 24 rfl
theorem k_L780 : decode code 780 = .ok (.aload_n 0, 1) := k_dlw (x := (780, .aload_n 0, 1)) k_ld18 0 rfl
theorem k_L781 : decode code 781 = .ok (.iload_n 3, 1) := k_dlw (x := (781, .iload_n 3, 1)) k_ld18 1 rfl
theorem k_L782 : decode code 782 = .ok (.iconst 2, 1) := k_dlw (x := (782, .iconst 2, 1)) k_ld18 2 rfl
theorem k_L783 : decode code 783 = .ok (.iadd, 1) := k_dlw (x := (783, .iadd, 1)) k_ld18 3 rfl
theorem k_L784 : decode code 784 = .ok (.iaload, 1) := k_dlw (x := (784, .iaload, 1)) k_ld18 4 rfl
theorem k_L785 : decode code 785 = .ok (.invokevirtual 81, 3) := k_dlw (x := (785, .invokevirtual 81, 3)) k_ld18 5 rfl
theorem k_L788 : decode code 788 = .ok (.pop, 1) := k_dlw (x := (788, .pop, 1)) k_ld18 6 rfl
theorem k_L789 : decode code 789 = .ok (.aload_n 2, 1) := k_dlw (x := (789, .aload_n 2, 1)) k_ld18 7 rfl
theorem k_L790 : decode code 790 = .ok (.aload_n 0, 1) := k_dlw (x := (790, .aload_n 0, 1)) k_ld18 8 rfl
theorem k_L791 : decode code 791 = .ok (.iload_n 3, 1) := k_dlw (x := (791, .iload_n 3, 1)) k_ld18 9 rfl
theorem k_L792 : decode code 792 = .ok (.iconst 1, 1) := k_dlw (x := (792, .iconst 1, 1)) k_ld18 10 rfl
theorem k_L793 : decode code 793 = .ok (.iadd, 1) := k_dlw (x := (793, .iadd, 1)) k_ld18 11 rfl
theorem k_L794 : decode code 794 = .ok (.iaload, 1) := k_dlw (x := (794, .iaload, 1)) k_ld18 12 rfl
theorem k_L795 : decode code 795 = .ok (.aload_n 0, 1) := k_dlw (x := (795, .aload_n 0, 1)) k_ld18 13 rfl
theorem k_L796 : decode code 796 = .ok (.iload_n 3, 1) := k_dlw (x := (796, .iload_n 3, 1)) k_ld18 14 rfl
theorem k_L797 : decode code 797 = .ok (.iconst 2, 1) := k_dlw (x := (797, .iconst 2, 1)) k_ld18 15 rfl
theorem k_L798 : decode code 798 = .ok (.iadd, 1) := k_dlw (x := (798, .iadd, 1)) k_ld18 16 rfl
theorem k_L799 : decode code 799 = .ok (.iaload, 1) := k_dlw (x := (799, .iaload, 1)) k_ld18 17 rfl
theorem k_L800 : decode code 800 = .ok (.invokevirtual 84, 3) := k_dlw (x := (800, .invokevirtual 84, 3)) k_ld18 18 rfl
theorem k_L803 : decode code 803 = .ok (.pop, 1) := k_dlw (x := (803, .pop, 1)) k_ld18 19 rfl
theorem k_L804 : decode code 804 = .ok (.goto 1185, 3) := k_dlw (x := (804, .goto 1185, 3)) k_ld18 20 rfl
theorem k_L807 : decode code 807 = .ok (.aload_n 1, 1) := k_dlw (x := (807, .aload_n 1, 1)) k_ld18 21 rfl
theorem k_L808 : decode code 808 = .ok (.aload_n 0, 1) := k_dlw (x := (808, .aload_n 0, 1)) k_ld18 22 rfl
theorem k_L809 : decode code 809 = .ok (.iload_n 3, 1) := k_dlw (x := (809, .iload_n 3, 1)) k_ld18 23 rfl
theorem k_L810 : decode code 810 = .ok (.iconst 1, 1) := k_dlw (x := (810, .iconst 1, 1)) k_ld18 24 rfl
theorem k_L811 : decode code 811 = .ok (.iadd, 1) := k_dlw (x := (811, .iadd, 1)) k_ld19 0 rfl
theorem k_L812 : decode code 812 = .ok (.iaload, 1) := k_dlw (x := (812, .iaload, 1)) k_ld19 1 rfl
theorem k_L813 : decode code 813 = .ok (.aload_n 0, 1) := k_dlw (x := (813, .aload_n 0, 1)) k_ld19 2 rfl
theorem k_L814 : decode code 814 = .ok (.iload_n 3, 1) := k_dlw (x := (814, .iload_n 3, 1)) k_ld19 3 rfl
theorem k_L815 : decode code 815 = .ok (.iconst 2, 1) := k_dlw (x := (815, .iconst 2, 1)) k_ld19 4 rfl
theorem k_L816 : decode code 816 = .ok (.iadd, 1) := k_dlw (x := (816, .iadd, 1)) k_ld19 5 rfl
theorem k_L817 : decode code 817 = .ok (.iaload, 1) := k_dlw (x := (817, .iaload, 1)) k_ld19 6 rfl
theorem k_L818 : decode code 818 = .ok (.ifCond .eq 7, 3) := k_dlw (x := (818, .ifCond .eq 7, 3)) k_ld19 7 rfl
theorem k_L821 : decode code 821 = .ok (.iconst 1, 1) := k_dlw (x := (821, .iconst 1, 1)) k_ld19 8 rfl
theorem k_L822 : decode code 822 = .ok (.goto 4, 3) := k_dlw (x := (822, .goto 4, 3)) k_ld19 9 rfl
theorem k_L825 : decode code 825 = .ok (.iconst 0, 1) := k_dlw (x := (825, .iconst 0, 1)) k_ld19 10 rfl
theorem k_L826 : decode code 826 = .ok (.aload_n 0, 1) := k_dlw (x := (826, .aload_n 0, 1)) k_ld19 11 rfl
theorem k_L827 : decode code 827 = .ok (.iload_n 3, 1) := k_dlw (x := (827, .iload_n 3, 1)) k_ld19 12 rfl
theorem k_L828 : decode code 828 = .ok (.iconst 3, 1) := k_dlw (x := (828, .iconst 3, 1)) k_ld19 13 rfl
theorem k_L829 : decode code 829 = .ok (.iadd, 1) := k_dlw (x := (829, .iadd, 1)) k_ld19 14 rfl
theorem k_L830 : decode code 830 = .ok (.iaload, 1) := k_dlw (x := (830, .iaload, 1)) k_ld19 15 rfl
theorem k_L831 : decode code 831 = .ok (.invokevirtual 85, 3) := k_dlw (x := (831, .invokevirtual 85, 3)) k_ld19 16 rfl
theorem k_L834 : decode code 834 = .ok (.pop, 1) := k_dlw (x := (834, .pop, 1)) k_ld19 17 rfl
theorem k_L835 : decode code 835 = .ok (.aload_n 2, 1) := k_dlw (x := (835, .aload_n 2, 1)) k_ld19 18 rfl
theorem k_L836 : decode code 836 = .ok (.aload_n 0, 1) := k_dlw (x := (836, .aload_n 0, 1)) k_ld19 19 rfl
theorem k_L837 : decode code 837 = .ok (.iload_n 3, 1) := k_dlw (x := (837, .iload_n 3, 1)) k_ld19 20 rfl
theorem k_L838 : decode code 838 = .ok (.iconst 1, 1) := k_dlw (x := (838, .iconst 1, 1)) k_ld19 21 rfl
theorem k_L839 : decode code 839 = .ok (.iadd, 1) := k_dlw (x := (839, .iadd, 1)) k_ld19 22 rfl
theorem k_L840 : decode code 840 = .ok (.iaload, 1) := k_dlw (x := (840, .iaload, 1)) k_ld19 23 rfl
theorem k_L841 : decode code 841 = .ok (.aload_n 0, 1) := k_dlw (x := (841, .aload_n 0, 1)) k_ld19 24 rfl
theorem k_L842 : decode code 842 = .ok (.iload_n 3, 1) := k_dlw (x := (842, .iload_n 3, 1)) k_ld20 0 rfl
theorem k_L843 : decode code 843 = .ok (.iconst 2, 1) := k_dlw (x := (843, .iconst 2, 1)) k_ld20 1 rfl
theorem k_L844 : decode code 844 = .ok (.iadd, 1) := k_dlw (x := (844, .iadd, 1)) k_ld20 2 rfl
theorem k_L845 : decode code 845 = .ok (.iaload, 1) := k_dlw (x := (845, .iaload, 1)) k_ld20 3 rfl
theorem k_L846 : decode code 846 = .ok (.ifCond .eq 7, 3) := k_dlw (x := (846, .ifCond .eq 7, 3)) k_ld20 4 rfl
theorem k_L849 : decode code 849 = .ok (.iconst 1, 1) := k_dlw (x := (849, .iconst 1, 1)) k_ld20 5 rfl
theorem k_L850 : decode code 850 = .ok (.goto 4, 3) := k_dlw (x := (850, .goto 4, 3)) k_ld20 6 rfl
theorem k_L853 : decode code 853 = .ok (.iconst 0, 1) := k_dlw (x := (853, .iconst 0, 1)) k_ld20 7 rfl
theorem k_L854 : decode code 854 = .ok (.aload_n 0, 1) := k_dlw (x := (854, .aload_n 0, 1)) k_ld20 8 rfl
theorem k_L855 : decode code 855 = .ok (.iload_n 3, 1) := k_dlw (x := (855, .iload_n 3, 1)) k_ld20 9 rfl
theorem k_L856 : decode code 856 = .ok (.iconst 3, 1) := k_dlw (x := (856, .iconst 3, 1)) k_ld20 10 rfl
theorem k_L857 : decode code 857 = .ok (.iadd, 1) := k_dlw (x := (857, .iadd, 1)) k_ld20 11 rfl
theorem k_L858 : decode code 858 = .ok (.iaload, 1) := k_dlw (x := (858, .iaload, 1)) k_ld20 12 rfl
theorem k_L859 : decode code 859 = .ok (.invokevirtual 89, 3) := k_dlw (x := (859, .invokevirtual 89, 3)) k_ld20 13 rfl
theorem k_L862 : decode code 862 = .ok (.pop, 1) := k_dlw (x := (862, .pop, 1)) k_ld20 14 rfl
theorem k_L863 : decode code 863 = .ok (.goto 1126, 3) := k_dlw (x := (863, .goto 1126, 3)) k_ld20 15 rfl
theorem k_L866 : decode code 866 = .ok (.aload_n 1, 1) := k_dlw (x := (866, .aload_n 1, 1)) k_ld20 16 rfl
theorem k_L867 : decode code 867 = .ok (.aload_n 0, 1) := k_dlw (x := (867, .aload_n 0, 1)) k_ld20 17 rfl
theorem k_L868 : decode code 868 = .ok (.iload_n 3, 1) := k_dlw (x := (868, .iload_n 3, 1)) k_ld20 18 rfl
theorem k_L869 : decode code 869 = .ok (.iconst 1, 1) := k_dlw (x := (869, .iconst 1, 1)) k_ld20 19 rfl
theorem k_L870 : decode code 870 = .ok (.iadd, 1) := k_dlw (x := (870, .iadd, 1)) k_ld20 20 rfl
theorem k_L871 : decode code 871 = .ok (.iaload, 1) := k_dlw (x := (871, .iaload, 1)) k_ld20 21 rfl
theorem k_L872 : decode code 872 = .ok (.invokevirtual 90, 3) := k_dlw (x := (872, .invokevirtual 90, 3)) k_ld20 22 rfl
theorem k_L875 : decode code 875 = .ok (.pop, 1) := k_dlw (x := (875, .pop, 1)) k_ld20 23 rfl
theorem k_L876 : decode code 876 = .ok (.aload_n 2, 1) := k_dlw (x := (876, .aload_n 2, 1)) k_ld20 24 rfl
theorem k_L877 : decode code 877 = .ok (.aload_n 0, 1) := k_dlw (x := (877, .aload_n 0, 1)) k_ld21 0 rfl
theorem k_L878 : decode code 878 = .ok (.iload_n 3, 1) := k_dlw (x := (878, .iload_n 3, 1)) k_ld21 1 rfl
theorem k_L879 : decode code 879 = .ok (.iconst 1, 1) := k_dlw (x := (879, .iconst 1, 1)) k_ld21 2 rfl
theorem k_L880 : decode code 880 = .ok (.iadd, 1) := k_dlw (x := (880, .iadd, 1)) k_ld21 3 rfl
theorem k_L881 : decode code 881 = .ok (.iaload, 1) := k_dlw (x := (881, .iaload, 1)) k_ld21 4 rfl
theorem k_L882 : decode code 882 = .ok (.invokevirtual 94, 3) := k_dlw (x := (882, .invokevirtual 94, 3)) k_ld21 5 rfl
theorem k_L885 : decode code 885 = .ok (.pop, 1) := k_dlw (x := (885, .pop, 1)) k_ld21 6 rfl
theorem k_L886 : decode code 886 = .ok (.goto 1103, 3) := k_dlw (x := (886, .goto 1103, 3)) k_ld21 7 rfl
theorem k_L889 : decode code 889 = .ok (.aload_n 1, 1) := k_dlw (x := (889, .aload_n 1, 1)) k_ld21 8 rfl
theorem k_L890 : decode code 890 = .ok (.aload_n 0, 1) := k_dlw (x := (890, .aload_n 0, 1)) k_ld21 9 rfl
theorem k_L891 : decode code 891 = .ok (.iload_n 3, 1) := k_dlw (x := (891, .iload_n 3, 1)) k_ld21 10 rfl
theorem k_L892 : decode code 892 = .ok (.iconst 1, 1) := k_dlw (x := (892, .iconst 1, 1)) k_ld21 11 rfl
theorem k_L893 : decode code 893 = .ok (.iadd, 1) := k_dlw (x := (893, .iadd, 1)) k_ld21 12 rfl
theorem k_L894 : decode code 894 = .ok (.iaload, 1) := k_dlw (x := (894, .iaload, 1)) k_ld21 13 rfl
theorem k_L895 : decode code 895 = .ok (.aload_n 0, 1) := k_dlw (x := (895, .aload_n 0, 1)) k_ld21 14 rfl
theorem k_L896 : decode code 896 = .ok (.iload_n 3, 1) := k_dlw (x := (896, .iload_n 3, 1)) k_ld21 15 rfl
theorem k_L897 : decode code 897 = .ok (.iconst 2, 1) := k_dlw (x := (897, .iconst 2, 1)) k_ld21 16 rfl
theorem k_L898 : decode code 898 = .ok (.iadd, 1) := k_dlw (x := (898, .iadd, 1)) k_ld21 17 rfl
theorem k_L899 : decode code 899 = .ok (.iaload, 1) := k_dlw (x := (899, .iaload, 1)) k_ld21 18 rfl
theorem k_L900 : decode code 900 = .ok (.invokevirtual 95, 3) := k_dlw (x := (900, .invokevirtual 95, 3)) k_ld21 19 rfl
theorem k_L903 : decode code 903 = .ok (.pop, 1) := k_dlw (x := (903, .pop, 1)) k_ld21 20 rfl
theorem k_L904 : decode code 904 = .ok (.aload_n 2, 1) := k_dlw (x := (904, .aload_n 2, 1)) k_ld21 21 rfl
theorem k_L905 : decode code 905 = .ok (.aload_n 0, 1) := k_dlw (x := (905, .aload_n 0, 1)) k_ld21 22 rfl
theorem k_L906 : decode code 906 = .ok (.iload_n 3, 1) := k_dlw (x := (906, .iload_n 3, 1)) k_ld21 23 rfl
theorem k_L907 : decode code 907 = .ok (.iconst 1, 1) := k_dlw (x := (907, .iconst 1, 1)) k_ld21 24 rfl
theorem k_L908 : decode code 908 = .ok (.iadd, 1) := k_dlw (x := (908, .iadd, 1)) k_ld22 0 rfl
theorem k_L909 : decode code 909 = .ok (.iaload, 1) := k_dlw (x := (909, .iaload, 1)) k_ld22 1 rfl
theorem k_L910 : decode code 910 = .ok (.aload_n 0, 1) := k_dlw (x := (910, .aload_n 0, 1)) k_ld22 2 rfl
theorem k_L911 : decode code 911 = .ok (.iload_n 3, 1) := k_dlw (x := (911, .iload_n 3, 1)) k_ld22 3 rfl
theorem k_L912 : decode code 912 = .ok (.iconst 2, 1) := k_dlw (x := (912, .iconst 2, 1)) k_ld22 4 rfl
theorem k_L913 : decode code 913 = .ok (.iadd, 1) := k_dlw (x := (913, .iadd, 1)) k_ld22 5 rfl
theorem k_L914 : decode code 914 = .ok (.iaload, 1) := k_dlw (x := (914, .iaload, 1)) k_ld22 6 rfl
theorem k_L915 : decode code 915 = .ok (.invokevirtual 99, 3) := k_dlw (x := (915, .invokevirtual 99, 3)) k_ld22 7 rfl
theorem k_L918 : decode code 918 = .ok (.pop, 1) := k_dlw (x := (918, .pop, 1)) k_ld22 8 rfl
theorem k_L919 : decode code 919 = .ok (.goto 1070, 3) := k_dlw (x := (919, .goto 1070, 3)) k_ld22 9 rfl
theorem k_L922 : decode code 922 = .ok (.aload_n 1, 1) := k_dlw (x := (922, .aload_n 1, 1)) k_ld22 10 rfl
theorem k_L923 : decode code 923 = .ok (.aload_n 0, 1) := k_dlw (x := (923, .aload_n 0, 1)) k_ld22 11 rfl
theorem k_L924 : decode code 924 = .ok (.iload_n 3, 1) := k_dlw (x := (924, .iload_n 3, 1)) k_ld22 12 rfl
theorem k_L925 : decode code 925 = .ok (.iconst 1, 1) := k_dlw (x := (925, .iconst 1, 1)) k_ld22 13 rfl
theorem k_L926 : decode code 926 = .ok (.iadd, 1) := k_dlw (x := (926, .iadd, 1)) k_ld22 14 rfl
theorem k_L927 : decode code 927 = .ok (.iaload, 1) := k_dlw (x := (927, .iaload, 1)) k_ld22 15 rfl
theorem k_L928 : decode code 928 = .ok (.aload_n 0, 1) := k_dlw (x := (928, .aload_n 0, 1)) k_ld22 16 rfl
theorem k_L929 : decode code 929 = .ok (.iload_n 3, 1) := k_dlw (x := (929, .iload_n 3, 1)) k_ld22 17 rfl
theorem k_L930 : decode code 930 = .ok (.iconst 2, 1) := k_dlw (x := (930, .iconst 2, 1)) k_ld22 18 rfl
theorem k_L931 : decode code 931 = .ok (.iadd, 1) := k_dlw (x := (931, .iadd, 1)) k_ld22 19 rfl
theorem k_L932 : decode code 932 = .ok (.iaload, 1) := k_dlw (x := (932, .iaload, 1)) k_ld22 20 rfl
theorem k_L933 : decode code 933 = .ok (.aload_n 0, 1) := k_dlw (x := (933, .aload_n 0, 1)) k_ld22 21 rfl
theorem k_L934 : decode code 934 = .ok (.iload_n 3, 1) := k_dlw (x := (934, .iload_n 3, 1)) k_ld22 22 rfl
theorem k_L935 : decode code 935 = .ok (.iconst 3, 1) := k_dlw (x := (935, .iconst 3, 1)) k_ld22 23 rfl
theorem k_L936 : decode code 936 = .ok (.iadd, 1) := k_dlw (x := (936, .iadd, 1)) k_ld22 24 rfl
theorem k_L937 : decode code 937 = .ok (.iaload, 1) := k_dlw (x := (937, .iaload, 1)) k_ld23 0 rfl
theorem k_L938 : decode code 938 = .ok (.aload_n 0, 1) := k_dlw (x := (938, .aload_n 0, 1)) k_ld23 1 rfl
theorem k_L939 : decode code 939 = .ok (.iload_n 3, 1) := k_dlw (x := (939, .iload_n 3, 1)) k_ld23 2 rfl
theorem k_L940 : decode code 940 = .ok (.iconst 4, 1) := k_dlw (x := (940, .iconst 4, 1)) k_ld23 3 rfl
theorem k_L941 : decode code 941 = .ok (.iadd, 1) := k_dlw (x := (941, .iadd, 1)) k_ld23 4 rfl
theorem k_L942 : decode code 942 = .ok (.iaload, 1) := k_dlw (x := (942, .iaload, 1)) k_ld23 5 rfl
theorem k_L943 : decode code 943 = .ok (.invokevirtual 100, 3) := k_dlw (x := (943, .invokevirtual 100, 3)) k_ld23 6 rfl
theorem k_L946 : decode code 946 = .ok (.pop, 1) := k_dlw (x := (946, .pop, 1)) k_ld23 7 rfl
theorem k_L947 : decode code 947 = .ok (.aload_n 2, 1) := k_dlw (x := (947, .aload_n 2, 1)) k_ld23 8 rfl
theorem k_L948 : decode code 948 = .ok (.aload_n 0, 1) := k_dlw (x := (948, .aload_n 0, 1)) k_ld23 9 rfl
theorem k_L949 : decode code 949 = .ok (.iload_n 3, 1) := k_dlw (x := (949, .iload_n 3, 1)) k_ld23 10 rfl
theorem k_L950 : decode code 950 = .ok (.iconst 1, 1) := k_dlw (x := (950, .iconst 1, 1)) k_ld23 11 rfl
theorem k_L951 : decode code 951 = .ok (.iadd, 1) := k_dlw (x := (951, .iadd, 1)) k_ld23 12 rfl
theorem k_L952 : decode code 952 = .ok (.iaload, 1) := k_dlw (x := (952, .iaload, 1)) k_ld23 13 rfl
theorem k_L953 : decode code 953 = .ok (.aload_n 0, 1) := k_dlw (x := (953, .aload_n 0, 1)) k_ld23 14 rfl
theorem k_L954 : decode code 954 = .ok (.iload_n 3, 1) := k_dlw (x := (954, .iload_n 3, 1)) k_ld23 15 rfl
theorem k_L955 : decode code 955 = .ok (.iconst 2, 1) := k_dlw (x := (955, .iconst 2, 1)) k_ld23 16 rfl
theorem k_L956 : decode code 956 = .ok (.iadd, 1) := k_dlw (x := (956, .iadd, 1)) k_ld23 17 rfl
theorem k_L957 : decode code 957 = .ok (.iaload, 1) := k_dlw (x := (957, .iaload, 1)) k_ld23 18 rfl
theorem k_L958 : decode code 958 = .ok (.aload_n 0, 1) := k_dlw (x := (958, .aload_n 0, 1)) k_ld23 19 rfl
theorem k_L959 : decode code 959 = .ok (.iload_n 3, 1) := k_dlw (x := (959, .iload_n 3, 1)) k_ld23 20 rfl
theorem k_L960 : decode code 960 = .ok (.iconst 3, 1) := k_dlw (x := (960, .iconst 3, 1)) k_ld23 21 rfl
theorem k_L961 : decode code 961 = .ok (.iadd, 1) := k_dlw (x := (961, .iadd, 1)) k_ld23 22 rfl
theorem k_L962 : decode code 962 = .ok (.iaload, 1) := k_dlw (x := (962, .iaload, 1)) k_ld23 23 rfl
theorem k_L963 : decode code 963 = .ok (.aload_n 0, 1) := k_dlw (x := (963, .aload_n 0, 1)) k_ld23 24 rfl
theorem k_L964 : decode code 964 = .ok (.iload_n 3, 1) := k_dlw (x := (964, .iload_n 3, 1)) k_ld24 0 rfl
theorem k_L965 : decode code 965 = .ok (.iconst 4, 1) := k_dlw (x := (965, .iconst 4, 1)) k_ld24 1 rfl
theorem k_L966 : decode code 966 = .ok (.iadd, 1) := k_dlw (x := (966, .iadd, 1)) k_ld24 2 rfl
theorem k_L967 : decode code 967 = .ok (.iaload, 1) := k_dlw (x := (967, .iaload, 1)) k_ld24 3 rfl
theorem k_L968 : decode code 968 = .ok (.invokevirtual 104, 3) := k_dlw (x := (968, .invokevirtual 104, 3)) k_ld24 4 rfl
theorem k_L971 : decode code 971 = .ok (.pop, 1) := k_dlw (x := (971, .pop, 1)) k_ld24 5 rfl
theorem k_L972 : decode code 972 = .ok (.goto 1017, 3) := k_dlw (x := (972, .goto 1017, 3)) k_ld24 6 rfl
theorem k_L975 : decode code 975 = .ok (.aload_n 1, 1) := k_dlw (x := (975, .aload_n 1, 1)) k_ld24 7 rfl
theorem k_L976 : decode code 976 = .ok (.aload_n 0, 1) := k_dlw (x := (976, .aload_n 0, 1)) k_ld24 8 rfl
theorem k_L977 : decode code 977 = .ok (.iload_n 3, 1) := k_dlw (x := (977, .iload_n 3, 1)) k_ld24 9 rfl
theorem k_L978 : decode code 978 = .ok (.iconst 1, 1) := k_dlw (x := (978, .iconst 1, 1)) k_ld24 10 rfl
theorem k_L979 : decode code 979 = .ok (.iadd, 1) := k_dlw (x := (979, .iadd, 1)) k_ld24 11 rfl
theorem k_L980 : decode code 980 = .ok (.iaload, 1) := k_dlw (x := (980, .iaload, 1)) k_ld24 12 rfl
theorem k_L981 : decode code 981 = .ok (.ifCond .eq 7, 3) := k_dlw (x := (981, .ifCond .eq 7, 3)) k_ld24 13 rfl
theorem k_L984 : decode code 984 = .ok (.iconst 1, 1) := k_dlw (x := (984, .iconst 1, 1)) k_ld24 14 rfl
theorem k_L985 : decode code 985 = .ok (.goto 4, 3) := k_dlw (x := (985, .goto 4, 3)) k_ld24 15 rfl
theorem k_L988 : decode code 988 = .ok (.iconst 0, 1) := k_dlw (x := (988, .iconst 0, 1)) k_ld24 16 rfl
theorem k_L989 : decode code 989 = .ok (.invokevirtual 105, 3) := k_dlw (x := (989, .invokevirtual 105, 3)) k_ld24 17 rfl
theorem k_L992 : decode code 992 = .ok (.pop, 1) := k_dlw (x := (992, .pop, 1)) k_ld24 18 rfl
theorem k_L993 : decode code 993 = .ok (.aload_n 2, 1) := k_dlw (x := (993, .aload_n 2, 1)) k_ld24 19 rfl
theorem k_L994 : decode code 994 = .ok (.aload_n 0, 1) := k_dlw (x := (994, .aload_n 0, 1)) k_ld24 20 rfl
theorem k_L995 : decode code 995 = .ok (.iload_n 3, 1) := k_dlw (x := (995, .iload_n 3, 1)) k_ld24 21 rfl
theorem k_L996 : decode code 996 = .ok (.iconst 1, 1) := k_dlw (x := (996, .iconst 1, 1)) k_ld24 22 rfl
theorem k_L997 : decode code 997 = .ok (.iadd, 1) := k_dlw (x := (997, .iadd, 1)) k_ld24 23 rfl
theorem k_L998 : decode code 998 = .ok (.iaload, 1) := k_dlw (x := (998, .iaload, 1)) k_ld24 24 rfl
theorem k_L999 : decode code 999 = .ok (.ifCond .eq 7, 3) := k_dlw (x := (999, .ifCond .eq 7, 3)) k_ld25 0 rfl
theorem k_L1002 : decode code 1002 = .ok (.iconst 1, 1) := k_dlw (x := (1002, .iconst 1, 1)) k_ld25 1 rfl
theorem k_L1003 : decode code 1003 = .ok (.goto 4, 3) := k_dlw (x := (1003, .goto 4, 3)) k_ld25 2 rfl
theorem k_L1006 : decode code 1006 = .ok (.iconst 0, 1) := k_dlw (x := (1006, .iconst 0, 1)) k_ld25 3 rfl
theorem k_L1007 : decode code 1007 = .ok (.invokevirtual 109, 3) := k_dlw (x := (1007, .invokevirtual 109, 3)) k_ld25 4 rfl
theorem k_L1010 : decode code 1010 = .ok (.pop, 1) := k_dlw (x := (1010, .pop, 1)) k_ld25 5 rfl
theorem k_L1011 : decode code 1011 = .ok (.goto 978, 3) := k_dlw (x := (1011, .goto 978, 3)) k_ld25 6 rfl
theorem k_L1014 : decode code 1014 = .ok (.aload_n 1, 1) := k_dlw (x := (1014, .aload_n 1, 1)) k_ld25 7 rfl
theorem k_L1015 : decode code 1015 = .ok (.aload_n 0, 1) := k_dlw (x := (1015, .aload_n 0, 1)) k_ld25 8 rfl
theorem k_L1016 : decode code 1016 = .ok (.iload_n 3, 1) := k_dlw (x := (1016, .iload_n 3, 1)) k_ld25 9 rfl
theorem k_L1017 : decode code 1017 = .ok (.iconst 1, 1) := k_dlw (x := (1017, .iconst 1, 1)) k_ld25 10 rfl
theorem k_L1018 : decode code 1018 = .ok (.iadd, 1) := k_dlw (x := (1018, .iadd, 1)) k_ld25 11 rfl
theorem k_L1019 : decode code 1019 = .ok (.iaload, 1) := k_dlw (x := (1019, .iaload, 1)) k_ld25 12 rfl
theorem k_L1020 : decode code 1020 = .ok (.invokevirtual 110, 3) := k_dlw (x := (1020, .invokevirtual 110, 3)) k_ld25 13 rfl
theorem k_L1023 : decode code 1023 = .ok (.pop, 1) := k_dlw (x := (1023, .pop, 1)) k_ld25 14 rfl
theorem k_L1024 : decode code 1024 = .ok (.aload_n 2, 1) := k_dlw (x := (1024, .aload_n 2, 1)) k_ld25 15 rfl
theorem k_L1025 : decode code 1025 = .ok (.aload_n 0, 1) := k_dlw (x := (1025, .aload_n 0, 1)) k_ld25 16 rfl
theorem k_L1026 : decode code 1026 = .ok (.iload_n 3, 1) := k_dlw (x := (1026, .iload_n 3, 1)) k_ld25 17 rfl
theorem k_L1027 : decode code 1027 = .ok (.iconst 1, 1) := k_dlw (x := (1027, .iconst 1, 1)) k_ld25 18 rfl
theorem k_L1028 : decode code 1028 = .ok (.iadd, 1) := k_dlw (x := (1028, .iadd, 1)) k_ld25 19 rfl
theorem k_L1029 : decode code 1029 = .ok (.iaload, 1) := k_dlw (x := (1029, .iaload, 1)) k_ld25 20 rfl
theorem k_L1030 : decode code 1030 = .ok (.invokevirtual 113, 3) := k_dlw (x := (1030, .invokevirtual 113, 3)) k_ld25 21 rfl
theorem k_L1033 : decode code 1033 = .ok (.pop, 1) := k_dlw (x := (1033, .pop, 1)) k_ld25 22 rfl
theorem k_L1034 : decode code 1034 = .ok (.goto 955, 3) := k_dlw (x := (1034, .goto 955, 3)) k_ld25 23 rfl
theorem k_L1037 : decode code 1037 = .ok (.aload_n 1, 1) := k_dlw (x := (1037, .aload_n 1, 1)) k_ld25 24 rfl
theorem k_L1038 : decode code 1038 = .ok (.aload_n 0, 1) := k_dlw (x := (1038, .aload_n 0, 1)) k_ld26 0 rfl
theorem k_L1039 : decode code 1039 = .ok (.iload_n 3, 1) := k_dlw (x := (1039, .iload_n 3, 1)) k_ld26 1 rfl
theorem k_L1040 : decode code 1040 = .ok (.iconst 1, 1) := k_dlw (x := (1040, .iconst 1, 1)) k_ld26 2 rfl
theorem k_L1041 : decode code 1041 = .ok (.iadd, 1) := k_dlw (x := (1041, .iadd, 1)) k_ld26 3 rfl
theorem k_L1042 : decode code 1042 = .ok (.iaload, 1) := k_dlw (x := (1042, .iaload, 1)) k_ld26 4 rfl
theorem k_L1043 : decode code 1043 = .ok (.aload_n 0, 1) := k_dlw (x := (1043, .aload_n 0, 1)) k_ld26 5 rfl
theorem k_L1044 : decode code 1044 = .ok (.iload_n 3, 1) := k_dlw (x := (1044, .iload_n 3, 1)) k_ld26 6 rfl
theorem k_L1045 : decode code 1045 = .ok (.iconst 2, 1) := k_dlw (x := (1045, .iconst 2, 1)) k_ld26 7 rfl
theorem k_L1046 : decode code 1046 = .ok (.iadd, 1) := k_dlw (x := (1046, .iadd, 1)) k_ld26 8 rfl
theorem k_L1047 : decode code 1047 = .ok (.iaload, 1) := k_dlw (x := (1047, .iaload, 1)) k_ld26 9 rfl
theorem k_L1048 : decode code 1048 = .ok (.aload_n 0, 1) := k_dlw (x := (1048, .aload_n 0, 1)) k_ld26 10 rfl
theorem k_L1049 : decode code 1049 = .ok (.iload_n 3, 1) := k_dlw (x := (1049, .iload_n 3, 1)) k_ld26 11 rfl
theorem k_L1050 : decode code 1050 = .ok (.iconst 3, 1) := k_dlw (x := (1050, .iconst 3, 1)) k_ld26 12 rfl
theorem k_L1051 : decode code 1051 = .ok (.iadd, 1) := k_dlw (x := (1051, .iadd, 1)) k_ld26 13 rfl
theorem k_L1052 : decode code 1052 = .ok (.iaload, 1) := k_dlw (x := (1052, .iaload, 1)) k_ld26 14 rfl
theorem k_L1053 : decode code 1053 = .ok (.invokevirtual 114, 3) := k_dlw (x := (1053, .invokevirtual 114, 3)) k_ld26 15 rfl
theorem k_L1056 : decode code 1056 = .ok (.pop, 1) := k_dlw (x := (1056, .pop, 1)) k_ld26 16 rfl
theorem k_L1057 : decode code 1057 = .ok (.aload_n 2, 1) := k_dlw (x := (1057, .aload_n 2, 1)) k_ld26 17 rfl
theorem k_L1058 : decode code 1058 = .ok (.aload_n 0, 1) := k_dlw (x := (1058, .aload_n 0, 1)) k_ld26 18 rfl
theorem k_L1059 : decode code 1059 = .ok (.iload_n 3, 1) := k_dlw (x := (1059, .iload_n 3, 1)) k_ld26 19 rfl
theorem k_L1060 : decode code 1060 = .ok (.iconst 1, 1) := k_dlw (x := (1060, .iconst 1, 1)) k_ld26 20 rfl
theorem k_L1061 : decode code 1061 = .ok (.iadd, 1) := k_dlw (x := (1061, .iadd, 1)) k_ld26 21 rfl
theorem k_L1062 : decode code 1062 = .ok (.iaload, 1) := k_dlw (x := (1062, .iaload, 1)) k_ld26 22 rfl
theorem k_L1063 : decode code 1063 = .ok (.aload_n 0, 1) := k_dlw (x := (1063, .aload_n 0, 1)) k_ld26 23 rfl
theorem k_L1064 : decode code 1064 = .ok (.iload_n 3, 1) := k_dlw (x := (1064, .iload_n 3, 1)) k_ld26 24 rfl
theorem k_L1065 : decode code 1065 = .ok (.iconst 2, 1) := k_dlw (x := (1065, .iconst 2, 1)) k_ld27 0 rfl
theorem k_L1066 : decode code 1066 = .ok (.iadd, 1) := k_dlw (x := (1066, .iadd, 1)) k_ld27 1 rfl
theorem k_L1067 : decode code 1067 = .ok (.iaload, 1) := k_dlw (x := (1067, .iaload, 1)) k_ld27 2 rfl
theorem k_L1068 : decode code 1068 = .ok (.aload_n 0, 1) := k_dlw (x := (1068, .aload_n 0, 1)) k_ld27 3 rfl
theorem k_L1069 : decode code 1069 = .ok (.iload_n 3, 1) := k_dlw (x := (1069, .iload_n 3, 1)) k_ld27 4 rfl
theorem k_L1070 : decode code 1070 = .ok (.iconst 3, 1) := k_dlw (x := (1070, .iconst 3, 1)) k_ld27 5 rfl
theorem k_L1071 : decode code 1071 = .ok (.iadd, 1) := k_dlw (x := (1071, .iadd, 1)) k_ld27 6 rfl
theorem k_L1072 : decode code 1072 = .ok (.iaload, 1) := k_dlw (x := (1072, .iaload, 1)) k_ld27 7 rfl
theorem k_L1073 : decode code 1073 = .ok (.invokevirtual 118, 3) := k_dlw (x := (1073, .invokevirtual 118, 3)) k_ld27 8 rfl
theorem k_L1076 : decode code 1076 = .ok (.pop, 1) := k_dlw (x := (1076, .pop, 1)) k_ld27 9 rfl
theorem k_L1077 : decode code 1077 = .ok (.goto 912, 3) := k_dlw (x := (1077, .goto 912, 3)) k_ld27 10 rfl
theorem k_L1080 : decode code 1080 = .ok (.aload_n 1, 1) := k_dlw (x := (1080, .aload_n 1, 1)) k_ld27 11 rfl
theorem k_L1081 : decode code 1081 = .ok (.aload_n 0, 1) := k_dlw (x := (1081, .aload_n 0, 1)) k_ld27 12 rfl
theorem k_L1082 : decode code 1082 = .ok (.iload_n 3, 1) := k_dlw (x := (1082, .iload_n 3, 1)) k_ld27 13 rfl
theorem k_L1083 : decode code 1083 = .ok (.iconst 1, 1) := k_dlw (x := (1083, .iconst 1, 1)) k_ld27 14 rfl
theorem k_L1084 : decode code 1084 = .ok (.iadd, 1) := k_dlw (x := (1084, .iadd, 1)) k_ld27 15 rfl
theorem k_L1085 : decode code 1085 = .ok (.iaload, 1) := k_dlw (x := (1085, .iaload, 1)) k_ld27 16 rfl
theorem k_L1086 : decode code 1086 = .ok (.aload_n 0, 1) := k_dlw (x := (1086, .aload_n 0, 1)) k_ld27 17 rfl
theorem k_L1087 : decode code 1087 = .ok (.iload_n 3, 1) := k_dlw (x := (1087, .iload_n 3, 1)) k_ld27 18 rfl
theorem k_L1088 : decode code 1088 = .ok (.iconst 2, 1) := k_dlw (x := (1088, .iconst 2, 1)) k_ld27 19 rfl
theorem k_L1089 : decode code 1089 = .ok (.iadd, 1) := k_dlw (x := (1089, .iadd, 1)) k_ld27 20 rfl
theorem k_L1090 : decode code 1090 = .ok (.iaload, 1) := k_dlw (x := (1090, .iaload, 1)) k_ld27 21 rfl
theorem k_L1091 : decode code 1091 = .ok (.aload_n 0, 1) := k_dlw (x := (1091, .aload_n 0, 1)) k_ld27 22 rfl
theorem k_L1092 : decode code 1092 = .ok (.iload_n 3, 1) := k_dlw (x := (1092, .iload_n 3, 1)) k_ld27 23 rfl
theorem k_L1093 : decode code 1093 = .ok (.iconst 3, 1) := k_dlw (x := (1093, .iconst 3, 1)) k_ld27 24 rfl
theorem k_L1094 : decode code 1094 = .ok (.iadd, 1) := k_dlw (x := (1094, .iadd, 1)) k_ld28 0 rfl
theorem k_L1095 : decode code 1095 = .ok (.iaload, 1) := k_dlw (x := (1095, .iaload, 1)) k_ld28 1 rfl
theorem k_L1096 : decode code 1096 = .ok (.invokevirtual 119, 3) := k_dlw (x := (1096, .invokevirtual 119, 3)) k_ld28 2 rfl
theorem k_L1099 : decode code 1099 = .ok (.pop, 1) := k_dlw (x := (1099, .pop, 1)) k_ld28 3 rfl
theorem k_L1100 : decode code 1100 = .ok (.aload_n 2, 1) := k_dlw (x := (1100, .aload_n 2, 1)) k_ld28 4 rfl
theorem k_L1101 : decode code 1101 = .ok (.aload_n 0, 1) := k_dlw (x := (1101, .aload_n 0, 1)) k_ld28 5 rfl
theorem k_L1102 : decode code 1102 = .ok (.iload_n 3, 1) := k_dlw (x := (1102, .iload_n 3, 1)) k_ld28 6 rfl
theorem k_L1103 : decode code 1103 = .ok (.iconst 1, 1) := k_dlw (x := (1103, .iconst 1, 1)) k_ld28 7 rfl
theorem k_L1104 : decode code 1104 = .ok (.iadd, 1) := k_dlw (x := (1104, .iadd, 1)) k_ld28 8 rfl
theorem k_L1105 : decode code 1105 = .ok (.iaload, 1) := k_dlw (x := (1105, .iaload, 1)) k_ld28 9 rfl
theorem k_L1106 : decode code 1106 = .ok (.aload_n 0, 1) := k_dlw (x := (1106, .aload_n 0, 1)) k_ld28 10 rfl
theorem k_L1107 : decode code 1107 = .ok (.iload_n 3, 1) := k_dlw (x := (1107, .iload_n 3, 1)) k_ld28 11 rfl
theorem k_L1108 : decode code 1108 = .ok (.iconst 2, 1) := k_dlw (x := (1108, .iconst 2, 1)) k_ld28 12 rfl
theorem k_L1109 : decode code 1109 = .ok (.iadd, 1) := k_dlw (x := (1109, .iadd, 1)) k_ld28 13 rfl
theorem k_L1110 : decode code 1110 = .ok (.iaload, 1) := k_dlw (x := (1110, .iaload, 1)) k_ld28 14 rfl
theorem k_L1111 : decode code 1111 = .ok (.aload_n 0, 1) := k_dlw (x := (1111, .aload_n 0, 1)) k_ld28 15 rfl
theorem k_L1112 : decode code 1112 = .ok (.iload_n 3, 1) := k_dlw (x := (1112, .iload_n 3, 1)) k_ld28 16 rfl
theorem k_L1113 : decode code 1113 = .ok (.iconst 3, 1) := k_dlw (x := (1113, .iconst 3, 1)) k_ld28 17 rfl
theorem k_L1114 : decode code 1114 = .ok (.iadd, 1) := k_dlw (x := (1114, .iadd, 1)) k_ld28 18 rfl
theorem k_L1115 : decode code 1115 = .ok (.iaload, 1) := k_dlw (x := (1115, .iaload, 1)) k_ld28 19 rfl
theorem k_L1116 : decode code 1116 = .ok (.invokevirtual 122, 3) := k_dlw (x := (1116, .invokevirtual 122, 3)) k_ld28 20 rfl
theorem k_L1119 : decode code 1119 = .ok (.pop, 1) := k_dlw (x := (1119, .pop, 1)) k_ld28 21 rfl
theorem k_L1120 : decode code 1120 = .ok (.goto 869, 3) := k_dlw (x := (1120, .goto 869, 3)) k_ld28 22 rfl
theorem k_L1123 : decode code 1123 = .ok (.aload_n 1, 1) := k_dlw (x := (1123, .aload_n 1, 1)) k_ld28 23 rfl
theorem k_L1124 : decode code 1124 = .ok (.aload_n 0, 1) := k_dlw (x := (1124, .aload_n 0, 1)) k_ld28 24 rfl
theorem k_L1125 : decode code 1125 = .ok (.iload_n 3, 1) := k_dlw (x := (1125, .iload_n 3, 1)) k_ld29 0 rfl
theorem k_L1126 : decode code 1126 = .ok (.iconst 1, 1) := k_dlw (x := (1126, .iconst 1, 1)) k_ld29 1 rfl
theorem k_L1127 : decode code 1127 = .ok (.iadd, 1) := k_dlw (x := (1127, .iadd, 1)) k_ld29 2 rfl
theorem k_L1128 : decode code 1128 = .ok (.iaload, 1) := k_dlw (x := (1128, .iaload, 1)) k_ld29 3 rfl
theorem k_L1129 : decode code 1129 = .ok (.invokevirtual 123, 3) := k_dlw (x := (1129, .invokevirtual 123, 3)) k_ld29 4 rfl
theorem k_L1132 : decode code 1132 = .ok (.pop, 1) := k_dlw (x := (1132, .pop, 1)) k_ld29 5 rfl
theorem k_L1133 : decode code 1133 = .ok (.aload_n 2, 1) := k_dlw (x := (1133, .aload_n 2, 1)) k_ld29 6 rfl
theorem k_L1134 : decode code 1134 = .ok (.aload_n 0, 1) := k_dlw (x := (1134, .aload_n 0, 1)) k_ld29 7 rfl
theorem k_L1135 : decode code 1135 = .ok (.iload_n 3, 1) := k_dlw (x := (1135, .iload_n 3, 1)) k_ld29 8 rfl
theorem k_L1136 : decode code 1136 = .ok (.iconst 1, 1) := k_dlw (x := (1136, .iconst 1, 1)) k_ld29 9 rfl
theorem k_L1137 : decode code 1137 = .ok (.iadd, 1) := k_dlw (x := (1137, .iadd, 1)) k_ld29 10 rfl
theorem k_L1138 : decode code 1138 = .ok (.iaload, 1) := k_dlw (x := (1138, .iaload, 1)) k_ld29 11 rfl
theorem k_L1139 : decode code 1139 = .ok (.invokevirtual 126, 3) := k_dlw (x := (1139, .invokevirtual 126, 3)) k_ld29 12 rfl
theorem k_L1142 : decode code 1142 = .ok (.pop, 1) := k_dlw (x := (1142, .pop, 1)) k_ld29 13 rfl
theorem k_L1143 : decode code 1143 = .ok (.goto 846, 3) := k_dlw (x := (1143, .goto 846, 3)) k_ld29 14 rfl
theorem k_L1146 : decode code 1146 = .ok (.aload_n 1, 1) := k_dlw (x := (1146, .aload_n 1, 1)) k_ld29 15 rfl
theorem k_L1147 : decode code 1147 = .ok (.aload_n 0, 1) := k_dlw (x := (1147, .aload_n 0, 1)) k_ld29 16 rfl
theorem k_L1148 : decode code 1148 = .ok (.iload_n 3, 1) := k_dlw (x := (1148, .iload_n 3, 1)) k_ld29 17 rfl
theorem k_L1149 : decode code 1149 = .ok (.iconst 1, 1) := k_dlw (x := (1149, .iconst 1, 1)) k_ld29 18 rfl
theorem k_L1150 : decode code 1150 = .ok (.iadd, 1) := k_dlw (x := (1150, .iadd, 1)) k_ld29 19 rfl
theorem k_L1151 : decode code 1151 = .ok (.iaload, 1) := k_dlw (x := (1151, .iaload, 1)) k_ld29 20 rfl
theorem k_L1152 : decode code 1152 = .ok (.invokevirtual 127, 3) := k_dlw (x := (1152, .invokevirtual 127, 3)) k_ld29 21 rfl
theorem k_L1155 : decode code 1155 = .ok (.pop, 1) := k_dlw (x := (1155, .pop, 1)) k_ld29 22 rfl
theorem k_L1156 : decode code 1156 = .ok (.aload_n 2, 1) := k_dlw (x := (1156, .aload_n 2, 1)) k_ld29 23 rfl
theorem k_L1157 : decode code 1157 = .ok (.aload_n 0, 1) := k_dlw (x := (1157, .aload_n 0, 1)) k_ld29 24 rfl
theorem k_L1158 : decode code 1158 = .ok (.iload_n 3, 1) := k_dlw (x := (1158, .iload_n 3, 1)) k_ld30 0 rfl
theorem k_L1159 : decode code 1159 = .ok (.iconst 1, 1) := k_dlw (x := (1159, .iconst 1, 1)) k_ld30 1 rfl
theorem k_L1160 : decode code 1160 = .ok (.iadd, 1) := k_dlw (x := (1160, .iadd, 1)) k_ld30 2 rfl
theorem k_L1161 : decode code 1161 = .ok (.iaload, 1) := k_dlw (x := (1161, .iaload, 1)) k_ld30 3 rfl
theorem k_L1162 : decode code 1162 = .ok (.invokevirtual 130, 3) := k_dlw (x := (1162, .invokevirtual 130, 3)) k_ld30 4 rfl
theorem k_L1165 : decode code 1165 = .ok (.pop, 1) := k_dlw (x := (1165, .pop, 1)) k_ld30 5 rfl
theorem k_L1166 : decode code 1166 = .ok (.goto 823, 3) := k_dlw (x := (1166, .goto 823, 3)) k_ld30 6 rfl
theorem k_L1169 : decode code 1169 = .ok (.aload_n 1, 1) := k_dlw (x := (1169, .aload_n 1, 1)) k_ld30 7 rfl
theorem k_L1170 : decode code 1170 = .ok (.aload_n 0, 1) := k_dlw (x := (1170, .aload_n 0, 1)) k_ld30 8 rfl
theorem k_L1171 : decode code 1171 = .ok (.iload_n 3, 1) := k_dlw (x := (1171, .iload_n 3, 1)) k_ld30 9 rfl
theorem k_L1172 : decode code 1172 = .ok (.iconst 1, 1) := k_dlw (x := (1172, .iconst 1, 1)) k_ld30 10 rfl
theorem k_L1173 : decode code 1173 = .ok (.iadd, 1) := k_dlw (x := (1173, .iadd, 1)) k_ld30 11 rfl
theorem k_L1174 : decode code 1174 = .ok (.iaload, 1) := k_dlw (x := (1174, .iaload, 1)) k_ld30 12 rfl
theorem k_L1175 : decode code 1175 = .ok (.invokevirtual 131, 3) := k_dlw (x := (1175, .invokevirtual 131, 3)) k_ld30 13 rfl
theorem k_L1178 : decode code 1178 = .ok (.pop, 1) := k_dlw (x := (1178, .pop, 1)) k_ld30 14 rfl
theorem k_L1179 : decode code 1179 = .ok (.aload_n 2, 1) := k_dlw (x := (1179, .aload_n 2, 1)) k_ld30 15 rfl
theorem k_L1180 : decode code 1180 = .ok (.aload_n 0, 1) := k_dlw (x := (1180, .aload_n 0, 1)) k_ld30 16 rfl
theorem k_L1181 : decode code 1181 = .ok (.iload_n 3, 1) := k_dlw (x := (1181, .iload_n 3, 1)) k_ld30 17 rfl
theorem k_L1182 : decode code 1182 = .ok (.iconst 1, 1) := k_dlw (x := (1182, .iconst 1, 1)) k_ld30 18 rfl
theorem k_L1183 : decode code 1183 = .ok (.iadd, 1) := k_dlw (x := (1183, .iadd, 1)) k_ld30 19 rfl
theorem k_L1184 : decode code 1184 = .ok (.iaload, 1) := k_dlw (x := (1184, .iaload, 1)) k_ld30 20 rfl
theorem k_L1185 : decode code 1185 = .ok (.invokevirtual 134, 3) := k_dlw (x := (1185, .invokevirtual 134, 3)) k_ld30 21 rfl
theorem k_L1188 : decode code 1188 = .ok (.pop, 1) := k_dlw (x := (1188, .pop, 1)) k_ld30 22 rfl
theorem k_L1189 : decode code 1189 = .ok (.goto 800, 3) := k_dlw (x := (1189, .goto 800, 3)) k_ld30 23 rfl
theorem k_L1192 : decode code 1192 = .ok (.aload_n 1, 1) := k_dlw (x := (1192, .aload_n 1, 1)) k_ld30 24 rfl
theorem k_L1193 : decode code 1193 = .ok (.aload_n 0, 1) := k_dlw (x := (1193, .aload_n 0, 1)) k_ld31 0 rfl
theorem k_L1194 : decode code 1194 = .ok (.iload_n 3, 1) := k_dlw (x := (1194, .iload_n 3, 1)) k_ld31 1 rfl
theorem k_L1195 : decode code 1195 = .ok (.iconst 1, 1) := k_dlw (x := (1195, .iconst 1, 1)) k_ld31 2 rfl
theorem k_L1196 : decode code 1196 = .ok (.iadd, 1) := k_dlw (x := (1196, .iadd, 1)) k_ld31 3 rfl
theorem k_L1197 : decode code 1197 = .ok (.iaload, 1) := k_dlw (x := (1197, .iaload, 1)) k_ld31 4 rfl
theorem k_L1198 : decode code 1198 = .ok (.aload_n 0, 1) := k_dlw (x := (1198, .aload_n 0, 1)) k_ld31 5 rfl
theorem k_L1199 : decode code 1199 = .ok (.iload_n 3, 1) := k_dlw (x := (1199, .iload_n 3, 1)) k_ld31 6 rfl
theorem k_L1200 : decode code 1200 = .ok (.iconst 2, 1) := k_dlw (x := (1200, .iconst 2, 1)) k_ld31 7 rfl
theorem k_L1201 : decode code 1201 = .ok (.iadd, 1) := k_dlw (x := (1201, .iadd, 1)) k_ld31 8 rfl
theorem k_L1202 : decode code 1202 = .ok (.iaload, 1) := k_dlw (x := (1202, .iaload, 1)) k_ld31 9 rfl
theorem k_L1203 : decode code 1203 = .ok (.invokevirtual 135, 3) := k_dlw (x := (1203, .invokevirtual 135, 3)) k_ld31 10 rfl
theorem k_L1206 : decode code 1206 = .ok (.pop2, 1) := k_dlw (x := (1206, .pop2, 1)) k_ld31 11 rfl
theorem k_L1207 : decode code 1207 = .ok (.aload_n 2, 1) := k_dlw (x := (1207, .aload_n 2, 1)) k_ld31 12 rfl
theorem k_L1208 : decode code 1208 = .ok (.aload_n 0, 1) := k_dlw (x := (1208, .aload_n 0, 1)) k_ld31 13 rfl
theorem k_L1209 : decode code 1209 = .ok (.iload_n 3, 1) := k_dlw (x := (1209, .iload_n 3, 1)) k_ld31 14 rfl
theorem k_L1210 : decode code 1210 = .ok (.iconst 1, 1) := k_dlw (x := (1210, .iconst 1, 1)) k_ld31 15 rfl
theorem k_L1211 : decode code 1211 = .ok (.iadd, 1) := k_dlw (x := (1211, .iadd, 1)) k_ld31 16 rfl
theorem k_L1212 : decode code 1212 = .ok (.iaload, 1) := k_dlw (x := (1212, .iaload, 1)) k_ld31 17 rfl
theorem k_L1213 : decode code 1213 = .ok (.aload_n 0, 1) := k_dlw (x := (1213, .aload_n 0, 1)) k_ld31 18 rfl
theorem k_L1214 : decode code 1214 = .ok (.iload_n 3, 1) := k_dlw (x := (1214, .iload_n 3, 1)) k_ld31 19 rfl
theorem k_L1215 : decode code 1215 = .ok (.iconst 2, 1) := k_dlw (x := (1215, .iconst 2, 1)) k_ld31 20 rfl
theorem k_L1216 : decode code 1216 = .ok (.iadd, 1) := k_dlw (x := (1216, .iadd, 1)) k_ld31 21 rfl
theorem k_L1217 : decode code 1217 = .ok (.iaload, 1) := k_dlw (x := (1217, .iaload, 1)) k_ld31 22 rfl
theorem k_L1218 : decode code 1218 = .ok (.invokevirtual 138, 3) := k_dlw (x := (1218, .invokevirtual 138, 3)) k_ld31 23 rfl
theorem k_L1221 : decode code 1221 = .ok (.pop2, 1) := k_dlw (x := (1221, .pop2, 1)) k_ld31 24 rfl
theorem k_L1222 : decode code 1222 = .ok (.goto 767, 3) := k_dlw (x := (1222, .goto 767, 3)) k_ld32 0 rfl
theorem k_L1225 : decode code 1225 = .ok (.aload_n 1, 1) := k_dlw (x := (1225, .aload_n 1, 1)) k_ld32 1 rfl
theorem k_L1226 : decode code 1226 = .ok (.aload_n 0, 1) := k_dlw (x := (1226, .aload_n 0, 1)) k_ld32 2 rfl
theorem k_L1227 : decode code 1227 = .ok (.iload_n 3, 1) := k_dlw (x := (1227, .iload_n 3, 1)) k_ld32 3 rfl
theorem k_L1228 : decode code 1228 = .ok (.iconst 1, 1) := k_dlw (x := (1228, .iconst 1, 1)) k_ld32 4 rfl
theorem k_L1229 : decode code 1229 = .ok (.iadd, 1) := k_dlw (x := (1229, .iadd, 1)) k_ld32 5 rfl
theorem k_L1230 : decode code 1230 = .ok (.iaload, 1) := k_dlw (x := (1230, .iaload, 1)) k_ld32 6 rfl
theorem k_L1231 : decode code 1231 = .ok (.invokevirtual 139, 3) := k_dlw (x := (1231, .invokevirtual 139, 3)) k_ld32 7 rfl
theorem k_L1234 : decode code 1234 = .ok (.pop, 1) := k_dlw (x := (1234, .pop, 1)) k_ld32 8 rfl
theorem k_L1235 : decode code 1235 = .ok (.aload_n 2, 1) := k_dlw (x := (1235, .aload_n 2, 1)) k_ld32 9 rfl
theorem k_L1236 : decode code 1236 = .ok (.aload_n 0, 1) := k_dlw (x := (1236, .aload_n 0, 1)) k_ld32 10 rfl
theorem k_L1237 : decode code 1237 = .ok (.iload_n 3, 1) := k_dlw (x := (1237, .iload_n 3, 1)) k_ld32 11 rfl
theorem k_L1238 : decode code 1238 = .ok (.iconst 1, 1) := k_dlw (x := (1238, .iconst 1, 1)) k_ld32 12 rfl
theorem k_L1239 : decode code 1239 = .ok (.iadd, 1) := k_dlw (x := (1239, .iadd, 1)) k_ld32 13 rfl
theorem k_L1240 : decode code 1240 = .ok (.iaload, 1) := k_dlw (x := (1240, .iaload, 1)) k_ld32 14 rfl
theorem k_L1241 : decode code 1241 = .ok (.invokevirtual 142, 3) := k_dlw (x := (1241, .invokevirtual 142, 3)) k_ld32 15 rfl
theorem k_L1244 : decode code 1244 = .ok (.pop, 1) := k_dlw (x := (1244, .pop, 1)) k_ld32 16 rfl
theorem k_L1245 : decode code 1245 = .ok (.goto 744, 3) := k_dlw (x := (1245, .goto 744, 3)) k_ld32 17 rfl
theorem k_L1248 : decode code 1248 = .ok (.aload_n 1, 1) := k_dlw (x := (1248, .aload_n 1, 1)) k_ld32 18 rfl
theorem k_L1249 : decode code 1249 = .ok (.aload_n 0, 1) := k_dlw (x := (1249, .aload_n 0, 1)) k_ld32 19 rfl
theorem k_L1250 : decode code 1250 = .ok (.iload_n 3, 1) := k_dlw (x := (1250, .iload_n 3, 1)) k_ld32 20 rfl
theorem k_L1251 : decode code 1251 = .ok (.iconst 1, 1) := k_dlw (x := (1251, .iconst 1, 1)) k_ld32 21 rfl
theorem k_L1252 : decode code 1252 = .ok (.iadd, 1) := k_dlw (x := (1252, .iadd, 1)) k_ld32 22 rfl
theorem k_L1253 : decode code 1253 = .ok (.iaload, 1) := k_dlw (x := (1253, .iaload, 1)) k_ld32 23 rfl
theorem k_L1254 : decode code 1254 = .ok (.invokevirtual 143, 3) := k_dlw (x := (1254, .invokevirtual 143, 3)) k_ld32 24 rfl
theorem k_L1257 : decode code 1257 = .ok (.pop, 1) := k_dlw (x := (1257, .pop, 1)) k_ld33 0 rfl
theorem k_L1258 : decode code 1258 = .ok (.aload_n 2, 1) := k_dlw (x := (1258, .aload_n 2, 1)) k_ld33 1 rfl
theorem k_L1259 : decode code 1259 = .ok (.aload_n 0, 1) := k_dlw (x := (1259, .aload_n 0, 1)) k_ld33 2 rfl
theorem k_L1260 : decode code 1260 = .ok (.iload_n 3, 1) := k_dlw (x := (1260, .iload_n 3, 1)) k_ld33 3 rfl
theorem k_L1261 : decode code 1261 = .ok (.iconst 1, 1) := k_dlw (x := (1261, .iconst 1, 1)) k_ld33 4 rfl
theorem k_L1262 : decode code 1262 = .ok (.iadd, 1) := k_dlw (x := (1262, .iadd, 1)) k_ld33 5 rfl
theorem k_L1263 : decode code 1263 = .ok (.iaload, 1) := k_dlw (x := (1263, .iaload, 1)) k_ld33 6 rfl
theorem k_L1264 : decode code 1264 = .ok (.invokevirtual 146, 3) := k_dlw (x := (1264, .invokevirtual 146, 3)) k_ld33 7 rfl
theorem k_L1267 : decode code 1267 = .ok (.pop, 1) := k_dlw (x := (1267, .pop, 1)) k_ld33 8 rfl
theorem k_L1268 : decode code 1268 = .ok (.goto 721, 3) := k_dlw (x := (1268, .goto 721, 3)) k_ld33 9 rfl
theorem k_L1271 : decode code 1271 = .ok (.aload_n 1, 1) := k_dlw (x := (1271, .aload_n 1, 1)) k_ld33 10 rfl
theorem k_L1272 : decode code 1272 = .ok (.aload_n 0, 1) := k_dlw (x := (1272, .aload_n 0, 1)) k_ld33 11 rfl
theorem k_L1273 : decode code 1273 = .ok (.iload_n 3, 1) := k_dlw (x := (1273, .iload_n 3, 1)) k_ld33 12 rfl
theorem k_L1274 : decode code 1274 = .ok (.iconst 1, 1) := k_dlw (x := (1274, .iconst 1, 1)) k_ld33 13 rfl
theorem k_L1275 : decode code 1275 = .ok (.iadd, 1) := k_dlw (x := (1275, .iadd, 1)) k_ld33 14 rfl
theorem k_L1276 : decode code 1276 = .ok (.iaload, 1) := k_dlw (x := (1276, .iaload, 1)) k_ld33 15 rfl
theorem k_L1277 : decode code 1277 = .ok (.aload_n 0, 1) := k_dlw (x := (1277, .aload_n 0, 1)) k_ld33 16 rfl
theorem k_L1278 : decode code 1278 = .ok (.iload_n 3, 1) := k_dlw (x := (1278, .iload_n 3, 1)) k_ld33 17 rfl
theorem k_L1279 : decode code 1279 = .ok (.iconst 2, 1) := k_dlw (x := (1279, .iconst 2, 1)) k_ld33 18 rfl
theorem k_L1280 : decode code 1280 = .ok (.iadd, 1) := k_dlw (x := (1280, .iadd, 1)) k_ld33 19 rfl
theorem k_L1281 : decode code 1281 = .ok (.iaload, 1) := k_dlw (x := (1281, .iaload, 1)) k_ld33 20 rfl
theorem k_L1282 : decode code 1282 = .ok (.aload_n 0, 1) := k_dlw (x := (1282, .aload_n 0, 1)) k_ld33 21 rfl
theorem k_L1283 : decode code 1283 = .ok (.iload_n 3, 1) := k_dlw (x := (1283, .iload_n 3, 1)) k_ld33 22 rfl
theorem k_L1284 : decode code 1284 = .ok (.iconst 3, 1) := k_dlw (x := (1284, .iconst 3, 1)) k_ld33 23 rfl
theorem k_L1285 : decode code 1285 = .ok (.iadd, 1) := k_dlw (x := (1285, .iadd, 1)) k_ld33 24 rfl
theorem k_L1286 : decode code 1286 = .ok (.iaload, 1) := k_dlw (x := (1286, .iaload, 1)) k_ld34 0 rfl
theorem k_L1287 : decode code 1287 = .ok (.invokevirtual 147, 3) := k_dlw (x := (1287, .invokevirtual 147, 3)) k_ld34 1 rfl
theorem k_L1290 : decode code 1290 = .ok (.pop, 1) := k_dlw (x := (1290, .pop, 1)) k_ld34 2 rfl
theorem k_L1291 : decode code 1291 = .ok (.aload_n 2, 1) := k_dlw (x := (1291, .aload_n 2, 1)) k_ld34 3 rfl
theorem k_L1292 : decode code 1292 = .ok (.aload_n 0, 1) := k_dlw (x := (1292, .aload_n 0, 1)) k_ld34 4 rfl
theorem k_L1293 : decode code 1293 = .ok (.iload_n 3, 1) := k_dlw (x := (1293, .iload_n 3, 1)) k_ld34 5 rfl
theorem k_L1294 : decode code 1294 = .ok (.iconst 1, 1) := k_dlw (x := (1294, .iconst 1, 1)) k_ld34 6 rfl
theorem k_L1295 : decode code 1295 = .ok (.iadd, 1) := k_dlw (x := (1295, .iadd, 1)) k_ld34 7 rfl
theorem k_L1296 : decode code 1296 = .ok (.iaload, 1) := k_dlw (x := (1296, .iaload, 1)) k_ld34 8 rfl
theorem k_L1297 : decode code 1297 = .ok (.aload_n 0, 1) := k_dlw (x := (1297, .aload_n 0, 1)) k_ld34 9 rfl
theorem k_L1298 : decode code 1298 = .ok (.iload_n 3, 1) := k_dlw (x := (1298, .iload_n 3, 1)) k_ld34 10 rfl
theorem k_L1299 : decode code 1299 = .ok (.iconst 2, 1) := k_dlw (x := (1299, .iconst 2, 1)) k_ld34 11 rfl
theorem k_L1300 : decode code 1300 = .ok (.iadd, 1) := k_dlw (x := (1300, .iadd, 1)) k_ld34 12 rfl
theorem k_L1301 : decode code 1301 = .ok (.iaload, 1) := k_dlw (x := (1301, .iaload, 1)) k_ld34 13 rfl
theorem k_L1302 : decode code 1302 = .ok (.aload_n 0, 1) := k_dlw (x := (1302, .aload_n 0, 1)) k_ld34 14 rfl
theorem k_L1303 : decode code 1303 = .ok (.iload_n 3, 1) := k_dlw (x := (1303, .iload_n 3, 1)) k_ld34 15 rfl
theorem k_L1304 : decode code 1304 = .ok (.iconst 3, 1) := k_dlw (x := (1304, .iconst 3, 1)) k_ld34 16 rfl
theorem k_L1305 : decode code 1305 = .ok (.iadd, 1) := k_dlw (x := (1305, .iadd, 1)) k_ld34 17 rfl
theorem k_L1306 : decode code 1306 = .ok (.iaload, 1) := k_dlw (x := (1306, .iaload, 1)) k_ld34 18 rfl
theorem k_L1307 : decode code 1307 = .ok (.invokevirtual 150, 3) := k_dlw (x := (1307, .invokevirtual 150, 3)) k_ld34 19 rfl
theorem k_L1310 : decode code 1310 = .ok (.pop, 1) := k_dlw (x := (1310, .pop, 1)) k_ld34 20 rfl
theorem k_L1311 : decode code 1311 = .ok (.goto 678, 3) := k_dlw (x := (1311, .goto 678, 3)) k_ld34 21 rfl
theorem k_L1314 : decode code 1314 = .ok (.aload_n 1, 1) := k_dlw (x := (1314, .aload_n 1, 1)) k_ld34 22 rfl
theorem k_L1315 : decode code 1315 = .ok (.aload_n 0, 1) := k_dlw (x := (1315, .aload_n 0, 1)) k_ld34 23 rfl
theorem k_L1316 : decode code 1316 = .ok (.iload_n 3, 1) := k_dlw (x := (1316, .iload_n 3, 1)) k_ld34 24 rfl
theorem k_L1317 : decode code 1317 = .ok (.iconst 1, 1) := k_dlw (x := (1317, .iconst 1, 1)) k_ld35 0 rfl
theorem k_L1318 : decode code 1318 = .ok (.iadd, 1) := k_dlw (x := (1318, .iadd, 1)) k_ld35 1 rfl
theorem k_L1319 : decode code 1319 = .ok (.iaload, 1) := k_dlw (x := (1319, .iaload, 1)) k_ld35 2 rfl
theorem k_L1320 : decode code 1320 = .ok (.aload_n 0, 1) := k_dlw (x := (1320, .aload_n 0, 1)) k_ld35 3 rfl
theorem k_L1321 : decode code 1321 = .ok (.iload_n 3, 1) := k_dlw (x := (1321, .iload_n 3, 1)) k_ld35 4 rfl
theorem k_L1322 : decode code 1322 = .ok (.iconst 2, 1) := k_dlw (x := (1322, .iconst 2, 1)) k_ld35 5 rfl
theorem k_L1323 : decode code 1323 = .ok (.iadd, 1) := k_dlw (x := (1323, .iadd, 1)) k_ld35 6 rfl
theorem k_L1324 : decode code 1324 = .ok (.iaload, 1) := k_dlw (x := (1324, .iaload, 1)) k_ld35 7 rfl
theorem k_L1325 : decode code 1325 = .ok (.invokevirtual 151, 3) := k_dlw (x := (1325, .invokevirtual 151, 3)) k_ld35 8 rfl
theorem k_L1328 : decode code 1328 = .ok (.pop, 1) := k_dlw (x := (1328, .pop, 1)) k_ld35 9 rfl
theorem k_L1329 : decode code 1329 = .ok (.aload_n 2, 1) := k_dlw (x := (1329, .aload_n 2, 1)) k_ld35 10 rfl
theorem k_L1330 : decode code 1330 = .ok (.aload_n 0, 1) := k_dlw (x := (1330, .aload_n 0, 1)) k_ld35 11 rfl
theorem k_L1331 : decode code 1331 = .ok (.iload_n 3, 1) := k_dlw (x := (1331, .iload_n 3, 1)) k_ld35 12 rfl
theorem k_L1332 : decode code 1332 = .ok (.iconst 1, 1) := k_dlw (x := (1332, .iconst 1, 1)) k_ld35 13 rfl
theorem k_L1333 : decode code 1333 = .ok (.iadd, 1) := k_dlw (x := (1333, .iadd, 1)) k_ld35 14 rfl
theorem k_L1334 : decode code 1334 = .ok (.iaload, 1) := k_dlw (x := (1334, .iaload, 1)) k_ld35 15 rfl
theorem k_L1335 : decode code 1335 = .ok (.aload_n 0, 1) := k_dlw (x := (1335, .aload_n 0, 1)) k_ld35 16 rfl
theorem k_L1336 : decode code 1336 = .ok (.iload_n 3, 1) := k_dlw (x := (1336, .iload_n 3, 1)) k_ld35 17 rfl
theorem k_L1337 : decode code 1337 = .ok (.iconst 2, 1) := k_dlw (x := (1337, .iconst 2, 1)) k_ld35 18 rfl
theorem k_L1338 : decode code 1338 = .ok (.iadd, 1) := k_dlw (x := (1338, .iadd, 1)) k_ld35 19 rfl
theorem k_L1339 : decode code 1339 = .ok (.iaload, 1) := k_dlw (x := (1339, .iaload, 1)) k_ld35 20 rfl
theorem k_L1340 : decode code 1340 = .ok (.invokevirtual 154, 3) := k_dlw (x := (1340, .invokevirtual 154, 3)) k_ld35 21 rfl
theorem k_L1343 : decode code 1343 = .ok (.pop, 1) := k_dlw (x := (1343, .pop, 1)) k_ld35 22 rfl
theorem k_L1344 : decode code 1344 = .ok (.goto 645, 3) := k_dlw (x := (1344, .goto 645, 3)) k_ld35 23 rfl
theorem k_L1347 : decode code 1347 = .ok (.aload_n 1, 1) := k_dlw (x := (1347, .aload_n 1, 1)) k_ld35 24 rfl
theorem k_L1348 : decode code 1348 = .ok (.aload_n 0, 1) := k_dlw (x := (1348, .aload_n 0, 1)) k_ld36 0 rfl
theorem k_L1349 : decode code 1349 = .ok (.iload_n 3, 1) := k_dlw (x := (1349, .iload_n 3, 1)) k_ld36 1 rfl
theorem k_L1350 : decode code 1350 = .ok (.iconst 1, 1) := k_dlw (x := (1350, .iconst 1, 1)) k_ld36 2 rfl
theorem k_L1351 : decode code 1351 = .ok (.iadd, 1) := k_dlw (x := (1351, .iadd, 1)) k_ld36 3 rfl
theorem k_L1352 : decode code 1352 = .ok (.iaload, 1) := k_dlw (x := (1352, .iaload, 1)) k_ld36 4 rfl
theorem k_L1353 : decode code 1353 = .ok (.invokevirtual 155, 3) := k_dlw (x := (1353, .invokevirtual 155, 3)) k_ld36 5 rfl
theorem k_L1356 : decode code 1356 = .ok (.pop, 1) := k_dlw (x := (1356, .pop, 1)) k_ld36 6 rfl
theorem k_L1357 : decode code 1357 = .ok (.aload_n 2, 1) := k_dlw (x := (1357, .aload_n 2, 1)) k_ld36 7 rfl
theorem k_L1358 : decode code 1358 = .ok (.aload_n 0, 1) := k_dlw (x := (1358, .aload_n 0, 1)) k_ld36 8 rfl
theorem k_L1359 : decode code 1359 = .ok (.iload_n 3, 1) := k_dlw (x := (1359, .iload_n 3, 1)) k_ld36 9 rfl
theorem k_L1360 : decode code 1360 = .ok (.iconst 1, 1) := k_dlw (x := (1360, .iconst 1, 1)) k_ld36 10 rfl
theorem k_L1361 : decode code 1361 = .ok (.iadd, 1) := k_dlw (x := (1361, .iadd, 1)) k_ld36 11 rfl
theorem k_L1362 : decode code 1362 = .ok (.iaload, 1) := k_dlw (x := (1362, .iaload, 1)) k_ld36 12 rfl
theorem k_L1363 : decode code 1363 = .ok (.invokevirtual 158, 3) := k_dlw (x := (1363, .invokevirtual 158, 3)) k_ld36 13 rfl
theorem k_L1366 : decode code 1366 = .ok (.pop, 1) := k_dlw (x := (1366, .pop, 1)) k_ld36 14 rfl
theorem k_L1367 : decode code 1367 = .ok (.goto 622, 3) := k_dlw (x := (1367, .goto 622, 3)) k_ld36 15 rfl
theorem k_L1370 : decode code 1370 = .ok (.aload_n 1, 1) := k_dlw (x := (1370, .aload_n 1, 1)) k_ld36 16 rfl
theorem k_L1371 : decode code 1371 = .ok (.aload_n 0, 1) := k_dlw (x := (1371, .aload_n 0, 1)) k_ld36 17 rfl
theorem k_L1372 : decode code 1372 = .ok (.iload_n 3, 1) := k_dlw (x := (1372, .iload_n 3, 1)) k_ld36 18 rfl
theorem k_L1373 : decode code 1373 = .ok (.iconst 1, 1) := k_dlw (x := (1373, .iconst 1, 1)) k_ld36 19 rfl
theorem k_L1374 : decode code 1374 = .ok (.iadd, 1) := k_dlw (x := (1374, .iadd, 1)) k_ld36 20 rfl
theorem k_L1375 : decode code 1375 = .ok (.iaload, 1) := k_dlw (x := (1375, .iaload, 1)) k_ld36 21 rfl
theorem k_L1376 : decode code 1376 = .ok (.aload_n 0, 1) := k_dlw (x := (1376, .aload_n 0, 1)) k_ld36 22 rfl
theorem k_L1377 : decode code 1377 = .ok (.iload_n 3, 1) := k_dlw (x := (1377, .iload_n 3, 1)) k_ld36 23 rfl
theorem k_L1378 : decode code 1378 = .ok (.iconst 2, 1) := k_dlw (x := (1378, .iconst 2, 1)) k_ld36 24 rfl
theorem k_L1379 : decode code 1379 = .ok (.iadd, 1) := k_dlw (x := (1379, .iadd, 1)) k_ld37 0 rfl
theorem k_L1380 : decode code 1380 = .ok (.iaload, 1) := k_dlw (x := (1380, .iaload, 1)) k_ld37 1 rfl
theorem k_L1381 : decode code 1381 = .ok (.aload_n 0, 1) := k_dlw (x := (1381, .aload_n 0, 1)) k_ld37 2 rfl
theorem k_L1382 : decode code 1382 = .ok (.iload_n 3, 1) := k_dlw (x := (1382, .iload_n 3, 1)) k_ld37 3 rfl
theorem k_L1383 : decode code 1383 = .ok (.iconst 3, 1) := k_dlw (x := (1383, .iconst 3, 1)) k_ld37 4 rfl
theorem k_L1384 : decode code 1384 = .ok (.iadd, 1) := k_dlw (x := (1384, .iadd, 1)) k_ld37 5 rfl
theorem k_L1385 : decode code 1385 = .ok (.iaload, 1) := k_dlw (x := (1385, .iaload, 1)) k_ld37 6 rfl
theorem k_L1386 : decode code 1386 = .ok (.aload_n 0, 1) := k_dlw (x := (1386, .aload_n 0, 1)) k_ld37 7 rfl
theorem k_L1387 : decode code 1387 = .ok (.iload_n 3, 1) := k_dlw (x := (1387, .iload_n 3, 1)) k_ld37 8 rfl
theorem k_L1388 : decode code 1388 = .ok (.iconst 4, 1) := k_dlw (x := (1388, .iconst 4, 1)) k_ld37 9 rfl
theorem k_L1389 : decode code 1389 = .ok (.iadd, 1) := k_dlw (x := (1389, .iadd, 1)) k_ld37 10 rfl
theorem k_L1390 : decode code 1390 = .ok (.iaload, 1) := k_dlw (x := (1390, .iaload, 1)) k_ld37 11 rfl
theorem k_L1391 : decode code 1391 = .ok (.aload_n 0, 1) := k_dlw (x := (1391, .aload_n 0, 1)) k_ld37 12 rfl
theorem k_L1392 : decode code 1392 = .ok (.iload_n 3, 1) := k_dlw (x := (1392, .iload_n 3, 1)) k_ld37 13 rfl
theorem k_L1393 : decode code 1393 = .ok (.iconst 5, 1) := k_dlw (x := (1393, .iconst 5, 1)) k_ld37 14 rfl
theorem k_L1394 : decode code 1394 = .ok (.iadd, 1) := k_dlw (x := (1394, .iadd, 1)) k_ld37 15 rfl
theorem k_L1395 : decode code 1395 = .ok (.iaload, 1) := k_dlw (x := (1395, .iaload, 1)) k_ld37 16 rfl
theorem k_L1396 : decode code 1396 = .ok (.ifCond .eq 7, 3) := k_dlw (x := (1396, .ifCond .eq 7, 3)) k_ld37 17 rfl
theorem k_L1399 : decode code 1399 = .ok (.iconst 1, 1) := k_dlw (x := (1399, .iconst 1, 1)) k_ld37 18 rfl
theorem k_L1400 : decode code 1400 = .ok (.goto 4, 3) := k_dlw (x := (1400, .goto 4, 3)) k_ld37 19 rfl
theorem k_L1403 : decode code 1403 = .ok (.iconst 0, 1) := k_dlw (x := (1403, .iconst 0, 1)) k_ld37 20 rfl
theorem k_L1404 : decode code 1404 = .ok (.invokevirtual 159, 3) := k_dlw (x := (1404, .invokevirtual 159, 3)) k_ld37 21 rfl
theorem k_L1407 : decode code 1407 = .ok (.pop, 1) := k_dlw (x := (1407, .pop, 1)) k_ld37 22 rfl
theorem k_L1408 : decode code 1408 = .ok (.aload_n 2, 1) := k_dlw (x := (1408, .aload_n 2, 1)) k_ld37 23 rfl
theorem k_L1409 : decode code 1409 = .ok (.aload_n 0, 1) := k_dlw (x := (1409, .aload_n 0, 1)) k_ld37 24 rfl
theorem k_L1410 : decode code 1410 = .ok (.iload_n 3, 1) := k_dlw (x := (1410, .iload_n 3, 1)) k_ld38 0 rfl
theorem k_L1411 : decode code 1411 = .ok (.iconst 1, 1) := k_dlw (x := (1411, .iconst 1, 1)) k_ld38 1 rfl
theorem k_L1412 : decode code 1412 = .ok (.iadd, 1) := k_dlw (x := (1412, .iadd, 1)) k_ld38 2 rfl
theorem k_L1413 : decode code 1413 = .ok (.iaload, 1) := k_dlw (x := (1413, .iaload, 1)) k_ld38 3 rfl
theorem k_L1414 : decode code 1414 = .ok (.aload_n 0, 1) := k_dlw (x := (1414, .aload_n 0, 1)) k_ld38 4 rfl
theorem k_L1415 : decode code 1415 = .ok (.iload_n 3, 1) := k_dlw (x := (1415, .iload_n 3, 1)) k_ld38 5 rfl
theorem k_L1416 : decode code 1416 = .ok (.iconst 2, 1) := k_dlw (x := (1416, .iconst 2, 1)) k_ld38 6 rfl
theorem k_L1417 : decode code 1417 = .ok (.iadd, 1) := k_dlw (x := (1417, .iadd, 1)) k_ld38 7 rfl
theorem k_L1418 : decode code 1418 = .ok (.iaload, 1) := k_dlw (x := (1418, .iaload, 1)) k_ld38 8 rfl
theorem k_L1419 : decode code 1419 = .ok (.aload_n 0, 1) := k_dlw (x := (1419, .aload_n 0, 1)) k_ld38 9 rfl
theorem k_L1420 : decode code 1420 = .ok (.iload_n 3, 1) := k_dlw (x := (1420, .iload_n 3, 1)) k_ld38 10 rfl
theorem k_L1421 : decode code 1421 = .ok (.iconst 3, 1) := k_dlw (x := (1421, .iconst 3, 1)) k_ld38 11 rfl
theorem k_L1422 : decode code 1422 = .ok (.iadd, 1) := k_dlw (x := (1422, .iadd, 1)) k_ld38 12 rfl
theorem k_L1423 : decode code 1423 = .ok (.iaload, 1) := k_dlw (x := (1423, .iaload, 1)) k_ld38 13 rfl
theorem k_L1424 : decode code 1424 = .ok (.aload_n 0, 1) := k_dlw (x := (1424, .aload_n 0, 1)) k_ld38 14 rfl
theorem k_L1425 : decode code 1425 = .ok (.iload_n 3, 1) := k_dlw (x := (1425, .iload_n 3, 1)) k_ld38 15 rfl
theorem k_L1426 : decode code 1426 = .ok (.iconst 4, 1) := k_dlw (x := (1426, .iconst 4, 1)) k_ld38 16 rfl
theorem k_L1427 : decode code 1427 = .ok (.iadd, 1) := k_dlw (x := (1427, .iadd, 1)) k_ld38 17 rfl
theorem k_L1428 : decode code 1428 = .ok (.iaload, 1) := k_dlw (x := (1428, .iaload, 1)) k_ld38 18 rfl
theorem k_L1429 : decode code 1429 = .ok (.aload_n 0, 1) := k_dlw (x := (1429, .aload_n 0, 1)) k_ld38 19 rfl
theorem k_L1430 : decode code 1430 = .ok (.iload_n 3, 1) := k_dlw (x := (1430, .iload_n 3, 1)) k_ld38 20 rfl
theorem k_L1431 : decode code 1431 = .ok (.iconst 5, 1) := k_dlw (x := (1431, .iconst 5, 1)) k_ld38 21 rfl
theorem k_L1432 : decode code 1432 = .ok (.iadd, 1) := k_dlw (x := (1432, .iadd, 1)) k_ld38 22 rfl
theorem k_L1433 : decode code 1433 = .ok (.iaload, 1) := k_dlw (x := (1433, .iaload, 1)) k_ld38 23 rfl
theorem k_L1434 : decode code 1434 = .ok (.ifCond .eq 7, 3) := k_dlw (x := (1434, .ifCond .eq 7, 3)) k_ld38 24 rfl
theorem k_L1437 : decode code 1437 = .ok (.iconst 1, 1) := k_dlw (x := (1437, .iconst 1, 1)) k_ld39 0 rfl
theorem k_L1438 : decode code 1438 = .ok (.goto 4, 3) := k_dlw (x := (1438, .goto 4, 3)) k_ld39 1 rfl
theorem k_L1441 : decode code 1441 = .ok (.iconst 0, 1) := k_dlw (x := (1441, .iconst 0, 1)) k_ld39 2 rfl
theorem k_L1442 : decode code 1442 = .ok (.invokevirtual 163, 3) := k_dlw (x := (1442, .invokevirtual 163, 3)) k_ld39 3 rfl
theorem k_L1445 : decode code 1445 = .ok (.pop, 1) := k_dlw (x := (1445, .pop, 1)) k_ld39 4 rfl
theorem k_L1446 : decode code 1446 = .ok (.goto 543, 3) := k_dlw (x := (1446, .goto 543, 3)) k_ld39 5 rfl
theorem k_L1449 : decode code 1449 = .ok (.aload_n 1, 1) := k_dlw (x := (1449, .aload_n 1, 1)) k_ld39 6 rfl
theorem k_L1450 : decode code 1450 = .ok (.invokevirtual 164, 3) := k_dlw (x := (1450, .invokevirtual 164, 3)) k_ld39 7 rfl
theorem k_L1453 : decode code 1453 = .ok (.pop, 1) := k_dlw (x := (1453, .pop, 1)) k_ld39 8 rfl
theorem k_L1454 : decode code 1454 = .ok (.aload_n 2, 1) := k_dlw (x := (1454, .aload_n 2, 1)) k_ld39 9 rfl
theorem k_L1455 : decode code 1455 = .ok (.invokevirtual 168, 3) := k_dlw (x := (1455, .invokevirtual 168, 3)) k_ld39 10 rfl
theorem k_L1458 : decode code 1458 = .ok (.pop, 1) := k_dlw (x := (1458, .pop, 1)) k_ld39 11 rfl
theorem k_L1459 : decode code 1459 = .ok (.goto 530, 3) := k_dlw (x := (1459, .goto 530, 3)) k_ld39 12 rfl
theorem k_L1462 : decode code 1462 = .ok (.aload_n 1, 1) := k_dlw (x := (1462, .aload_n 1, 1)) k_ld39 13 rfl
theorem k_L1463 : decode code 1463 = .ok (.aload_n 0, 1) := k_dlw (x := (1463, .aload_n 0, 1)) k_ld39 14 rfl
theorem k_L1464 : decode code 1464 = .ok (.iload_n 3, 1) := k_dlw (x := (1464, .iload_n 3, 1)) k_ld39 15 rfl
theorem k_L1465 : decode code 1465 = .ok (.iconst 1, 1) := k_dlw (x := (1465, .iconst 1, 1)) k_ld39 16 rfl
theorem k_L1466 : decode code 1466 = .ok (.iadd, 1) := k_dlw (x := (1466, .iadd, 1)) k_ld39 17 rfl
theorem k_L1467 : decode code 1467 = .ok (.iaload, 1) := k_dlw (x := (1467, .iaload, 1)) k_ld39 18 rfl
theorem k_L1468 : decode code 1468 = .ok (.aload_n 0, 1) := k_dlw (x := (1468, .aload_n 0, 1)) k_ld39 19 rfl
theorem k_L1469 : decode code 1469 = .ok (.iload_n 3, 1) := k_dlw (x := (1469, .iload_n 3, 1)) k_ld39 20 rfl
theorem k_L1470 : decode code 1470 = .ok (.iconst 2, 1) := k_dlw (x := (1470, .iconst 2, 1)) k_ld39 21 rfl
theorem k_L1471 : decode code 1471 = .ok (.iadd, 1) := k_dlw (x := (1471, .iadd, 1)) k_ld39 22 rfl
theorem k_L1472 : decode code 1472 = .ok (.iaload, 1) := k_dlw (x := (1472, .iaload, 1)) k_ld39 23 rfl
theorem k_L1473 : decode code 1473 = .ok (.invokevirtual 169, 3) := k_dlw (x := (1473, .invokevirtual 169, 3)) k_ld39 24 rfl
theorem k_L1476 : decode code 1476 = .ok (.pop, 1) := k_dlw (x := (1476, .pop, 1)) k_ld40 0 rfl
theorem k_L1477 : decode code 1477 = .ok (.aload_n 2, 1) := k_dlw (x := (1477, .aload_n 2, 1)) k_ld40 1 rfl
theorem k_L1478 : decode code 1478 = .ok (.aload_n 0, 1) := k_dlw (x := (1478, .aload_n 0, 1)) k_ld40 2 rfl
theorem k_L1479 : decode code 1479 = .ok (.iload_n 3, 1) := k_dlw (x := (1479, .iload_n 3, 1)) k_ld40 3 rfl
theorem k_L1480 : decode code 1480 = .ok (.iconst 1, 1) := k_dlw (x := (1480, .iconst 1, 1)) k_ld40 4 rfl
theorem k_L1481 : decode code 1481 = .ok (.iadd, 1) := k_dlw (x := (1481, .iadd, 1)) k_ld40 5 rfl
theorem k_L1482 : decode code 1482 = .ok (.iaload, 1) := k_dlw (x := (1482, .iaload, 1)) k_ld40 6 rfl
theorem k_L1483 : decode code 1483 = .ok (.aload_n 0, 1) := k_dlw (x := (1483, .aload_n 0, 1)) k_ld40 7 rfl
theorem k_L1484 : decode code 1484 = .ok (.iload_n 3, 1) := k_dlw (x := (1484, .iload_n 3, 1)) k_ld40 8 rfl
theorem k_L1485 : decode code 1485 = .ok (.iconst 2, 1) := k_dlw (x := (1485, .iconst 2, 1)) k_ld40 9 rfl
theorem k_L1486 : decode code 1486 = .ok (.iadd, 1) := k_dlw (x := (1486, .iadd, 1)) k_ld40 10 rfl
theorem k_L1487 : decode code 1487 = .ok (.iaload, 1) := k_dlw (x := (1487, .iaload, 1)) k_ld40 11 rfl
theorem k_L1488 : decode code 1488 = .ok (.invokevirtual 172, 3) := k_dlw (x := (1488, .invokevirtual 172, 3)) k_ld40 12 rfl
theorem k_L1491 : decode code 1491 = .ok (.pop, 1) := k_dlw (x := (1491, .pop, 1)) k_ld40 13 rfl
theorem k_L1492 : decode code 1492 = .ok (.goto 497, 3) := k_dlw (x := (1492, .goto 497, 3)) k_ld40 14 rfl
theorem k_L1495 : decode code 1495 = .ok (.aload_n 1, 1) := k_dlw (x := (1495, .aload_n 1, 1)) k_ld40 15 rfl
theorem k_L1496 : decode code 1496 = .ok (.aload_n 0, 1) := k_dlw (x := (1496, .aload_n 0, 1)) k_ld40 16 rfl
theorem k_L1497 : decode code 1497 = .ok (.iload_n 3, 1) := k_dlw (x := (1497, .iload_n 3, 1)) k_ld40 17 rfl
theorem k_L1498 : decode code 1498 = .ok (.iconst 1, 1) := k_dlw (x := (1498, .iconst 1, 1)) k_ld40 18 rfl
theorem k_L1499 : decode code 1499 = .ok (.iadd, 1) := k_dlw (x := (1499, .iadd, 1)) k_ld40 19 rfl
theorem k_L1500 : decode code 1500 = .ok (.iaload, 1) := k_dlw (x := (1500, .iaload, 1)) k_ld40 20 rfl
theorem k_L1501 : decode code 1501 = .ok (.aload_n 0, 1) := k_dlw (x := (1501, .aload_n 0, 1)) k_ld40 21 rfl
theorem k_L1502 : decode code 1502 = .ok (.iload_n 3, 1) := k_dlw (x := (1502, .iload_n 3, 1)) k_ld40 22 rfl
theorem k_L1503 : decode code 1503 = .ok (.iconst 2, 1) := k_dlw (x := (1503, .iconst 2, 1)) k_ld40 23 rfl
theorem k_L1504 : decode code 1504 = .ok (.iadd, 1) := k_dlw (x := (1504, .iadd, 1)) k_ld40 24 rfl
theorem k_L1505 : decode code 1505 = .ok (.iaload, 1) := k_dlw (x := (1505, .iaload, 1)) k_ld41 0 rfl
theorem k_L1506 : decode code 1506 = .ok (.invokevirtual 173, 3) := k_dlw (x := (1506, .invokevirtual 173, 3)) k_ld41 1 rfl
theorem k_L1509 : decode code 1509 = .ok (.pop, 1) := k_dlw (x := (1509, .pop, 1)) k_ld41 2 rfl
theorem k_L1510 : decode code 1510 = .ok (.aload_n 2, 1) := k_dlw (x := (1510, .aload_n 2, 1)) k_ld41 3 rfl
theorem k_L1511 : decode code 1511 = .ok (.aload_n 0, 1) := k_dlw (x := (1511, .aload_n 0, 1)) k_ld41 4 rfl
theorem k_L1512 : decode code 1512 = .ok (.iload_n 3, 1) := k_dlw (x := (1512, .iload_n 3, 1)) k_ld41 5 rfl
theorem k_L1513 : decode code 1513 = .ok (.iconst 1, 1) := k_dlw (x := (1513, .iconst 1, 1)) k_ld41 6 rfl
theorem k_L1514 : decode code 1514 = .ok (.iadd, 1) := k_dlw (x := (1514, .iadd, 1)) k_ld41 7 rfl
theorem k_L1515 : decode code 1515 = .ok (.iaload, 1) := k_dlw (x := (1515, .iaload, 1)) k_ld41 8 rfl
theorem k_L1516 : decode code 1516 = .ok (.aload_n 0, 1) := k_dlw (x := (1516, .aload_n 0, 1)) k_ld41 9 rfl
theorem k_L1517 : decode code 1517 = .ok (.iload_n 3, 1) := k_dlw (x := (1517, .iload_n 3, 1)) k_ld41 10 rfl
theorem k_L1518 : decode code 1518 = .ok (.iconst 2, 1) := k_dlw (x := (1518, .iconst 2, 1)) k_ld41 11 rfl
theorem k_L1519 : decode code 1519 = .ok (.iadd, 1) := k_dlw (x := (1519, .iadd, 1)) k_ld41 12 rfl
theorem k_L1520 : decode code 1520 = .ok (.iaload, 1) := k_dlw (x := (1520, .iaload, 1)) k_ld41 13 rfl
theorem k_L1521 : decode code 1521 = .ok (.invokevirtual 176, 3) := k_dlw (x := (1521, .invokevirtual 176, 3)) k_ld41 14 rfl
theorem k_L1524 : decode code 1524 = .ok (.pop, 1) := k_dlw (x := (1524, .pop, 1)) k_ld41 15 rfl
theorem k_L1525 : decode code 1525 = .ok (.goto 464, 3) := k_dlw (x := (1525, .goto 464, 3)) k_ld41 16 rfl
theorem k_L1528 : decode code 1528 = .ok (.aload_n 1, 1) := k_dlw (x := (1528, .aload_n 1, 1)) k_ld41 17 rfl
theorem k_L1529 : decode code 1529 = .ok (.aload_n 0, 1) := k_dlw (x := (1529, .aload_n 0, 1)) k_ld41 18 rfl
theorem k_L1530 : decode code 1530 = .ok (.iload_n 3, 1) := k_dlw (x := (1530, .iload_n 3, 1)) k_ld41 19 rfl
theorem k_L1531 : decode code 1531 = .ok (.iconst 1, 1) := k_dlw (x := (1531, .iconst 1, 1)) k_ld41 20 rfl
theorem k_L1532 : decode code 1532 = .ok (.iadd, 1) := k_dlw (x := (1532, .iadd, 1)) k_ld41 21 rfl
theorem k_L1533 : decode code 1533 = .ok (.iaload, 1) := k_dlw (x := (1533, .iaload, 1)) k_ld41 22 rfl
theorem k_L1534 : decode code 1534 = .ok (.invokevirtual 177, 3) := k_dlw (x := (1534, .invokevirtual 177, 3)) k_ld41 23 rfl
theorem k_L1537 : decode code 1537 = .ok (.pop, 1) := k_dlw (x := (1537, .pop, 1)) k_ld41 24 rfl
theorem k_L1538 : decode code 1538 = .ok (.aload_n 2, 1) := k_dlw (x := (1538, .aload_n 2, 1)) k_ld42 0 rfl
theorem k_L1539 : decode code 1539 = .ok (.aload_n 0, 1) := k_dlw (x := (1539, .aload_n 0, 1)) k_ld42 1 rfl
theorem k_L1540 : decode code 1540 = .ok (.iload_n 3, 1) := k_dlw (x := (1540, .iload_n 3, 1)) k_ld42 2 rfl
theorem k_L1541 : decode code 1541 = .ok (.iconst 1, 1) := k_dlw (x := (1541, .iconst 1, 1)) k_ld42 3 rfl
theorem k_L1542 : decode code 1542 = .ok (.iadd, 1) := k_dlw (x := (1542, .iadd, 1)) k_ld42 4 rfl
theorem k_L1543 : decode code 1543 = .ok (.iaload, 1) := k_dlw (x := (1543, .iaload, 1)) k_ld42 5 rfl
theorem k_L1544 : decode code 1544 = .ok (.invokevirtual 180, 3) := k_dlw (x := (1544, .invokevirtual 180, 3)) k_ld42 6 rfl
theorem k_L1547 : decode code 1547 = .ok (.pop, 1) := k_dlw (x := (1547, .pop, 1)) k_ld42 7 rfl
theorem k_L1548 : decode code 1548 = .ok (.goto 441, 3) := k_dlw (x := (1548, .goto 441, 3)) k_ld42 8 rfl
theorem k_L1551 : decode code 1551 = .ok (.aload_n 1, 1) := k_dlw (x := (1551, .aload_n 1, 1)) k_ld42 9 rfl
theorem k_L1552 : decode code 1552 = .ok (.aload_n 0, 1) := k_dlw (x := (1552, .aload_n 0, 1)) k_ld42 10 rfl
theorem k_L1553 : decode code 1553 = .ok (.iload_n 3, 1) := k_dlw (x := (1553, .iload_n 3, 1)) k_ld42 11 rfl
theorem k_L1554 : decode code 1554 = .ok (.iconst 1, 1) := k_dlw (x := (1554, .iconst 1, 1)) k_ld42 12 rfl
theorem k_L1555 : decode code 1555 = .ok (.iadd, 1) := k_dlw (x := (1555, .iadd, 1)) k_ld42 13 rfl
theorem k_L1556 : decode code 1556 = .ok (.iaload, 1) := k_dlw (x := (1556, .iaload, 1)) k_ld42 14 rfl
theorem k_L1557 : decode code 1557 = .ok (.invokevirtual 181, 3) := k_dlw (x := (1557, .invokevirtual 181, 3)) k_ld42 15 rfl
theorem k_L1560 : decode code 1560 = .ok (.pop, 1) := k_dlw (x := (1560, .pop, 1)) k_ld42 16 rfl
theorem k_L1561 : decode code 1561 = .ok (.aload_n 2, 1) := k_dlw (x := (1561, .aload_n 2, 1)) k_ld42 17 rfl
theorem k_L1562 : decode code 1562 = .ok (.aload_n 0, 1) := k_dlw (x := (1562, .aload_n 0, 1)) k_ld42 18 rfl
theorem k_L1563 : decode code 1563 = .ok (.iload_n 3, 1) := k_dlw (x := (1563, .iload_n 3, 1)) k_ld42 19 rfl
theorem k_L1564 : decode code 1564 = .ok (.iconst 1, 1) := k_dlw (x := (1564, .iconst 1, 1)) k_ld42 20 rfl
theorem k_L1565 : decode code 1565 = .ok (.iadd, 1) := k_dlw (x := (1565, .iadd, 1)) k_ld42 21 rfl
theorem k_L1566 : decode code 1566 = .ok (.iaload, 1) := k_dlw (x := (1566, .iaload, 1)) k_ld42 22 rfl
theorem k_L1567 : decode code 1567 = .ok (.invokevirtual 184, 3) := k_dlw (x := (1567, .invokevirtual 184, 3)) k_ld42 23 rfl
theorem k_L1570 : decode code 1570 = .ok (.pop, 1) := k_dlw (x := (1570, .pop, 1)) k_ld42 24 rfl
theorem k_L1571 : decode code 1571 = .ok (.goto 418, 3) := k_dlw (x := (1571, .goto 418, 3)) k_ld43 0 rfl
theorem k_L1574 : decode code 1574 = .ok (.aload_n 1, 1) := k_dlw (x := (1574, .aload_n 1, 1)) k_ld43 1 rfl
theorem k_L1575 : decode code 1575 = .ok (.aload_n 0, 1) := k_dlw (x := (1575, .aload_n 0, 1)) k_ld43 2 rfl
theorem k_L1576 : decode code 1576 = .ok (.iload_n 3, 1) := k_dlw (x := (1576, .iload_n 3, 1)) k_ld43 3 rfl
theorem k_L1577 : decode code 1577 = .ok (.iconst 1, 1) := k_dlw (x := (1577, .iconst 1, 1)) k_ld43 4 rfl
theorem k_L1578 : decode code 1578 = .ok (.iadd, 1) := k_dlw (x := (1578, .iadd, 1)) k_ld43 5 rfl
theorem k_L1579 : decode code 1579 = .ok (.iaload, 1) := k_dlw (x := (1579, .iaload, 1)) k_ld43 6 rfl
theorem k_L1580 : decode code 1580 = .ok (.invokevirtual 185, 3) := k_dlw (x := (1580, .invokevirtual 185, 3)) k_ld43 7 rfl
theorem k_L1583 : decode code 1583 = .ok (.pop, 1) := k_dlw (x := (1583, .pop, 1)) k_ld43 8 rfl
theorem k_L1584 : decode code 1584 = .ok (.aload_n 2, 1) := k_dlw (x := (1584, .aload_n 2, 1)) k_ld43 9 rfl
theorem k_L1585 : decode code 1585 = .ok (.aload_n 0, 1) := k_dlw (x := (1585, .aload_n 0, 1)) k_ld43 10 rfl
theorem k_L1586 : decode code 1586 = .ok (.iload_n 3, 1) := k_dlw (x := (1586, .iload_n 3, 1)) k_ld43 11 rfl
theorem k_L1587 : decode code 1587 = .ok (.iconst 1, 1) := k_dlw (x := (1587, .iconst 1, 1)) k_ld43 12 rfl
theorem k_L1588 : decode code 1588 = .ok (.iadd, 1) := k_dlw (x := (1588, .iadd, 1)) k_ld43 13 rfl
theorem k_L1589 : decode code 1589 = .ok (.iaload, 1) := k_dlw (x := (1589, .iaload, 1)) k_ld43 14 rfl
theorem k_L1590 : decode code 1590 = .ok (.invokevirtual 188, 3) := k_dlw (x := (1590, .invokevirtual 188, 3)) k_ld43 15 rfl
theorem k_L1593 : decode code 1593 = .ok (.pop, 1) := k_dlw (x := (1593, .pop, 1)) k_ld43 16 rfl
theorem k_L1594 : decode code 1594 = .ok (.goto 395, 3) := k_dlw (x := (1594, .goto 395, 3)) k_ld43 17 rfl
theorem k_L1597 : decode code 1597 = .ok (.aload_n 1, 1) := k_dlw (x := (1597, .aload_n 1, 1)) k_ld43 18 rfl
theorem k_L1598 : decode code 1598 = .ok (.aload_n 0, 1) := k_dlw (x := (1598, .aload_n 0, 1)) k_ld43 19 rfl
theorem k_L1599 : decode code 1599 = .ok (.iload_n 3, 1) := k_dlw (x := (1599, .iload_n 3, 1)) k_ld43 20 rfl
theorem k_L1600 : decode code 1600 = .ok (.iconst 1, 1) := k_dlw (x := (1600, .iconst 1, 1)) k_ld43 21 rfl
theorem k_L1601 : decode code 1601 = .ok (.iadd, 1) := k_dlw (x := (1601, .iadd, 1)) k_ld43 22 rfl
theorem k_L1602 : decode code 1602 = .ok (.iaload, 1) := k_dlw (x := (1602, .iaload, 1)) k_ld43 23 rfl
theorem k_L1603 : decode code 1603 = .ok (.invokevirtual 189, 3) := k_dlw (x := (1603, .invokevirtual 189, 3)) k_ld43 24 rfl
theorem k_L1606 : decode code 1606 = .ok (.pop, 1) := k_dlw (x := (1606, .pop, 1)) k_ld44 0 rfl
theorem k_L1607 : decode code 1607 = .ok (.aload_n 2, 1) := k_dlw (x := (1607, .aload_n 2, 1)) k_ld44 1 rfl
theorem k_L1608 : decode code 1608 = .ok (.aload_n 0, 1) := k_dlw (x := (1608, .aload_n 0, 1)) k_ld44 2 rfl
theorem k_L1609 : decode code 1609 = .ok (.iload_n 3, 1) := k_dlw (x := (1609, .iload_n 3, 1)) k_ld44 3 rfl
theorem k_L1610 : decode code 1610 = .ok (.iconst 1, 1) := k_dlw (x := (1610, .iconst 1, 1)) k_ld44 4 rfl
theorem k_L1611 : decode code 1611 = .ok (.iadd, 1) := k_dlw (x := (1611, .iadd, 1)) k_ld44 5 rfl
theorem k_L1612 : decode code 1612 = .ok (.iaload, 1) := k_dlw (x := (1612, .iaload, 1)) k_ld44 6 rfl
theorem k_L1613 : decode code 1613 = .ok (.invokevirtual 192, 3) := k_dlw (x := (1613, .invokevirtual 192, 3)) k_ld44 7 rfl
theorem k_L1616 : decode code 1616 = .ok (.pop, 1) := k_dlw (x := (1616, .pop, 1)) k_ld44 8 rfl
theorem k_L1617 : decode code 1617 = .ok (.goto 372, 3) := k_dlw (x := (1617, .goto 372, 3)) k_ld44 9 rfl
theorem k_L1620 : decode code 1620 = .ok (.aload_n 1, 1) := k_dlw (x := (1620, .aload_n 1, 1)) k_ld44 10 rfl
theorem k_L1621 : decode code 1621 = .ok (.aload_n 0, 1) := k_dlw (x := (1621, .aload_n 0, 1)) k_ld44 11 rfl
theorem k_L1622 : decode code 1622 = .ok (.iload_n 3, 1) := k_dlw (x := (1622, .iload_n 3, 1)) k_ld44 12 rfl
theorem k_L1623 : decode code 1623 = .ok (.iconst 1, 1) := k_dlw (x := (1623, .iconst 1, 1)) k_ld44 13 rfl
theorem k_L1624 : decode code 1624 = .ok (.iadd, 1) := k_dlw (x := (1624, .iadd, 1)) k_ld44 14 rfl
theorem k_L1625 : decode code 1625 = .ok (.iaload, 1) := k_dlw (x := (1625, .iaload, 1)) k_ld44 15 rfl
theorem k_L1626 : decode code 1626 = .ok (.invokevirtual 193, 3) := k_dlw (x := (1626, .invokevirtual 193, 3)) k_ld44 16 rfl
theorem k_L1629 : decode code 1629 = .ok (.pop, 1) := k_dlw (x := (1629, .pop, 1)) k_ld44 17 rfl
theorem k_L1630 : decode code 1630 = .ok (.aload_n 2, 1) := k_dlw (x := (1630, .aload_n 2, 1)) k_ld44 18 rfl
theorem k_L1631 : decode code 1631 = .ok (.aload_n 0, 1) := k_dlw (x := (1631, .aload_n 0, 1)) k_ld44 19 rfl
theorem k_L1632 : decode code 1632 = .ok (.iload_n 3, 1) := k_dlw (x := (1632, .iload_n 3, 1)) k_ld44 20 rfl
theorem k_L1633 : decode code 1633 = .ok (.iconst 1, 1) := k_dlw (x := (1633, .iconst 1, 1)) k_ld44 21 rfl
theorem k_L1634 : decode code 1634 = .ok (.iadd, 1) := k_dlw (x := (1634, .iadd, 1)) k_ld44 22 rfl
theorem k_L1635 : decode code 1635 = .ok (.iaload, 1) := k_dlw (x := (1635, .iaload, 1)) k_ld44 23 rfl
theorem k_L1636 : decode code 1636 = .ok (.invokevirtual 196, 3) := k_dlw (x := (1636, .invokevirtual 196, 3)) k_ld44 24 rfl
theorem k_L1639 : decode code 1639 = .ok (.pop, 1) := k_dlw (x := (1639, .pop, 1)) k_ld45 0 rfl
theorem k_L1640 : decode code 1640 = .ok (.goto 349, 3) := k_dlw (x := (1640, .goto 349, 3)) k_ld45 1 rfl
theorem k_L1643 : decode code 1643 = .ok (.aload_n 1, 1) := k_dlw (x := (1643, .aload_n 1, 1)) k_ld45 2 rfl
theorem k_L1644 : decode code 1644 = .ok (.aload_n 0, 1) := k_dlw (x := (1644, .aload_n 0, 1)) k_ld45 3 rfl
theorem k_L1645 : decode code 1645 = .ok (.iload_n 3, 1) := k_dlw (x := (1645, .iload_n 3, 1)) k_ld45 4 rfl
theorem k_L1646 : decode code 1646 = .ok (.iconst 1, 1) := k_dlw (x := (1646, .iconst 1, 1)) k_ld45 5 rfl
theorem k_L1647 : decode code 1647 = .ok (.iadd, 1) := k_dlw (x := (1647, .iadd, 1)) k_ld45 6 rfl
theorem k_L1648 : decode code 1648 = .ok (.iaload, 1) := k_dlw (x := (1648, .iaload, 1)) k_ld45 7 rfl
theorem k_L1649 : decode code 1649 = .ok (.aload_n 0, 1) := k_dlw (x := (1649, .aload_n 0, 1)) k_ld45 8 rfl
theorem k_L1650 : decode code 1650 = .ok (.iload_n 3, 1) := k_dlw (x := (1650, .iload_n 3, 1)) k_ld45 9 rfl
theorem k_L1651 : decode code 1651 = .ok (.iconst 2, 1) := k_dlw (x := (1651, .iconst 2, 1)) k_ld45 10 rfl
theorem k_L1652 : decode code 1652 = .ok (.iadd, 1) := k_dlw (x := (1652, .iadd, 1)) k_ld45 11 rfl
theorem k_L1653 : decode code 1653 = .ok (.iaload, 1) := k_dlw (x := (1653, .iaload, 1)) k_ld45 12 rfl
theorem k_L1654 : decode code 1654 = .ok (.invokevirtual 197, 3) := k_dlw (x := (1654, .invokevirtual 197, 3)) k_ld45 13 rfl
theorem k_L1657 : decode code 1657 = .ok (.pop, 1) := k_dlw (x := (1657, .pop, 1)) k_ld45 14 rfl
theorem k_L1658 : decode code 1658 = .ok (.aload_n 2, 1) := k_dlw (x := (1658, .aload_n 2, 1)) k_ld45 15 rfl
theorem k_L1659 : decode code 1659 = .ok (.aload_n 0, 1) := k_dlw (x := (1659, .aload_n 0, 1)) k_ld45 16 rfl
theorem k_L1660 : decode code 1660 = .ok (.iload_n 3, 1) := k_dlw (x := (1660, .iload_n 3, 1)) k_ld45 17 rfl
theorem k_L1661 : decode code 1661 = .ok (.iconst 1, 1) := k_dlw (x := (1661, .iconst 1, 1)) k_ld45 18 rfl
theorem k_L1662 : decode code 1662 = .ok (.iadd, 1) := k_dlw (x := (1662, .iadd, 1)) k_ld45 19 rfl
theorem k_L1663 : decode code 1663 = .ok (.iaload, 1) := k_dlw (x := (1663, .iaload, 1)) k_ld45 20 rfl
theorem k_L1664 : decode code 1664 = .ok (.aload_n 0, 1) := k_dlw (x := (1664, .aload_n 0, 1)) k_ld45 21 rfl
theorem k_L1665 : decode code 1665 = .ok (.iload_n 3, 1) := k_dlw (x := (1665, .iload_n 3, 1)) k_ld45 22 rfl
theorem k_L1666 : decode code 1666 = .ok (.iconst 2, 1) := k_dlw (x := (1666, .iconst 2, 1)) k_ld45 23 rfl
theorem k_L1667 : decode code 1667 = .ok (.iadd, 1) := k_dlw (x := (1667, .iadd, 1)) k_ld45 24 rfl
theorem k_L1668 : decode code 1668 = .ok (.iaload, 1) := k_dlw (x := (1668, .iaload, 1)) k_ld46 0 rfl
theorem k_L1669 : decode code 1669 = .ok (.invokevirtual 200, 3) := k_dlw (x := (1669, .invokevirtual 200, 3)) k_ld46 1 rfl
theorem k_L1672 : decode code 1672 = .ok (.pop, 1) := k_dlw (x := (1672, .pop, 1)) k_ld46 2 rfl
theorem k_L1673 : decode code 1673 = .ok (.goto 316, 3) := k_dlw (x := (1673, .goto 316, 3)) k_ld46 3 rfl
theorem k_L1676 : decode code 1676 = .ok (.aload_n 1, 1) := k_dlw (x := (1676, .aload_n 1, 1)) k_ld46 4 rfl
theorem k_L1677 : decode code 1677 = .ok (.aload_n 0, 1) := k_dlw (x := (1677, .aload_n 0, 1)) k_ld46 5 rfl
theorem k_L1678 : decode code 1678 = .ok (.iload_n 3, 1) := k_dlw (x := (1678, .iload_n 3, 1)) k_ld46 6 rfl
theorem k_L1679 : decode code 1679 = .ok (.iconst 1, 1) := k_dlw (x := (1679, .iconst 1, 1)) k_ld46 7 rfl
theorem k_L1680 : decode code 1680 = .ok (.iadd, 1) := k_dlw (x := (1680, .iadd, 1)) k_ld46 8 rfl
theorem k_L1681 : decode code 1681 = .ok (.iaload, 1) := k_dlw (x := (1681, .iaload, 1)) k_ld46 9 rfl
theorem k_L1682 : decode code 1682 = .ok (.aload_n 0, 1) := k_dlw (x := (1682, .aload_n 0, 1)) k_ld46 10 rfl
theorem k_L1683 : decode code 1683 = .ok (.iload_n 3, 1) := k_dlw (x := (1683, .iload_n 3, 1)) k_ld46 11 rfl
theorem k_L1684 : decode code 1684 = .ok (.iconst 2, 1) := k_dlw (x := (1684, .iconst 2, 1)) k_ld46 12 rfl
theorem k_L1685 : decode code 1685 = .ok (.iadd, 1) := k_dlw (x := (1685, .iadd, 1)) k_ld46 13 rfl
theorem k_L1686 : decode code 1686 = .ok (.iaload, 1) := k_dlw (x := (1686, .iaload, 1)) k_ld46 14 rfl
theorem k_L1687 : decode code 1687 = .ok (.aload_n 0, 1) := k_dlw (x := (1687, .aload_n 0, 1)) k_ld46 15 rfl
theorem k_L1688 : decode code 1688 = .ok (.iload_n 3, 1) := k_dlw (x := (1688, .iload_n 3, 1)) k_ld46 16 rfl
theorem k_L1689 : decode code 1689 = .ok (.iconst 3, 1) := k_dlw (x := (1689, .iconst 3, 1)) k_ld46 17 rfl
theorem k_L1690 : decode code 1690 = .ok (.iadd, 1) := k_dlw (x := (1690, .iadd, 1)) k_ld46 18 rfl
theorem k_L1691 : decode code 1691 = .ok (.iaload, 1) := k_dlw (x := (1691, .iaload, 1)) k_ld46 19 rfl
theorem k_L1692 : decode code 1692 = .ok (.aload_n 0, 1) := k_dlw (x := (1692, .aload_n 0, 1)) k_ld46 20 rfl
theorem k_L1693 : decode code 1693 = .ok (.iload_n 3, 1) := k_dlw (x := (1693, .iload_n 3, 1)) k_ld46 21 rfl
theorem k_L1694 : decode code 1694 = .ok (.iconst 4, 1) := k_dlw (x := (1694, .iconst 4, 1)) k_ld46 22 rfl
theorem k_L1695 : decode code 1695 = .ok (.iadd, 1) := k_dlw (x := (1695, .iadd, 1)) k_ld46 23 rfl
theorem k_L1696 : decode code 1696 = .ok (.iaload, 1) := k_dlw (x := (1696, .iaload, 1)) k_ld46 24 rfl
theorem k_L1697 : decode code 1697 = .ok (.aload_n 0, 1) := k_dlw (x := (1697, .aload_n 0, 1)) k_ld47 0 rfl
theorem k_L1698 : decode code 1698 = .ok (.iload_n 3, 1) := k_dlw (x := (1698, .iload_n 3, 1)) k_ld47 1 rfl
theorem k_L1699 : decode code 1699 = .ok (.iconst 5, 1) := k_dlw (x := (1699, .iconst 5, 1)) k_ld47 2 rfl
theorem k_L1700 : decode code 1700 = .ok (.iadd, 1) := k_dlw (x := (1700, .iadd, 1)) k_ld47 3 rfl
theorem k_L1701 : decode code 1701 = .ok (.iaload, 1) := k_dlw (x := (1701, .iaload, 1)) k_ld47 4 rfl
theorem k_L1702 : decode code 1702 = .ok (.invokevirtual 201, 3) := k_dlw (x := (1702, .invokevirtual 201, 3)) k_ld47 5 rfl
theorem k_L1705 : decode code 1705 = .ok (.pop, 1) := k_dlw (x := (1705, .pop, 1)) k_ld47 6 rfl
theorem k_L1706 : decode code 1706 = .ok (.aload_n 2, 1) := k_dlw (x := (1706, .aload_n 2, 1)) k_ld47 7 rfl
theorem k_L1707 : decode code 1707 = .ok (.aload_n 0, 1) := k_dlw (x := (1707, .aload_n 0, 1)) k_ld47 8 rfl
theorem k_L1708 : decode code 1708 = .ok (.iload_n 3, 1) := k_dlw (x := (1708, .iload_n 3, 1)) k_ld47 9 rfl
theorem k_L1709 : decode code 1709 = .ok (.iconst 1, 1) := k_dlw (x := (1709, .iconst 1, 1)) k_ld47 10 rfl
theorem k_L1710 : decode code 1710 = .ok (.iadd, 1) := k_dlw (x := (1710, .iadd, 1)) k_ld47 11 rfl
theorem k_L1711 : decode code 1711 = .ok (.iaload, 1) := k_dlw (x := (1711, .iaload, 1)) k_ld47 12 rfl
theorem k_L1712 : decode code 1712 = .ok (.aload_n 0, 1) := k_dlw (x := (1712, .aload_n 0, 1)) k_ld47 13 rfl
theorem k_L1713 : decode code 1713 = .ok (.iload_n 3, 1) := k_dlw (x := (1713, .iload_n 3, 1)) k_ld47 14 rfl
theorem k_L1714 : decode code 1714 = .ok (.iconst 2, 1) := k_dlw (x := (1714, .iconst 2, 1)) k_ld47 15 rfl
theorem k_L1715 : decode code 1715 = .ok (.iadd, 1) := k_dlw (x := (1715, .iadd, 1)) k_ld47 16 rfl
theorem k_L1716 : decode code 1716 = .ok (.iaload, 1) := k_dlw (x := (1716, .iaload, 1)) k_ld47 17 rfl
theorem k_L1717 : decode code 1717 = .ok (.aload_n 0, 1) := k_dlw (x := (1717, .aload_n 0, 1)) k_ld47 18 rfl
theorem k_L1718 : decode code 1718 = .ok (.iload_n 3, 1) := k_dlw (x := (1718, .iload_n 3, 1)) k_ld47 19 rfl
theorem k_L1719 : decode code 1719 = .ok (.iconst 3, 1) := k_dlw (x := (1719, .iconst 3, 1)) k_ld47 20 rfl
theorem k_L1720 : decode code 1720 = .ok (.iadd, 1) := k_dlw (x := (1720, .iadd, 1)) k_ld47 21 rfl
theorem k_L1721 : decode code 1721 = .ok (.iaload, 1) := k_dlw (x := (1721, .iaload, 1)) k_ld47 22 rfl
theorem k_L1722 : decode code 1722 = .ok (.aload_n 0, 1) := k_dlw (x := (1722, .aload_n 0, 1)) k_ld47 23 rfl
theorem k_L1723 : decode code 1723 = .ok (.iload_n 3, 1) := k_dlw (x := (1723, .iload_n 3, 1)) k_ld47 24 rfl
theorem k_L1724 : decode code 1724 = .ok (.iconst 4, 1) := k_dlw (x := (1724, .iconst 4, 1)) k_ld48 0 rfl
theorem k_L1725 : decode code 1725 = .ok (.iadd, 1) := k_dlw (x := (1725, .iadd, 1)) k_ld48 1 rfl
theorem k_L1726 : decode code 1726 = .ok (.iaload, 1) := k_dlw (x := (1726, .iaload, 1)) k_ld48 2 rfl
theorem k_L1727 : decode code 1727 = .ok (.aload_n 0, 1) := k_dlw (x := (1727, .aload_n 0, 1)) k_ld48 3 rfl
theorem k_L1728 : decode code 1728 = .ok (.iload_n 3, 1) := k_dlw (x := (1728, .iload_n 3, 1)) k_ld48 4 rfl
theorem k_L1729 : decode code 1729 = .ok (.iconst 5, 1) := k_dlw (x := (1729, .iconst 5, 1)) k_ld48 5 rfl
theorem k_L1730 : decode code 1730 = .ok (.iadd, 1) := k_dlw (x := (1730, .iadd, 1)) k_ld48 6 rfl
theorem k_L1731 : decode code 1731 = .ok (.iaload, 1) := k_dlw (x := (1731, .iaload, 1)) k_ld48 7 rfl
theorem k_L1732 : decode code 1732 = .ok (.invokevirtual 204, 3) := k_dlw (x := (1732, .invokevirtual 204, 3)) k_ld48 8 rfl
theorem k_L1735 : decode code 1735 = .ok (.pop, 1) := k_dlw (x := (1735, .pop, 1)) k_ld48 9 rfl
theorem k_L1736 : decode code 1736 = .ok (.goto 253, 3) := k_dlw (x := (1736, .goto 253, 3)) k_ld48 10 rfl
theorem k_L1739 : decode code 1739 = .ok (.aload_n 1, 1) := k_dlw (x := (1739, .aload_n 1, 1)) k_ld48 11 rfl
theorem k_L1740 : decode code 1740 = .ok (.aload_n 0, 1) := k_dlw (x := (1740, .aload_n 0, 1)) k_ld48 12 rfl
theorem k_L1741 : decode code 1741 = .ok (.iload_n 3, 1) := k_dlw (x := (1741, .iload_n 3, 1)) k_ld48 13 rfl
theorem k_L1742 : decode code 1742 = .ok (.iconst 1, 1) := k_dlw (x := (1742, .iconst 1, 1)) k_ld48 14 rfl
theorem k_L1743 : decode code 1743 = .ok (.iadd, 1) := k_dlw (x := (1743, .iadd, 1)) k_ld48 15 rfl
theorem k_L1744 : decode code 1744 = .ok (.iaload, 1) := k_dlw (x := (1744, .iaload, 1)) k_ld48 16 rfl
theorem k_L1745 : decode code 1745 = .ok (.aload_n 0, 1) := k_dlw (x := (1745, .aload_n 0, 1)) k_ld48 17 rfl
theorem k_L1746 : decode code 1746 = .ok (.iload_n 3, 1) := k_dlw (x := (1746, .iload_n 3, 1)) k_ld48 18 rfl
theorem k_L1747 : decode code 1747 = .ok (.iconst 2, 1) := k_dlw (x := (1747, .iconst 2, 1)) k_ld48 19 rfl
theorem k_L1748 : decode code 1748 = .ok (.iadd, 1) := k_dlw (x := (1748, .iadd, 1)) k_ld48 20 rfl
theorem k_L1749 : decode code 1749 = .ok (.iaload, 1) := k_dlw (x := (1749, .iaload, 1)) k_ld48 21 rfl
theorem k_L1750 : decode code 1750 = .ok (.aload_n 0, 1) := k_dlw (x := (1750, .aload_n 0, 1)) k_ld48 22 rfl
theorem k_L1751 : decode code 1751 = .ok (.iload_n 3, 1) := k_dlw (x := (1751, .iload_n 3, 1)) k_ld48 23 rfl
theorem k_L1752 : decode code 1752 = .ok (.iconst 3, 1) := k_dlw (x := (1752, .iconst 3, 1)) k_ld48 24 rfl
theorem k_L1753 : decode code 1753 = .ok (.iadd, 1) := k_dlw (x := (1753, .iadd, 1)) k_ld49 0 rfl
theorem k_L1754 : decode code 1754 = .ok (.iaload, 1) := k_dlw (x := (1754, .iaload, 1)) k_ld49 1 rfl
theorem k_L1755 : decode code 1755 = .ok (.aload_n 0, 1) := k_dlw (x := (1755, .aload_n 0, 1)) k_ld49 2 rfl
theorem k_L1756 : decode code 1756 = .ok (.iload_n 3, 1) := k_dlw (x := (1756, .iload_n 3, 1)) k_ld49 3 rfl
theorem k_L1757 : decode code 1757 = .ok (.iconst 4, 1) := k_dlw (x := (1757, .iconst 4, 1)) k_ld49 4 rfl
theorem k_L1758 : decode code 1758 = .ok (.iadd, 1) := k_dlw (x := (1758, .iadd, 1)) k_ld49 5 rfl
theorem k_L1759 : decode code 1759 = .ok (.iaload, 1) := k_dlw (x := (1759, .iaload, 1)) k_ld49 6 rfl
theorem k_L1760 : decode code 1760 = .ok (.aload_n 0, 1) := k_dlw (x := (1760, .aload_n 0, 1)) k_ld49 7 rfl
theorem k_L1761 : decode code 1761 = .ok (.iload_n 3, 1) := k_dlw (x := (1761, .iload_n 3, 1)) k_ld49 8 rfl
theorem k_L1762 : decode code 1762 = .ok (.iconst 5, 1) := k_dlw (x := (1762, .iconst 5, 1)) k_ld49 9 rfl
theorem k_L1763 : decode code 1763 = .ok (.iadd, 1) := k_dlw (x := (1763, .iadd, 1)) k_ld49 10 rfl
theorem k_L1764 : decode code 1764 = .ok (.iaload, 1) := k_dlw (x := (1764, .iaload, 1)) k_ld49 11 rfl
theorem k_L1765 : decode code 1765 = .ok (.invokevirtual 205, 3) := k_dlw (x := (1765, .invokevirtual 205, 3)) k_ld49 12 rfl
theorem k_L1768 : decode code 1768 = .ok (.pop, 1) := k_dlw (x := (1768, .pop, 1)) k_ld49 13 rfl
theorem k_L1769 : decode code 1769 = .ok (.aload_n 2, 1) := k_dlw (x := (1769, .aload_n 2, 1)) k_ld49 14 rfl
theorem k_L1770 : decode code 1770 = .ok (.aload_n 0, 1) := k_dlw (x := (1770, .aload_n 0, 1)) k_ld49 15 rfl
theorem k_L1771 : decode code 1771 = .ok (.iload_n 3, 1) := k_dlw (x := (1771, .iload_n 3, 1)) k_ld49 16 rfl
theorem k_L1772 : decode code 1772 = .ok (.iconst 1, 1) := k_dlw (x := (1772, .iconst 1, 1)) k_ld49 17 rfl
theorem k_L1773 : decode code 1773 = .ok (.iadd, 1) := k_dlw (x := (1773, .iadd, 1)) k_ld49 18 rfl
theorem k_L1774 : decode code 1774 = .ok (.iaload, 1) := k_dlw (x := (1774, .iaload, 1)) k_ld49 19 rfl
theorem k_L1775 : decode code 1775 = .ok (.aload_n 0, 1) := k_dlw (x := (1775, .aload_n 0, 1)) k_ld49 20 rfl
theorem k_L1776 : decode code 1776 = .ok (.iload_n 3, 1) := k_dlw (x := (1776, .iload_n 3, 1)) k_ld49 21 rfl
theorem k_L1777 : decode code 1777 = .ok (.iconst 2, 1) := k_dlw (x := (1777, .iconst 2, 1)) k_ld49 22 rfl
theorem k_L1778 : decode code 1778 = .ok (.iadd, 1) := k_dlw (x := (1778, .iadd, 1)) k_ld49 23 rfl
theorem k_L1779 : decode code 1779 = .ok (.iaload, 1) := k_dlw (x := (1779, .iaload, 1)) k_ld49 24 rfl
theorem k_L1780 : decode code 1780 = .ok (.aload_n 0, 1) := k_dlw (x := (1780, .aload_n 0, 1)) k_ld50 0 rfl
theorem k_L1781 : decode code 1781 = .ok (.iload_n 3, 1) := k_dlw (x := (1781, .iload_n 3, 1)) k_ld50 1 rfl
theorem k_L1782 : decode code 1782 = .ok (.iconst 3, 1) := k_dlw (x := (1782, .iconst 3, 1)) k_ld50 2 rfl
theorem k_L1783 : decode code 1783 = .ok (.iadd, 1) := k_dlw (x := (1783, .iadd, 1)) k_ld50 3 rfl
theorem k_L1784 : decode code 1784 = .ok (.iaload, 1) := k_dlw (x := (1784, .iaload, 1)) k_ld50 4 rfl
theorem k_L1785 : decode code 1785 = .ok (.aload_n 0, 1) := k_dlw (x := (1785, .aload_n 0, 1)) k_ld50 5 rfl
theorem k_L1786 : decode code 1786 = .ok (.iload_n 3, 1) := k_dlw (x := (1786, .iload_n 3, 1)) k_ld50 6 rfl
theorem k_L1787 : decode code 1787 = .ok (.iconst 4, 1) := k_dlw (x := (1787, .iconst 4, 1)) k_ld50 7 rfl
theorem k_L1788 : decode code 1788 = .ok (.iadd, 1) := k_dlw (x := (1788, .iadd, 1)) k_ld50 8 rfl
theorem k_L1789 : decode code 1789 = .ok (.iaload, 1) := k_dlw (x := (1789, .iaload, 1)) k_ld50 9 rfl
theorem k_L1790 : decode code 1790 = .ok (.aload_n 0, 1) := k_dlw (x := (1790, .aload_n 0, 1)) k_ld50 10 rfl
theorem k_L1791 : decode code 1791 = .ok (.iload_n 3, 1) := k_dlw (x := (1791, .iload_n 3, 1)) k_ld50 11 rfl
theorem k_L1792 : decode code 1792 = .ok (.iconst 5, 1) := k_dlw (x := (1792, .iconst 5, 1)) k_ld50 12 rfl
theorem k_L1793 : decode code 1793 = .ok (.iadd, 1) := k_dlw (x := (1793, .iadd, 1)) k_ld50 13 rfl
theorem k_L1794 : decode code 1794 = .ok (.iaload, 1) := k_dlw (x := (1794, .iaload, 1)) k_ld50 14 rfl
theorem k_L1795 : decode code 1795 = .ok (.invokevirtual 208, 3) := k_dlw (x := (1795, .invokevirtual 208, 3)) k_ld50 15 rfl
theorem k_L1798 : decode code 1798 = .ok (.pop, 1) := k_dlw (x := (1798, .pop, 1)) k_ld50 16 rfl
theorem k_L1799 : decode code 1799 = .ok (.goto 190, 3) := k_dlw (x := (1799, .goto 190, 3)) k_ld50 17 rfl
theorem k_L1802 : decode code 1802 = .ok (.aload_n 1, 1) := k_dlw (x := (1802, .aload_n 1, 1)) k_ld50 18 rfl
theorem k_L1803 : decode code 1803 = .ok (.aload_n 0, 1) := k_dlw (x := (1803, .aload_n 0, 1)) k_ld50 19 rfl
theorem k_L1804 : decode code 1804 = .ok (.iload_n 3, 1) := k_dlw (x := (1804, .iload_n 3, 1)) k_ld50 20 rfl
theorem k_L1805 : decode code 1805 = .ok (.iconst 1, 1) := k_dlw (x := (1805, .iconst 1, 1)) k_ld50 21 rfl
theorem k_L1806 : decode code 1806 = .ok (.iadd, 1) := k_dlw (x := (1806, .iadd, 1)) k_ld50 22 rfl
theorem k_L1807 : decode code 1807 = .ok (.iaload, 1) := k_dlw (x := (1807, .iaload, 1)) k_ld50 23 rfl
theorem k_L1808 : decode code 1808 = .ok (.invokevirtual 209, 3) := k_dlw (x := (1808, .invokevirtual 209, 3)) k_ld50 24 rfl
theorem k_L1811 : decode code 1811 = .ok (.pop, 1) := k_dlw (x := (1811, .pop, 1)) k_ld51 0 rfl
theorem k_L1812 : decode code 1812 = .ok (.aload_n 2, 1) := k_dlw (x := (1812, .aload_n 2, 1)) k_ld51 1 rfl
theorem k_L1813 : decode code 1813 = .ok (.aload_n 0, 1) := k_dlw (x := (1813, .aload_n 0, 1)) k_ld51 2 rfl
theorem k_L1814 : decode code 1814 = .ok (.iload_n 3, 1) := k_dlw (x := (1814, .iload_n 3, 1)) k_ld51 3 rfl
theorem k_L1815 : decode code 1815 = .ok (.iconst 1, 1) := k_dlw (x := (1815, .iconst 1, 1)) k_ld51 4 rfl
theorem k_L1816 : decode code 1816 = .ok (.iadd, 1) := k_dlw (x := (1816, .iadd, 1)) k_ld51 5 rfl
theorem k_L1817 : decode code 1817 = .ok (.iaload, 1) := k_dlw (x := (1817, .iaload, 1)) k_ld51 6 rfl
theorem k_L1818 : decode code 1818 = .ok (.invokevirtual 212, 3) := k_dlw (x := (1818, .invokevirtual 212, 3)) k_ld51 7 rfl
theorem k_L1821 : decode code 1821 = .ok (.pop, 1) := k_dlw (x := (1821, .pop, 1)) k_ld51 8 rfl
theorem k_L1822 : decode code 1822 = .ok (.goto 167, 3) := k_dlw (x := (1822, .goto 167, 3)) k_ld51 9 rfl
theorem k_L1825 : decode code 1825 = .ok (.aload_n 1, 1) := k_dlw (x := (1825, .aload_n 1, 1)) k_ld51 10 rfl
theorem k_L1826 : decode code 1826 = .ok (.aload_n 0, 1) := k_dlw (x := (1826, .aload_n 0, 1)) k_ld51 11 rfl
theorem k_L1827 : decode code 1827 = .ok (.iload_n 3, 1) := k_dlw (x := (1827, .iload_n 3, 1)) k_ld51 12 rfl
theorem k_L1828 : decode code 1828 = .ok (.iconst 1, 1) := k_dlw (x := (1828, .iconst 1, 1)) k_ld51 13 rfl
theorem k_L1829 : decode code 1829 = .ok (.iadd, 1) := k_dlw (x := (1829, .iadd, 1)) k_ld51 14 rfl
theorem k_L1830 : decode code 1830 = .ok (.iaload, 1) := k_dlw (x := (1830, .iaload, 1)) k_ld51 15 rfl
theorem k_L1831 : decode code 1831 = .ok (.invokevirtual 213, 3) := k_dlw (x := (1831, .invokevirtual 213, 3)) k_ld51 16 rfl
theorem k_L1834 : decode code 1834 = .ok (.pop, 1) := k_dlw (x := (1834, .pop, 1)) k_ld51 17 rfl
theorem k_L1835 : decode code 1835 = .ok (.aload_n 2, 1) := k_dlw (x := (1835, .aload_n 2, 1)) k_ld51 18 rfl
theorem k_L1836 : decode code 1836 = .ok (.aload_n 0, 1) := k_dlw (x := (1836, .aload_n 0, 1)) k_ld51 19 rfl
theorem k_L1837 : decode code 1837 = .ok (.iload_n 3, 1) := k_dlw (x := (1837, .iload_n 3, 1)) k_ld51 20 rfl
theorem k_L1838 : decode code 1838 = .ok (.iconst 1, 1) := k_dlw (x := (1838, .iconst 1, 1)) k_ld51 21 rfl
theorem k_L1839 : decode code 1839 = .ok (.iadd, 1) := k_dlw (x := (1839, .iadd, 1)) k_ld51 22 rfl
theorem k_L1840 : decode code 1840 = .ok (.iaload, 1) := k_dlw (x := (1840, .iaload, 1)) k_ld51 23 rfl
theorem k_L1841 : decode code 1841 = .ok (.invokevirtual 216, 3) := k_dlw (x := (1841, .invokevirtual 216, 3)) k_ld51 24 rfl
theorem k_L1844 : decode code 1844 = .ok (.pop, 1) := k_dlw (x := (1844, .pop, 1)) k_ld52 0 rfl
theorem k_L1845 : decode code 1845 = .ok (.goto 144, 3) := k_dlw (x := (1845, .goto 144, 3)) k_ld52 1 rfl
theorem k_L1848 : decode code 1848 = .ok (.aload_n 1, 1) := k_dlw (x := (1848, .aload_n 1, 1)) k_ld52 2 rfl
theorem k_L1849 : decode code 1849 = .ok (.aload_n 0, 1) := k_dlw (x := (1849, .aload_n 0, 1)) k_ld52 3 rfl
theorem k_L1850 : decode code 1850 = .ok (.iload_n 3, 1) := k_dlw (x := (1850, .iload_n 3, 1)) k_ld52 4 rfl
theorem k_L1851 : decode code 1851 = .ok (.iconst 1, 1) := k_dlw (x := (1851, .iconst 1, 1)) k_ld52 5 rfl
theorem k_L1852 : decode code 1852 = .ok (.iadd, 1) := k_dlw (x := (1852, .iadd, 1)) k_ld52 6 rfl
theorem k_L1853 : decode code 1853 = .ok (.iaload, 1) := k_dlw (x := (1853, .iaload, 1)) k_ld52 7 rfl
theorem k_L1854 : decode code 1854 = .ok (.invokevirtual 217, 3) := k_dlw (x := (1854, .invokevirtual 217, 3)) k_ld52 8 rfl
theorem k_L1857 : decode code 1857 = .ok (.pop, 1) := k_dlw (x := (1857, .pop, 1)) k_ld52 9 rfl
theorem k_L1858 : decode code 1858 = .ok (.aload_n 2, 1) := k_dlw (x := (1858, .aload_n 2, 1)) k_ld52 10 rfl
theorem k_L1859 : decode code 1859 = .ok (.aload_n 0, 1) := k_dlw (x := (1859, .aload_n 0, 1)) k_ld52 11 rfl
theorem k_L1860 : decode code 1860 = .ok (.iload_n 3, 1) := k_dlw (x := (1860, .iload_n 3, 1)) k_ld52 12 rfl
theorem k_L1861 : decode code 1861 = .ok (.iconst 1, 1) := k_dlw (x := (1861, .iconst 1, 1)) k_ld52 13 rfl
theorem k_L1862 : decode code 1862 = .ok (.iadd, 1) := k_dlw (x := (1862, .iadd, 1)) k_ld52 14 rfl
theorem k_L1863 : decode code 1863 = .ok (.iaload, 1) := k_dlw (x := (1863, .iaload, 1)) k_ld52 15 rfl
theorem k_L1864 : decode code 1864 = .ok (.invokevirtual 220, 3) := k_dlw (x := (1864, .invokevirtual 220, 3)) k_ld52 16 rfl
theorem k_L1867 : decode code 1867 = .ok (.pop, 1) := k_dlw (x := (1867, .pop, 1)) k_ld52 17 rfl
theorem k_L1868 : decode code 1868 = .ok (.goto 121, 3) := k_dlw (x := (1868, .goto 121, 3)) k_ld52 18 rfl
theorem k_L1871 : decode code 1871 = .ok (.aload_n 1, 1) := k_dlw (x := (1871, .aload_n 1, 1)) k_ld52 19 rfl
theorem k_L1872 : decode code 1872 = .ok (.aload_n 0, 1) := k_dlw (x := (1872, .aload_n 0, 1)) k_ld52 20 rfl
theorem k_L1873 : decode code 1873 = .ok (.iload_n 3, 1) := k_dlw (x := (1873, .iload_n 3, 1)) k_ld52 21 rfl
theorem k_L1874 : decode code 1874 = .ok (.iconst 1, 1) := k_dlw (x := (1874, .iconst 1, 1)) k_ld52 22 rfl
theorem k_L1875 : decode code 1875 = .ok (.iadd, 1) := k_dlw (x := (1875, .iadd, 1)) k_ld52 23 rfl
theorem k_L1876 : decode code 1876 = .ok (.iaload, 1) := k_dlw (x := (1876, .iaload, 1)) k_ld52 24 rfl
theorem k_L1877 : decode code 1877 = .ok (.invokevirtual 221, 3) := k_dlw (x := (1877, .invokevirtual 221, 3)) k_ld53 0 rfl
theorem k_L1880 : decode code 1880 = .ok (.pop, 1) := k_dlw (x := (1880, .pop, 1)) k_ld53 1 rfl
theorem k_L1881 : decode code 1881 = .ok (.aload_n 2, 1) := k_dlw (x := (1881, .aload_n 2, 1)) k_ld53 2 rfl
theorem k_L1882 : decode code 1882 = .ok (.aload_n 0, 1) := k_dlw (x := (1882, .aload_n 0, 1)) k_ld53 3 rfl
theorem k_L1883 : decode code 1883 = .ok (.iload_n 3, 1) := k_dlw (x := (1883, .iload_n 3, 1)) k_ld53 4 rfl
theorem k_L1884 : decode code 1884 = .ok (.iconst 1, 1) := k_dlw (x := (1884, .iconst 1, 1)) k_ld53 5 rfl
theorem k_L1885 : decode code 1885 = .ok (.iadd, 1) := k_dlw (x := (1885, .iadd, 1)) k_ld53 6 rfl
theorem k_L1886 : decode code 1886 = .ok (.iaload, 1) := k_dlw (x := (1886, .iaload, 1)) k_ld53 7 rfl
theorem k_L1887 : decode code 1887 = .ok (.invokevirtual 224, 3) := k_dlw (x := (1887, .invokevirtual 224, 3)) k_ld53 8 rfl
theorem k_L1890 : decode code 1890 = .ok (.pop, 1) := k_dlw (x := (1890, .pop, 1)) k_ld53 9 rfl
theorem k_L1891 : decode code 1891 = .ok (.goto 98, 3) := k_dlw (x := (1891, .goto 98, 3)) k_ld53 10 rfl
theorem k_L1894 : decode code 1894 = .ok (.aload_n 1, 1) := k_dlw (x := (1894, .aload_n 1, 1)) k_ld53 11 rfl
theorem k_L1895 : decode code 1895 = .ok (.aload_n 0, 1) := k_dlw (x := (1895, .aload_n 0, 1)) k_ld53 12 rfl
theorem k_L1896 : decode code 1896 = .ok (.iload_n 3, 1) := k_dlw (x := (1896, .iload_n 3, 1)) k_ld53 13 rfl
theorem k_L1897 : decode code 1897 = .ok (.iconst 1, 1) := k_dlw (x := (1897, .iconst 1, 1)) k_ld53 14 rfl
theorem k_L1898 : decode code 1898 = .ok (.iadd, 1) := k_dlw (x := (1898, .iadd, 1)) k_ld53 15 rfl
theorem k_L1899 : decode code 1899 = .ok (.iaload, 1) := k_dlw (x := (1899, .iaload, 1)) k_ld53 16 rfl
theorem k_L1900 : decode code 1900 = .ok (.invokevirtual 225, 3) := k_dlw (x := (1900, .invokevirtual 225, 3)) k_ld53 17 rfl
theorem k_L1903 : decode code 1903 = .ok (.pop, 1) := k_dlw (x := (1903, .pop, 1)) k_ld53 18 rfl
theorem k_L1904 : decode code 1904 = .ok (.aload_n 2, 1) := k_dlw (x := (1904, .aload_n 2, 1)) k_ld53 19 rfl
theorem k_L1905 : decode code 1905 = .ok (.aload_n 0, 1) := k_dlw (x := (1905, .aload_n 0, 1)) k_ld53 20 rfl
theorem k_L1906 : decode code 1906 = .ok (.iload_n 3, 1) := k_dlw (x := (1906, .iload_n 3, 1)) k_ld53 21 rfl
theorem k_L1907 : decode code 1907 = .ok (.iconst 1, 1) := k_dlw (x := (1907, .iconst 1, 1)) k_ld53 22 rfl
theorem k_L1908 : decode code 1908 = .ok (.iadd, 1) := k_dlw (x := (1908, .iadd, 1)) k_ld53 23 rfl
theorem k_L1909 : decode code 1909 = .ok (.iaload, 1) := k_dlw (x := (1909, .iaload, 1)) k_ld53 24 rfl
theorem k_L1910 : decode code 1910 = .ok (.invokevirtual 228, 3) := k_dlw (x := (1910, .invokevirtual 228, 3)) k_ld54 0 rfl
theorem k_L1913 : decode code 1913 = .ok (.pop, 1) := k_dlw (x := (1913, .pop, 1)) k_ld54 1 rfl
theorem k_L1914 : decode code 1914 = .ok (.goto 75, 3) := k_dlw (x := (1914, .goto 75, 3)) k_ld54 2 rfl
theorem k_L1917 : decode code 1917 = .ok (.aload_n 1, 1) := k_dlw (x := (1917, .aload_n 1, 1)) k_ld54 3 rfl
theorem k_L1918 : decode code 1918 = .ok (.aload_n 0, 1) := k_dlw (x := (1918, .aload_n 0, 1)) k_ld54 4 rfl
theorem k_L1919 : decode code 1919 = .ok (.iload_n 3, 1) := k_dlw (x := (1919, .iload_n 3, 1)) k_ld54 5 rfl
theorem k_L1920 : decode code 1920 = .ok (.iconst 1, 1) := k_dlw (x := (1920, .iconst 1, 1)) k_ld54 6 rfl
theorem k_L1921 : decode code 1921 = .ok (.iadd, 1) := k_dlw (x := (1921, .iadd, 1)) k_ld54 7 rfl
theorem k_L1922 : decode code 1922 = .ok (.iaload, 1) := k_dlw (x := (1922, .iaload, 1)) k_ld54 8 rfl
theorem k_L1923 : decode code 1923 = .ok (.invokevirtual 229, 3) := k_dlw (x := (1923, .invokevirtual 229, 3)) k_ld54 9 rfl
theorem k_L1926 : decode code 1926 = .ok (.pop, 1) := k_dlw (x := (1926, .pop, 1)) k_ld54 10 rfl
theorem k_L1927 : decode code 1927 = .ok (.aload_n 2, 1) := k_dlw (x := (1927, .aload_n 2, 1)) k_ld54 11 rfl
theorem k_L1928 : decode code 1928 = .ok (.aload_n 0, 1) := k_dlw (x := (1928, .aload_n 0, 1)) k_ld54 12 rfl
theorem k_L1929 : decode code 1929 = .ok (.iload_n 3, 1) := k_dlw (x := (1929, .iload_n 3, 1)) k_ld54 13 rfl
theorem k_L1930 : decode code 1930 = .ok (.iconst 1, 1) := k_dlw (x := (1930, .iconst 1, 1)) k_ld54 14 rfl
theorem k_L1931 : decode code 1931 = .ok (.iadd, 1) := k_dlw (x := (1931, .iadd, 1)) k_ld54 15 rfl
theorem k_L1932 : decode code 1932 = .ok (.iaload, 1) := k_dlw (x := (1932, .iaload, 1)) k_ld54 16 rfl
theorem k_L1933 : decode code 1933 = .ok (.invokevirtual 232, 3) := k_dlw (x := (1933, .invokevirtual 232, 3)) k_ld54 17 rfl
theorem k_L1936 : decode code 1936 = .ok (.pop, 1) := k_dlw (x := (1936, .pop, 1)) k_ld54 18 rfl
theorem k_L1937 : decode code 1937 = .ok (.goto 52, 3) := k_dlw (x := (1937, .goto 52, 3)) k_ld54 19 rfl
theorem k_L1940 : decode code 1940 = .ok (.aload_n 1, 1) := k_dlw (x := (1940, .aload_n 1, 1)) k_ld54 20 rfl
theorem k_L1941 : decode code 1941 = .ok (.aload_n 0, 1) := k_dlw (x := (1941, .aload_n 0, 1)) k_ld54 21 rfl
theorem k_L1942 : decode code 1942 = .ok (.iload_n 3, 1) := k_dlw (x := (1942, .iload_n 3, 1)) k_ld54 22 rfl
theorem k_L1943 : decode code 1943 = .ok (.iconst 1, 1) := k_dlw (x := (1943, .iconst 1, 1)) k_ld54 23 rfl
theorem k_L1944 : decode code 1944 = .ok (.iadd, 1) := k_dlw (x := (1944, .iadd, 1)) k_ld54 24 rfl
theorem k_L1945 : decode code 1945 = .ok (.iaload, 1) := k_dlw (x := (1945, .iaload, 1)) k_ld55 0 rfl
theorem k_L1946 : decode code 1946 = .ok (.invokevirtual 233, 3) := k_dlw (x := (1946, .invokevirtual 233, 3)) k_ld55 1 rfl
theorem k_L1949 : decode code 1949 = .ok (.pop, 1) := k_dlw (x := (1949, .pop, 1)) k_ld55 2 rfl
theorem k_L1950 : decode code 1950 = .ok (.aload_n 2, 1) := k_dlw (x := (1950, .aload_n 2, 1)) k_ld55 3 rfl
theorem k_L1951 : decode code 1951 = .ok (.aload_n 0, 1) := k_dlw (x := (1951, .aload_n 0, 1)) k_ld55 4 rfl
theorem k_L1952 : decode code 1952 = .ok (.iload_n 3, 1) := k_dlw (x := (1952, .iload_n 3, 1)) k_ld55 5 rfl
theorem k_L1953 : decode code 1953 = .ok (.iconst 1, 1) := k_dlw (x := (1953, .iconst 1, 1)) k_ld55 6 rfl
theorem k_L1954 : decode code 1954 = .ok (.iadd, 1) := k_dlw (x := (1954, .iadd, 1)) k_ld55 7 rfl
theorem k_L1955 : decode code 1955 = .ok (.iaload, 1) := k_dlw (x := (1955, .iaload, 1)) k_ld55 8 rfl
theorem k_L1956 : decode code 1956 = .ok (.invokevirtual 236, 3) := k_dlw (x := (1956, .invokevirtual 236, 3)) k_ld55 9 rfl
theorem k_L1959 : decode code 1959 = .ok (.pop, 1) := k_dlw (x := (1959, .pop, 1)) k_ld55 10 rfl
theorem k_L1960 : decode code 1960 = .ok (.goto 29, 3) := k_dlw (x := (1960, .goto 29, 3)) k_ld55 11 rfl
theorem k_L1963 : decode code 1963 = .ok (.aload_n 1, 1) := k_dlw (x := (1963, .aload_n 1, 1)) k_ld55 12 rfl
theorem k_L1964 : decode code 1964 = .ok (.invokevirtual 237, 3) := k_dlw (x := (1964, .invokevirtual 237, 3)) k_ld55 13 rfl
theorem k_L1967 : decode code 1967 = .ok (.pop, 1) := k_dlw (x := (1967, .pop, 1)) k_ld55 14 rfl
theorem k_L1968 : decode code 1968 = .ok (.aload_n 2, 1) := k_dlw (x := (1968, .aload_n 2, 1)) k_ld55 15 rfl
theorem k_L1969 : decode code 1969 = .ok (.invokevirtual 240, 3) := k_dlw (x := (1969, .invokevirtual 240, 3)) k_ld55 16 rfl
theorem k_L1972 : decode code 1972 = .ok (.pop, 1) := k_dlw (x := (1972, .pop, 1)) k_ld55 17 rfl
theorem k_L1973 : decode code 1973 = .ok (.goto 16, 3) := k_dlw (x := (1973, .goto 16, 3)) k_ld55 18 rfl
theorem k_L1976 : decode code 1976 = .ok (.aload_n 1, 1) := k_dlw (x := (1976, .aload_n 1, 1)) k_ld55 19 rfl
theorem k_L1977 : decode code 1977 = .ok (.invokevirtual 241, 3) := k_dlw (x := (1977, .invokevirtual 241, 3)) k_ld55 20 rfl
theorem k_L1980 : decode code 1980 = .ok (.pop, 1) := k_dlw (x := (1980, .pop, 1)) k_ld55 21 rfl
theorem k_L1981 : decode code 1981 = .ok (.aload_n 2, 1) := k_dlw (x := (1981, .aload_n 2, 1)) k_ld55 22 rfl
theorem k_L1982 : decode code 1982 = .ok (.invokevirtual 244, 3) := k_dlw (x := (1982, .invokevirtual 244, 3)) k_ld55 23 rfl
theorem k_L1985 : decode code 1985 = .ok (.pop, 1) := k_dlw (x := (1985, .pop, 1)) k_ld55 24 rfl
theorem k_L1986 : decode code 1986 = .ok (.goto 3, 3) := k_dlw (x := (1986, .goto 3, 3)) k_ld56 0 rfl
theorem k_L1989 : decode code 1989 = .ok (.iinc 3 7, 3) := k_dlw (x := (1989, .iinc 3 7, 3)) k_ld56 1 rfl
theorem k_L1992 : decode code 1992 = .ok (.goto (-1974), 3) := k_dlw (x := (1992, .goto (-1974), 3)) k_ld56 2 rfl
theorem k_L1995 : decode code 1995 = .ok (.iconst 1, 1) := k_dlw (x := (1995, .iconst 1, 1)) k_ld56 3 rfl
theorem k_L1996 : decode code 1996 = .ok (.ireturn, 1) := k_dlw (x := (1996, .ireturn, 1)) k_ld56 4 rfl
