theorem adL_law_0 : fd_rows (cL_law.data.toList.drop 0) 0 [(0, some (.new 8), 3), (3, some (.dup), 1), (4, some (.invokespecial 186), 3), (7, some (.astore_n 1), 1), (8, some (.new 187), 3), (11, some (.dup), 1), (12, some (.invokespecial 189), 3), (15, some (.astore_n 2), 1), (16, some (.new 14), 3), (19, some (.dup), 1), (20, some (.invokespecial 190), 3), (23, some (.astore_n 3), 1), (24, some (.iconst 0), 1), (25, some (.istore 4), 2), (27, some (.iload 4), 2), (29, some (.aload_n 0), 1)] = true := by decide +kernel
theorem adL_law_1 : fd_rows (cL_law.data.toList.drop 30) 30 [(30, some (.arraylength), 1), (31, some (.bipush 6), 2), (33, some (.isub), 1), (34, some (.if_icmp .gt 2556), 3), (37, some (.aload_n 0), 1), (38, some (.iload 4), 2), (40, some (.iaload), 1), (41, some (.bipush 63), 2), (43, some (.iand), 1), (44, none, 228), (272, some (.aload_n 1), 1), (273, some (.aload_n 0), 1), (274, some (.iload 4), 2), (276, some (.iconst 1), 1), (277, some (.iadd), 1), (278, some (.iaload), 1)] = true := by decide +kernel
theorem adL_law_2 : fd_rows (cL_law.data.toList.drop 279) 279 [(279, some (.aload_n 0), 1), (280, some (.iload 4), 2), (282, some (.iconst 2), 1), (283, some (.iadd), 1), (284, some (.iaload), 1), (285, some (.aload_n 0), 1), (286, some (.iload 4), 2), (288, some (.iconst 3), 1), (289, some (.iadd), 1), (290, some (.iaload), 1), (291, some (.aload_n 3), 1), (292, some (.invokestatic 191), 3), (295, some (.istore 5), 2), (297, some (.aload_n 2), 1), (298, some (.aload_n 0), 1), (299, some (.iload 4), 2)] = true := by decide +kernel
theorem adL_law_3 : fd_rows (cL_law.data.toList.drop 301) 301 [(301, some (.iconst 1), 1), (302, some (.iadd), 1), (303, some (.iaload), 1), (304, some (.aload_n 0), 1), (305, some (.iload 4), 2), (307, some (.iconst 2), 1), (308, some (.iadd), 1), (309, some (.iaload), 1), (310, some (.aload_n 0), 1), (311, some (.iload 4), 2), (313, some (.iconst 3), 1), (314, some (.iadd), 1), (315, some (.iaload), 1), (316, some (.invokevirtual 196), 3), (319, some (.istore 6), 2), (321, some (.goto 2263), 3)] = true := by decide +kernel
theorem adL_law_4 : fd_rows (cL_law.data.toList.drop 324) 324 [(324, some (.aload_n 1), 1), (325, some (.aload_n 0), 1), (326, some (.iload 4), 2), (328, some (.iconst 1), 1), (329, some (.iadd), 1), (330, some (.iaload), 1), (331, some (.aload_n 0), 1), (332, some (.iload 4), 2), (334, some (.iconst 2), 1), (335, some (.iadd), 1), (336, some (.iaload), 1), (337, some (.aload_n 0), 1), (338, some (.iload 4), 2), (340, some (.iconst 3), 1), (341, some (.iadd), 1), (342, some (.iaload), 1)] = true := by decide +kernel
theorem adL_law_5 : fd_rows (cL_law.data.toList.drop 343) 343 [(343, some (.aload_n 3), 1), (344, some (.invokestatic 197), 3), (347, some (.istore 5), 2), (349, some (.aload_n 2), 1), (350, some (.aload_n 0), 1), (351, some (.iload 4), 2), (353, some (.iconst 1), 1), (354, some (.iadd), 1), (355, some (.iaload), 1), (356, some (.aload_n 0), 1), (357, some (.iload 4), 2), (359, some (.iconst 2), 1), (360, some (.iadd), 1), (361, some (.iaload), 1), (362, some (.aload_n 0), 1), (363, some (.iload 4), 2)] = true := by decide +kernel
theorem adL_law_6 : fd_rows (cL_law.data.toList.drop 365) 365 [(365, some (.iconst 3), 1), (366, some (.iadd), 1), (367, some (.iaload), 1), (368, some (.invokevirtual 199), 3), (371, some (.istore 6), 2), (373, some (.goto 2211), 3), (376, some (.aload_n 1), 1), (377, some (.aload_n 0), 1), (378, some (.iload 4), 2), (380, some (.iconst 1), 1), (381, some (.iadd), 1), (382, some (.iaload), 1), (383, some (.aload_n 0), 1), (384, some (.iload 4), 2), (386, some (.iconst 2), 1), (387, some (.iadd), 1)] = true := by decide +kernel
theorem adL_law_7 : fd_rows (cL_law.data.toList.drop 388) 388 [(388, some (.iaload), 1), (389, some (.aload_n 0), 1), (390, some (.iload 4), 2), (392, some (.iconst 3), 1), (393, some (.iadd), 1), (394, some (.iaload), 1), (395, some (.aload_n 3), 1), (396, some (.invokestatic 200), 3), (399, some (.istore 5), 2), (401, some (.aload_n 2), 1), (402, some (.aload_n 0), 1), (403, some (.iload 4), 2), (405, some (.iconst 1), 1), (406, some (.iadd), 1), (407, some (.iaload), 1), (408, some (.aload_n 0), 1)] = true := by decide +kernel
theorem adL_law_8 : fd_rows (cL_law.data.toList.drop 409) 409 [(409, some (.iload 4), 2), (411, some (.iconst 2), 1), (412, some (.iadd), 1), (413, some (.iaload), 1), (414, some (.aload_n 0), 1), (415, some (.iload 4), 2), (417, some (.iconst 3), 1), (418, some (.iadd), 1), (419, some (.iaload), 1), (420, some (.invokevirtual 202), 3), (423, some (.istore 6), 2), (425, some (.goto 2159), 3), (428, some (.aload_n 1), 1), (429, some (.aload_n 0), 1), (430, some (.iload 4), 2), (432, some (.iconst 1), 1)] = true := by decide +kernel
theorem adL_law_9 : fd_rows (cL_law.data.toList.drop 433) 433 [(433, some (.iadd), 1), (434, some (.iaload), 1), (435, some (.aload_n 0), 1), (436, some (.iload 4), 2), (438, some (.iconst 2), 1), (439, some (.iadd), 1), (440, some (.iaload), 1), (441, some (.aload_n 0), 1), (442, some (.iload 4), 2), (444, some (.iconst 3), 1), (445, some (.iadd), 1), (446, some (.iaload), 1), (447, some (.aload_n 0), 1), (448, some (.iload 4), 2), (450, some (.iconst 4), 1), (451, some (.iadd), 1)] = true := by decide +kernel
theorem adL_law_10 : fd_rows (cL_law.data.toList.drop 452) 452 [(452, some (.iaload), 1), (453, some (.aload_n 3), 1), (454, some (.invokestatic 203), 3), (457, some (.istore 5), 2), (459, some (.aload_n 2), 1), (460, some (.aload_n 0), 1), (461, some (.iload 4), 2), (463, some (.iconst 1), 1), (464, some (.iadd), 1), (465, some (.iaload), 1), (466, some (.aload_n 0), 1), (467, some (.iload 4), 2), (469, some (.iconst 2), 1), (470, some (.iadd), 1), (471, some (.iaload), 1), (472, some (.aload_n 0), 1)] = true := by decide +kernel
theorem adL_law_11 : fd_rows (cL_law.data.toList.drop 473) 473 [(473, some (.iload 4), 2), (475, some (.iconst 3), 1), (476, some (.iadd), 1), (477, some (.iaload), 1), (478, some (.aload_n 0), 1), (479, some (.iload 4), 2), (481, some (.iconst 4), 1), (482, some (.iadd), 1), (483, some (.iaload), 1), (484, some (.invokevirtual 206), 3), (487, some (.istore 6), 2), (489, some (.goto 2095), 3), (492, some (.aload_n 1), 1), (493, some (.aload_n 0), 1), (494, some (.iload 4), 2), (496, some (.iconst 1), 1)] = true := by decide +kernel
theorem adL_law_12 : fd_rows (cL_law.data.toList.drop 497) 497 [(497, some (.iadd), 1), (498, some (.iaload), 1), (499, some (.aload_n 0), 1), (500, some (.iload 4), 2), (502, some (.iconst 2), 1), (503, some (.iadd), 1), (504, some (.iaload), 1), (505, some (.aload_n 3), 1), (506, some (.invokestatic 207), 3), (509, some (.istore 5), 2), (511, some (.aload_n 2), 1), (512, some (.aload_n 0), 1), (513, some (.iload 4), 2), (515, some (.iconst 1), 1), (516, some (.iadd), 1), (517, some (.iaload), 1)] = true := by decide +kernel
theorem adL_law_13 : fd_rows (cL_law.data.toList.drop 518) 518 [(518, some (.aload_n 0), 1), (519, some (.iload 4), 2), (521, some (.iconst 2), 1), (522, some (.iadd), 1), (523, some (.iaload), 1), (524, some (.invokevirtual 210), 3), (527, some (.istore 6), 2), (529, some (.goto 2055), 3), (532, some (.aload_n 1), 1), (533, some (.aload_n 0), 1), (534, some (.iload 4), 2), (536, some (.iconst 1), 1), (537, some (.iadd), 1), (538, some (.iaload), 1), (539, some (.aload_n 0), 1), (540, some (.iload 4), 2)] = true := by decide +kernel
theorem adL_law_14 : fd_rows (cL_law.data.toList.drop 542) 542 [(542, some (.iconst 2), 1), (543, some (.iadd), 1), (544, some (.iaload), 1), (545, some (.aload_n 0), 1), (546, some (.iload 4), 2), (548, some (.iconst 3), 1), (549, some (.iadd), 1), (550, some (.iaload), 1), (551, some (.aload_n 3), 1), (552, some (.invokestatic 211), 3), (555, some (.istore 5), 2), (557, some (.aload_n 2), 1), (558, some (.aload_n 0), 1), (559, some (.iload 4), 2), (561, some (.iconst 1), 1), (562, some (.iadd), 1)] = true := by decide +kernel
theorem adL_law_15 : fd_rows (cL_law.data.toList.drop 563) 563 [(563, some (.iaload), 1), (564, some (.aload_n 0), 1), (565, some (.iload 4), 2), (567, some (.iconst 2), 1), (568, some (.iadd), 1), (569, some (.iaload), 1), (570, some (.aload_n 0), 1), (571, some (.iload 4), 2), (573, some (.iconst 3), 1), (574, some (.iadd), 1), (575, some (.iaload), 1), (576, some (.invokevirtual 213), 3), (579, some (.istore 6), 2), (581, some (.goto 2003), 3), (584, some (.aload_n 1), 1), (585, some (.aload_n 0), 1)] = true := by decide +kernel
theorem adL_law_16 : fd_rows (cL_law.data.toList.drop 586) 586 [(586, some (.iload 4), 2), (588, some (.iconst 1), 1), (589, some (.iadd), 1), (590, some (.iaload), 1), (591, some (.aload_n 0), 1), (592, some (.iload 4), 2), (594, some (.iconst 2), 1), (595, some (.iadd), 1), (596, some (.iaload), 1), (597, some (.aload_n 0), 1), (598, some (.iload 4), 2), (600, some (.iconst 3), 1), (601, some (.iadd), 1), (602, some (.iaload), 1), (603, some (.aload_n 3), 1), (604, some (.invokestatic 214), 3)] = true := by decide +kernel
theorem adL_law_17 : fd_rows (cL_law.data.toList.drop 607) 607 [(607, some (.istore 5), 2), (609, some (.aload_n 2), 1), (610, some (.aload_n 0), 1), (611, some (.iload 4), 2), (613, some (.iconst 1), 1), (614, some (.iadd), 1), (615, some (.iaload), 1), (616, some (.aload_n 0), 1), (617, some (.iload 4), 2), (619, some (.iconst 2), 1), (620, some (.iadd), 1), (621, some (.iaload), 1), (622, some (.aload_n 0), 1), (623, some (.iload 4), 2), (625, some (.iconst 3), 1), (626, some (.iadd), 1)] = true := by decide +kernel
theorem adL_law_18 : fd_rows (cL_law.data.toList.drop 627) 627 [(627, some (.iaload), 1), (628, some (.invokevirtual 216), 3), (631, some (.istore 6), 2), (633, some (.goto 1951), 3), (636, some (.aload_n 1), 1), (637, some (.aload_n 0), 1), (638, some (.iload 4), 2), (640, some (.iconst 1), 1), (641, some (.iadd), 1), (642, some (.iaload), 1), (643, some (.aload_n 0), 1), (644, some (.iload 4), 2), (646, some (.iconst 2), 1), (647, some (.iadd), 1), (648, some (.iaload), 1), (649, some (.aload_n 3), 1)] = true := by decide +kernel
theorem adL_law_19 : fd_rows (cL_law.data.toList.drop 650) 650 [(650, some (.invokestatic 217), 3), (653, some (.istore 5), 2), (655, some (.aload_n 2), 1), (656, some (.aload_n 0), 1), (657, some (.iload 4), 2), (659, some (.iconst 1), 1), (660, some (.iadd), 1), (661, some (.iaload), 1), (662, some (.aload_n 0), 1), (663, some (.iload 4), 2), (665, some (.iconst 2), 1), (666, some (.iadd), 1), (667, some (.iaload), 1), (668, some (.invokevirtual 219), 3), (671, some (.istore 6), 2), (673, some (.goto 1911), 3)] = true := by decide +kernel
theorem adL_law_20 : fd_rows (cL_law.data.toList.drop 676) 676 [(676, some (.aload_n 1), 1), (677, some (.aload_n 0), 1), (678, some (.iload 4), 2), (680, some (.iconst 1), 1), (681, some (.iadd), 1), (682, some (.iaload), 1), (683, some (.aload_n 0), 1), (684, some (.iload 4), 2), (686, some (.iconst 2), 1), (687, some (.iadd), 1), (688, some (.iaload), 1), (689, some (.aload_n 3), 1), (690, some (.invokestatic 220), 3), (693, some (.istore 5), 2), (695, some (.aload_n 2), 1), (696, some (.aload_n 0), 1)] = true := by decide +kernel
theorem adL_law_21 : fd_rows (cL_law.data.toList.drop 697) 697 [(697, some (.iload 4), 2), (699, some (.iconst 1), 1), (700, some (.iadd), 1), (701, some (.iaload), 1), (702, some (.aload_n 0), 1), (703, some (.iload 4), 2), (705, some (.iconst 2), 1), (706, some (.iadd), 1), (707, some (.iaload), 1), (708, some (.invokevirtual 222), 3), (711, some (.istore 6), 2), (713, some (.goto 1871), 3), (716, some (.aload_n 1), 1), (717, some (.aload_n 0), 1), (718, some (.iload 4), 2), (720, some (.iconst 1), 1)] = true := by decide +kernel
theorem adL_law_22 : fd_rows (cL_law.data.toList.drop 721) 721 [(721, some (.iadd), 1), (722, some (.iaload), 1), (723, some (.aload_n 0), 1), (724, some (.iload 4), 2), (726, some (.iconst 2), 1), (727, some (.iadd), 1), (728, some (.iaload), 1), (729, some (.aload_n 3), 1), (730, some (.invokestatic 223), 3), (733, some (.istore 5), 2), (735, some (.aload_n 2), 1), (736, some (.aload_n 0), 1), (737, some (.iload 4), 2), (739, some (.iconst 1), 1), (740, some (.iadd), 1), (741, some (.iaload), 1)] = true := by decide +kernel
theorem adL_law_23 : fd_rows (cL_law.data.toList.drop 742) 742 [(742, some (.aload_n 0), 1), (743, some (.iload 4), 2), (745, some (.iconst 2), 1), (746, some (.iadd), 1), (747, some (.iaload), 1), (748, some (.invokevirtual 225), 3), (751, some (.istore 6), 2), (753, some (.goto 1831), 3), (756, some (.aload_n 1), 1), (757, some (.aload_n 0), 1), (758, some (.iload 4), 2), (760, some (.iconst 1), 1), (761, some (.iadd), 1), (762, some (.iaload), 1), (763, some (.aload_n 0), 1), (764, some (.iload 4), 2)] = true := by decide +kernel
theorem adL_law_24 : fd_rows (cL_law.data.toList.drop 766) 766 [(766, some (.iconst 2), 1), (767, some (.iadd), 1), (768, some (.iaload), 1), (769, some (.ifCond .eq 7), 3), (772, some (.iconst 1), 1), (773, some (.goto 4), 3), (776, some (.iconst 0), 1), (777, some (.aload_n 3), 1), (778, some (.invokestatic 226), 3), (781, some (.istore 5), 2), (783, some (.aload_n 2), 1), (784, some (.aload_n 0), 1), (785, some (.iload 4), 2), (787, some (.iconst 1), 1), (788, some (.iadd), 1), (789, some (.iaload), 1)] = true := by decide +kernel
theorem adL_law_25 : fd_rows (cL_law.data.toList.drop 790) 790 [(790, some (.aload_n 0), 1), (791, some (.iload 4), 2), (793, some (.iconst 2), 1), (794, some (.iadd), 1), (795, some (.iaload), 1), (796, some (.ifCond .eq 7), 3), (799, some (.iconst 1), 1), (800, some (.goto 4), 3), (803, some (.iconst 0), 1), (804, some (.invokevirtual 229), 3), (807, some (.istore 6), 2), (809, some (.goto 1775), 3), (812, some (.aload_n 1), 1), (813, some (.aload_n 0), 1), (814, some (.iload 4), 2), (816, some (.iconst 1), 1)] = true := by decide +kernel
theorem adL_law_26 : fd_rows (cL_law.data.toList.drop 817) 817 [(817, some (.iadd), 1), (818, some (.iaload), 1), (819, some (.aload_n 0), 1), (820, some (.iload 4), 2), (822, some (.iconst 2), 1), (823, some (.iadd), 1), (824, some (.iaload), 1), (825, some (.aload_n 3), 1), (826, some (.invokestatic 230), 3), (829, some (.istore 5), 2), (831, some (.aload_n 2), 1), (832, some (.aload_n 0), 1), (833, some (.iload 4), 2), (835, some (.iconst 1), 1), (836, some (.iadd), 1), (837, some (.iaload), 1)] = true := by decide +kernel
theorem adL_law_27 : fd_rows (cL_law.data.toList.drop 838) 838 [(838, some (.aload_n 0), 1), (839, some (.iload 4), 2), (841, some (.iconst 2), 1), (842, some (.iadd), 1), (843, some (.iaload), 1), (844, some (.invokevirtual 232), 3), (847, some (.istore 6), 2), (849, some (.goto 1735), 3), (852, some (.aload_n 1), 1), (853, some (.aload_n 0), 1), (854, some (.iload 4), 2), (856, some (.iconst 1), 1), (857, some (.iadd), 1), (858, some (.iaload), 1), (859, some (.aload_n 0), 1), (860, some (.iload 4), 2)] = true := by decide +kernel
theorem adL_law_28 : fd_rows (cL_law.data.toList.drop 862) 862 [(862, some (.iconst 2), 1), (863, some (.iadd), 1), (864, some (.iaload), 1), (865, some (.aload_n 3), 1), (866, some (.invokestatic 233), 3), (869, some (.istore 5), 2), (871, some (.aload_n 2), 1), (872, some (.aload_n 0), 1), (873, some (.iload 4), 2), (875, some (.iconst 1), 1), (876, some (.iadd), 1), (877, some (.iaload), 1), (878, some (.aload_n 0), 1), (879, some (.iload 4), 2), (881, some (.iconst 2), 1), (882, some (.iadd), 1)] = true := by decide +kernel
theorem adL_law_29 : fd_rows (cL_law.data.toList.drop 883) 883 [(883, some (.iaload), 1), (884, some (.invokevirtual 235), 3), (887, some (.istore 6), 2), (889, some (.goto 1695), 3), (892, some (.aload_n 1), 1), (893, some (.aload_n 0), 1), (894, some (.iload 4), 2), (896, some (.iconst 1), 1), (897, some (.iadd), 1), (898, some (.iaload), 1), (899, some (.aload_n 0), 1), (900, some (.iload 4), 2), (902, some (.iconst 2), 1), (903, some (.iadd), 1), (904, some (.iaload), 1), (905, some (.aload_n 3), 1)] = true := by decide +kernel
theorem adL_law_30 : fd_rows (cL_law.data.toList.drop 906) 906 [(906, some (.invokestatic 236), 3), (909, some (.istore 5), 2), (911, some (.aload_n 2), 1), (912, some (.aload_n 0), 1), (913, some (.iload 4), 2), (915, some (.iconst 1), 1), (916, some (.iadd), 1), (917, some (.iaload), 1), (918, some (.aload_n 0), 1), (919, some (.iload 4), 2), (921, some (.iconst 2), 1), (922, some (.iadd), 1), (923, some (.iaload), 1), (924, some (.invokevirtual 238), 3), (927, some (.istore 6), 2), (929, some (.goto 1655), 3)] = true := by decide +kernel
theorem adL_law_31 : fd_rows (cL_law.data.toList.drop 932) 932 [(932, some (.aload_n 1), 1), (933, some (.aload_n 0), 1), (934, some (.iload 4), 2), (936, some (.iconst 1), 1), (937, some (.iadd), 1), (938, some (.iaload), 1), (939, some (.aload_n 3), 1), (940, some (.invokestatic 239), 3), (943, some (.istore 5), 2), (945, some (.aload_n 2), 1), (946, some (.aload_n 0), 1), (947, some (.iload 4), 2), (949, some (.iconst 1), 1), (950, some (.iadd), 1), (951, some (.iaload), 1), (952, some (.invokevirtual 242), 3)] = true := by decide +kernel
theorem adL_law_32 : fd_rows (cL_law.data.toList.drop 955) 955 [(955, some (.istore 6), 2), (957, some (.goto 1627), 3), (960, some (.aload_n 1), 1), (961, some (.aload_n 0), 1), (962, some (.iload 4), 2), (964, some (.iconst 1), 1), (965, some (.iadd), 1), (966, some (.iaload), 1), (967, some (.aload_n 0), 1), (968, some (.iload 4), 2), (970, some (.iconst 2), 1), (971, some (.iadd), 1), (972, some (.iaload), 1), (973, some (.aload_n 3), 1), (974, some (.invokestatic 243), 3), (977, some (.istore 5), 2)] = true := by decide +kernel
theorem adL_law_33 : fd_rows (cL_law.data.toList.drop 979) 979 [(979, some (.aload_n 2), 1), (980, some (.aload_n 0), 1), (981, some (.iload 4), 2), (983, some (.iconst 1), 1), (984, some (.iadd), 1), (985, some (.iaload), 1), (986, some (.aload_n 0), 1), (987, some (.iload 4), 2), (989, some (.iconst 2), 1), (990, some (.iadd), 1), (991, some (.iaload), 1), (992, some (.invokevirtual 245), 3), (995, some (.istore 6), 2), (997, some (.goto 1587), 3), (1000, some (.aload_n 1), 1), (1001, some (.aload_n 0), 1)] = true := by decide +kernel
theorem adL_law_34 : fd_rows (cL_law.data.toList.drop 1002) 1002 [(1002, some (.iload 4), 2), (1004, some (.iconst 1), 1), (1005, some (.iadd), 1), (1006, some (.iaload), 1), (1007, some (.aload_n 0), 1), (1008, some (.iload 4), 2), (1010, some (.iconst 2), 1), (1011, some (.iadd), 1), (1012, some (.iaload), 1), (1013, some (.aload_n 3), 1), (1014, some (.invokestatic 246), 3), (1017, some (.istore 5), 2), (1019, some (.aload_n 2), 1), (1020, some (.aload_n 0), 1), (1021, some (.iload 4), 2), (1023, some (.iconst 1), 1)] = true := by decide +kernel
theorem adL_law_35 : fd_rows (cL_law.data.toList.drop 1024) 1024 [(1024, some (.iadd), 1), (1025, some (.iaload), 1), (1026, some (.aload_n 0), 1), (1027, some (.iload 4), 2), (1029, some (.iconst 2), 1), (1030, some (.iadd), 1), (1031, some (.iaload), 1), (1032, some (.invokevirtual 248), 3), (1035, some (.istore 6), 2), (1037, some (.aload_n 2), 1), (1038, some (.invokevirtual 249), 3), (1041, some (.iload 5), 2), (1043, some (.if_icmp .eq 5), 3), (1046, some (.iconst 0), 1), (1047, some (.ireturn), 1), (1048, some (.iload 5), 2)] = true := by decide +kernel
theorem adL_law_36 : fd_rows (cL_law.data.toList.drop 1050) 1050 [(1050, some (.ifCond .ne 16), 3), (1053, some (.aload_n 3), 1), (1054, some (.getfield 13), 3), (1057, some (.iload 6), 2), (1059, some (.i2l), 1), (1060, some (.lcmp), 1), (1061, some (.ifCond .eq 5), 3), (1064, some (.iconst 0), 1), (1065, some (.ireturn), 1), (1066, some (.goto 1518), 3), (1069, some (.aload_n 1), 1), (1070, some (.aload_n 0), 1), (1071, some (.iload 4), 2), (1073, some (.iconst 1), 1), (1074, some (.iadd), 1), (1075, some (.iaload), 1)] = true := by decide +kernel
theorem adL_law_37 : fd_rows (cL_law.data.toList.drop 1076) 1076 [(1076, some (.aload_n 0), 1), (1077, some (.iload 4), 2), (1079, some (.iconst 2), 1), (1080, some (.iadd), 1), (1081, some (.iaload), 1), (1082, some (.aload_n 0), 1), (1083, some (.iload 4), 2), (1085, some (.iconst 3), 1), (1086, some (.iadd), 1), (1087, some (.iaload), 1), (1088, some (.ifCond .eq 7), 3), (1091, some (.iconst 1), 1), (1092, some (.goto 4), 3), (1095, some (.iconst 0), 1), (1096, some (.aload_n 3), 1), (1097, some (.invokestatic 252), 3)] = true := by decide +kernel
theorem adL_law_38 : fd_rows (cL_law.data.toList.drop 1100) 1100 [(1100, some (.istore 5), 2), (1102, some (.aload_n 2), 1), (1103, some (.aload_n 0), 1), (1104, some (.iload 4), 2), (1106, some (.iconst 1), 1), (1107, some (.iadd), 1), (1108, some (.iaload), 1), (1109, some (.aload_n 0), 1), (1110, some (.iload 4), 2), (1112, some (.iconst 2), 1), (1113, some (.iadd), 1), (1114, some (.iaload), 1), (1115, some (.aload_n 0), 1), (1116, some (.iload 4), 2), (1118, some (.iconst 3), 1), (1119, some (.iadd), 1)] = true := by decide +kernel
theorem adL_law_39 : fd_rows (cL_law.data.toList.drop 1120) 1120 [(1120, some (.iaload), 1), (1121, some (.ifCond .eq 7), 3), (1124, some (.iconst 1), 1), (1125, some (.goto 4), 3), (1128, some (.iconst 0), 1), (1129, some (.invokevirtual 255), 3), (1132, some (.istore 6), 2), (1134, some (.goto 1450), 3), (1137, some (.aload_n 1), 1), (1138, some (.aload_n 0), 1), (1139, some (.iload 4), 2), (1141, some (.iconst 1), 1), (1142, some (.iadd), 1), (1143, some (.iaload), 1), (1144, some (.aload_n 0), 1), (1145, some (.iload 4), 2)] = true := by decide +kernel
theorem adL_law_40 : fd_rows (cL_law.data.toList.drop 1147) 1147 [(1147, some (.iconst 2), 1), (1148, some (.iadd), 1), (1149, some (.iaload), 1), (1150, some (.aload_n 0), 1), (1151, some (.iload 4), 2), (1153, some (.iconst 3), 1), (1154, some (.iadd), 1), (1155, some (.iaload), 1), (1156, some (.ifCond .eq 7), 3), (1159, some (.iconst 1), 1), (1160, some (.goto 4), 3), (1163, some (.iconst 0), 1), (1164, some (.aload_n 3), 1), (1165, some (.invokestatic 256), 3), (1168, some (.istore 5), 2), (1170, some (.aload_n 2), 1)] = true := by decide +kernel
theorem adL_law_41 : fd_rows (cL_law.data.toList.drop 1171) 1171 [(1171, some (.aload_n 0), 1), (1172, some (.iload 4), 2), (1174, some (.iconst 1), 1), (1175, some (.iadd), 1), (1176, some (.iaload), 1), (1177, some (.aload_n 0), 1), (1178, some (.iload 4), 2), (1180, some (.iconst 2), 1), (1181, some (.iadd), 1), (1182, some (.iaload), 1), (1183, some (.aload_n 0), 1), (1184, some (.iload 4), 2), (1186, some (.iconst 3), 1), (1187, some (.iadd), 1), (1188, some (.iaload), 1), (1189, some (.ifCond .eq 7), 3)] = true := by decide +kernel
theorem adL_law_42 : fd_rows (cL_law.data.toList.drop 1192) 1192 [(1192, some (.iconst 1), 1), (1193, some (.goto 4), 3), (1196, some (.iconst 0), 1), (1197, some (.invokevirtual 258), 3), (1200, some (.istore 6), 2), (1202, some (.goto 1382), 3), (1205, some (.aload_n 1), 1), (1206, some (.aload_n 0), 1), (1207, some (.iload 4), 2), (1209, some (.iconst 1), 1), (1210, some (.iadd), 1), (1211, some (.iaload), 1), (1212, some (.aload_n 0), 1), (1213, some (.iload 4), 2), (1215, some (.iconst 2), 1), (1216, some (.iadd), 1)] = true := by decide +kernel
theorem adL_law_43 : fd_rows (cL_law.data.toList.drop 1217) 1217 [(1217, some (.iaload), 1), (1218, some (.aload_n 0), 1), (1219, some (.iload 4), 2), (1221, some (.iconst 3), 1), (1222, some (.iadd), 1), (1223, some (.iaload), 1), (1224, some (.ifCond .eq 7), 3), (1227, some (.iconst 1), 1), (1228, some (.goto 4), 3), (1231, some (.iconst 0), 1), (1232, some (.aload_n 3), 1), (1233, some (.invokestatic 259), 3), (1236, some (.istore 5), 2), (1238, some (.aload_n 2), 1), (1239, some (.aload_n 0), 1), (1240, some (.iload 4), 2)] = true := by decide +kernel
theorem adL_law_44 : fd_rows (cL_law.data.toList.drop 1242) 1242 [(1242, some (.iconst 1), 1), (1243, some (.iadd), 1), (1244, some (.iaload), 1), (1245, some (.aload_n 0), 1), (1246, some (.iload 4), 2), (1248, some (.iconst 2), 1), (1249, some (.iadd), 1), (1250, some (.iaload), 1), (1251, some (.aload_n 0), 1), (1252, some (.iload 4), 2), (1254, some (.iconst 3), 1), (1255, some (.iadd), 1), (1256, some (.iaload), 1), (1257, some (.ifCond .eq 7), 3), (1260, some (.iconst 1), 1), (1261, some (.goto 4), 3)] = true := by decide +kernel
theorem adL_law_45 : fd_rows (cL_law.data.toList.drop 1264) 1264 [(1264, some (.iconst 0), 1), (1265, some (.invokevirtual 261), 3), (1268, some (.istore 6), 2), (1270, some (.goto 1314), 3), (1273, some (.aload_n 1), 1), (1274, some (.aload_n 0), 1), (1275, some (.iload 4), 2), (1277, some (.iconst 1), 1), (1278, some (.iadd), 1), (1279, some (.iaload), 1), (1280, some (.aload_n 0), 1), (1281, some (.iload 4), 2), (1283, some (.iconst 2), 1), (1284, some (.iadd), 1), (1285, some (.iaload), 1), (1286, some (.aload_n 0), 1)] = true := by decide +kernel
theorem adL_law_46 : fd_rows (cL_law.data.toList.drop 1287) 1287 [(1287, some (.iload 4), 2), (1289, some (.iconst 3), 1), (1290, some (.iadd), 1), (1291, some (.iaload), 1), (1292, some (.ifCond .eq 7), 3), (1295, some (.iconst 1), 1), (1296, some (.goto 4), 3), (1299, some (.iconst 0), 1), (1300, some (.aload_n 0), 1), (1301, some (.iload 4), 2), (1303, some (.iconst 4), 1), (1304, some (.iadd), 1), (1305, some (.iaload), 1), (1306, some (.aload_n 0), 1), (1307, some (.iload 4), 2), (1309, some (.iconst 5), 1)] = true := by decide +kernel
theorem adL_law_47 : fd_rows (cL_law.data.toList.drop 1310) 1310 [(1310, some (.iadd), 1), (1311, some (.iaload), 1), (1312, some (.ifCond .eq 7), 3), (1315, some (.iconst 1), 1), (1316, some (.goto 4), 3), (1319, some (.iconst 0), 1), (1320, some (.aload_n 3), 1), (1321, some (.invokestatic 262), 3), (1324, some (.istore 5), 2), (1326, some (.aload_n 2), 1), (1327, some (.aload_n 0), 1), (1328, some (.iload 4), 2), (1330, some (.iconst 1), 1), (1331, some (.iadd), 1), (1332, some (.iaload), 1), (1333, some (.aload_n 0), 1)] = true := by decide +kernel
theorem adL_law_48 : fd_rows (cL_law.data.toList.drop 1334) 1334 [(1334, some (.iload 4), 2), (1336, some (.iconst 2), 1), (1337, some (.iadd), 1), (1338, some (.iaload), 1), (1339, some (.aload_n 0), 1), (1340, some (.iload 4), 2), (1342, some (.iconst 3), 1), (1343, some (.iadd), 1), (1344, some (.iaload), 1), (1345, some (.ifCond .eq 7), 3), (1348, some (.iconst 1), 1), (1349, some (.goto 4), 3), (1352, some (.iconst 0), 1), (1353, some (.aload_n 0), 1), (1354, some (.iload 4), 2), (1356, some (.iconst 4), 1)] = true := by decide +kernel
theorem adL_law_49 : fd_rows (cL_law.data.toList.drop 1357) 1357 [(1357, some (.iadd), 1), (1358, some (.iaload), 1), (1359, some (.aload_n 0), 1), (1360, some (.iload 4), 2), (1362, some (.iconst 5), 1), (1363, some (.iadd), 1), (1364, some (.iaload), 1), (1365, some (.ifCond .eq 7), 3), (1368, some (.iconst 1), 1), (1369, some (.goto 4), 3), (1372, some (.iconst 0), 1), (1373, some (.invokevirtual 265), 3), (1376, some (.istore 6), 2), (1378, some (.goto 1206), 3), (1381, some (.aload_n 1), 1), (1382, some (.aload_n 0), 1)] = true := by decide +kernel
theorem adL_law_50 : fd_rows (cL_law.data.toList.drop 1383) 1383 [(1383, some (.iload 4), 2), (1385, some (.iconst 1), 1), (1386, some (.iadd), 1), (1387, some (.iaload), 1), (1388, some (.aload_n 0), 1), (1389, some (.iload 4), 2), (1391, some (.iconst 2), 1), (1392, some (.iadd), 1), (1393, some (.iaload), 1), (1394, some (.aload_n 0), 1), (1395, some (.iload 4), 2), (1397, some (.iconst 3), 1), (1398, some (.iadd), 1), (1399, some (.iaload), 1), (1400, some (.ifCond .eq 7), 3), (1403, some (.iconst 1), 1)] = true := by decide +kernel
theorem adL_law_51 : fd_rows (cL_law.data.toList.drop 1404) 1404 [(1404, some (.goto 4), 3), (1407, some (.iconst 0), 1), (1408, some (.aload_n 0), 1), (1409, some (.iload 4), 2), (1411, some (.iconst 4), 1), (1412, some (.iadd), 1), (1413, some (.iaload), 1), (1414, some (.aload_n 0), 1), (1415, some (.iload 4), 2), (1417, some (.iconst 5), 1), (1418, some (.iadd), 1), (1419, some (.iaload), 1), (1420, some (.ifCond .eq 7), 3), (1423, some (.iconst 1), 1), (1424, some (.goto 4), 3), (1427, some (.iconst 0), 1)] = true := by decide +kernel
theorem adL_law_52 : fd_rows (cL_law.data.toList.drop 1428) 1428 [(1428, some (.aload_n 3), 1), (1429, some (.invokestatic 266), 3), (1432, some (.istore 5), 2), (1434, some (.aload_n 2), 1), (1435, some (.aload_n 0), 1), (1436, some (.iload 4), 2), (1438, some (.iconst 1), 1), (1439, some (.iadd), 1), (1440, some (.iaload), 1), (1441, some (.aload_n 0), 1), (1442, some (.iload 4), 2), (1444, some (.iconst 2), 1), (1445, some (.iadd), 1), (1446, some (.iaload), 1), (1447, some (.aload_n 0), 1), (1448, some (.iload 4), 2)] = true := by decide +kernel
theorem adL_law_53 : fd_rows (cL_law.data.toList.drop 1450) 1450 [(1450, some (.iconst 3), 1), (1451, some (.iadd), 1), (1452, some (.iaload), 1), (1453, some (.ifCond .eq 7), 3), (1456, some (.iconst 1), 1), (1457, some (.goto 4), 3), (1460, some (.iconst 0), 1), (1461, some (.aload_n 0), 1), (1462, some (.iload 4), 2), (1464, some (.iconst 4), 1), (1465, some (.iadd), 1), (1466, some (.iaload), 1), (1467, some (.aload_n 0), 1), (1468, some (.iload 4), 2), (1470, some (.iconst 5), 1), (1471, some (.iadd), 1)] = true := by decide +kernel
theorem adL_law_54 : fd_rows (cL_law.data.toList.drop 1472) 1472 [(1472, some (.iaload), 1), (1473, some (.ifCond .eq 7), 3), (1476, some (.iconst 1), 1), (1477, some (.goto 4), 3), (1480, some (.iconst 0), 1), (1481, some (.invokevirtual 268), 3), (1484, some (.istore 6), 2), (1486, some (.goto 1098), 3), (1489, some (.aload_n 1), 1), (1490, some (.aload_n 0), 1), (1491, some (.iload 4), 2), (1493, some (.iconst 1), 1), (1494, some (.iadd), 1), (1495, some (.iaload), 1), (1496, some (.aload_n 3), 1), (1497, some (.invokestatic 269), 3)] = true := by decide +kernel
theorem adL_law_55 : fd_rows (cL_law.data.toList.drop 1500) 1500 [(1500, some (.istore 5), 2), (1502, some (.aload_n 2), 1), (1503, some (.aload_n 0), 1), (1504, some (.iload 4), 2), (1506, some (.iconst 1), 1), (1507, some (.iadd), 1), (1508, some (.iaload), 1), (1509, some (.invokevirtual 271), 3), (1512, some (.istore 6), 2), (1514, some (.goto 1070), 3), (1517, some (.aload_n 1), 1), (1518, some (.aload_n 0), 1), (1519, some (.iload 4), 2), (1521, some (.iconst 1), 1), (1522, some (.iadd), 1), (1523, some (.iaload), 1)] = true := by decide +kernel
theorem adL_law_56 : fd_rows (cL_law.data.toList.drop 1524) 1524 [(1524, some (.aload_n 0), 1), (1525, some (.iload 4), 2), (1527, some (.iconst 2), 1), (1528, some (.iadd), 1), (1529, some (.iaload), 1), (1530, some (.aload_n 0), 1), (1531, some (.iload 4), 2), (1533, some (.iconst 3), 1), (1534, some (.iadd), 1), (1535, some (.iaload), 1), (1536, some (.aload_n 3), 1), (1537, some (.invokestatic 272), 3), (1540, some (.istore 5), 2), (1542, some (.aload_n 2), 1), (1543, some (.aload_n 0), 1), (1544, some (.iload 4), 2)] = true := by decide +kernel
theorem adL_law_57 : fd_rows (cL_law.data.toList.drop 1546) 1546 [(1546, some (.iconst 1), 1), (1547, some (.iadd), 1), (1548, some (.iaload), 1), (1549, some (.aload_n 0), 1), (1550, some (.iload 4), 2), (1552, some (.iconst 2), 1), (1553, some (.iadd), 1), (1554, some (.iaload), 1), (1555, some (.aload_n 0), 1), (1556, some (.iload 4), 2), (1558, some (.iconst 3), 1), (1559, some (.iadd), 1), (1560, some (.iaload), 1), (1561, some (.invokevirtual 274), 3), (1564, some (.istore 6), 2), (1566, some (.goto 1018), 3)] = true := by decide +kernel
theorem adL_law_58 : fd_rows (cL_law.data.toList.drop 1569) 1569 [(1569, some (.aload_n 1), 1), (1570, some (.aload_n 0), 1), (1571, some (.iload 4), 2), (1573, some (.iconst 1), 1), (1574, some (.iadd), 1), (1575, some (.iaload), 1), (1576, some (.aload_n 0), 1), (1577, some (.iload 4), 2), (1579, some (.iconst 2), 1), (1580, some (.iadd), 1), (1581, some (.iaload), 1), (1582, some (.aload_n 3), 1), (1583, some (.invokestatic 275), 3), (1586, some (.istore 5), 2), (1588, some (.aload_n 2), 1), (1589, some (.aload_n 0), 1)] = true := by decide +kernel
theorem adL_law_59 : fd_rows (cL_law.data.toList.drop 1590) 1590 [(1590, some (.iload 4), 2), (1592, some (.iconst 1), 1), (1593, some (.iadd), 1), (1594, some (.iaload), 1), (1595, some (.aload_n 0), 1), (1596, some (.iload 4), 2), (1598, some (.iconst 2), 1), (1599, some (.iadd), 1), (1600, some (.iaload), 1), (1601, some (.invokevirtual 277), 3), (1604, some (.istore 6), 2), (1606, some (.goto 978), 3), (1609, some (.aload_n 1), 1), (1610, some (.aload_n 0), 1), (1611, some (.iload 4), 2), (1613, some (.iconst 1), 1)] = true := by decide +kernel
theorem adL_law_60 : fd_rows (cL_law.data.toList.drop 1614) 1614 [(1614, some (.iadd), 1), (1615, some (.iaload), 1), (1616, some (.aload_n 0), 1), (1617, some (.iload 4), 2), (1619, some (.iconst 2), 1), (1620, some (.iadd), 1), (1621, some (.iaload), 1), (1622, some (.aload_n 0), 1), (1623, some (.iload 4), 2), (1625, some (.iconst 3), 1), (1626, some (.iadd), 1), (1627, some (.iaload), 1), (1628, some (.aload_n 3), 1), (1629, some (.invokestatic 278), 3), (1632, some (.istore 5), 2), (1634, some (.aload_n 2), 1)] = true := by decide +kernel
theorem adL_law_61 : fd_rows (cL_law.data.toList.drop 1635) 1635 [(1635, some (.aload_n 0), 1), (1636, some (.iload 4), 2), (1638, some (.iconst 1), 1), (1639, some (.iadd), 1), (1640, some (.iaload), 1), (1641, some (.aload_n 0), 1), (1642, some (.iload 4), 2), (1644, some (.iconst 2), 1), (1645, some (.iadd), 1), (1646, some (.iaload), 1), (1647, some (.aload_n 0), 1), (1648, some (.iload 4), 2), (1650, some (.iconst 3), 1), (1651, some (.iadd), 1), (1652, some (.iaload), 1), (1653, some (.invokevirtual 280), 3)] = true := by decide +kernel
theorem adL_law_62 : fd_rows (cL_law.data.toList.drop 1656) 1656 [(1656, some (.istore 6), 2), (1658, some (.goto 926), 3), (1661, some (.aload_n 1), 1), (1662, some (.aload_n 0), 1), (1663, some (.iload 4), 2), (1665, some (.iconst 1), 1), (1666, some (.iadd), 1), (1667, some (.iaload), 1), (1668, some (.aload_n 0), 1), (1669, some (.iload 4), 2), (1671, some (.iconst 2), 1), (1672, some (.iadd), 1), (1673, some (.iaload), 1), (1674, some (.ifCond .eq 7), 3), (1677, some (.iconst 1), 1), (1678, some (.goto 4), 3)] = true := by decide +kernel
theorem adL_law_63 : fd_rows (cL_law.data.toList.drop 1681) 1681 [(1681, some (.iconst 0), 1), (1682, some (.aload_n 3), 1), (1683, some (.invokestatic 281), 3), (1686, some (.istore 5), 2), (1688, some (.aload_n 2), 1), (1689, some (.aload_n 0), 1), (1690, some (.iload 4), 2), (1692, some (.iconst 1), 1), (1693, some (.iadd), 1), (1694, some (.iaload), 1), (1695, some (.aload_n 0), 1), (1696, some (.iload 4), 2), (1698, some (.iconst 2), 1), (1699, some (.iadd), 1), (1700, some (.iaload), 1), (1701, some (.ifCond .eq 7), 3)] = true := by decide +kernel
theorem adL_law_64 : fd_rows (cL_law.data.toList.drop 1704) 1704 [(1704, some (.iconst 1), 1), (1705, some (.goto 4), 3), (1708, some (.iconst 0), 1), (1709, some (.invokevirtual 283), 3), (1712, some (.istore 6), 2), (1714, some (.goto 870), 3), (1717, some (.aload_n 1), 1), (1718, some (.aload_n 0), 1), (1719, some (.iload 4), 2), (1721, some (.iconst 1), 1), (1722, some (.iadd), 1), (1723, some (.iaload), 1), (1724, some (.aload_n 3), 1), (1725, some (.invokestatic 284), 3), (1728, some (.istore 5), 2), (1730, some (.aload_n 2), 1)] = true := by decide +kernel
theorem adL_law_65 : fd_rows (cL_law.data.toList.drop 1731) 1731 [(1731, some (.aload_n 0), 1), (1732, some (.iload 4), 2), (1734, some (.iconst 1), 1), (1735, some (.iadd), 1), (1736, some (.iaload), 1), (1737, some (.invokevirtual 286), 3), (1740, some (.istore 6), 2), (1742, some (.goto 842), 3), (1745, some (.aload_n 1), 1), (1746, some (.aload_n 0), 1), (1747, some (.iload 4), 2), (1749, some (.iconst 1), 1), (1750, some (.iadd), 1), (1751, some (.iaload), 1), (1752, some (.aload_n 3), 1), (1753, some (.invokestatic 287), 3)] = true := by decide +kernel
theorem adL_law_66 : fd_rows (cL_law.data.toList.drop 1756) 1756 [(1756, some (.istore 5), 2), (1758, some (.aload_n 2), 1), (1759, some (.aload_n 0), 1), (1760, some (.iload 4), 2), (1762, some (.iconst 1), 1), (1763, some (.iadd), 1), (1764, some (.iaload), 1), (1765, some (.invokevirtual 289), 3), (1768, some (.istore 6), 2), (1770, some (.goto 814), 3), (1773, some (.aload_n 1), 1), (1774, some (.aload_n 0), 1), (1775, some (.iload 4), 2), (1777, some (.iconst 1), 1), (1778, some (.iadd), 1), (1779, some (.iaload), 1)] = true := by decide +kernel
theorem adL_law_67 : fd_rows (cL_law.data.toList.drop 1780) 1780 [(1780, some (.aload_n 3), 1), (1781, some (.invokestatic 290), 3), (1784, some (.istore 5), 2), (1786, some (.aload_n 2), 1), (1787, some (.aload_n 0), 1), (1788, some (.iload 4), 2), (1790, some (.iconst 1), 1), (1791, some (.iadd), 1), (1792, some (.iaload), 1), (1793, some (.invokevirtual 292), 3), (1796, some (.istore 6), 2), (1798, some (.goto 786), 3), (1801, some (.aload_n 1), 1), (1802, some (.aload_n 3), 1), (1803, some (.invokestatic 293), 3), (1806, some (.istore 5), 2)] = true := by decide +kernel
theorem adL_law_68 : fd_rows (cL_law.data.toList.drop 1808) 1808 [(1808, some (.aload_n 2), 1), (1809, some (.invokevirtual 296), 3), (1812, some (.istore 6), 2), (1814, some (.goto 770), 3), (1817, some (.aload_n 1), 1), (1818, some (.aload_n 0), 1), (1819, some (.iload 4), 2), (1821, some (.iconst 1), 1), (1822, some (.iadd), 1), (1823, some (.iaload), 1), (1824, some (.aload_n 3), 1), (1825, some (.invokestatic 297), 3), (1828, some (.istore 5), 2), (1830, some (.aload_n 2), 1), (1831, some (.aload_n 0), 1), (1832, some (.iload 4), 2)] = true := by decide +kernel
theorem adL_law_69 : fd_rows (cL_law.data.toList.drop 1834) 1834 [(1834, some (.iconst 1), 1), (1835, some (.iadd), 1), (1836, some (.iaload), 1), (1837, some (.invokevirtual 299), 3), (1840, some (.istore 6), 2), (1842, some (.goto 742), 3), (1845, some (.aload_n 1), 1), (1846, some (.aload_n 3), 1), (1847, some (.invokestatic 300), 3), (1850, some (.istore 5), 2), (1852, some (.aload_n 2), 1), (1853, some (.invokevirtual 302), 3), (1856, some (.istore 6), 2), (1858, some (.goto 726), 3), (1861, some (.aload_n 1), 1), (1862, some (.aload_n 0), 1)] = true := by decide +kernel
theorem adL_law_70 : fd_rows (cL_law.data.toList.drop 1863) 1863 [(1863, some (.iload 4), 2), (1865, some (.iconst 1), 1), (1866, some (.iadd), 1), (1867, some (.iaload), 1), (1868, some (.aload_n 0), 1), (1869, some (.iload 4), 2), (1871, some (.iconst 2), 1), (1872, some (.iadd), 1), (1873, some (.iaload), 1), (1874, some (.ifCond .eq 7), 3), (1877, some (.iconst 1), 1), (1878, some (.goto 4), 3), (1881, some (.iconst 0), 1), (1882, some (.aload_n 3), 1), (1883, some (.invokestatic 303), 3), (1886, some (.istore 5), 2)] = true := by decide +kernel
theorem adL_law_71 : fd_rows (cL_law.data.toList.drop 1888) 1888 [(1888, some (.aload_n 2), 1), (1889, some (.aload_n 0), 1), (1890, some (.iload 4), 2), (1892, some (.iconst 1), 1), (1893, some (.iadd), 1), (1894, some (.iaload), 1), (1895, some (.aload_n 0), 1), (1896, some (.iload 4), 2), (1898, some (.iconst 2), 1), (1899, some (.iadd), 1), (1900, some (.iaload), 1), (1901, some (.ifCond .eq 7), 3), (1904, some (.iconst 1), 1), (1905, some (.goto 4), 3), (1908, some (.iconst 0), 1), (1909, some (.invokevirtual 305), 3)] = true := by decide +kernel
theorem adL_law_72 : fd_rows (cL_law.data.toList.drop 1912) 1912 [(1912, some (.istore 6), 2), (1914, some (.goto 670), 3), (1917, some (.aload_n 1), 1), (1918, some (.aload_n 0), 1), (1919, some (.iload 4), 2), (1921, some (.iconst 1), 1), (1922, some (.iadd), 1), (1923, some (.iaload), 1), (1924, some (.aload_n 3), 1), (1925, some (.invokestatic 306), 3), (1928, some (.istore 5), 2), (1930, some (.aload_n 2), 1), (1931, some (.aload_n 0), 1), (1932, some (.iload 4), 2), (1934, some (.iconst 1), 1), (1935, some (.iadd), 1)] = true := by decide +kernel
theorem adL_law_73 : fd_rows (cL_law.data.toList.drop 1936) 1936 [(1936, some (.iaload), 1), (1937, some (.invokevirtual 308), 3), (1940, some (.istore 6), 2), (1942, some (.goto 642), 3), (1945, some (.aload_n 1), 1), (1946, some (.invokevirtual 309), 3), (1949, some (.pop), 1), (1950, some (.aload_n 2), 1), (1951, some (.invokevirtual 312), 3), (1954, some (.pop), 1), (1955, some (.goto 629), 3), (1958, some (.aload_n 1), 1), (1959, some (.aload_n 0), 1), (1960, some (.iload 4), 2), (1962, some (.iconst 1), 1), (1963, some (.iadd), 1)] = true := by decide +kernel
theorem adL_law_74 : fd_rows (cL_law.data.toList.drop 1964) 1964 [(1964, some (.iaload), 1), (1965, some (.aload_n 0), 1), (1966, some (.iload 4), 2), (1968, some (.iconst 2), 1), (1969, some (.iadd), 1), (1970, some (.iaload), 1), (1971, some (.aload_n 3), 1), (1972, some (.invokestatic 313), 3), (1975, some (.istore 5), 2), (1977, some (.aload_n 2), 1), (1978, some (.aload_n 0), 1), (1979, some (.iload 4), 2), (1981, some (.iconst 1), 1), (1982, some (.iadd), 1), (1983, some (.iaload), 1), (1984, some (.aload_n 0), 1)] = true := by decide +kernel
theorem adL_law_75 : fd_rows (cL_law.data.toList.drop 1985) 1985 [(1985, some (.iload 4), 2), (1987, some (.iconst 2), 1), (1988, some (.iadd), 1), (1989, some (.iaload), 1), (1990, some (.invokevirtual 315), 3), (1993, some (.istore 6), 2), (1995, some (.goto 589), 3), (1998, some (.aload_n 1), 1), (1999, some (.aload_n 0), 1), (2000, some (.iload 4), 2), (2002, some (.iconst 1), 1), (2003, some (.iadd), 1), (2004, some (.iaload), 1), (2005, some (.aload_n 0), 1), (2006, some (.iload 4), 2), (2008, some (.iconst 2), 1)] = true := by decide +kernel
theorem adL_law_76 : fd_rows (cL_law.data.toList.drop 2009) 2009 [(2009, some (.iadd), 1), (2010, some (.iaload), 1), (2011, some (.aload_n 0), 1), (2012, some (.iload 4), 2), (2014, some (.iconst 3), 1), (2015, some (.iadd), 1), (2016, some (.iaload), 1), (2017, some (.aload_n 3), 1), (2018, some (.invokestatic 316), 3), (2021, some (.istore 5), 2), (2023, some (.aload_n 2), 1), (2024, some (.aload_n 0), 1), (2025, some (.iload 4), 2), (2027, some (.iconst 1), 1), (2028, some (.iadd), 1), (2029, some (.iaload), 1)] = true := by decide +kernel
theorem adL_law_77 : fd_rows (cL_law.data.toList.drop 2030) 2030 [(2030, some (.aload_n 0), 1), (2031, some (.iload 4), 2), (2033, some (.iconst 2), 1), (2034, some (.iadd), 1), (2035, some (.iaload), 1), (2036, some (.aload_n 0), 1), (2037, some (.iload 4), 2), (2039, some (.iconst 3), 1), (2040, some (.iadd), 1), (2041, some (.iaload), 1), (2042, some (.invokevirtual 318), 3), (2045, some (.istore 6), 2), (2047, some (.goto 537), 3), (2050, some (.aload_n 1), 1), (2051, some (.aload_n 0), 1), (2052, some (.iload 4), 2)] = true := by decide +kernel
theorem adL_law_78 : fd_rows (cL_law.data.toList.drop 2054) 2054 [(2054, some (.iconst 1), 1), (2055, some (.iadd), 1), (2056, some (.iaload), 1), (2057, some (.aload_n 0), 1), (2058, some (.iload 4), 2), (2060, some (.iconst 2), 1), (2061, some (.iadd), 1), (2062, some (.iaload), 1), (2063, some (.aload_n 3), 1), (2064, some (.invokestatic 319), 3), (2067, some (.istore 5), 2), (2069, some (.aload_n 2), 1), (2070, some (.aload_n 0), 1), (2071, some (.iload 4), 2), (2073, some (.iconst 1), 1), (2074, some (.iadd), 1)] = true := by decide +kernel
theorem adL_law_79 : fd_rows (cL_law.data.toList.drop 2075) 2075 [(2075, some (.iaload), 1), (2076, some (.aload_n 0), 1), (2077, some (.iload 4), 2), (2079, some (.iconst 2), 1), (2080, some (.iadd), 1), (2081, some (.iaload), 1), (2082, some (.invokevirtual 321), 3), (2085, some (.istore 6), 2), (2087, some (.goto 497), 3), (2090, some (.aload_n 1), 1), (2091, some (.aload_n 0), 1), (2092, some (.iload 4), 2), (2094, some (.iconst 1), 1), (2095, some (.iadd), 1), (2096, some (.iaload), 1), (2097, some (.aload_n 0), 1)] = true := by decide +kernel
theorem adL_law_80 : fd_rows (cL_law.data.toList.drop 2098) 2098 [(2098, some (.iload 4), 2), (2100, some (.iconst 2), 1), (2101, some (.iadd), 1), (2102, some (.iaload), 1), (2103, some (.aload_n 3), 1), (2104, some (.invokestatic 322), 3), (2107, some (.istore 5), 2), (2109, some (.aload_n 2), 1), (2110, some (.aload_n 0), 1), (2111, some (.iload 4), 2), (2113, some (.iconst 1), 1), (2114, some (.iadd), 1), (2115, some (.iaload), 1), (2116, some (.aload_n 0), 1), (2117, some (.iload 4), 2), (2119, some (.iconst 2), 1)] = true := by decide +kernel
theorem adL_law_81 : fd_rows (cL_law.data.toList.drop 2120) 2120 [(2120, some (.iadd), 1), (2121, some (.iaload), 1), (2122, some (.invokevirtual 324), 3), (2125, some (.istore 6), 2), (2127, some (.goto 457), 3), (2130, some (.aload_n 1), 1), (2131, some (.aload_n 0), 1), (2132, some (.iload 4), 2), (2134, some (.iconst 1), 1), (2135, some (.iadd), 1), (2136, some (.iaload), 1), (2137, some (.aload_n 0), 1), (2138, some (.iload 4), 2), (2140, some (.iconst 2), 1), (2141, some (.iadd), 1), (2142, some (.iaload), 1)] = true := by decide +kernel
theorem adL_law_82 : fd_rows (cL_law.data.toList.drop 2143) 2143 [(2143, some (.aload_n 3), 1), (2144, some (.invokestatic 325), 3), (2147, some (.istore 5), 2), (2149, some (.aload_n 2), 1), (2150, some (.aload_n 0), 1), (2151, some (.iload 4), 2), (2153, some (.iconst 1), 1), (2154, some (.iadd), 1), (2155, some (.iaload), 1), (2156, some (.aload_n 0), 1), (2157, some (.iload 4), 2), (2159, some (.iconst 2), 1), (2160, some (.iadd), 1), (2161, some (.iaload), 1), (2162, some (.invokevirtual 327), 3), (2165, some (.istore 6), 2)] = true := by decide +kernel
theorem adL_law_83 : fd_rows (cL_law.data.toList.drop 2167) 2167 [(2167, some (.goto 417), 3), (2170, some (.aload_n 1), 1), (2171, some (.aload_n 0), 1), (2172, some (.iload 4), 2), (2174, some (.iconst 1), 1), (2175, some (.iadd), 1), (2176, some (.iaload), 1), (2177, some (.aload_n 0), 1), (2178, some (.iload 4), 2), (2180, some (.iconst 2), 1), (2181, some (.iadd), 1), (2182, some (.iaload), 1), (2183, some (.aload_n 0), 1), (2184, some (.iload 4), 2), (2186, some (.iconst 3), 1), (2187, some (.iadd), 1)] = true := by decide +kernel
theorem adL_law_84 : fd_rows (cL_law.data.toList.drop 2188) 2188 [(2188, some (.iaload), 1), (2189, some (.aload_n 3), 1), (2190, some (.invokestatic 328), 3), (2193, some (.istore 5), 2), (2195, some (.aload_n 2), 1), (2196, some (.aload_n 0), 1), (2197, some (.iload 4), 2), (2199, some (.iconst 1), 1), (2200, some (.iadd), 1), (2201, some (.iaload), 1), (2202, some (.aload_n 0), 1), (2203, some (.iload 4), 2), (2205, some (.iconst 2), 1), (2206, some (.iadd), 1), (2207, some (.iaload), 1), (2208, some (.aload_n 0), 1)] = true := by decide +kernel
theorem adL_law_85 : fd_rows (cL_law.data.toList.drop 2209) 2209 [(2209, some (.iload 4), 2), (2211, some (.iconst 3), 1), (2212, some (.iadd), 1), (2213, some (.iaload), 1), (2214, some (.invokevirtual 330), 3), (2217, some (.istore 6), 2), (2219, some (.goto 365), 3), (2222, some (.aload_n 1), 1), (2223, some (.aload_n 0), 1), (2224, some (.iload 4), 2), (2226, some (.iconst 1), 1), (2227, some (.iadd), 1), (2228, some (.iaload), 1), (2229, some (.aload_n 0), 1), (2230, some (.iload 4), 2), (2232, some (.iconst 2), 1)] = true := by decide +kernel
theorem adL_law_86 : fd_rows (cL_law.data.toList.drop 2233) 2233 [(2233, some (.iadd), 1), (2234, some (.iaload), 1), (2235, some (.aload_n 3), 1), (2236, some (.invokestatic 331), 3), (2239, some (.istore 5), 2), (2241, some (.aload_n 2), 1), (2242, some (.aload_n 0), 1), (2243, some (.iload 4), 2), (2245, some (.iconst 1), 1), (2246, some (.iadd), 1), (2247, some (.iaload), 1), (2248, some (.aload_n 0), 1), (2249, some (.iload 4), 2), (2251, some (.iconst 2), 1), (2252, some (.iadd), 1), (2253, some (.iaload), 1)] = true := by decide +kernel
theorem adL_law_87 : fd_rows (cL_law.data.toList.drop 2254) 2254 [(2254, some (.invokevirtual 333), 3), (2257, some (.istore 6), 2), (2259, some (.goto 325), 3), (2262, some (.aload_n 1), 1), (2263, some (.aload_n 0), 1), (2264, some (.iload 4), 2), (2266, some (.iconst 1), 1), (2267, some (.iadd), 1), (2268, some (.iaload), 1), (2269, some (.aload_n 0), 1), (2270, some (.iload 4), 2), (2272, some (.iconst 2), 1), (2273, some (.iadd), 1), (2274, some (.iaload), 1), (2275, some (.aload_n 3), 1), (2276, some (.invokestatic 334), 3)] = true := by decide +kernel
theorem adL_law_88 : fd_rows (cL_law.data.toList.drop 2279) 2279 [(2279, some (.istore 5), 2), (2281, some (.aload_n 2), 1), (2282, some (.aload_n 0), 1), (2283, some (.iload 4), 2), (2285, some (.iconst 1), 1), (2286, some (.iadd), 1), (2287, some (.iaload), 1), (2288, some (.aload_n 0), 1), (2289, some (.iload 4), 2), (2291, some (.iconst 2), 1), (2292, some (.iadd), 1), (2293, some (.iaload), 1), (2294, some (.invokevirtual 336), 3), (2297, some (.istore 6), 2), (2299, some (.goto 285), 3), (2302, some (.aload_n 1), 1)] = true := by decide +kernel
theorem adL_law_89 : fd_rows (cL_law.data.toList.drop 2303) 2303 [(2303, some (.aload_n 0), 1), (2304, some (.iload 4), 2), (2306, some (.iconst 1), 1), (2307, some (.iadd), 1), (2308, some (.iaload), 1), (2309, some (.aload_n 3), 1), (2310, some (.invokestatic 337), 3), (2313, some (.istore 5), 2), (2315, some (.aload_n 2), 1), (2316, some (.aload_n 0), 1), (2317, some (.iload 4), 2), (2319, some (.iconst 1), 1), (2320, some (.iadd), 1), (2321, some (.iaload), 1), (2322, some (.invokevirtual 339), 3), (2325, some (.astore 6), 2)] = true := by decide +kernel
theorem adL_law_90 : fd_rows (cL_law.data.toList.drop 2327) 2327 [(2327, some (.goto 257), 3), (2330, some (.aload_n 1), 1), (2331, some (.aload_n 0), 1), (2332, some (.iload 4), 2), (2334, some (.iconst 1), 1), (2335, some (.iadd), 1), (2336, some (.iaload), 1), (2337, some (.aload_n 0), 1), (2338, some (.iload 4), 2), (2340, some (.iconst 2), 1), (2341, some (.iadd), 1), (2342, some (.iaload), 1), (2343, some (.aload_n 3), 1), (2344, some (.invokestatic 340), 3), (2347, some (.istore 5), 2), (2349, some (.aload_n 2), 1)] = true := by decide +kernel
theorem adL_law_91 : fd_rows (cL_law.data.toList.drop 2350) 2350 [(2350, some (.aload_n 0), 1), (2351, some (.iload 4), 2), (2353, some (.iconst 1), 1), (2354, some (.iadd), 1), (2355, some (.iaload), 1), (2356, some (.aload_n 0), 1), (2357, some (.iload 4), 2), (2359, some (.iconst 2), 1), (2360, some (.iadd), 1), (2361, some (.iaload), 1), (2362, some (.invokevirtual 342), 3), (2365, some (.istore 6), 2), (2367, some (.goto 217), 3), (2370, some (.aload_n 1), 1), (2371, some (.aload_n 0), 1), (2372, some (.iload 4), 2)] = true := by decide +kernel
theorem adL_law_92 : fd_rows (cL_law.data.toList.drop 2374) 2374 [(2374, some (.iconst 1), 1), (2375, some (.iadd), 1), (2376, some (.iaload), 1), (2377, some (.aload_n 0), 1), (2378, some (.iload 4), 2), (2380, some (.iconst 2), 1), (2381, some (.iadd), 1), (2382, some (.iaload), 1), (2383, some (.aload_n 3), 1), (2384, some (.invokestatic 343), 3), (2387, some (.istore 5), 2), (2389, some (.aload_n 2), 1), (2390, some (.aload_n 0), 1), (2391, some (.iload 4), 2), (2393, some (.iconst 1), 1), (2394, some (.iadd), 1)] = true := by decide +kernel
theorem adL_law_93 : fd_rows (cL_law.data.toList.drop 2395) 2395 [(2395, some (.iaload), 1), (2396, some (.aload_n 0), 1), (2397, some (.iload 4), 2), (2399, some (.iconst 2), 1), (2400, some (.iadd), 1), (2401, some (.iaload), 1), (2402, some (.invokevirtual 345), 3), (2405, some (.istore 6), 2), (2407, some (.goto 177), 3), (2410, some (.aload_n 1), 1), (2411, some (.aload_n 0), 1), (2412, some (.iload 4), 2), (2414, some (.iconst 1), 1), (2415, some (.iadd), 1), (2416, some (.iaload), 1), (2417, some (.aload_n 0), 1)] = true := by decide +kernel
theorem adL_law_94 : fd_rows (cL_law.data.toList.drop 2418) 2418 [(2418, some (.iload 4), 2), (2420, some (.iconst 2), 1), (2421, some (.iadd), 1), (2422, some (.iaload), 1), (2423, some (.aload_n 3), 1), (2424, some (.invokestatic 346), 3), (2427, some (.istore 5), 2), (2429, some (.aload_n 2), 1), (2430, some (.aload_n 0), 1), (2431, some (.iload 4), 2), (2433, some (.iconst 1), 1), (2434, some (.iadd), 1), (2435, some (.iaload), 1), (2436, some (.aload_n 0), 1), (2437, some (.iload 4), 2), (2439, some (.iconst 2), 1)] = true := by decide +kernel
theorem adL_law_95 : fd_rows (cL_law.data.toList.drop 2440) 2440 [(2440, some (.iadd), 1), (2441, some (.iaload), 1), (2442, some (.invokevirtual 348), 3), (2445, some (.istore 6), 2), (2447, some (.goto 137), 3), (2450, some (.aload_n 1), 1), (2451, some (.aload_n 0), 1), (2452, some (.iload 4), 2), (2454, some (.iconst 1), 1), (2455, some (.iadd), 1), (2456, some (.iaload), 1), (2457, some (.aload_n 0), 1), (2458, some (.iload 4), 2), (2460, some (.iconst 2), 1), (2461, some (.iadd), 1), (2462, some (.iaload), 1)] = true := by decide +kernel
theorem adL_law_96 : fd_rows (cL_law.data.toList.drop 2463) 2463 [(2463, some (.aload_n 0), 1), (2464, some (.iload 4), 2), (2466, some (.iconst 3), 1), (2467, some (.iadd), 1), (2468, some (.iaload), 1), (2469, some (.aload_n 3), 1), (2470, some (.invokestatic 349), 3), (2473, some (.istore 5), 2), (2475, some (.aload_n 2), 1), (2476, some (.aload_n 0), 1), (2477, some (.iload 4), 2), (2479, some (.iconst 1), 1), (2480, some (.iadd), 1), (2481, some (.iaload), 1), (2482, some (.aload_n 0), 1), (2483, some (.iload 4), 2)] = true := by decide +kernel
theorem adL_law_97 : fd_rows (cL_law.data.toList.drop 2485) 2485 [(2485, some (.iconst 2), 1), (2486, some (.iadd), 1), (2487, some (.iaload), 1), (2488, some (.aload_n 0), 1), (2489, some (.iload 4), 2), (2491, some (.iconst 3), 1), (2492, some (.iadd), 1), (2493, some (.iaload), 1), (2494, some (.invokevirtual 351), 3), (2497, some (.istore 6), 2), (2499, some (.goto 85), 3), (2502, some (.aload_n 1), 1), (2503, some (.aload_n 0), 1), (2504, some (.iload 4), 2), (2506, some (.iconst 1), 1), (2507, some (.iadd), 1)] = true := by decide +kernel
theorem adL_law_98 : fd_rows (cL_law.data.toList.drop 2508) 2508 [(2508, some (.iaload), 1), (2509, some (.aload_n 3), 1), (2510, some (.invokestatic 352), 3), (2513, some (.istore 5), 2), (2515, some (.aload_n 2), 1), (2516, some (.aload_n 0), 1), (2517, some (.iload 4), 2), (2519, some (.iconst 1), 1), (2520, some (.iadd), 1), (2521, some (.iaload), 1), (2522, some (.invokevirtual 354), 3), (2525, some (.astore 6), 2), (2527, some (.goto 57), 3), (2530, some (.aload_n 1), 1), (2531, some (.aload_n 0), 1), (2532, some (.iload 4), 2)] = true := by decide +kernel
theorem adL_law_99 : fd_rows (cL_law.data.toList.drop 2534) 2534 [(2534, some (.iconst 1), 1), (2535, some (.iadd), 1), (2536, some (.iaload), 1), (2537, some (.aload_n 3), 1), (2538, some (.invokestatic 355), 3), (2541, some (.istore 5), 2), (2543, some (.aload_n 2), 1), (2544, some (.aload_n 0), 1), (2545, some (.iload 4), 2), (2547, some (.iconst 1), 1), (2548, some (.iadd), 1), (2549, some (.iaload), 1), (2550, some (.invokevirtual 357), 3), (2553, some (.istore 6), 2), (2555, some (.goto 29), 3), (2558, some (.aload_n 1), 1)] = true := by decide +kernel
theorem adL_law_100 : fd_rows (cL_law.data.toList.drop 2559) 2559 [(2559, some (.invokevirtual 358), 3), (2562, some (.pop), 1), (2563, some (.aload_n 2), 1), (2564, some (.invokevirtual 362), 3), (2567, some (.pop), 1), (2568, some (.goto 16), 3), (2571, some (.aload_n 1), 1), (2572, some (.invokevirtual 363), 3), (2575, some (.pop2), 1), (2576, some (.aload_n 2), 1), (2577, some (.invokevirtual 367), 3), (2580, some (.pop2), 1), (2581, some (.goto 3), 3), (2584, some (.iinc 4 6), 3), (2587, some (.goto (-2560)), 3), (2590, some (.iconst 1), 1)] = true := by decide +kernel
theorem adL_law_101 : fd_rows (cL_law.data.toList.drop 2591) 2591 [(2591, some (.ireturn), 1)] = true := by decide +kernel
theorem dL_law_0 : decode cL_law 0 = .ok (.new 8, 3) := fd_get adL_law_0 (k := 0) rfl
theorem dL_law_3 : decode cL_law 3 = .ok (.dup, 1) := fd_get adL_law_0 (k := 1) rfl
theorem dL_law_4 : decode cL_law 4 = .ok (.invokespecial 186, 3) := fd_get adL_law_0 (k := 2) rfl
theorem dL_law_7 : decode cL_law 7 = .ok (.astore_n 1, 1) := fd_get adL_law_0 (k := 3) rfl
theorem dL_law_8 : decode cL_law 8 = .ok (.new 187, 3) := fd_get adL_law_0 (k := 4) rfl
theorem dL_law_11 : decode cL_law 11 = .ok (.dup, 1) := fd_get adL_law_0 (k := 5) rfl
theorem dL_law_12 : decode cL_law 12 = .ok (.invokespecial 189, 3) := fd_get adL_law_0 (k := 6) rfl
theorem dL_law_15 : decode cL_law 15 = .ok (.astore_n 2, 1) := fd_get adL_law_0 (k := 7) rfl
theorem dL_law_16 : decode cL_law 16 = .ok (.new 14, 3) := fd_get adL_law_0 (k := 8) rfl
theorem dL_law_19 : decode cL_law 19 = .ok (.dup, 1) := fd_get adL_law_0 (k := 9) rfl
theorem dL_law_20 : decode cL_law 20 = .ok (.invokespecial 190, 3) := fd_get adL_law_0 (k := 10) rfl
theorem dL_law_23 : decode cL_law 23 = .ok (.astore_n 3, 1) := fd_get adL_law_0 (k := 11) rfl
theorem dL_law_24 : decode cL_law 24 = .ok (.iconst 0, 1) := fd_get adL_law_0 (k := 12) rfl
theorem dL_law_25 : decode cL_law 25 = .ok (.istore 4, 2) := fd_get adL_law_0 (k := 13) rfl
theorem dL_law_27 : decode cL_law 27 = .ok (.iload 4, 2) := fd_get adL_law_0 (k := 14) rfl
theorem dL_law_29 : decode cL_law 29 = .ok (.aload_n 0, 1) := fd_get adL_law_0 (k := 15) rfl
theorem dL_law_30 : decode cL_law 30 = .ok (.arraylength, 1) := fd_get adL_law_1 (k := 0) rfl
theorem dL_law_31 : decode cL_law 31 = .ok (.bipush 6, 2) := fd_get adL_law_1 (k := 1) rfl
theorem dL_law_33 : decode cL_law 33 = .ok (.isub, 1) := fd_get adL_law_1 (k := 2) rfl
theorem dL_law_34 : decode cL_law 34 = .ok (.if_icmp .gt 2556, 3) := fd_get adL_law_1 (k := 3) rfl
theorem dL_law_37 : decode cL_law 37 = .ok (.aload_n 0, 1) := fd_get adL_law_1 (k := 4) rfl
theorem dL_law_38 : decode cL_law 38 = .ok (.iload 4, 2) := fd_get adL_law_1 (k := 5) rfl
theorem dL_law_40 : decode cL_law 40 = .ok (.iaload, 1) := fd_get adL_law_1 (k := 6) rfl
theorem dL_law_41 : decode cL_law 41 = .ok (.bipush 63, 2) := fd_get adL_law_1 (k := 7) rfl
theorem dL_law_43 : decode cL_law 43 = .ok (.iand, 1) := fd_get adL_law_1 (k := 8) rfl
theorem dL_law_44 : decode cL_law 44 = .ok (.tableswitch 2540 0 52 #[228, 280, 332, 384, 448, 488, 540, 592, 632, 672, 712, 768, 808, 848, 888, 916, 956, 1025, 1093, 1161, 1229, 1337, 1445, 1473, 1525, 1565, 1617, 1673, 1701, 1729, 1757, 1773, 1801, 1817, 1873, 1901, 1914, 1954, 2006, 2046, 2086, 2126, 2178, 2218, 2258, 2286, 2326, 2366, 2406, 2458, 2486, 2514, 2527], 228) := by decide +kernel
theorem dL_law_272 : decode cL_law 272 = .ok (.aload_n 1, 1) := fd_get adL_law_1 (k := 10) rfl
theorem dL_law_273 : decode cL_law 273 = .ok (.aload_n 0, 1) := fd_get adL_law_1 (k := 11) rfl
theorem dL_law_274 : decode cL_law 274 = .ok (.iload 4, 2) := fd_get adL_law_1 (k := 12) rfl
theorem dL_law_276 : decode cL_law 276 = .ok (.iconst 1, 1) := fd_get adL_law_1 (k := 13) rfl
theorem dL_law_277 : decode cL_law 277 = .ok (.iadd, 1) := fd_get adL_law_1 (k := 14) rfl
theorem dL_law_278 : decode cL_law 278 = .ok (.iaload, 1) := fd_get adL_law_1 (k := 15) rfl
theorem dL_law_279 : decode cL_law 279 = .ok (.aload_n 0, 1) := fd_get adL_law_2 (k := 0) rfl
theorem dL_law_280 : decode cL_law 280 = .ok (.iload 4, 2) := fd_get adL_law_2 (k := 1) rfl
theorem dL_law_282 : decode cL_law 282 = .ok (.iconst 2, 1) := fd_get adL_law_2 (k := 2) rfl
theorem dL_law_283 : decode cL_law 283 = .ok (.iadd, 1) := fd_get adL_law_2 (k := 3) rfl
theorem dL_law_284 : decode cL_law 284 = .ok (.iaload, 1) := fd_get adL_law_2 (k := 4) rfl
theorem dL_law_285 : decode cL_law 285 = .ok (.aload_n 0, 1) := fd_get adL_law_2 (k := 5) rfl
theorem dL_law_286 : decode cL_law 286 = .ok (.iload 4, 2) := fd_get adL_law_2 (k := 6) rfl
theorem dL_law_288 : decode cL_law 288 = .ok (.iconst 3, 1) := fd_get adL_law_2 (k := 7) rfl
theorem dL_law_289 : decode cL_law 289 = .ok (.iadd, 1) := fd_get adL_law_2 (k := 8) rfl
theorem dL_law_290 : decode cL_law 290 = .ok (.iaload, 1) := fd_get adL_law_2 (k := 9) rfl
theorem dL_law_291 : decode cL_law 291 = .ok (.aload_n 3, 1) := fd_get adL_law_2 (k := 10) rfl
theorem dL_law_292 : decode cL_law 292 = .ok (.invokestatic 191, 3) := fd_get adL_law_2 (k := 11) rfl
theorem dL_law_295 : decode cL_law 295 = .ok (.istore 5, 2) := fd_get adL_law_2 (k := 12) rfl
theorem dL_law_297 : decode cL_law 297 = .ok (.aload_n 2, 1) := fd_get adL_law_2 (k := 13) rfl
theorem dL_law_298 : decode cL_law 298 = .ok (.aload_n 0, 1) := fd_get adL_law_2 (k := 14) rfl
theorem dL_law_299 : decode cL_law 299 = .ok (.iload 4, 2) := fd_get adL_law_2 (k := 15) rfl
theorem dL_law_301 : decode cL_law 301 = .ok (.iconst 1, 1) := fd_get adL_law_3 (k := 0) rfl
theorem dL_law_302 : decode cL_law 302 = .ok (.iadd, 1) := fd_get adL_law_3 (k := 1) rfl
theorem dL_law_303 : decode cL_law 303 = .ok (.iaload, 1) := fd_get adL_law_3 (k := 2) rfl
theorem dL_law_304 : decode cL_law 304 = .ok (.aload_n 0, 1) := fd_get adL_law_3 (k := 3) rfl
theorem dL_law_305 : decode cL_law 305 = .ok (.iload 4, 2) := fd_get adL_law_3 (k := 4) rfl
theorem dL_law_307 : decode cL_law 307 = .ok (.iconst 2, 1) := fd_get adL_law_3 (k := 5) rfl
theorem dL_law_308 : decode cL_law 308 = .ok (.iadd, 1) := fd_get adL_law_3 (k := 6) rfl
theorem dL_law_309 : decode cL_law 309 = .ok (.iaload, 1) := fd_get adL_law_3 (k := 7) rfl
theorem dL_law_310 : decode cL_law 310 = .ok (.aload_n 0, 1) := fd_get adL_law_3 (k := 8) rfl
theorem dL_law_311 : decode cL_law 311 = .ok (.iload 4, 2) := fd_get adL_law_3 (k := 9) rfl
theorem dL_law_313 : decode cL_law 313 = .ok (.iconst 3, 1) := fd_get adL_law_3 (k := 10) rfl
theorem dL_law_314 : decode cL_law 314 = .ok (.iadd, 1) := fd_get adL_law_3 (k := 11) rfl
theorem dL_law_315 : decode cL_law 315 = .ok (.iaload, 1) := fd_get adL_law_3 (k := 12) rfl
theorem dL_law_316 : decode cL_law 316 = .ok (.invokevirtual 196, 3) := fd_get adL_law_3 (k := 13) rfl
theorem dL_law_319 : decode cL_law 319 = .ok (.istore 6, 2) := fd_get adL_law_3 (k := 14) rfl
theorem dL_law_321 : decode cL_law 321 = .ok (.goto 2263, 3) := fd_get adL_law_3 (k := 15) rfl
theorem dL_law_324 : decode cL_law 324 = .ok (.aload_n 1, 1) := fd_get adL_law_4 (k := 0) rfl
theorem dL_law_325 : decode cL_law 325 = .ok (.aload_n 0, 1) := fd_get adL_law_4 (k := 1) rfl
theorem dL_law_326 : decode cL_law 326 = .ok (.iload 4, 2) := fd_get adL_law_4 (k := 2) rfl
theorem dL_law_328 : decode cL_law 328 = .ok (.iconst 1, 1) := fd_get adL_law_4 (k := 3) rfl
theorem dL_law_329 : decode cL_law 329 = .ok (.iadd, 1) := fd_get adL_law_4 (k := 4) rfl
theorem dL_law_330 : decode cL_law 330 = .ok (.iaload, 1) := fd_get adL_law_4 (k := 5) rfl
theorem dL_law_331 : decode cL_law 331 = .ok (.aload_n 0, 1) := fd_get adL_law_4 (k := 6) rfl
theorem dL_law_332 : decode cL_law 332 = .ok (.iload 4, 2) := fd_get adL_law_4 (k := 7) rfl
theorem dL_law_334 : decode cL_law 334 = .ok (.iconst 2, 1) := fd_get adL_law_4 (k := 8) rfl
theorem dL_law_335 : decode cL_law 335 = .ok (.iadd, 1) := fd_get adL_law_4 (k := 9) rfl
theorem dL_law_336 : decode cL_law 336 = .ok (.iaload, 1) := fd_get adL_law_4 (k := 10) rfl
theorem dL_law_337 : decode cL_law 337 = .ok (.aload_n 0, 1) := fd_get adL_law_4 (k := 11) rfl
theorem dL_law_338 : decode cL_law 338 = .ok (.iload 4, 2) := fd_get adL_law_4 (k := 12) rfl
theorem dL_law_340 : decode cL_law 340 = .ok (.iconst 3, 1) := fd_get adL_law_4 (k := 13) rfl
theorem dL_law_341 : decode cL_law 341 = .ok (.iadd, 1) := fd_get adL_law_4 (k := 14) rfl
theorem dL_law_342 : decode cL_law 342 = .ok (.iaload, 1) := fd_get adL_law_4 (k := 15) rfl
theorem dL_law_343 : decode cL_law 343 = .ok (.aload_n 3, 1) := fd_get adL_law_5 (k := 0) rfl
theorem dL_law_344 : decode cL_law 344 = .ok (.invokestatic 197, 3) := fd_get adL_law_5 (k := 1) rfl
theorem dL_law_347 : decode cL_law 347 = .ok (.istore 5, 2) := fd_get adL_law_5 (k := 2) rfl
theorem dL_law_349 : decode cL_law 349 = .ok (.aload_n 2, 1) := fd_get adL_law_5 (k := 3) rfl
theorem dL_law_350 : decode cL_law 350 = .ok (.aload_n 0, 1) := fd_get adL_law_5 (k := 4) rfl
theorem dL_law_351 : decode cL_law 351 = .ok (.iload 4, 2) := fd_get adL_law_5 (k := 5) rfl
theorem dL_law_353 : decode cL_law 353 = .ok (.iconst 1, 1) := fd_get adL_law_5 (k := 6) rfl
theorem dL_law_354 : decode cL_law 354 = .ok (.iadd, 1) := fd_get adL_law_5 (k := 7) rfl
theorem dL_law_355 : decode cL_law 355 = .ok (.iaload, 1) := fd_get adL_law_5 (k := 8) rfl
theorem dL_law_356 : decode cL_law 356 = .ok (.aload_n 0, 1) := fd_get adL_law_5 (k := 9) rfl
theorem dL_law_357 : decode cL_law 357 = .ok (.iload 4, 2) := fd_get adL_law_5 (k := 10) rfl
theorem dL_law_359 : decode cL_law 359 = .ok (.iconst 2, 1) := fd_get adL_law_5 (k := 11) rfl
theorem dL_law_360 : decode cL_law 360 = .ok (.iadd, 1) := fd_get adL_law_5 (k := 12) rfl
theorem dL_law_361 : decode cL_law 361 = .ok (.iaload, 1) := fd_get adL_law_5 (k := 13) rfl
theorem dL_law_362 : decode cL_law 362 = .ok (.aload_n 0, 1) := fd_get adL_law_5 (k := 14) rfl
theorem dL_law_363 : decode cL_law 363 = .ok (.iload 4, 2) := fd_get adL_law_5 (k := 15) rfl
theorem dL_law_365 : decode cL_law 365 = .ok (.iconst 3, 1) := fd_get adL_law_6 (k := 0) rfl
theorem dL_law_366 : decode cL_law 366 = .ok (.iadd, 1) := fd_get adL_law_6 (k := 1) rfl
theorem dL_law_367 : decode cL_law 367 = .ok (.iaload, 1) := fd_get adL_law_6 (k := 2) rfl
theorem dL_law_368 : decode cL_law 368 = .ok (.invokevirtual 199, 3) := fd_get adL_law_6 (k := 3) rfl
theorem dL_law_371 : decode cL_law 371 = .ok (.istore 6, 2) := fd_get adL_law_6 (k := 4) rfl
theorem dL_law_373 : decode cL_law 373 = .ok (.goto 2211, 3) := fd_get adL_law_6 (k := 5) rfl
theorem dL_law_376 : decode cL_law 376 = .ok (.aload_n 1, 1) := fd_get adL_law_6 (k := 6) rfl
theorem dL_law_377 : decode cL_law 377 = .ok (.aload_n 0, 1) := fd_get adL_law_6 (k := 7) rfl
theorem dL_law_378 : decode cL_law 378 = .ok (.iload 4, 2) := fd_get adL_law_6 (k := 8) rfl
theorem dL_law_380 : decode cL_law 380 = .ok (.iconst 1, 1) := fd_get adL_law_6 (k := 9) rfl
theorem dL_law_381 : decode cL_law 381 = .ok (.iadd, 1) := fd_get adL_law_6 (k := 10) rfl
theorem dL_law_382 : decode cL_law 382 = .ok (.iaload, 1) := fd_get adL_law_6 (k := 11) rfl
theorem dL_law_383 : decode cL_law 383 = .ok (.aload_n 0, 1) := fd_get adL_law_6 (k := 12) rfl
theorem dL_law_384 : decode cL_law 384 = .ok (.iload 4, 2) := fd_get adL_law_6 (k := 13) rfl
theorem dL_law_386 : decode cL_law 386 = .ok (.iconst 2, 1) := fd_get adL_law_6 (k := 14) rfl
theorem dL_law_387 : decode cL_law 387 = .ok (.iadd, 1) := fd_get adL_law_6 (k := 15) rfl
theorem dL_law_388 : decode cL_law 388 = .ok (.iaload, 1) := fd_get adL_law_7 (k := 0) rfl
theorem dL_law_389 : decode cL_law 389 = .ok (.aload_n 0, 1) := fd_get adL_law_7 (k := 1) rfl
theorem dL_law_390 : decode cL_law 390 = .ok (.iload 4, 2) := fd_get adL_law_7 (k := 2) rfl
theorem dL_law_392 : decode cL_law 392 = .ok (.iconst 3, 1) := fd_get adL_law_7 (k := 3) rfl
theorem dL_law_393 : decode cL_law 393 = .ok (.iadd, 1) := fd_get adL_law_7 (k := 4) rfl
theorem dL_law_394 : decode cL_law 394 = .ok (.iaload, 1) := fd_get adL_law_7 (k := 5) rfl
theorem dL_law_395 : decode cL_law 395 = .ok (.aload_n 3, 1) := fd_get adL_law_7 (k := 6) rfl
theorem dL_law_396 : decode cL_law 396 = .ok (.invokestatic 200, 3) := fd_get adL_law_7 (k := 7) rfl
theorem dL_law_399 : decode cL_law 399 = .ok (.istore 5, 2) := fd_get adL_law_7 (k := 8) rfl
theorem dL_law_401 : decode cL_law 401 = .ok (.aload_n 2, 1) := fd_get adL_law_7 (k := 9) rfl
theorem dL_law_402 : decode cL_law 402 = .ok (.aload_n 0, 1) := fd_get adL_law_7 (k := 10) rfl
theorem dL_law_403 : decode cL_law 403 = .ok (.iload 4, 2) := fd_get adL_law_7 (k := 11) rfl
theorem dL_law_405 : decode cL_law 405 = .ok (.iconst 1, 1) := fd_get adL_law_7 (k := 12) rfl
theorem dL_law_406 : decode cL_law 406 = .ok (.iadd, 1) := fd_get adL_law_7 (k := 13) rfl
theorem dL_law_407 : decode cL_law 407 = .ok (.iaload, 1) := fd_get adL_law_7 (k := 14) rfl
theorem dL_law_408 : decode cL_law 408 = .ok (.aload_n 0, 1) := fd_get adL_law_7 (k := 15) rfl
theorem dL_law_409 : decode cL_law 409 = .ok (.iload 4, 2) := fd_get adL_law_8 (k := 0) rfl
theorem dL_law_411 : decode cL_law 411 = .ok (.iconst 2, 1) := fd_get adL_law_8 (k := 1) rfl
theorem dL_law_412 : decode cL_law 412 = .ok (.iadd, 1) := fd_get adL_law_8 (k := 2) rfl
theorem dL_law_413 : decode cL_law 413 = .ok (.iaload, 1) := fd_get adL_law_8 (k := 3) rfl
theorem dL_law_414 : decode cL_law 414 = .ok (.aload_n 0, 1) := fd_get adL_law_8 (k := 4) rfl
theorem dL_law_415 : decode cL_law 415 = .ok (.iload 4, 2) := fd_get adL_law_8 (k := 5) rfl
theorem dL_law_417 : decode cL_law 417 = .ok (.iconst 3, 1) := fd_get adL_law_8 (k := 6) rfl
theorem dL_law_418 : decode cL_law 418 = .ok (.iadd, 1) := fd_get adL_law_8 (k := 7) rfl
theorem dL_law_419 : decode cL_law 419 = .ok (.iaload, 1) := fd_get adL_law_8 (k := 8) rfl
theorem dL_law_420 : decode cL_law 420 = .ok (.invokevirtual 202, 3) := fd_get adL_law_8 (k := 9) rfl
theorem dL_law_423 : decode cL_law 423 = .ok (.istore 6, 2) := fd_get adL_law_8 (k := 10) rfl
theorem dL_law_425 : decode cL_law 425 = .ok (.goto 2159, 3) := fd_get adL_law_8 (k := 11) rfl
theorem dL_law_428 : decode cL_law 428 = .ok (.aload_n 1, 1) := fd_get adL_law_8 (k := 12) rfl
theorem dL_law_429 : decode cL_law 429 = .ok (.aload_n 0, 1) := fd_get adL_law_8 (k := 13) rfl
theorem dL_law_430 : decode cL_law 430 = .ok (.iload 4, 2) := fd_get adL_law_8 (k := 14) rfl
theorem dL_law_432 : decode cL_law 432 = .ok (.iconst 1, 1) := fd_get adL_law_8 (k := 15) rfl
theorem dL_law_433 : decode cL_law 433 = .ok (.iadd, 1) := fd_get adL_law_9 (k := 0) rfl
theorem dL_law_434 : decode cL_law 434 = .ok (.iaload, 1) := fd_get adL_law_9 (k := 1) rfl
theorem dL_law_435 : decode cL_law 435 = .ok (.aload_n 0, 1) := fd_get adL_law_9 (k := 2) rfl
theorem dL_law_436 : decode cL_law 436 = .ok (.iload 4, 2) := fd_get adL_law_9 (k := 3) rfl
theorem dL_law_438 : decode cL_law 438 = .ok (.iconst 2, 1) := fd_get adL_law_9 (k := 4) rfl
theorem dL_law_439 : decode cL_law 439 = .ok (.iadd, 1) := fd_get adL_law_9 (k := 5) rfl
theorem dL_law_440 : decode cL_law 440 = .ok (.iaload, 1) := fd_get adL_law_9 (k := 6) rfl
theorem dL_law_441 : decode cL_law 441 = .ok (.aload_n 0, 1) := fd_get adL_law_9 (k := 7) rfl
theorem dL_law_442 : decode cL_law 442 = .ok (.iload 4, 2) := fd_get adL_law_9 (k := 8) rfl
theorem dL_law_444 : decode cL_law 444 = .ok (.iconst 3, 1) := fd_get adL_law_9 (k := 9) rfl
theorem dL_law_445 : decode cL_law 445 = .ok (.iadd, 1) := fd_get adL_law_9 (k := 10) rfl
theorem dL_law_446 : decode cL_law 446 = .ok (.iaload, 1) := fd_get adL_law_9 (k := 11) rfl
theorem dL_law_447 : decode cL_law 447 = .ok (.aload_n 0, 1) := fd_get adL_law_9 (k := 12) rfl
theorem dL_law_448 : decode cL_law 448 = .ok (.iload 4, 2) := fd_get adL_law_9 (k := 13) rfl
theorem dL_law_450 : decode cL_law 450 = .ok (.iconst 4, 1) := fd_get adL_law_9 (k := 14) rfl
theorem dL_law_451 : decode cL_law 451 = .ok (.iadd, 1) := fd_get adL_law_9 (k := 15) rfl
theorem dL_law_452 : decode cL_law 452 = .ok (.iaload, 1) := fd_get adL_law_10 (k := 0) rfl
theorem dL_law_453 : decode cL_law 453 = .ok (.aload_n 3, 1) := fd_get adL_law_10 (k := 1) rfl
theorem dL_law_454 : decode cL_law 454 = .ok (.invokestatic 203, 3) := fd_get adL_law_10 (k := 2) rfl
theorem dL_law_457 : decode cL_law 457 = .ok (.istore 5, 2) := fd_get adL_law_10 (k := 3) rfl
theorem dL_law_459 : decode cL_law 459 = .ok (.aload_n 2, 1) := fd_get adL_law_10 (k := 4) rfl
theorem dL_law_460 : decode cL_law 460 = .ok (.aload_n 0, 1) := fd_get adL_law_10 (k := 5) rfl
theorem dL_law_461 : decode cL_law 461 = .ok (.iload 4, 2) := fd_get adL_law_10 (k := 6) rfl
theorem dL_law_463 : decode cL_law 463 = .ok (.iconst 1, 1) := fd_get adL_law_10 (k := 7) rfl
theorem dL_law_464 : decode cL_law 464 = .ok (.iadd, 1) := fd_get adL_law_10 (k := 8) rfl
theorem dL_law_465 : decode cL_law 465 = .ok (.iaload, 1) := fd_get adL_law_10 (k := 9) rfl
theorem dL_law_466 : decode cL_law 466 = .ok (.aload_n 0, 1) := fd_get adL_law_10 (k := 10) rfl
theorem dL_law_467 : decode cL_law 467 = .ok (.iload 4, 2) := fd_get adL_law_10 (k := 11) rfl
theorem dL_law_469 : decode cL_law 469 = .ok (.iconst 2, 1) := fd_get adL_law_10 (k := 12) rfl
theorem dL_law_470 : decode cL_law 470 = .ok (.iadd, 1) := fd_get adL_law_10 (k := 13) rfl
theorem dL_law_471 : decode cL_law 471 = .ok (.iaload, 1) := fd_get adL_law_10 (k := 14) rfl
theorem dL_law_472 : decode cL_law 472 = .ok (.aload_n 0, 1) := fd_get adL_law_10 (k := 15) rfl
theorem dL_law_473 : decode cL_law 473 = .ok (.iload 4, 2) := fd_get adL_law_11 (k := 0) rfl
theorem dL_law_475 : decode cL_law 475 = .ok (.iconst 3, 1) := fd_get adL_law_11 (k := 1) rfl
theorem dL_law_476 : decode cL_law 476 = .ok (.iadd, 1) := fd_get adL_law_11 (k := 2) rfl
theorem dL_law_477 : decode cL_law 477 = .ok (.iaload, 1) := fd_get adL_law_11 (k := 3) rfl
theorem dL_law_478 : decode cL_law 478 = .ok (.aload_n 0, 1) := fd_get adL_law_11 (k := 4) rfl
theorem dL_law_479 : decode cL_law 479 = .ok (.iload 4, 2) := fd_get adL_law_11 (k := 5) rfl
theorem dL_law_481 : decode cL_law 481 = .ok (.iconst 4, 1) := fd_get adL_law_11 (k := 6) rfl
theorem dL_law_482 : decode cL_law 482 = .ok (.iadd, 1) := fd_get adL_law_11 (k := 7) rfl
theorem dL_law_483 : decode cL_law 483 = .ok (.iaload, 1) := fd_get adL_law_11 (k := 8) rfl
theorem dL_law_484 : decode cL_law 484 = .ok (.invokevirtual 206, 3) := fd_get adL_law_11 (k := 9) rfl
theorem dL_law_487 : decode cL_law 487 = .ok (.istore 6, 2) := fd_get adL_law_11 (k := 10) rfl
theorem dL_law_489 : decode cL_law 489 = .ok (.goto 2095, 3) := fd_get adL_law_11 (k := 11) rfl
theorem dL_law_492 : decode cL_law 492 = .ok (.aload_n 1, 1) := fd_get adL_law_11 (k := 12) rfl
theorem dL_law_493 : decode cL_law 493 = .ok (.aload_n 0, 1) := fd_get adL_law_11 (k := 13) rfl
theorem dL_law_494 : decode cL_law 494 = .ok (.iload 4, 2) := fd_get adL_law_11 (k := 14) rfl
theorem dL_law_496 : decode cL_law 496 = .ok (.iconst 1, 1) := fd_get adL_law_11 (k := 15) rfl
theorem dL_law_497 : decode cL_law 497 = .ok (.iadd, 1) := fd_get adL_law_12 (k := 0) rfl
theorem dL_law_498 : decode cL_law 498 = .ok (.iaload, 1) := fd_get adL_law_12 (k := 1) rfl
theorem dL_law_499 : decode cL_law 499 = .ok (.aload_n 0, 1) := fd_get adL_law_12 (k := 2) rfl
theorem dL_law_500 : decode cL_law 500 = .ok (.iload 4, 2) := fd_get adL_law_12 (k := 3) rfl
theorem dL_law_502 : decode cL_law 502 = .ok (.iconst 2, 1) := fd_get adL_law_12 (k := 4) rfl
theorem dL_law_503 : decode cL_law 503 = .ok (.iadd, 1) := fd_get adL_law_12 (k := 5) rfl
theorem dL_law_504 : decode cL_law 504 = .ok (.iaload, 1) := fd_get adL_law_12 (k := 6) rfl
theorem dL_law_505 : decode cL_law 505 = .ok (.aload_n 3, 1) := fd_get adL_law_12 (k := 7) rfl
theorem dL_law_506 : decode cL_law 506 = .ok (.invokestatic 207, 3) := fd_get adL_law_12 (k := 8) rfl
theorem dL_law_509 : decode cL_law 509 = .ok (.istore 5, 2) := fd_get adL_law_12 (k := 9) rfl
theorem dL_law_511 : decode cL_law 511 = .ok (.aload_n 2, 1) := fd_get adL_law_12 (k := 10) rfl
theorem dL_law_512 : decode cL_law 512 = .ok (.aload_n 0, 1) := fd_get adL_law_12 (k := 11) rfl
theorem dL_law_513 : decode cL_law 513 = .ok (.iload 4, 2) := fd_get adL_law_12 (k := 12) rfl
theorem dL_law_515 : decode cL_law 515 = .ok (.iconst 1, 1) := fd_get adL_law_12 (k := 13) rfl
theorem dL_law_516 : decode cL_law 516 = .ok (.iadd, 1) := fd_get adL_law_12 (k := 14) rfl
theorem dL_law_517 : decode cL_law 517 = .ok (.iaload, 1) := fd_get adL_law_12 (k := 15) rfl
theorem dL_law_518 : decode cL_law 518 = .ok (.aload_n 0, 1) := fd_get adL_law_13 (k := 0) rfl
theorem dL_law_519 : decode cL_law 519 = .ok (.iload 4, 2) := fd_get adL_law_13 (k := 1) rfl
theorem dL_law_521 : decode cL_law 521 = .ok (.iconst 2, 1) := fd_get adL_law_13 (k := 2) rfl
theorem dL_law_522 : decode cL_law 522 = .ok (.iadd, 1) := fd_get adL_law_13 (k := 3) rfl
theorem dL_law_523 : decode cL_law 523 = .ok (.iaload, 1) := fd_get adL_law_13 (k := 4) rfl
theorem dL_law_524 : decode cL_law 524 = .ok (.invokevirtual 210, 3) := fd_get adL_law_13 (k := 5) rfl
theorem dL_law_527 : decode cL_law 527 = .ok (.istore 6, 2) := fd_get adL_law_13 (k := 6) rfl
theorem dL_law_529 : decode cL_law 529 = .ok (.goto 2055, 3) := fd_get adL_law_13 (k := 7) rfl
theorem dL_law_532 : decode cL_law 532 = .ok (.aload_n 1, 1) := fd_get adL_law_13 (k := 8) rfl
theorem dL_law_533 : decode cL_law 533 = .ok (.aload_n 0, 1) := fd_get adL_law_13 (k := 9) rfl
theorem dL_law_534 : decode cL_law 534 = .ok (.iload 4, 2) := fd_get adL_law_13 (k := 10) rfl
theorem dL_law_536 : decode cL_law 536 = .ok (.iconst 1, 1) := fd_get adL_law_13 (k := 11) rfl
theorem dL_law_537 : decode cL_law 537 = .ok (.iadd, 1) := fd_get adL_law_13 (k := 12) rfl
theorem dL_law_538 : decode cL_law 538 = .ok (.iaload, 1) := fd_get adL_law_13 (k := 13) rfl
theorem dL_law_539 : decode cL_law 539 = .ok (.aload_n 0, 1) := fd_get adL_law_13 (k := 14) rfl
theorem dL_law_540 : decode cL_law 540 = .ok (.iload 4, 2) := fd_get adL_law_13 (k := 15) rfl
theorem dL_law_542 : decode cL_law 542 = .ok (.iconst 2, 1) := fd_get adL_law_14 (k := 0) rfl
theorem dL_law_543 : decode cL_law 543 = .ok (.iadd, 1) := fd_get adL_law_14 (k := 1) rfl
theorem dL_law_544 : decode cL_law 544 = .ok (.iaload, 1) := fd_get adL_law_14 (k := 2) rfl
theorem dL_law_545 : decode cL_law 545 = .ok (.aload_n 0, 1) := fd_get adL_law_14 (k := 3) rfl
theorem dL_law_546 : decode cL_law 546 = .ok (.iload 4, 2) := fd_get adL_law_14 (k := 4) rfl
theorem dL_law_548 : decode cL_law 548 = .ok (.iconst 3, 1) := fd_get adL_law_14 (k := 5) rfl
theorem dL_law_549 : decode cL_law 549 = .ok (.iadd, 1) := fd_get adL_law_14 (k := 6) rfl
theorem dL_law_550 : decode cL_law 550 = .ok (.iaload, 1) := fd_get adL_law_14 (k := 7) rfl
theorem dL_law_551 : decode cL_law 551 = .ok (.aload_n 3, 1) := fd_get adL_law_14 (k := 8) rfl
theorem dL_law_552 : decode cL_law 552 = .ok (.invokestatic 211, 3) := fd_get adL_law_14 (k := 9) rfl
theorem dL_law_555 : decode cL_law 555 = .ok (.istore 5, 2) := fd_get adL_law_14 (k := 10) rfl
theorem dL_law_557 : decode cL_law 557 = .ok (.aload_n 2, 1) := fd_get adL_law_14 (k := 11) rfl
theorem dL_law_558 : decode cL_law 558 = .ok (.aload_n 0, 1) := fd_get adL_law_14 (k := 12) rfl
theorem dL_law_559 : decode cL_law 559 = .ok (.iload 4, 2) := fd_get adL_law_14 (k := 13) rfl
theorem dL_law_561 : decode cL_law 561 = .ok (.iconst 1, 1) := fd_get adL_law_14 (k := 14) rfl
theorem dL_law_562 : decode cL_law 562 = .ok (.iadd, 1) := fd_get adL_law_14 (k := 15) rfl
theorem dL_law_563 : decode cL_law 563 = .ok (.iaload, 1) := fd_get adL_law_15 (k := 0) rfl
theorem dL_law_564 : decode cL_law 564 = .ok (.aload_n 0, 1) := fd_get adL_law_15 (k := 1) rfl
theorem dL_law_565 : decode cL_law 565 = .ok (.iload 4, 2) := fd_get adL_law_15 (k := 2) rfl
theorem dL_law_567 : decode cL_law 567 = .ok (.iconst 2, 1) := fd_get adL_law_15 (k := 3) rfl
theorem dL_law_568 : decode cL_law 568 = .ok (.iadd, 1) := fd_get adL_law_15 (k := 4) rfl
theorem dL_law_569 : decode cL_law 569 = .ok (.iaload, 1) := fd_get adL_law_15 (k := 5) rfl
theorem dL_law_570 : decode cL_law 570 = .ok (.aload_n 0, 1) := fd_get adL_law_15 (k := 6) rfl
theorem dL_law_571 : decode cL_law 571 = .ok (.iload 4, 2) := fd_get adL_law_15 (k := 7) rfl
theorem dL_law_573 : decode cL_law 573 = .ok (.iconst 3, 1) := fd_get adL_law_15 (k := 8) rfl
theorem dL_law_574 : decode cL_law 574 = .ok (.iadd, 1) := fd_get adL_law_15 (k := 9) rfl
theorem dL_law_575 : decode cL_law 575 = .ok (.iaload, 1) := fd_get adL_law_15 (k := 10) rfl
theorem dL_law_576 : decode cL_law 576 = .ok (.invokevirtual 213, 3) := fd_get adL_law_15 (k := 11) rfl
theorem dL_law_579 : decode cL_law 579 = .ok (.istore 6, 2) := fd_get adL_law_15 (k := 12) rfl
theorem dL_law_581 : decode cL_law 581 = .ok (.goto 2003, 3) := fd_get adL_law_15 (k := 13) rfl
theorem dL_law_584 : decode cL_law 584 = .ok (.aload_n 1, 1) := fd_get adL_law_15 (k := 14) rfl
theorem dL_law_585 : decode cL_law 585 = .ok (.aload_n 0, 1) := fd_get adL_law_15 (k := 15) rfl
theorem dL_law_586 : decode cL_law 586 = .ok (.iload 4, 2) := fd_get adL_law_16 (k := 0) rfl
theorem dL_law_588 : decode cL_law 588 = .ok (.iconst 1, 1) := fd_get adL_law_16 (k := 1) rfl
theorem dL_law_589 : decode cL_law 589 = .ok (.iadd, 1) := fd_get adL_law_16 (k := 2) rfl
theorem dL_law_590 : decode cL_law 590 = .ok (.iaload, 1) := fd_get adL_law_16 (k := 3) rfl
theorem dL_law_591 : decode cL_law 591 = .ok (.aload_n 0, 1) := fd_get adL_law_16 (k := 4) rfl
theorem dL_law_592 : decode cL_law 592 = .ok (.iload 4, 2) := fd_get adL_law_16 (k := 5) rfl
theorem dL_law_594 : decode cL_law 594 = .ok (.iconst 2, 1) := fd_get adL_law_16 (k := 6) rfl
theorem dL_law_595 : decode cL_law 595 = .ok (.iadd, 1) := fd_get adL_law_16 (k := 7) rfl
theorem dL_law_596 : decode cL_law 596 = .ok (.iaload, 1) := fd_get adL_law_16 (k := 8) rfl
theorem dL_law_597 : decode cL_law 597 = .ok (.aload_n 0, 1) := fd_get adL_law_16 (k := 9) rfl
theorem dL_law_598 : decode cL_law 598 = .ok (.iload 4, 2) := fd_get adL_law_16 (k := 10) rfl
theorem dL_law_600 : decode cL_law 600 = .ok (.iconst 3, 1) := fd_get adL_law_16 (k := 11) rfl
theorem dL_law_601 : decode cL_law 601 = .ok (.iadd, 1) := fd_get adL_law_16 (k := 12) rfl
theorem dL_law_602 : decode cL_law 602 = .ok (.iaload, 1) := fd_get adL_law_16 (k := 13) rfl
theorem dL_law_603 : decode cL_law 603 = .ok (.aload_n 3, 1) := fd_get adL_law_16 (k := 14) rfl
theorem dL_law_604 : decode cL_law 604 = .ok (.invokestatic 214, 3) := fd_get adL_law_16 (k := 15) rfl
theorem dL_law_607 : decode cL_law 607 = .ok (.istore 5, 2) := fd_get adL_law_17 (k := 0) rfl
theorem dL_law_609 : decode cL_law 609 = .ok (.aload_n 2, 1) := fd_get adL_law_17 (k := 1) rfl
theorem dL_law_610 : decode cL_law 610 = .ok (.aload_n 0, 1) := fd_get adL_law_17 (k := 2) rfl
theorem dL_law_611 : decode cL_law 611 = .ok (.iload 4, 2) := fd_get adL_law_17 (k := 3) rfl
theorem dL_law_613 : decode cL_law 613 = .ok (.iconst 1, 1) := fd_get adL_law_17 (k := 4) rfl
theorem dL_law_614 : decode cL_law 614 = .ok (.iadd, 1) := fd_get adL_law_17 (k := 5) rfl
theorem dL_law_615 : decode cL_law 615 = .ok (.iaload, 1) := fd_get adL_law_17 (k := 6) rfl
theorem dL_law_616 : decode cL_law 616 = .ok (.aload_n 0, 1) := fd_get adL_law_17 (k := 7) rfl
theorem dL_law_617 : decode cL_law 617 = .ok (.iload 4, 2) := fd_get adL_law_17 (k := 8) rfl
theorem dL_law_619 : decode cL_law 619 = .ok (.iconst 2, 1) := fd_get adL_law_17 (k := 9) rfl
theorem dL_law_620 : decode cL_law 620 = .ok (.iadd, 1) := fd_get adL_law_17 (k := 10) rfl
theorem dL_law_621 : decode cL_law 621 = .ok (.iaload, 1) := fd_get adL_law_17 (k := 11) rfl
theorem dL_law_622 : decode cL_law 622 = .ok (.aload_n 0, 1) := fd_get adL_law_17 (k := 12) rfl
theorem dL_law_623 : decode cL_law 623 = .ok (.iload 4, 2) := fd_get adL_law_17 (k := 13) rfl
theorem dL_law_625 : decode cL_law 625 = .ok (.iconst 3, 1) := fd_get adL_law_17 (k := 14) rfl
theorem dL_law_626 : decode cL_law 626 = .ok (.iadd, 1) := fd_get adL_law_17 (k := 15) rfl
theorem dL_law_627 : decode cL_law 627 = .ok (.iaload, 1) := fd_get adL_law_18 (k := 0) rfl
theorem dL_law_628 : decode cL_law 628 = .ok (.invokevirtual 216, 3) := fd_get adL_law_18 (k := 1) rfl
theorem dL_law_631 : decode cL_law 631 = .ok (.istore 6, 2) := fd_get adL_law_18 (k := 2) rfl
theorem dL_law_633 : decode cL_law 633 = .ok (.goto 1951, 3) := fd_get adL_law_18 (k := 3) rfl
theorem dL_law_636 : decode cL_law 636 = .ok (.aload_n 1, 1) := fd_get adL_law_18 (k := 4) rfl
theorem dL_law_637 : decode cL_law 637 = .ok (.aload_n 0, 1) := fd_get adL_law_18 (k := 5) rfl
theorem dL_law_638 : decode cL_law 638 = .ok (.iload 4, 2) := fd_get adL_law_18 (k := 6) rfl
theorem dL_law_640 : decode cL_law 640 = .ok (.iconst 1, 1) := fd_get adL_law_18 (k := 7) rfl
theorem dL_law_641 : decode cL_law 641 = .ok (.iadd, 1) := fd_get adL_law_18 (k := 8) rfl
theorem dL_law_642 : decode cL_law 642 = .ok (.iaload, 1) := fd_get adL_law_18 (k := 9) rfl
theorem dL_law_643 : decode cL_law 643 = .ok (.aload_n 0, 1) := fd_get adL_law_18 (k := 10) rfl
theorem dL_law_644 : decode cL_law 644 = .ok (.iload 4, 2) := fd_get adL_law_18 (k := 11) rfl
theorem dL_law_646 : decode cL_law 646 = .ok (.iconst 2, 1) := fd_get adL_law_18 (k := 12) rfl
theorem dL_law_647 : decode cL_law 647 = .ok (.iadd, 1) := fd_get adL_law_18 (k := 13) rfl
theorem dL_law_648 : decode cL_law 648 = .ok (.iaload, 1) := fd_get adL_law_18 (k := 14) rfl
theorem dL_law_649 : decode cL_law 649 = .ok (.aload_n 3, 1) := fd_get adL_law_18 (k := 15) rfl
theorem dL_law_650 : decode cL_law 650 = .ok (.invokestatic 217, 3) := fd_get adL_law_19 (k := 0) rfl
theorem dL_law_653 : decode cL_law 653 = .ok (.istore 5, 2) := fd_get adL_law_19 (k := 1) rfl
theorem dL_law_655 : decode cL_law 655 = .ok (.aload_n 2, 1) := fd_get adL_law_19 (k := 2) rfl
theorem dL_law_656 : decode cL_law 656 = .ok (.aload_n 0, 1) := fd_get adL_law_19 (k := 3) rfl
theorem dL_law_657 : decode cL_law 657 = .ok (.iload 4, 2) := fd_get adL_law_19 (k := 4) rfl
theorem dL_law_659 : decode cL_law 659 = .ok (.iconst 1, 1) := fd_get adL_law_19 (k := 5) rfl
theorem dL_law_660 : decode cL_law 660 = .ok (.iadd, 1) := fd_get adL_law_19 (k := 6) rfl
theorem dL_law_661 : decode cL_law 661 = .ok (.iaload, 1) := fd_get adL_law_19 (k := 7) rfl
theorem dL_law_662 : decode cL_law 662 = .ok (.aload_n 0, 1) := fd_get adL_law_19 (k := 8) rfl
theorem dL_law_663 : decode cL_law 663 = .ok (.iload 4, 2) := fd_get adL_law_19 (k := 9) rfl
theorem dL_law_665 : decode cL_law 665 = .ok (.iconst 2, 1) := fd_get adL_law_19 (k := 10) rfl
theorem dL_law_666 : decode cL_law 666 = .ok (.iadd, 1) := fd_get adL_law_19 (k := 11) rfl
theorem dL_law_667 : decode cL_law 667 = .ok (.iaload, 1) := fd_get adL_law_19 (k := 12) rfl
theorem dL_law_668 : decode cL_law 668 = .ok (.invokevirtual 219, 3) := fd_get adL_law_19 (k := 13) rfl
theorem dL_law_671 : decode cL_law 671 = .ok (.istore 6, 2) := fd_get adL_law_19 (k := 14) rfl
theorem dL_law_673 : decode cL_law 673 = .ok (.goto 1911, 3) := fd_get adL_law_19 (k := 15) rfl
theorem dL_law_676 : decode cL_law 676 = .ok (.aload_n 1, 1) := fd_get adL_law_20 (k := 0) rfl
theorem dL_law_677 : decode cL_law 677 = .ok (.aload_n 0, 1) := fd_get adL_law_20 (k := 1) rfl
theorem dL_law_678 : decode cL_law 678 = .ok (.iload 4, 2) := fd_get adL_law_20 (k := 2) rfl
theorem dL_law_680 : decode cL_law 680 = .ok (.iconst 1, 1) := fd_get adL_law_20 (k := 3) rfl
theorem dL_law_681 : decode cL_law 681 = .ok (.iadd, 1) := fd_get adL_law_20 (k := 4) rfl
theorem dL_law_682 : decode cL_law 682 = .ok (.iaload, 1) := fd_get adL_law_20 (k := 5) rfl
theorem dL_law_683 : decode cL_law 683 = .ok (.aload_n 0, 1) := fd_get adL_law_20 (k := 6) rfl
theorem dL_law_684 : decode cL_law 684 = .ok (.iload 4, 2) := fd_get adL_law_20 (k := 7) rfl
theorem dL_law_686 : decode cL_law 686 = .ok (.iconst 2, 1) := fd_get adL_law_20 (k := 8) rfl
theorem dL_law_687 : decode cL_law 687 = .ok (.iadd, 1) := fd_get adL_law_20 (k := 9) rfl
theorem dL_law_688 : decode cL_law 688 = .ok (.iaload, 1) := fd_get adL_law_20 (k := 10) rfl
theorem dL_law_689 : decode cL_law 689 = .ok (.aload_n 3, 1) := fd_get adL_law_20 (k := 11) rfl
theorem dL_law_690 : decode cL_law 690 = .ok (.invokestatic 220, 3) := fd_get adL_law_20 (k := 12) rfl
theorem dL_law_693 : decode cL_law 693 = .ok (.istore 5, 2) := fd_get adL_law_20 (k := 13) rfl
theorem dL_law_695 : decode cL_law 695 = .ok (.aload_n 2, 1) := fd_get adL_law_20 (k := 14) rfl
theorem dL_law_696 : decode cL_law 696 = .ok (.aload_n 0, 1) := fd_get adL_law_20 (k := 15) rfl
theorem dL_law_697 : decode cL_law 697 = .ok (.iload 4, 2) := fd_get adL_law_21 (k := 0) rfl
theorem dL_law_699 : decode cL_law 699 = .ok (.iconst 1, 1) := fd_get adL_law_21 (k := 1) rfl
theorem dL_law_700 : decode cL_law 700 = .ok (.iadd, 1) := fd_get adL_law_21 (k := 2) rfl
theorem dL_law_701 : decode cL_law 701 = .ok (.iaload, 1) := fd_get adL_law_21 (k := 3) rfl
theorem dL_law_702 : decode cL_law 702 = .ok (.aload_n 0, 1) := fd_get adL_law_21 (k := 4) rfl
theorem dL_law_703 : decode cL_law 703 = .ok (.iload 4, 2) := fd_get adL_law_21 (k := 5) rfl
theorem dL_law_705 : decode cL_law 705 = .ok (.iconst 2, 1) := fd_get adL_law_21 (k := 6) rfl
theorem dL_law_706 : decode cL_law 706 = .ok (.iadd, 1) := fd_get adL_law_21 (k := 7) rfl
theorem dL_law_707 : decode cL_law 707 = .ok (.iaload, 1) := fd_get adL_law_21 (k := 8) rfl
theorem dL_law_708 : decode cL_law 708 = .ok (.invokevirtual 222, 3) := fd_get adL_law_21 (k := 9) rfl
theorem dL_law_711 : decode cL_law 711 = .ok (.istore 6, 2) := fd_get adL_law_21 (k := 10) rfl
theorem dL_law_713 : decode cL_law 713 = .ok (.goto 1871, 3) := fd_get adL_law_21 (k := 11) rfl
theorem dL_law_716 : decode cL_law 716 = .ok (.aload_n 1, 1) := fd_get adL_law_21 (k := 12) rfl
theorem dL_law_717 : decode cL_law 717 = .ok (.aload_n 0, 1) := fd_get adL_law_21 (k := 13) rfl
theorem dL_law_718 : decode cL_law 718 = .ok (.iload 4, 2) := fd_get adL_law_21 (k := 14) rfl
theorem dL_law_720 : decode cL_law 720 = .ok (.iconst 1, 1) := fd_get adL_law_21 (k := 15) rfl
theorem dL_law_721 : decode cL_law 721 = .ok (.iadd, 1) := fd_get adL_law_22 (k := 0) rfl
theorem dL_law_722 : decode cL_law 722 = .ok (.iaload, 1) := fd_get adL_law_22 (k := 1) rfl
theorem dL_law_723 : decode cL_law 723 = .ok (.aload_n 0, 1) := fd_get adL_law_22 (k := 2) rfl
theorem dL_law_724 : decode cL_law 724 = .ok (.iload 4, 2) := fd_get adL_law_22 (k := 3) rfl
theorem dL_law_726 : decode cL_law 726 = .ok (.iconst 2, 1) := fd_get adL_law_22 (k := 4) rfl
theorem dL_law_727 : decode cL_law 727 = .ok (.iadd, 1) := fd_get adL_law_22 (k := 5) rfl
theorem dL_law_728 : decode cL_law 728 = .ok (.iaload, 1) := fd_get adL_law_22 (k := 6) rfl
theorem dL_law_729 : decode cL_law 729 = .ok (.aload_n 3, 1) := fd_get adL_law_22 (k := 7) rfl
theorem dL_law_730 : decode cL_law 730 = .ok (.invokestatic 223, 3) := fd_get adL_law_22 (k := 8) rfl
theorem dL_law_733 : decode cL_law 733 = .ok (.istore 5, 2) := fd_get adL_law_22 (k := 9) rfl
theorem dL_law_735 : decode cL_law 735 = .ok (.aload_n 2, 1) := fd_get adL_law_22 (k := 10) rfl
theorem dL_law_736 : decode cL_law 736 = .ok (.aload_n 0, 1) := fd_get adL_law_22 (k := 11) rfl
theorem dL_law_737 : decode cL_law 737 = .ok (.iload 4, 2) := fd_get adL_law_22 (k := 12) rfl
theorem dL_law_739 : decode cL_law 739 = .ok (.iconst 1, 1) := fd_get adL_law_22 (k := 13) rfl
theorem dL_law_740 : decode cL_law 740 = .ok (.iadd, 1) := fd_get adL_law_22 (k := 14) rfl
theorem dL_law_741 : decode cL_law 741 = .ok (.iaload, 1) := fd_get adL_law_22 (k := 15) rfl
theorem dL_law_742 : decode cL_law 742 = .ok (.aload_n 0, 1) := fd_get adL_law_23 (k := 0) rfl
theorem dL_law_743 : decode cL_law 743 = .ok (.iload 4, 2) := fd_get adL_law_23 (k := 1) rfl
theorem dL_law_745 : decode cL_law 745 = .ok (.iconst 2, 1) := fd_get adL_law_23 (k := 2) rfl
theorem dL_law_746 : decode cL_law 746 = .ok (.iadd, 1) := fd_get adL_law_23 (k := 3) rfl
theorem dL_law_747 : decode cL_law 747 = .ok (.iaload, 1) := fd_get adL_law_23 (k := 4) rfl
theorem dL_law_748 : decode cL_law 748 = .ok (.invokevirtual 225, 3) := fd_get adL_law_23 (k := 5) rfl
theorem dL_law_751 : decode cL_law 751 = .ok (.istore 6, 2) := fd_get adL_law_23 (k := 6) rfl
theorem dL_law_753 : decode cL_law 753 = .ok (.goto 1831, 3) := fd_get adL_law_23 (k := 7) rfl
theorem dL_law_756 : decode cL_law 756 = .ok (.aload_n 1, 1) := fd_get adL_law_23 (k := 8) rfl
theorem dL_law_757 : decode cL_law 757 = .ok (.aload_n 0, 1) := fd_get adL_law_23 (k := 9) rfl
theorem dL_law_758 : decode cL_law 758 = .ok (.iload 4, 2) := fd_get adL_law_23 (k := 10) rfl
theorem dL_law_760 : decode cL_law 760 = .ok (.iconst 1, 1) := fd_get adL_law_23 (k := 11) rfl
theorem dL_law_761 : decode cL_law 761 = .ok (.iadd, 1) := fd_get adL_law_23 (k := 12) rfl
theorem dL_law_762 : decode cL_law 762 = .ok (.iaload, 1) := fd_get adL_law_23 (k := 13) rfl
theorem dL_law_763 : decode cL_law 763 = .ok (.aload_n 0, 1) := fd_get adL_law_23 (k := 14) rfl
theorem dL_law_764 : decode cL_law 764 = .ok (.iload 4, 2) := fd_get adL_law_23 (k := 15) rfl
theorem dL_law_766 : decode cL_law 766 = .ok (.iconst 2, 1) := fd_get adL_law_24 (k := 0) rfl
theorem dL_law_767 : decode cL_law 767 = .ok (.iadd, 1) := fd_get adL_law_24 (k := 1) rfl
theorem dL_law_768 : decode cL_law 768 = .ok (.iaload, 1) := fd_get adL_law_24 (k := 2) rfl
theorem dL_law_769 : decode cL_law 769 = .ok (.ifCond .eq 7, 3) := fd_get adL_law_24 (k := 3) rfl
theorem dL_law_772 : decode cL_law 772 = .ok (.iconst 1, 1) := fd_get adL_law_24 (k := 4) rfl
theorem dL_law_773 : decode cL_law 773 = .ok (.goto 4, 3) := fd_get adL_law_24 (k := 5) rfl
theorem dL_law_776 : decode cL_law 776 = .ok (.iconst 0, 1) := fd_get adL_law_24 (k := 6) rfl
theorem dL_law_777 : decode cL_law 777 = .ok (.aload_n 3, 1) := fd_get adL_law_24 (k := 7) rfl
theorem dL_law_778 : decode cL_law 778 = .ok (.invokestatic 226, 3) := fd_get adL_law_24 (k := 8) rfl
theorem dL_law_781 : decode cL_law 781 = .ok (.istore 5, 2) := fd_get adL_law_24 (k := 9) rfl
theorem dL_law_783 : decode cL_law 783 = .ok (.aload_n 2, 1) := fd_get adL_law_24 (k := 10) rfl
theorem dL_law_784 : decode cL_law 784 = .ok (.aload_n 0, 1) := fd_get adL_law_24 (k := 11) rfl
theorem dL_law_785 : decode cL_law 785 = .ok (.iload 4, 2) := fd_get adL_law_24 (k := 12) rfl
theorem dL_law_787 : decode cL_law 787 = .ok (.iconst 1, 1) := fd_get adL_law_24 (k := 13) rfl
theorem dL_law_788 : decode cL_law 788 = .ok (.iadd, 1) := fd_get adL_law_24 (k := 14) rfl
theorem dL_law_789 : decode cL_law 789 = .ok (.iaload, 1) := fd_get adL_law_24 (k := 15) rfl
theorem dL_law_790 : decode cL_law 790 = .ok (.aload_n 0, 1) := fd_get adL_law_25 (k := 0) rfl
theorem dL_law_791 : decode cL_law 791 = .ok (.iload 4, 2) := fd_get adL_law_25 (k := 1) rfl
theorem dL_law_793 : decode cL_law 793 = .ok (.iconst 2, 1) := fd_get adL_law_25 (k := 2) rfl
theorem dL_law_794 : decode cL_law 794 = .ok (.iadd, 1) := fd_get adL_law_25 (k := 3) rfl
theorem dL_law_795 : decode cL_law 795 = .ok (.iaload, 1) := fd_get adL_law_25 (k := 4) rfl
theorem dL_law_796 : decode cL_law 796 = .ok (.ifCond .eq 7, 3) := fd_get adL_law_25 (k := 5) rfl
theorem dL_law_799 : decode cL_law 799 = .ok (.iconst 1, 1) := fd_get adL_law_25 (k := 6) rfl
theorem dL_law_800 : decode cL_law 800 = .ok (.goto 4, 3) := fd_get adL_law_25 (k := 7) rfl
theorem dL_law_803 : decode cL_law 803 = .ok (.iconst 0, 1) := fd_get adL_law_25 (k := 8) rfl
theorem dL_law_804 : decode cL_law 804 = .ok (.invokevirtual 229, 3) := fd_get adL_law_25 (k := 9) rfl
theorem dL_law_807 : decode cL_law 807 = .ok (.istore 6, 2) := fd_get adL_law_25 (k := 10) rfl
theorem dL_law_809 : decode cL_law 809 = .ok (.goto 1775, 3) := fd_get adL_law_25 (k := 11) rfl
theorem dL_law_812 : decode cL_law 812 = .ok (.aload_n 1, 1) := fd_get adL_law_25 (k := 12) rfl
theorem dL_law_813 : decode cL_law 813 = .ok (.aload_n 0, 1) := fd_get adL_law_25 (k := 13) rfl
theorem dL_law_814 : decode cL_law 814 = .ok (.iload 4, 2) := fd_get adL_law_25 (k := 14) rfl
theorem dL_law_816 : decode cL_law 816 = .ok (.iconst 1, 1) := fd_get adL_law_25 (k := 15) rfl
theorem dL_law_817 : decode cL_law 817 = .ok (.iadd, 1) := fd_get adL_law_26 (k := 0) rfl
theorem dL_law_818 : decode cL_law 818 = .ok (.iaload, 1) := fd_get adL_law_26 (k := 1) rfl
theorem dL_law_819 : decode cL_law 819 = .ok (.aload_n 0, 1) := fd_get adL_law_26 (k := 2) rfl
theorem dL_law_820 : decode cL_law 820 = .ok (.iload 4, 2) := fd_get adL_law_26 (k := 3) rfl
theorem dL_law_822 : decode cL_law 822 = .ok (.iconst 2, 1) := fd_get adL_law_26 (k := 4) rfl
theorem dL_law_823 : decode cL_law 823 = .ok (.iadd, 1) := fd_get adL_law_26 (k := 5) rfl
theorem dL_law_824 : decode cL_law 824 = .ok (.iaload, 1) := fd_get adL_law_26 (k := 6) rfl
theorem dL_law_825 : decode cL_law 825 = .ok (.aload_n 3, 1) := fd_get adL_law_26 (k := 7) rfl
theorem dL_law_826 : decode cL_law 826 = .ok (.invokestatic 230, 3) := fd_get adL_law_26 (k := 8) rfl
theorem dL_law_829 : decode cL_law 829 = .ok (.istore 5, 2) := fd_get adL_law_26 (k := 9) rfl
theorem dL_law_831 : decode cL_law 831 = .ok (.aload_n 2, 1) := fd_get adL_law_26 (k := 10) rfl
theorem dL_law_832 : decode cL_law 832 = .ok (.aload_n 0, 1) := fd_get adL_law_26 (k := 11) rfl
theorem dL_law_833 : decode cL_law 833 = .ok (.iload 4, 2) := fd_get adL_law_26 (k := 12) rfl
theorem dL_law_835 : decode cL_law 835 = .ok (.iconst 1, 1) := fd_get adL_law_26 (k := 13) rfl
theorem dL_law_836 : decode cL_law 836 = .ok (.iadd, 1) := fd_get adL_law_26 (k := 14) rfl
theorem dL_law_837 : decode cL_law 837 = .ok (.iaload, 1) := fd_get adL_law_26 (k := 15) rfl
theorem dL_law_838 : decode cL_law 838 = .ok (.aload_n 0, 1) := fd_get adL_law_27 (k := 0) rfl
theorem dL_law_839 : decode cL_law 839 = .ok (.iload 4, 2) := fd_get adL_law_27 (k := 1) rfl
theorem dL_law_841 : decode cL_law 841 = .ok (.iconst 2, 1) := fd_get adL_law_27 (k := 2) rfl
theorem dL_law_842 : decode cL_law 842 = .ok (.iadd, 1) := fd_get adL_law_27 (k := 3) rfl
theorem dL_law_843 : decode cL_law 843 = .ok (.iaload, 1) := fd_get adL_law_27 (k := 4) rfl
theorem dL_law_844 : decode cL_law 844 = .ok (.invokevirtual 232, 3) := fd_get adL_law_27 (k := 5) rfl
theorem dL_law_847 : decode cL_law 847 = .ok (.istore 6, 2) := fd_get adL_law_27 (k := 6) rfl
theorem dL_law_849 : decode cL_law 849 = .ok (.goto 1735, 3) := fd_get adL_law_27 (k := 7) rfl
theorem dL_law_852 : decode cL_law 852 = .ok (.aload_n 1, 1) := fd_get adL_law_27 (k := 8) rfl
theorem dL_law_853 : decode cL_law 853 = .ok (.aload_n 0, 1) := fd_get adL_law_27 (k := 9) rfl
theorem dL_law_854 : decode cL_law 854 = .ok (.iload 4, 2) := fd_get adL_law_27 (k := 10) rfl
theorem dL_law_856 : decode cL_law 856 = .ok (.iconst 1, 1) := fd_get adL_law_27 (k := 11) rfl
theorem dL_law_857 : decode cL_law 857 = .ok (.iadd, 1) := fd_get adL_law_27 (k := 12) rfl
theorem dL_law_858 : decode cL_law 858 = .ok (.iaload, 1) := fd_get adL_law_27 (k := 13) rfl
theorem dL_law_859 : decode cL_law 859 = .ok (.aload_n 0, 1) := fd_get adL_law_27 (k := 14) rfl
theorem dL_law_860 : decode cL_law 860 = .ok (.iload 4, 2) := fd_get adL_law_27 (k := 15) rfl
theorem dL_law_862 : decode cL_law 862 = .ok (.iconst 2, 1) := fd_get adL_law_28 (k := 0) rfl
theorem dL_law_863 : decode cL_law 863 = .ok (.iadd, 1) := fd_get adL_law_28 (k := 1) rfl
theorem dL_law_864 : decode cL_law 864 = .ok (.iaload, 1) := fd_get adL_law_28 (k := 2) rfl
theorem dL_law_865 : decode cL_law 865 = .ok (.aload_n 3, 1) := fd_get adL_law_28 (k := 3) rfl
theorem dL_law_866 : decode cL_law 866 = .ok (.invokestatic 233, 3) := fd_get adL_law_28 (k := 4) rfl
theorem dL_law_869 : decode cL_law 869 = .ok (.istore 5, 2) := fd_get adL_law_28 (k := 5) rfl
theorem dL_law_871 : decode cL_law 871 = .ok (.aload_n 2, 1) := fd_get adL_law_28 (k := 6) rfl
theorem dL_law_872 : decode cL_law 872 = .ok (.aload_n 0, 1) := fd_get adL_law_28 (k := 7) rfl
theorem dL_law_873 : decode cL_law 873 = .ok (.iload 4, 2) := fd_get adL_law_28 (k := 8) rfl
theorem dL_law_875 : decode cL_law 875 = .ok (.iconst 1, 1) := fd_get adL_law_28 (k := 9) rfl
theorem dL_law_876 : decode cL_law 876 = .ok (.iadd, 1) := fd_get adL_law_28 (k := 10) rfl
theorem dL_law_877 : decode cL_law 877 = .ok (.iaload, 1) := fd_get adL_law_28 (k := 11) rfl
theorem dL_law_878 : decode cL_law 878 = .ok (.aload_n 0, 1) := fd_get adL_law_28 (k := 12) rfl
theorem dL_law_879 : decode cL_law 879 = .ok (.iload 4, 2) := fd_get adL_law_28 (k := 13) rfl
theorem dL_law_881 : decode cL_law 881 = .ok (.iconst 2, 1) := fd_get adL_law_28 (k := 14) rfl
theorem dL_law_882 : decode cL_law 882 = .ok (.iadd, 1) := fd_get adL_law_28 (k := 15) rfl
theorem dL_law_883 : decode cL_law 883 = .ok (.iaload, 1) := fd_get adL_law_29 (k := 0) rfl
theorem dL_law_884 : decode cL_law 884 = .ok (.invokevirtual 235, 3) := fd_get adL_law_29 (k := 1) rfl
theorem dL_law_887 : decode cL_law 887 = .ok (.istore 6, 2) := fd_get adL_law_29 (k := 2) rfl
theorem dL_law_889 : decode cL_law 889 = .ok (.goto 1695, 3) := fd_get adL_law_29 (k := 3) rfl
theorem dL_law_892 : decode cL_law 892 = .ok (.aload_n 1, 1) := fd_get adL_law_29 (k := 4) rfl
theorem dL_law_893 : decode cL_law 893 = .ok (.aload_n 0, 1) := fd_get adL_law_29 (k := 5) rfl
theorem dL_law_894 : decode cL_law 894 = .ok (.iload 4, 2) := fd_get adL_law_29 (k := 6) rfl
theorem dL_law_896 : decode cL_law 896 = .ok (.iconst 1, 1) := fd_get adL_law_29 (k := 7) rfl
theorem dL_law_897 : decode cL_law 897 = .ok (.iadd, 1) := fd_get adL_law_29 (k := 8) rfl
theorem dL_law_898 : decode cL_law 898 = .ok (.iaload, 1) := fd_get adL_law_29 (k := 9) rfl
theorem dL_law_899 : decode cL_law 899 = .ok (.aload_n 0, 1) := fd_get adL_law_29 (k := 10) rfl
theorem dL_law_900 : decode cL_law 900 = .ok (.iload 4, 2) := fd_get adL_law_29 (k := 11) rfl
theorem dL_law_902 : decode cL_law 902 = .ok (.iconst 2, 1) := fd_get adL_law_29 (k := 12) rfl
theorem dL_law_903 : decode cL_law 903 = .ok (.iadd, 1) := fd_get adL_law_29 (k := 13) rfl
theorem dL_law_904 : decode cL_law 904 = .ok (.iaload, 1) := fd_get adL_law_29 (k := 14) rfl
theorem dL_law_905 : decode cL_law 905 = .ok (.aload_n 3, 1) := fd_get adL_law_29 (k := 15) rfl
theorem dL_law_906 : decode cL_law 906 = .ok (.invokestatic 236, 3) := fd_get adL_law_30 (k := 0) rfl
theorem dL_law_909 : decode cL_law 909 = .ok (.istore 5, 2) := fd_get adL_law_30 (k := 1) rfl
theorem dL_law_911 : decode cL_law 911 = .ok (.aload_n 2, 1) := fd_get adL_law_30 (k := 2) rfl
theorem dL_law_912 : decode cL_law 912 = .ok (.aload_n 0, 1) := fd_get adL_law_30 (k := 3) rfl
theorem dL_law_913 : decode cL_law 913 = .ok (.iload 4, 2) := fd_get adL_law_30 (k := 4) rfl
theorem dL_law_915 : decode cL_law 915 = .ok (.iconst 1, 1) := fd_get adL_law_30 (k := 5) rfl
theorem dL_law_916 : decode cL_law 916 = .ok (.iadd, 1) := fd_get adL_law_30 (k := 6) rfl
theorem dL_law_917 : decode cL_law 917 = .ok (.iaload, 1) := fd_get adL_law_30 (k := 7) rfl
theorem dL_law_918 : decode cL_law 918 = .ok (.aload_n 0, 1) := fd_get adL_law_30 (k := 8) rfl
theorem dL_law_919 : decode cL_law 919 = .ok (.iload 4, 2) := fd_get adL_law_30 (k := 9) rfl
theorem dL_law_921 : decode cL_law 921 = .ok (.iconst 2, 1) := fd_get adL_law_30 (k := 10) rfl
theorem dL_law_922 : decode cL_law 922 = .ok (.iadd, 1) := fd_get adL_law_30 (k := 11) rfl
theorem dL_law_923 : decode cL_law 923 = .ok (.iaload, 1) := fd_get adL_law_30 (k := 12) rfl
theorem dL_law_924 : decode cL_law 924 = .ok (.invokevirtual 238, 3) := fd_get adL_law_30 (k := 13) rfl
theorem dL_law_927 : decode cL_law 927 = .ok (.istore 6, 2) := fd_get adL_law_30 (k := 14) rfl
theorem dL_law_929 : decode cL_law 929 = .ok (.goto 1655, 3) := fd_get adL_law_30 (k := 15) rfl
theorem dL_law_932 : decode cL_law 932 = .ok (.aload_n 1, 1) := fd_get adL_law_31 (k := 0) rfl
theorem dL_law_933 : decode cL_law 933 = .ok (.aload_n 0, 1) := fd_get adL_law_31 (k := 1) rfl
theorem dL_law_934 : decode cL_law 934 = .ok (.iload 4, 2) := fd_get adL_law_31 (k := 2) rfl
theorem dL_law_936 : decode cL_law 936 = .ok (.iconst 1, 1) := fd_get adL_law_31 (k := 3) rfl
theorem dL_law_937 : decode cL_law 937 = .ok (.iadd, 1) := fd_get adL_law_31 (k := 4) rfl
theorem dL_law_938 : decode cL_law 938 = .ok (.iaload, 1) := fd_get adL_law_31 (k := 5) rfl
theorem dL_law_939 : decode cL_law 939 = .ok (.aload_n 3, 1) := fd_get adL_law_31 (k := 6) rfl
theorem dL_law_940 : decode cL_law 940 = .ok (.invokestatic 239, 3) := fd_get adL_law_31 (k := 7) rfl
theorem dL_law_943 : decode cL_law 943 = .ok (.istore 5, 2) := fd_get adL_law_31 (k := 8) rfl
theorem dL_law_945 : decode cL_law 945 = .ok (.aload_n 2, 1) := fd_get adL_law_31 (k := 9) rfl
theorem dL_law_946 : decode cL_law 946 = .ok (.aload_n 0, 1) := fd_get adL_law_31 (k := 10) rfl
theorem dL_law_947 : decode cL_law 947 = .ok (.iload 4, 2) := fd_get adL_law_31 (k := 11) rfl
theorem dL_law_949 : decode cL_law 949 = .ok (.iconst 1, 1) := fd_get adL_law_31 (k := 12) rfl
theorem dL_law_950 : decode cL_law 950 = .ok (.iadd, 1) := fd_get adL_law_31 (k := 13) rfl
theorem dL_law_951 : decode cL_law 951 = .ok (.iaload, 1) := fd_get adL_law_31 (k := 14) rfl
theorem dL_law_952 : decode cL_law 952 = .ok (.invokevirtual 242, 3) := fd_get adL_law_31 (k := 15) rfl
theorem dL_law_955 : decode cL_law 955 = .ok (.istore 6, 2) := fd_get adL_law_32 (k := 0) rfl
theorem dL_law_957 : decode cL_law 957 = .ok (.goto 1627, 3) := fd_get adL_law_32 (k := 1) rfl
theorem dL_law_960 : decode cL_law 960 = .ok (.aload_n 1, 1) := fd_get adL_law_32 (k := 2) rfl
theorem dL_law_961 : decode cL_law 961 = .ok (.aload_n 0, 1) := fd_get adL_law_32 (k := 3) rfl
theorem dL_law_962 : decode cL_law 962 = .ok (.iload 4, 2) := fd_get adL_law_32 (k := 4) rfl
theorem dL_law_964 : decode cL_law 964 = .ok (.iconst 1, 1) := fd_get adL_law_32 (k := 5) rfl
theorem dL_law_965 : decode cL_law 965 = .ok (.iadd, 1) := fd_get adL_law_32 (k := 6) rfl
theorem dL_law_966 : decode cL_law 966 = .ok (.iaload, 1) := fd_get adL_law_32 (k := 7) rfl
theorem dL_law_967 : decode cL_law 967 = .ok (.aload_n 0, 1) := fd_get adL_law_32 (k := 8) rfl
theorem dL_law_968 : decode cL_law 968 = .ok (.iload 4, 2) := fd_get adL_law_32 (k := 9) rfl
theorem dL_law_970 : decode cL_law 970 = .ok (.iconst 2, 1) := fd_get adL_law_32 (k := 10) rfl
theorem dL_law_971 : decode cL_law 971 = .ok (.iadd, 1) := fd_get adL_law_32 (k := 11) rfl
theorem dL_law_972 : decode cL_law 972 = .ok (.iaload, 1) := fd_get adL_law_32 (k := 12) rfl
theorem dL_law_973 : decode cL_law 973 = .ok (.aload_n 3, 1) := fd_get adL_law_32 (k := 13) rfl
theorem dL_law_974 : decode cL_law 974 = .ok (.invokestatic 243, 3) := fd_get adL_law_32 (k := 14) rfl
theorem dL_law_977 : decode cL_law 977 = .ok (.istore 5, 2) := fd_get adL_law_32 (k := 15) rfl
theorem dL_law_979 : decode cL_law 979 = .ok (.aload_n 2, 1) := fd_get adL_law_33 (k := 0) rfl
theorem dL_law_980 : decode cL_law 980 = .ok (.aload_n 0, 1) := fd_get adL_law_33 (k := 1) rfl
theorem dL_law_981 : decode cL_law 981 = .ok (.iload 4, 2) := fd_get adL_law_33 (k := 2) rfl
theorem dL_law_983 : decode cL_law 983 = .ok (.iconst 1, 1) := fd_get adL_law_33 (k := 3) rfl
theorem dL_law_984 : decode cL_law 984 = .ok (.iadd, 1) := fd_get adL_law_33 (k := 4) rfl
theorem dL_law_985 : decode cL_law 985 = .ok (.iaload, 1) := fd_get adL_law_33 (k := 5) rfl
theorem dL_law_986 : decode cL_law 986 = .ok (.aload_n 0, 1) := fd_get adL_law_33 (k := 6) rfl
theorem dL_law_987 : decode cL_law 987 = .ok (.iload 4, 2) := fd_get adL_law_33 (k := 7) rfl
theorem dL_law_989 : decode cL_law 989 = .ok (.iconst 2, 1) := fd_get adL_law_33 (k := 8) rfl
theorem dL_law_990 : decode cL_law 990 = .ok (.iadd, 1) := fd_get adL_law_33 (k := 9) rfl
theorem dL_law_991 : decode cL_law 991 = .ok (.iaload, 1) := fd_get adL_law_33 (k := 10) rfl
theorem dL_law_992 : decode cL_law 992 = .ok (.invokevirtual 245, 3) := fd_get adL_law_33 (k := 11) rfl
theorem dL_law_995 : decode cL_law 995 = .ok (.istore 6, 2) := fd_get adL_law_33 (k := 12) rfl
theorem dL_law_997 : decode cL_law 997 = .ok (.goto 1587, 3) := fd_get adL_law_33 (k := 13) rfl
theorem dL_law_1000 : decode cL_law 1000 = .ok (.aload_n 1, 1) := fd_get adL_law_33 (k := 14) rfl
theorem dL_law_1001 : decode cL_law 1001 = .ok (.aload_n 0, 1) := fd_get adL_law_33 (k := 15) rfl
theorem dL_law_1002 : decode cL_law 1002 = .ok (.iload 4, 2) := fd_get adL_law_34 (k := 0) rfl
theorem dL_law_1004 : decode cL_law 1004 = .ok (.iconst 1, 1) := fd_get adL_law_34 (k := 1) rfl
theorem dL_law_1005 : decode cL_law 1005 = .ok (.iadd, 1) := fd_get adL_law_34 (k := 2) rfl
theorem dL_law_1006 : decode cL_law 1006 = .ok (.iaload, 1) := fd_get adL_law_34 (k := 3) rfl
theorem dL_law_1007 : decode cL_law 1007 = .ok (.aload_n 0, 1) := fd_get adL_law_34 (k := 4) rfl
theorem dL_law_1008 : decode cL_law 1008 = .ok (.iload 4, 2) := fd_get adL_law_34 (k := 5) rfl
theorem dL_law_1010 : decode cL_law 1010 = .ok (.iconst 2, 1) := fd_get adL_law_34 (k := 6) rfl
theorem dL_law_1011 : decode cL_law 1011 = .ok (.iadd, 1) := fd_get adL_law_34 (k := 7) rfl
theorem dL_law_1012 : decode cL_law 1012 = .ok (.iaload, 1) := fd_get adL_law_34 (k := 8) rfl
theorem dL_law_1013 : decode cL_law 1013 = .ok (.aload_n 3, 1) := fd_get adL_law_34 (k := 9) rfl
theorem dL_law_1014 : decode cL_law 1014 = .ok (.invokestatic 246, 3) := fd_get adL_law_34 (k := 10) rfl
theorem dL_law_1017 : decode cL_law 1017 = .ok (.istore 5, 2) := fd_get adL_law_34 (k := 11) rfl
theorem dL_law_1019 : decode cL_law 1019 = .ok (.aload_n 2, 1) := fd_get adL_law_34 (k := 12) rfl
theorem dL_law_1020 : decode cL_law 1020 = .ok (.aload_n 0, 1) := fd_get adL_law_34 (k := 13) rfl
theorem dL_law_1021 : decode cL_law 1021 = .ok (.iload 4, 2) := fd_get adL_law_34 (k := 14) rfl
theorem dL_law_1023 : decode cL_law 1023 = .ok (.iconst 1, 1) := fd_get adL_law_34 (k := 15) rfl
theorem dL_law_1024 : decode cL_law 1024 = .ok (.iadd, 1) := fd_get adL_law_35 (k := 0) rfl
theorem dL_law_1025 : decode cL_law 1025 = .ok (.iaload, 1) := fd_get adL_law_35 (k := 1) rfl
theorem dL_law_1026 : decode cL_law 1026 = .ok (.aload_n 0, 1) := fd_get adL_law_35 (k := 2) rfl
theorem dL_law_1027 : decode cL_law 1027 = .ok (.iload 4, 2) := fd_get adL_law_35 (k := 3) rfl
theorem dL_law_1029 : decode cL_law 1029 = .ok (.iconst 2, 1) := fd_get adL_law_35 (k := 4) rfl
theorem dL_law_1030 : decode cL_law 1030 = .ok (.iadd, 1) := fd_get adL_law_35 (k := 5) rfl
theorem dL_law_1031 : decode cL_law 1031 = .ok (.iaload, 1) := fd_get adL_law_35 (k := 6) rfl
theorem dL_law_1032 : decode cL_law 1032 = .ok (.invokevirtual 248, 3) := fd_get adL_law_35 (k := 7) rfl
theorem dL_law_1035 : decode cL_law 1035 = .ok (.istore 6, 2) := fd_get adL_law_35 (k := 8) rfl
theorem dL_law_1037 : decode cL_law 1037 = .ok (.aload_n 2, 1) := fd_get adL_law_35 (k := 9) rfl
theorem dL_law_1038 : decode cL_law 1038 = .ok (.invokevirtual 249, 3) := fd_get adL_law_35 (k := 10) rfl
theorem dL_law_1041 : decode cL_law 1041 = .ok (.iload 5, 2) := fd_get adL_law_35 (k := 11) rfl
theorem dL_law_1043 : decode cL_law 1043 = .ok (.if_icmp .eq 5, 3) := fd_get adL_law_35 (k := 12) rfl
theorem dL_law_1046 : decode cL_law 1046 = .ok (.iconst 0, 1) := fd_get adL_law_35 (k := 13) rfl
theorem dL_law_1047 : decode cL_law 1047 = .ok (.ireturn, 1) := fd_get adL_law_35 (k := 14) rfl
theorem dL_law_1048 : decode cL_law 1048 = .ok (.iload 5, 2) := fd_get adL_law_35 (k := 15) rfl
theorem dL_law_1050 : decode cL_law 1050 = .ok (.ifCond .ne 16, 3) := fd_get adL_law_36 (k := 0) rfl
theorem dL_law_1053 : decode cL_law 1053 = .ok (.aload_n 3, 1) := fd_get adL_law_36 (k := 1) rfl
theorem dL_law_1054 : decode cL_law 1054 = .ok (.getfield 13, 3) := fd_get adL_law_36 (k := 2) rfl
theorem dL_law_1057 : decode cL_law 1057 = .ok (.iload 6, 2) := fd_get adL_law_36 (k := 3) rfl
theorem dL_law_1059 : decode cL_law 1059 = .ok (.i2l, 1) := fd_get adL_law_36 (k := 4) rfl
theorem dL_law_1060 : decode cL_law 1060 = .ok (.lcmp, 1) := fd_get adL_law_36 (k := 5) rfl
theorem dL_law_1061 : decode cL_law 1061 = .ok (.ifCond .eq 5, 3) := fd_get adL_law_36 (k := 6) rfl
theorem dL_law_1064 : decode cL_law 1064 = .ok (.iconst 0, 1) := fd_get adL_law_36 (k := 7) rfl
theorem dL_law_1065 : decode cL_law 1065 = .ok (.ireturn, 1) := fd_get adL_law_36 (k := 8) rfl
theorem dL_law_1066 : decode cL_law 1066 = .ok (.goto 1518, 3) := fd_get adL_law_36 (k := 9) rfl
theorem dL_law_1069 : decode cL_law 1069 = .ok (.aload_n 1, 1) := fd_get adL_law_36 (k := 10) rfl
theorem dL_law_1070 : decode cL_law 1070 = .ok (.aload_n 0, 1) := fd_get adL_law_36 (k := 11) rfl
theorem dL_law_1071 : decode cL_law 1071 = .ok (.iload 4, 2) := fd_get adL_law_36 (k := 12) rfl
theorem dL_law_1073 : decode cL_law 1073 = .ok (.iconst 1, 1) := fd_get adL_law_36 (k := 13) rfl
theorem dL_law_1074 : decode cL_law 1074 = .ok (.iadd, 1) := fd_get adL_law_36 (k := 14) rfl
theorem dL_law_1075 : decode cL_law 1075 = .ok (.iaload, 1) := fd_get adL_law_36 (k := 15) rfl
theorem dL_law_1076 : decode cL_law 1076 = .ok (.aload_n 0, 1) := fd_get adL_law_37 (k := 0) rfl
theorem dL_law_1077 : decode cL_law 1077 = .ok (.iload 4, 2) := fd_get adL_law_37 (k := 1) rfl
theorem dL_law_1079 : decode cL_law 1079 = .ok (.iconst 2, 1) := fd_get adL_law_37 (k := 2) rfl
theorem dL_law_1080 : decode cL_law 1080 = .ok (.iadd, 1) := fd_get adL_law_37 (k := 3) rfl
theorem dL_law_1081 : decode cL_law 1081 = .ok (.iaload, 1) := fd_get adL_law_37 (k := 4) rfl
theorem dL_law_1082 : decode cL_law 1082 = .ok (.aload_n 0, 1) := fd_get adL_law_37 (k := 5) rfl
theorem dL_law_1083 : decode cL_law 1083 = .ok (.iload 4, 2) := fd_get adL_law_37 (k := 6) rfl
theorem dL_law_1085 : decode cL_law 1085 = .ok (.iconst 3, 1) := fd_get adL_law_37 (k := 7) rfl
theorem dL_law_1086 : decode cL_law 1086 = .ok (.iadd, 1) := fd_get adL_law_37 (k := 8) rfl
theorem dL_law_1087 : decode cL_law 1087 = .ok (.iaload, 1) := fd_get adL_law_37 (k := 9) rfl
theorem dL_law_1088 : decode cL_law 1088 = .ok (.ifCond .eq 7, 3) := fd_get adL_law_37 (k := 10) rfl
theorem dL_law_1091 : decode cL_law 1091 = .ok (.iconst 1, 1) := fd_get adL_law_37 (k := 11) rfl
theorem dL_law_1092 : decode cL_law 1092 = .ok (.goto 4, 3) := fd_get adL_law_37 (k := 12) rfl
theorem dL_law_1095 : decode cL_law 1095 = .ok (.iconst 0, 1) := fd_get adL_law_37 (k := 13) rfl
theorem dL_law_1096 : decode cL_law 1096 = .ok (.aload_n 3, 1) := fd_get adL_law_37 (k := 14) rfl
theorem dL_law_1097 : decode cL_law 1097 = .ok (.invokestatic 252, 3) := fd_get adL_law_37 (k := 15) rfl
theorem dL_law_1100 : decode cL_law 1100 = .ok (.istore 5, 2) := fd_get adL_law_38 (k := 0) rfl
theorem dL_law_1102 : decode cL_law 1102 = .ok (.aload_n 2, 1) := fd_get adL_law_38 (k := 1) rfl
theorem dL_law_1103 : decode cL_law 1103 = .ok (.aload_n 0, 1) := fd_get adL_law_38 (k := 2) rfl
theorem dL_law_1104 : decode cL_law 1104 = .ok (.iload 4, 2) := fd_get adL_law_38 (k := 3) rfl
theorem dL_law_1106 : decode cL_law 1106 = .ok (.iconst 1, 1) := fd_get adL_law_38 (k := 4) rfl
theorem dL_law_1107 : decode cL_law 1107 = .ok (.iadd, 1) := fd_get adL_law_38 (k := 5) rfl
theorem dL_law_1108 : decode cL_law 1108 = .ok (.iaload, 1) := fd_get adL_law_38 (k := 6) rfl
theorem dL_law_1109 : decode cL_law 1109 = .ok (.aload_n 0, 1) := fd_get adL_law_38 (k := 7) rfl
theorem dL_law_1110 : decode cL_law 1110 = .ok (.iload 4, 2) := fd_get adL_law_38 (k := 8) rfl
theorem dL_law_1112 : decode cL_law 1112 = .ok (.iconst 2, 1) := fd_get adL_law_38 (k := 9) rfl
theorem dL_law_1113 : decode cL_law 1113 = .ok (.iadd, 1) := fd_get adL_law_38 (k := 10) rfl
theorem dL_law_1114 : decode cL_law 1114 = .ok (.iaload, 1) := fd_get adL_law_38 (k := 11) rfl
theorem dL_law_1115 : decode cL_law 1115 = .ok (.aload_n 0, 1) := fd_get adL_law_38 (k := 12) rfl
theorem dL_law_1116 : decode cL_law 1116 = .ok (.iload 4, 2) := fd_get adL_law_38 (k := 13) rfl
theorem dL_law_1118 : decode cL_law 1118 = .ok (.iconst 3, 1) := fd_get adL_law_38 (k := 14) rfl
theorem dL_law_1119 : decode cL_law 1119 = .ok (.iadd, 1) := fd_get adL_law_38 (k := 15) rfl
theorem dL_law_1120 : decode cL_law 1120 = .ok (.iaload, 1) := fd_get adL_law_39 (k := 0) rfl
theorem dL_law_1121 : decode cL_law 1121 = .ok (.ifCond .eq 7, 3) := fd_get adL_law_39 (k := 1) rfl
theorem dL_law_1124 : decode cL_law 1124 = .ok (.iconst 1, 1) := fd_get adL_law_39 (k := 2) rfl
theorem dL_law_1125 : decode cL_law 1125 = .ok (.goto 4, 3) := fd_get adL_law_39 (k := 3) rfl
theorem dL_law_1128 : decode cL_law 1128 = .ok (.iconst 0, 1) := fd_get adL_law_39 (k := 4) rfl
theorem dL_law_1129 : decode cL_law 1129 = .ok (.invokevirtual 255, 3) := fd_get adL_law_39 (k := 5) rfl
theorem dL_law_1132 : decode cL_law 1132 = .ok (.istore 6, 2) := fd_get adL_law_39 (k := 6) rfl
theorem dL_law_1134 : decode cL_law 1134 = .ok (.goto 1450, 3) := fd_get adL_law_39 (k := 7) rfl
theorem dL_law_1137 : decode cL_law 1137 = .ok (.aload_n 1, 1) := fd_get adL_law_39 (k := 8) rfl
theorem dL_law_1138 : decode cL_law 1138 = .ok (.aload_n 0, 1) := fd_get adL_law_39 (k := 9) rfl
theorem dL_law_1139 : decode cL_law 1139 = .ok (.iload 4, 2) := fd_get adL_law_39 (k := 10) rfl
theorem dL_law_1141 : decode cL_law 1141 = .ok (.iconst 1, 1) := fd_get adL_law_39 (k := 11) rfl
theorem dL_law_1142 : decode cL_law 1142 = .ok (.iadd, 1) := fd_get adL_law_39 (k := 12) rfl
theorem dL_law_1143 : decode cL_law 1143 = .ok (.iaload, 1) := fd_get adL_law_39 (k := 13) rfl
theorem dL_law_1144 : decode cL_law 1144 = .ok (.aload_n 0, 1) := fd_get adL_law_39 (k := 14) rfl
theorem dL_law_1145 : decode cL_law 1145 = .ok (.iload 4, 2) := fd_get adL_law_39 (k := 15) rfl
theorem dL_law_1147 : decode cL_law 1147 = .ok (.iconst 2, 1) := fd_get adL_law_40 (k := 0) rfl
theorem dL_law_1148 : decode cL_law 1148 = .ok (.iadd, 1) := fd_get adL_law_40 (k := 1) rfl
theorem dL_law_1149 : decode cL_law 1149 = .ok (.iaload, 1) := fd_get adL_law_40 (k := 2) rfl
theorem dL_law_1150 : decode cL_law 1150 = .ok (.aload_n 0, 1) := fd_get adL_law_40 (k := 3) rfl
theorem dL_law_1151 : decode cL_law 1151 = .ok (.iload 4, 2) := fd_get adL_law_40 (k := 4) rfl
theorem dL_law_1153 : decode cL_law 1153 = .ok (.iconst 3, 1) := fd_get adL_law_40 (k := 5) rfl
theorem dL_law_1154 : decode cL_law 1154 = .ok (.iadd, 1) := fd_get adL_law_40 (k := 6) rfl
theorem dL_law_1155 : decode cL_law 1155 = .ok (.iaload, 1) := fd_get adL_law_40 (k := 7) rfl
theorem dL_law_1156 : decode cL_law 1156 = .ok (.ifCond .eq 7, 3) := fd_get adL_law_40 (k := 8) rfl
theorem dL_law_1159 : decode cL_law 1159 = .ok (.iconst 1, 1) := fd_get adL_law_40 (k := 9) rfl
theorem dL_law_1160 : decode cL_law 1160 = .ok (.goto 4, 3) := fd_get adL_law_40 (k := 10) rfl
theorem dL_law_1163 : decode cL_law 1163 = .ok (.iconst 0, 1) := fd_get adL_law_40 (k := 11) rfl
theorem dL_law_1164 : decode cL_law 1164 = .ok (.aload_n 3, 1) := fd_get adL_law_40 (k := 12) rfl
theorem dL_law_1165 : decode cL_law 1165 = .ok (.invokestatic 256, 3) := fd_get adL_law_40 (k := 13) rfl
theorem dL_law_1168 : decode cL_law 1168 = .ok (.istore 5, 2) := fd_get adL_law_40 (k := 14) rfl
theorem dL_law_1170 : decode cL_law 1170 = .ok (.aload_n 2, 1) := fd_get adL_law_40 (k := 15) rfl
theorem dL_law_1171 : decode cL_law 1171 = .ok (.aload_n 0, 1) := fd_get adL_law_41 (k := 0) rfl
theorem dL_law_1172 : decode cL_law 1172 = .ok (.iload 4, 2) := fd_get adL_law_41 (k := 1) rfl
theorem dL_law_1174 : decode cL_law 1174 = .ok (.iconst 1, 1) := fd_get adL_law_41 (k := 2) rfl
theorem dL_law_1175 : decode cL_law 1175 = .ok (.iadd, 1) := fd_get adL_law_41 (k := 3) rfl
theorem dL_law_1176 : decode cL_law 1176 = .ok (.iaload, 1) := fd_get adL_law_41 (k := 4) rfl
theorem dL_law_1177 : decode cL_law 1177 = .ok (.aload_n 0, 1) := fd_get adL_law_41 (k := 5) rfl
theorem dL_law_1178 : decode cL_law 1178 = .ok (.iload 4, 2) := fd_get adL_law_41 (k := 6) rfl
theorem dL_law_1180 : decode cL_law 1180 = .ok (.iconst 2, 1) := fd_get adL_law_41 (k := 7) rfl
theorem dL_law_1181 : decode cL_law 1181 = .ok (.iadd, 1) := fd_get adL_law_41 (k := 8) rfl
theorem dL_law_1182 : decode cL_law 1182 = .ok (.iaload, 1) := fd_get adL_law_41 (k := 9) rfl
theorem dL_law_1183 : decode cL_law 1183 = .ok (.aload_n 0, 1) := fd_get adL_law_41 (k := 10) rfl
theorem dL_law_1184 : decode cL_law 1184 = .ok (.iload 4, 2) := fd_get adL_law_41 (k := 11) rfl
theorem dL_law_1186 : decode cL_law 1186 = .ok (.iconst 3, 1) := fd_get adL_law_41 (k := 12) rfl
theorem dL_law_1187 : decode cL_law 1187 = .ok (.iadd, 1) := fd_get adL_law_41 (k := 13) rfl
theorem dL_law_1188 : decode cL_law 1188 = .ok (.iaload, 1) := fd_get adL_law_41 (k := 14) rfl
theorem dL_law_1189 : decode cL_law 1189 = .ok (.ifCond .eq 7, 3) := fd_get adL_law_41 (k := 15) rfl
theorem dL_law_1192 : decode cL_law 1192 = .ok (.iconst 1, 1) := fd_get adL_law_42 (k := 0) rfl
theorem dL_law_1193 : decode cL_law 1193 = .ok (.goto 4, 3) := fd_get adL_law_42 (k := 1) rfl
theorem dL_law_1196 : decode cL_law 1196 = .ok (.iconst 0, 1) := fd_get adL_law_42 (k := 2) rfl
theorem dL_law_1197 : decode cL_law 1197 = .ok (.invokevirtual 258, 3) := fd_get adL_law_42 (k := 3) rfl
theorem dL_law_1200 : decode cL_law 1200 = .ok (.istore 6, 2) := fd_get adL_law_42 (k := 4) rfl
theorem dL_law_1202 : decode cL_law 1202 = .ok (.goto 1382, 3) := fd_get adL_law_42 (k := 5) rfl
theorem dL_law_1205 : decode cL_law 1205 = .ok (.aload_n 1, 1) := fd_get adL_law_42 (k := 6) rfl
theorem dL_law_1206 : decode cL_law 1206 = .ok (.aload_n 0, 1) := fd_get adL_law_42 (k := 7) rfl
theorem dL_law_1207 : decode cL_law 1207 = .ok (.iload 4, 2) := fd_get adL_law_42 (k := 8) rfl
theorem dL_law_1209 : decode cL_law 1209 = .ok (.iconst 1, 1) := fd_get adL_law_42 (k := 9) rfl
theorem dL_law_1210 : decode cL_law 1210 = .ok (.iadd, 1) := fd_get adL_law_42 (k := 10) rfl
theorem dL_law_1211 : decode cL_law 1211 = .ok (.iaload, 1) := fd_get adL_law_42 (k := 11) rfl
theorem dL_law_1212 : decode cL_law 1212 = .ok (.aload_n 0, 1) := fd_get adL_law_42 (k := 12) rfl
theorem dL_law_1213 : decode cL_law 1213 = .ok (.iload 4, 2) := fd_get adL_law_42 (k := 13) rfl
theorem dL_law_1215 : decode cL_law 1215 = .ok (.iconst 2, 1) := fd_get adL_law_42 (k := 14) rfl
theorem dL_law_1216 : decode cL_law 1216 = .ok (.iadd, 1) := fd_get adL_law_42 (k := 15) rfl
theorem dL_law_1217 : decode cL_law 1217 = .ok (.iaload, 1) := fd_get adL_law_43 (k := 0) rfl
theorem dL_law_1218 : decode cL_law 1218 = .ok (.aload_n 0, 1) := fd_get adL_law_43 (k := 1) rfl
theorem dL_law_1219 : decode cL_law 1219 = .ok (.iload 4, 2) := fd_get adL_law_43 (k := 2) rfl
theorem dL_law_1221 : decode cL_law 1221 = .ok (.iconst 3, 1) := fd_get adL_law_43 (k := 3) rfl
theorem dL_law_1222 : decode cL_law 1222 = .ok (.iadd, 1) := fd_get adL_law_43 (k := 4) rfl
theorem dL_law_1223 : decode cL_law 1223 = .ok (.iaload, 1) := fd_get adL_law_43 (k := 5) rfl
theorem dL_law_1224 : decode cL_law 1224 = .ok (.ifCond .eq 7, 3) := fd_get adL_law_43 (k := 6) rfl
theorem dL_law_1227 : decode cL_law 1227 = .ok (.iconst 1, 1) := fd_get adL_law_43 (k := 7) rfl
theorem dL_law_1228 : decode cL_law 1228 = .ok (.goto 4, 3) := fd_get adL_law_43 (k := 8) rfl
theorem dL_law_1231 : decode cL_law 1231 = .ok (.iconst 0, 1) := fd_get adL_law_43 (k := 9) rfl
theorem dL_law_1232 : decode cL_law 1232 = .ok (.aload_n 3, 1) := fd_get adL_law_43 (k := 10) rfl
theorem dL_law_1233 : decode cL_law 1233 = .ok (.invokestatic 259, 3) := fd_get adL_law_43 (k := 11) rfl
theorem dL_law_1236 : decode cL_law 1236 = .ok (.istore 5, 2) := fd_get adL_law_43 (k := 12) rfl
theorem dL_law_1238 : decode cL_law 1238 = .ok (.aload_n 2, 1) := fd_get adL_law_43 (k := 13) rfl
theorem dL_law_1239 : decode cL_law 1239 = .ok (.aload_n 0, 1) := fd_get adL_law_43 (k := 14) rfl
theorem dL_law_1240 : decode cL_law 1240 = .ok (.iload 4, 2) := fd_get adL_law_43 (k := 15) rfl
theorem dL_law_1242 : decode cL_law 1242 = .ok (.iconst 1, 1) := fd_get adL_law_44 (k := 0) rfl
theorem dL_law_1243 : decode cL_law 1243 = .ok (.iadd, 1) := fd_get adL_law_44 (k := 1) rfl
theorem dL_law_1244 : decode cL_law 1244 = .ok (.iaload, 1) := fd_get adL_law_44 (k := 2) rfl
theorem dL_law_1245 : decode cL_law 1245 = .ok (.aload_n 0, 1) := fd_get adL_law_44 (k := 3) rfl
theorem dL_law_1246 : decode cL_law 1246 = .ok (.iload 4, 2) := fd_get adL_law_44 (k := 4) rfl
theorem dL_law_1248 : decode cL_law 1248 = .ok (.iconst 2, 1) := fd_get adL_law_44 (k := 5) rfl
theorem dL_law_1249 : decode cL_law 1249 = .ok (.iadd, 1) := fd_get adL_law_44 (k := 6) rfl
theorem dL_law_1250 : decode cL_law 1250 = .ok (.iaload, 1) := fd_get adL_law_44 (k := 7) rfl
theorem dL_law_1251 : decode cL_law 1251 = .ok (.aload_n 0, 1) := fd_get adL_law_44 (k := 8) rfl
theorem dL_law_1252 : decode cL_law 1252 = .ok (.iload 4, 2) := fd_get adL_law_44 (k := 9) rfl
theorem dL_law_1254 : decode cL_law 1254 = .ok (.iconst 3, 1) := fd_get adL_law_44 (k := 10) rfl
theorem dL_law_1255 : decode cL_law 1255 = .ok (.iadd, 1) := fd_get adL_law_44 (k := 11) rfl
theorem dL_law_1256 : decode cL_law 1256 = .ok (.iaload, 1) := fd_get adL_law_44 (k := 12) rfl
theorem dL_law_1257 : decode cL_law 1257 = .ok (.ifCond .eq 7, 3) := fd_get adL_law_44 (k := 13) rfl
theorem dL_law_1260 : decode cL_law 1260 = .ok (.iconst 1, 1) := fd_get adL_law_44 (k := 14) rfl
theorem dL_law_1261 : decode cL_law 1261 = .ok (.goto 4, 3) := fd_get adL_law_44 (k := 15) rfl
theorem dL_law_1264 : decode cL_law 1264 = .ok (.iconst 0, 1) := fd_get adL_law_45 (k := 0) rfl
theorem dL_law_1265 : decode cL_law 1265 = .ok (.invokevirtual 261, 3) := fd_get adL_law_45 (k := 1) rfl
theorem dL_law_1268 : decode cL_law 1268 = .ok (.istore 6, 2) := fd_get adL_law_45 (k := 2) rfl
theorem dL_law_1270 : decode cL_law 1270 = .ok (.goto 1314, 3) := fd_get adL_law_45 (k := 3) rfl
theorem dL_law_1273 : decode cL_law 1273 = .ok (.aload_n 1, 1) := fd_get adL_law_45 (k := 4) rfl
theorem dL_law_1274 : decode cL_law 1274 = .ok (.aload_n 0, 1) := fd_get adL_law_45 (k := 5) rfl
theorem dL_law_1275 : decode cL_law 1275 = .ok (.iload 4, 2) := fd_get adL_law_45 (k := 6) rfl
theorem dL_law_1277 : decode cL_law 1277 = .ok (.iconst 1, 1) := fd_get adL_law_45 (k := 7) rfl
theorem dL_law_1278 : decode cL_law 1278 = .ok (.iadd, 1) := fd_get adL_law_45 (k := 8) rfl
theorem dL_law_1279 : decode cL_law 1279 = .ok (.iaload, 1) := fd_get adL_law_45 (k := 9) rfl
theorem dL_law_1280 : decode cL_law 1280 = .ok (.aload_n 0, 1) := fd_get adL_law_45 (k := 10) rfl
theorem dL_law_1281 : decode cL_law 1281 = .ok (.iload 4, 2) := fd_get adL_law_45 (k := 11) rfl
theorem dL_law_1283 : decode cL_law 1283 = .ok (.iconst 2, 1) := fd_get adL_law_45 (k := 12) rfl
theorem dL_law_1284 : decode cL_law 1284 = .ok (.iadd, 1) := fd_get adL_law_45 (k := 13) rfl
theorem dL_law_1285 : decode cL_law 1285 = .ok (.iaload, 1) := fd_get adL_law_45 (k := 14) rfl
theorem dL_law_1286 : decode cL_law 1286 = .ok (.aload_n 0, 1) := fd_get adL_law_45 (k := 15) rfl
theorem dL_law_1287 : decode cL_law 1287 = .ok (.iload 4, 2) := fd_get adL_law_46 (k := 0) rfl
theorem dL_law_1289 : decode cL_law 1289 = .ok (.iconst 3, 1) := fd_get adL_law_46 (k := 1) rfl
theorem dL_law_1290 : decode cL_law 1290 = .ok (.iadd, 1) := fd_get adL_law_46 (k := 2) rfl
theorem dL_law_1291 : decode cL_law 1291 = .ok (.iaload, 1) := fd_get adL_law_46 (k := 3) rfl
theorem dL_law_1292 : decode cL_law 1292 = .ok (.ifCond .eq 7, 3) := fd_get adL_law_46 (k := 4) rfl
theorem dL_law_1295 : decode cL_law 1295 = .ok (.iconst 1, 1) := fd_get adL_law_46 (k := 5) rfl
theorem dL_law_1296 : decode cL_law 1296 = .ok (.goto 4, 3) := fd_get adL_law_46 (k := 6) rfl
theorem dL_law_1299 : decode cL_law 1299 = .ok (.iconst 0, 1) := fd_get adL_law_46 (k := 7) rfl
theorem dL_law_1300 : decode cL_law 1300 = .ok (.aload_n 0, 1) := fd_get adL_law_46 (k := 8) rfl
theorem dL_law_1301 : decode cL_law 1301 = .ok (.iload 4, 2) := fd_get adL_law_46 (k := 9) rfl
theorem dL_law_1303 : decode cL_law 1303 = .ok (.iconst 4, 1) := fd_get adL_law_46 (k := 10) rfl
theorem dL_law_1304 : decode cL_law 1304 = .ok (.iadd, 1) := fd_get adL_law_46 (k := 11) rfl
theorem dL_law_1305 : decode cL_law 1305 = .ok (.iaload, 1) := fd_get adL_law_46 (k := 12) rfl
theorem dL_law_1306 : decode cL_law 1306 = .ok (.aload_n 0, 1) := fd_get adL_law_46 (k := 13) rfl
theorem dL_law_1307 : decode cL_law 1307 = .ok (.iload 4, 2) := fd_get adL_law_46 (k := 14) rfl
theorem dL_law_1309 : decode cL_law 1309 = .ok (.iconst 5, 1) := fd_get adL_law_46 (k := 15) rfl
theorem dL_law_1310 : decode cL_law 1310 = .ok (.iadd, 1) := fd_get adL_law_47 (k := 0) rfl
theorem dL_law_1311 : decode cL_law 1311 = .ok (.iaload, 1) := fd_get adL_law_47 (k := 1) rfl
theorem dL_law_1312 : decode cL_law 1312 = .ok (.ifCond .eq 7, 3) := fd_get adL_law_47 (k := 2) rfl
theorem dL_law_1315 : decode cL_law 1315 = .ok (.iconst 1, 1) := fd_get adL_law_47 (k := 3) rfl
theorem dL_law_1316 : decode cL_law 1316 = .ok (.goto 4, 3) := fd_get adL_law_47 (k := 4) rfl
theorem dL_law_1319 : decode cL_law 1319 = .ok (.iconst 0, 1) := fd_get adL_law_47 (k := 5) rfl
theorem dL_law_1320 : decode cL_law 1320 = .ok (.aload_n 3, 1) := fd_get adL_law_47 (k := 6) rfl
theorem dL_law_1321 : decode cL_law 1321 = .ok (.invokestatic 262, 3) := fd_get adL_law_47 (k := 7) rfl
theorem dL_law_1324 : decode cL_law 1324 = .ok (.istore 5, 2) := fd_get adL_law_47 (k := 8) rfl
theorem dL_law_1326 : decode cL_law 1326 = .ok (.aload_n 2, 1) := fd_get adL_law_47 (k := 9) rfl
theorem dL_law_1327 : decode cL_law 1327 = .ok (.aload_n 0, 1) := fd_get adL_law_47 (k := 10) rfl
theorem dL_law_1328 : decode cL_law 1328 = .ok (.iload 4, 2) := fd_get adL_law_47 (k := 11) rfl
theorem dL_law_1330 : decode cL_law 1330 = .ok (.iconst 1, 1) := fd_get adL_law_47 (k := 12) rfl
theorem dL_law_1331 : decode cL_law 1331 = .ok (.iadd, 1) := fd_get adL_law_47 (k := 13) rfl
theorem dL_law_1332 : decode cL_law 1332 = .ok (.iaload, 1) := fd_get adL_law_47 (k := 14) rfl
theorem dL_law_1333 : decode cL_law 1333 = .ok (.aload_n 0, 1) := fd_get adL_law_47 (k := 15) rfl
theorem dL_law_1334 : decode cL_law 1334 = .ok (.iload 4, 2) := fd_get adL_law_48 (k := 0) rfl
theorem dL_law_1336 : decode cL_law 1336 = .ok (.iconst 2, 1) := fd_get adL_law_48 (k := 1) rfl
theorem dL_law_1337 : decode cL_law 1337 = .ok (.iadd, 1) := fd_get adL_law_48 (k := 2) rfl
theorem dL_law_1338 : decode cL_law 1338 = .ok (.iaload, 1) := fd_get adL_law_48 (k := 3) rfl
theorem dL_law_1339 : decode cL_law 1339 = .ok (.aload_n 0, 1) := fd_get adL_law_48 (k := 4) rfl
theorem dL_law_1340 : decode cL_law 1340 = .ok (.iload 4, 2) := fd_get adL_law_48 (k := 5) rfl
theorem dL_law_1342 : decode cL_law 1342 = .ok (.iconst 3, 1) := fd_get adL_law_48 (k := 6) rfl
theorem dL_law_1343 : decode cL_law 1343 = .ok (.iadd, 1) := fd_get adL_law_48 (k := 7) rfl
theorem dL_law_1344 : decode cL_law 1344 = .ok (.iaload, 1) := fd_get adL_law_48 (k := 8) rfl
theorem dL_law_1345 : decode cL_law 1345 = .ok (.ifCond .eq 7, 3) := fd_get adL_law_48 (k := 9) rfl
theorem dL_law_1348 : decode cL_law 1348 = .ok (.iconst 1, 1) := fd_get adL_law_48 (k := 10) rfl
theorem dL_law_1349 : decode cL_law 1349 = .ok (.goto 4, 3) := fd_get adL_law_48 (k := 11) rfl
theorem dL_law_1352 : decode cL_law 1352 = .ok (.iconst 0, 1) := fd_get adL_law_48 (k := 12) rfl
theorem dL_law_1353 : decode cL_law 1353 = .ok (.aload_n 0, 1) := fd_get adL_law_48 (k := 13) rfl
theorem dL_law_1354 : decode cL_law 1354 = .ok (.iload 4, 2) := fd_get adL_law_48 (k := 14) rfl
theorem dL_law_1356 : decode cL_law 1356 = .ok (.iconst 4, 1) := fd_get adL_law_48 (k := 15) rfl
theorem dL_law_1357 : decode cL_law 1357 = .ok (.iadd, 1) := fd_get adL_law_49 (k := 0) rfl
theorem dL_law_1358 : decode cL_law 1358 = .ok (.iaload, 1) := fd_get adL_law_49 (k := 1) rfl
theorem dL_law_1359 : decode cL_law 1359 = .ok (.aload_n 0, 1) := fd_get adL_law_49 (k := 2) rfl
theorem dL_law_1360 : decode cL_law 1360 = .ok (.iload 4, 2) := fd_get adL_law_49 (k := 3) rfl
theorem dL_law_1362 : decode cL_law 1362 = .ok (.iconst 5, 1) := fd_get adL_law_49 (k := 4) rfl
theorem dL_law_1363 : decode cL_law 1363 = .ok (.iadd, 1) := fd_get adL_law_49 (k := 5) rfl
theorem dL_law_1364 : decode cL_law 1364 = .ok (.iaload, 1) := fd_get adL_law_49 (k := 6) rfl
theorem dL_law_1365 : decode cL_law 1365 = .ok (.ifCond .eq 7, 3) := fd_get adL_law_49 (k := 7) rfl
theorem dL_law_1368 : decode cL_law 1368 = .ok (.iconst 1, 1) := fd_get adL_law_49 (k := 8) rfl
theorem dL_law_1369 : decode cL_law 1369 = .ok (.goto 4, 3) := fd_get adL_law_49 (k := 9) rfl
theorem dL_law_1372 : decode cL_law 1372 = .ok (.iconst 0, 1) := fd_get adL_law_49 (k := 10) rfl
theorem dL_law_1373 : decode cL_law 1373 = .ok (.invokevirtual 265, 3) := fd_get adL_law_49 (k := 11) rfl
theorem dL_law_1376 : decode cL_law 1376 = .ok (.istore 6, 2) := fd_get adL_law_49 (k := 12) rfl
theorem dL_law_1378 : decode cL_law 1378 = .ok (.goto 1206, 3) := fd_get adL_law_49 (k := 13) rfl
theorem dL_law_1381 : decode cL_law 1381 = .ok (.aload_n 1, 1) := fd_get adL_law_49 (k := 14) rfl
theorem dL_law_1382 : decode cL_law 1382 = .ok (.aload_n 0, 1) := fd_get adL_law_49 (k := 15) rfl
theorem dL_law_1383 : decode cL_law 1383 = .ok (.iload 4, 2) := fd_get adL_law_50 (k := 0) rfl
theorem dL_law_1385 : decode cL_law 1385 = .ok (.iconst 1, 1) := fd_get adL_law_50 (k := 1) rfl
theorem dL_law_1386 : decode cL_law 1386 = .ok (.iadd, 1) := fd_get adL_law_50 (k := 2) rfl
theorem dL_law_1387 : decode cL_law 1387 = .ok (.iaload, 1) := fd_get adL_law_50 (k := 3) rfl
theorem dL_law_1388 : decode cL_law 1388 = .ok (.aload_n 0, 1) := fd_get adL_law_50 (k := 4) rfl
theorem dL_law_1389 : decode cL_law 1389 = .ok (.iload 4, 2) := fd_get adL_law_50 (k := 5) rfl
theorem dL_law_1391 : decode cL_law 1391 = .ok (.iconst 2, 1) := fd_get adL_law_50 (k := 6) rfl
theorem dL_law_1392 : decode cL_law 1392 = .ok (.iadd, 1) := fd_get adL_law_50 (k := 7) rfl
theorem dL_law_1393 : decode cL_law 1393 = .ok (.iaload, 1) := fd_get adL_law_50 (k := 8) rfl
theorem dL_law_1394 : decode cL_law 1394 = .ok (.aload_n 0, 1) := fd_get adL_law_50 (k := 9) rfl
theorem dL_law_1395 : decode cL_law 1395 = .ok (.iload 4, 2) := fd_get adL_law_50 (k := 10) rfl
theorem dL_law_1397 : decode cL_law 1397 = .ok (.iconst 3, 1) := fd_get adL_law_50 (k := 11) rfl
theorem dL_law_1398 : decode cL_law 1398 = .ok (.iadd, 1) := fd_get adL_law_50 (k := 12) rfl
theorem dL_law_1399 : decode cL_law 1399 = .ok (.iaload, 1) := fd_get adL_law_50 (k := 13) rfl
theorem dL_law_1400 : decode cL_law 1400 = .ok (.ifCond .eq 7, 3) := fd_get adL_law_50 (k := 14) rfl
theorem dL_law_1403 : decode cL_law 1403 = .ok (.iconst 1, 1) := fd_get adL_law_50 (k := 15) rfl
theorem dL_law_1404 : decode cL_law 1404 = .ok (.goto 4, 3) := fd_get adL_law_51 (k := 0) rfl
theorem dL_law_1407 : decode cL_law 1407 = .ok (.iconst 0, 1) := fd_get adL_law_51 (k := 1) rfl
theorem dL_law_1408 : decode cL_law 1408 = .ok (.aload_n 0, 1) := fd_get adL_law_51 (k := 2) rfl
theorem dL_law_1409 : decode cL_law 1409 = .ok (.iload 4, 2) := fd_get adL_law_51 (k := 3) rfl
theorem dL_law_1411 : decode cL_law 1411 = .ok (.iconst 4, 1) := fd_get adL_law_51 (k := 4) rfl
theorem dL_law_1412 : decode cL_law 1412 = .ok (.iadd, 1) := fd_get adL_law_51 (k := 5) rfl
theorem dL_law_1413 : decode cL_law 1413 = .ok (.iaload, 1) := fd_get adL_law_51 (k := 6) rfl
theorem dL_law_1414 : decode cL_law 1414 = .ok (.aload_n 0, 1) := fd_get adL_law_51 (k := 7) rfl
theorem dL_law_1415 : decode cL_law 1415 = .ok (.iload 4, 2) := fd_get adL_law_51 (k := 8) rfl
theorem dL_law_1417 : decode cL_law 1417 = .ok (.iconst 5, 1) := fd_get adL_law_51 (k := 9) rfl
theorem dL_law_1418 : decode cL_law 1418 = .ok (.iadd, 1) := fd_get adL_law_51 (k := 10) rfl
theorem dL_law_1419 : decode cL_law 1419 = .ok (.iaload, 1) := fd_get adL_law_51 (k := 11) rfl
theorem dL_law_1420 : decode cL_law 1420 = .ok (.ifCond .eq 7, 3) := fd_get adL_law_51 (k := 12) rfl
theorem dL_law_1423 : decode cL_law 1423 = .ok (.iconst 1, 1) := fd_get adL_law_51 (k := 13) rfl
theorem dL_law_1424 : decode cL_law 1424 = .ok (.goto 4, 3) := fd_get adL_law_51 (k := 14) rfl
theorem dL_law_1427 : decode cL_law 1427 = .ok (.iconst 0, 1) := fd_get adL_law_51 (k := 15) rfl
theorem dL_law_1428 : decode cL_law 1428 = .ok (.aload_n 3, 1) := fd_get adL_law_52 (k := 0) rfl
theorem dL_law_1429 : decode cL_law 1429 = .ok (.invokestatic 266, 3) := fd_get adL_law_52 (k := 1) rfl
theorem dL_law_1432 : decode cL_law 1432 = .ok (.istore 5, 2) := fd_get adL_law_52 (k := 2) rfl
theorem dL_law_1434 : decode cL_law 1434 = .ok (.aload_n 2, 1) := fd_get adL_law_52 (k := 3) rfl
theorem dL_law_1435 : decode cL_law 1435 = .ok (.aload_n 0, 1) := fd_get adL_law_52 (k := 4) rfl
theorem dL_law_1436 : decode cL_law 1436 = .ok (.iload 4, 2) := fd_get adL_law_52 (k := 5) rfl
theorem dL_law_1438 : decode cL_law 1438 = .ok (.iconst 1, 1) := fd_get adL_law_52 (k := 6) rfl
theorem dL_law_1439 : decode cL_law 1439 = .ok (.iadd, 1) := fd_get adL_law_52 (k := 7) rfl
theorem dL_law_1440 : decode cL_law 1440 = .ok (.iaload, 1) := fd_get adL_law_52 (k := 8) rfl
theorem dL_law_1441 : decode cL_law 1441 = .ok (.aload_n 0, 1) := fd_get adL_law_52 (k := 9) rfl
theorem dL_law_1442 : decode cL_law 1442 = .ok (.iload 4, 2) := fd_get adL_law_52 (k := 10) rfl
theorem dL_law_1444 : decode cL_law 1444 = .ok (.iconst 2, 1) := fd_get adL_law_52 (k := 11) rfl
theorem dL_law_1445 : decode cL_law 1445 = .ok (.iadd, 1) := fd_get adL_law_52 (k := 12) rfl
theorem dL_law_1446 : decode cL_law 1446 = .ok (.iaload, 1) := fd_get adL_law_52 (k := 13) rfl
theorem dL_law_1447 : decode cL_law 1447 = .ok (.aload_n 0, 1) := fd_get adL_law_52 (k := 14) rfl
theorem dL_law_1448 : decode cL_law 1448 = .ok (.iload 4, 2) := fd_get adL_law_52 (k := 15) rfl
theorem dL_law_1450 : decode cL_law 1450 = .ok (.iconst 3, 1) := fd_get adL_law_53 (k := 0) rfl
theorem dL_law_1451 : decode cL_law 1451 = .ok (.iadd, 1) := fd_get adL_law_53 (k := 1) rfl
theorem dL_law_1452 : decode cL_law 1452 = .ok (.iaload, 1) := fd_get adL_law_53 (k := 2) rfl
theorem dL_law_1453 : decode cL_law 1453 = .ok (.ifCond .eq 7, 3) := fd_get adL_law_53 (k := 3) rfl
theorem dL_law_1456 : decode cL_law 1456 = .ok (.iconst 1, 1) := fd_get adL_law_53 (k := 4) rfl
theorem dL_law_1457 : decode cL_law 1457 = .ok (.goto 4, 3) := fd_get adL_law_53 (k := 5) rfl
theorem dL_law_1460 : decode cL_law 1460 = .ok (.iconst 0, 1) := fd_get adL_law_53 (k := 6) rfl
theorem dL_law_1461 : decode cL_law 1461 = .ok (.aload_n 0, 1) := fd_get adL_law_53 (k := 7) rfl
theorem dL_law_1462 : decode cL_law 1462 = .ok (.iload 4, 2) := fd_get adL_law_53 (k := 8) rfl
theorem dL_law_1464 : decode cL_law 1464 = .ok (.iconst 4, 1) := fd_get adL_law_53 (k := 9) rfl
theorem dL_law_1465 : decode cL_law 1465 = .ok (.iadd, 1) := fd_get adL_law_53 (k := 10) rfl
theorem dL_law_1466 : decode cL_law 1466 = .ok (.iaload, 1) := fd_get adL_law_53 (k := 11) rfl
theorem dL_law_1467 : decode cL_law 1467 = .ok (.aload_n 0, 1) := fd_get adL_law_53 (k := 12) rfl
theorem dL_law_1468 : decode cL_law 1468 = .ok (.iload 4, 2) := fd_get adL_law_53 (k := 13) rfl
theorem dL_law_1470 : decode cL_law 1470 = .ok (.iconst 5, 1) := fd_get adL_law_53 (k := 14) rfl
theorem dL_law_1471 : decode cL_law 1471 = .ok (.iadd, 1) := fd_get adL_law_53 (k := 15) rfl
theorem dL_law_1472 : decode cL_law 1472 = .ok (.iaload, 1) := fd_get adL_law_54 (k := 0) rfl
theorem dL_law_1473 : decode cL_law 1473 = .ok (.ifCond .eq 7, 3) := fd_get adL_law_54 (k := 1) rfl
theorem dL_law_1476 : decode cL_law 1476 = .ok (.iconst 1, 1) := fd_get adL_law_54 (k := 2) rfl
theorem dL_law_1477 : decode cL_law 1477 = .ok (.goto 4, 3) := fd_get adL_law_54 (k := 3) rfl
theorem dL_law_1480 : decode cL_law 1480 = .ok (.iconst 0, 1) := fd_get adL_law_54 (k := 4) rfl
theorem dL_law_1481 : decode cL_law 1481 = .ok (.invokevirtual 268, 3) := fd_get adL_law_54 (k := 5) rfl
theorem dL_law_1484 : decode cL_law 1484 = .ok (.istore 6, 2) := fd_get adL_law_54 (k := 6) rfl
theorem dL_law_1486 : decode cL_law 1486 = .ok (.goto 1098, 3) := fd_get adL_law_54 (k := 7) rfl
theorem dL_law_1489 : decode cL_law 1489 = .ok (.aload_n 1, 1) := fd_get adL_law_54 (k := 8) rfl
theorem dL_law_1490 : decode cL_law 1490 = .ok (.aload_n 0, 1) := fd_get adL_law_54 (k := 9) rfl
theorem dL_law_1491 : decode cL_law 1491 = .ok (.iload 4, 2) := fd_get adL_law_54 (k := 10) rfl
theorem dL_law_1493 : decode cL_law 1493 = .ok (.iconst 1, 1) := fd_get adL_law_54 (k := 11) rfl
theorem dL_law_1494 : decode cL_law 1494 = .ok (.iadd, 1) := fd_get adL_law_54 (k := 12) rfl
theorem dL_law_1495 : decode cL_law 1495 = .ok (.iaload, 1) := fd_get adL_law_54 (k := 13) rfl
theorem dL_law_1496 : decode cL_law 1496 = .ok (.aload_n 3, 1) := fd_get adL_law_54 (k := 14) rfl
theorem dL_law_1497 : decode cL_law 1497 = .ok (.invokestatic 269, 3) := fd_get adL_law_54 (k := 15) rfl
theorem dL_law_1500 : decode cL_law 1500 = .ok (.istore 5, 2) := fd_get adL_law_55 (k := 0) rfl
theorem dL_law_1502 : decode cL_law 1502 = .ok (.aload_n 2, 1) := fd_get adL_law_55 (k := 1) rfl
theorem dL_law_1503 : decode cL_law 1503 = .ok (.aload_n 0, 1) := fd_get adL_law_55 (k := 2) rfl
theorem dL_law_1504 : decode cL_law 1504 = .ok (.iload 4, 2) := fd_get adL_law_55 (k := 3) rfl
theorem dL_law_1506 : decode cL_law 1506 = .ok (.iconst 1, 1) := fd_get adL_law_55 (k := 4) rfl
theorem dL_law_1507 : decode cL_law 1507 = .ok (.iadd, 1) := fd_get adL_law_55 (k := 5) rfl
theorem dL_law_1508 : decode cL_law 1508 = .ok (.iaload, 1) := fd_get adL_law_55 (k := 6) rfl
theorem dL_law_1509 : decode cL_law 1509 = .ok (.invokevirtual 271, 3) := fd_get adL_law_55 (k := 7) rfl
theorem dL_law_1512 : decode cL_law 1512 = .ok (.istore 6, 2) := fd_get adL_law_55 (k := 8) rfl
theorem dL_law_1514 : decode cL_law 1514 = .ok (.goto 1070, 3) := fd_get adL_law_55 (k := 9) rfl
theorem dL_law_1517 : decode cL_law 1517 = .ok (.aload_n 1, 1) := fd_get adL_law_55 (k := 10) rfl
theorem dL_law_1518 : decode cL_law 1518 = .ok (.aload_n 0, 1) := fd_get adL_law_55 (k := 11) rfl
theorem dL_law_1519 : decode cL_law 1519 = .ok (.iload 4, 2) := fd_get adL_law_55 (k := 12) rfl
theorem dL_law_1521 : decode cL_law 1521 = .ok (.iconst 1, 1) := fd_get adL_law_55 (k := 13) rfl
theorem dL_law_1522 : decode cL_law 1522 = .ok (.iadd, 1) := fd_get adL_law_55 (k := 14) rfl
theorem dL_law_1523 : decode cL_law 1523 = .ok (.iaload, 1) := fd_get adL_law_55 (k := 15) rfl
theorem dL_law_1524 : decode cL_law 1524 = .ok (.aload_n 0, 1) := fd_get adL_law_56 (k := 0) rfl
theorem dL_law_1525 : decode cL_law 1525 = .ok (.iload 4, 2) := fd_get adL_law_56 (k := 1) rfl
theorem dL_law_1527 : decode cL_law 1527 = .ok (.iconst 2, 1) := fd_get adL_law_56 (k := 2) rfl
theorem dL_law_1528 : decode cL_law 1528 = .ok (.iadd, 1) := fd_get adL_law_56 (k := 3) rfl
theorem dL_law_1529 : decode cL_law 1529 = .ok (.iaload, 1) := fd_get adL_law_56 (k := 4) rfl
theorem dL_law_1530 : decode cL_law 1530 = .ok (.aload_n 0, 1) := fd_get adL_law_56 (k := 5) rfl
theorem dL_law_1531 : decode cL_law 1531 = .ok (.iload 4, 2) := fd_get adL_law_56 (k := 6) rfl
theorem dL_law_1533 : decode cL_law 1533 = .ok (.iconst 3, 1) := fd_get adL_law_56 (k := 7) rfl
theorem dL_law_1534 : decode cL_law 1534 = .ok (.iadd, 1) := fd_get adL_law_56 (k := 8) rfl
theorem dL_law_1535 : decode cL_law 1535 = .ok (.iaload, 1) := fd_get adL_law_56 (k := 9) rfl
theorem dL_law_1536 : decode cL_law 1536 = .ok (.aload_n 3, 1) := fd_get adL_law_56 (k := 10) rfl
theorem dL_law_1537 : decode cL_law 1537 = .ok (.invokestatic 272, 3) := fd_get adL_law_56 (k := 11) rfl
theorem dL_law_1540 : decode cL_law 1540 = .ok (.istore 5, 2) := fd_get adL_law_56 (k := 12) rfl
theorem dL_law_1542 : decode cL_law 1542 = .ok (.aload_n 2, 1) := fd_get adL_law_56 (k := 13) rfl
theorem dL_law_1543 : decode cL_law 1543 = .ok (.aload_n 0, 1) := fd_get adL_law_56 (k := 14) rfl
theorem dL_law_1544 : decode cL_law 1544 = .ok (.iload 4, 2) := fd_get adL_law_56 (k := 15) rfl
theorem dL_law_1546 : decode cL_law 1546 = .ok (.iconst 1, 1) := fd_get adL_law_57 (k := 0) rfl
theorem dL_law_1547 : decode cL_law 1547 = .ok (.iadd, 1) := fd_get adL_law_57 (k := 1) rfl
theorem dL_law_1548 : decode cL_law 1548 = .ok (.iaload, 1) := fd_get adL_law_57 (k := 2) rfl
theorem dL_law_1549 : decode cL_law 1549 = .ok (.aload_n 0, 1) := fd_get adL_law_57 (k := 3) rfl
theorem dL_law_1550 : decode cL_law 1550 = .ok (.iload 4, 2) := fd_get adL_law_57 (k := 4) rfl
theorem dL_law_1552 : decode cL_law 1552 = .ok (.iconst 2, 1) := fd_get adL_law_57 (k := 5) rfl
theorem dL_law_1553 : decode cL_law 1553 = .ok (.iadd, 1) := fd_get adL_law_57 (k := 6) rfl
theorem dL_law_1554 : decode cL_law 1554 = .ok (.iaload, 1) := fd_get adL_law_57 (k := 7) rfl
theorem dL_law_1555 : decode cL_law 1555 = .ok (.aload_n 0, 1) := fd_get adL_law_57 (k := 8) rfl
theorem dL_law_1556 : decode cL_law 1556 = .ok (.iload 4, 2) := fd_get adL_law_57 (k := 9) rfl
theorem dL_law_1558 : decode cL_law 1558 = .ok (.iconst 3, 1) := fd_get adL_law_57 (k := 10) rfl
theorem dL_law_1559 : decode cL_law 1559 = .ok (.iadd, 1) := fd_get adL_law_57 (k := 11) rfl
theorem dL_law_1560 : decode cL_law 1560 = .ok (.iaload, 1) := fd_get adL_law_57 (k := 12) rfl
theorem dL_law_1561 : decode cL_law 1561 = .ok (.invokevirtual 274, 3) := fd_get adL_law_57 (k := 13) rfl
theorem dL_law_1564 : decode cL_law 1564 = .ok (.istore 6, 2) := fd_get adL_law_57 (k := 14) rfl
theorem dL_law_1566 : decode cL_law 1566 = .ok (.goto 1018, 3) := fd_get adL_law_57 (k := 15) rfl
theorem dL_law_1569 : decode cL_law 1569 = .ok (.aload_n 1, 1) := fd_get adL_law_58 (k := 0) rfl
theorem dL_law_1570 : decode cL_law 1570 = .ok (.aload_n 0, 1) := fd_get adL_law_58 (k := 1) rfl
theorem dL_law_1571 : decode cL_law 1571 = .ok (.iload 4, 2) := fd_get adL_law_58 (k := 2) rfl
theorem dL_law_1573 : decode cL_law 1573 = .ok (.iconst 1, 1) := fd_get adL_law_58 (k := 3) rfl
theorem dL_law_1574 : decode cL_law 1574 = .ok (.iadd, 1) := fd_get adL_law_58 (k := 4) rfl
theorem dL_law_1575 : decode cL_law 1575 = .ok (.iaload, 1) := fd_get adL_law_58 (k := 5) rfl
theorem dL_law_1576 : decode cL_law 1576 = .ok (.aload_n 0, 1) := fd_get adL_law_58 (k := 6) rfl
theorem dL_law_1577 : decode cL_law 1577 = .ok (.iload 4, 2) := fd_get adL_law_58 (k := 7) rfl
theorem dL_law_1579 : decode cL_law 1579 = .ok (.iconst 2, 1) := fd_get adL_law_58 (k := 8) rfl
theorem dL_law_1580 : decode cL_law 1580 = .ok (.iadd, 1) := fd_get adL_law_58 (k := 9) rfl
theorem dL_law_1581 : decode cL_law 1581 = .ok (.iaload, 1) := fd_get adL_law_58 (k := 10) rfl
theorem dL_law_1582 : decode cL_law 1582 = .ok (.aload_n 3, 1) := fd_get adL_law_58 (k := 11) rfl
theorem dL_law_1583 : decode cL_law 1583 = .ok (.invokestatic 275, 3) := fd_get adL_law_58 (k := 12) rfl
theorem dL_law_1586 : decode cL_law 1586 = .ok (.istore 5, 2) := fd_get adL_law_58 (k := 13) rfl
theorem dL_law_1588 : decode cL_law 1588 = .ok (.aload_n 2, 1) := fd_get adL_law_58 (k := 14) rfl
theorem dL_law_1589 : decode cL_law 1589 = .ok (.aload_n 0, 1) := fd_get adL_law_58 (k := 15) rfl
theorem dL_law_1590 : decode cL_law 1590 = .ok (.iload 4, 2) := fd_get adL_law_59 (k := 0) rfl
theorem dL_law_1592 : decode cL_law 1592 = .ok (.iconst 1, 1) := fd_get adL_law_59 (k := 1) rfl
theorem dL_law_1593 : decode cL_law 1593 = .ok (.iadd, 1) := fd_get adL_law_59 (k := 2) rfl
theorem dL_law_1594 : decode cL_law 1594 = .ok (.iaload, 1) := fd_get adL_law_59 (k := 3) rfl
theorem dL_law_1595 : decode cL_law 1595 = .ok (.aload_n 0, 1) := fd_get adL_law_59 (k := 4) rfl
theorem dL_law_1596 : decode cL_law 1596 = .ok (.iload 4, 2) := fd_get adL_law_59 (k := 5) rfl
theorem dL_law_1598 : decode cL_law 1598 = .ok (.iconst 2, 1) := fd_get adL_law_59 (k := 6) rfl
theorem dL_law_1599 : decode cL_law 1599 = .ok (.iadd, 1) := fd_get adL_law_59 (k := 7) rfl
theorem dL_law_1600 : decode cL_law 1600 = .ok (.iaload, 1) := fd_get adL_law_59 (k := 8) rfl
theorem dL_law_1601 : decode cL_law 1601 = .ok (.invokevirtual 277, 3) := fd_get adL_law_59 (k := 9) rfl
theorem dL_law_1604 : decode cL_law 1604 = .ok (.istore 6, 2) := fd_get adL_law_59 (k := 10) rfl
theorem dL_law_1606 : decode cL_law 1606 = .ok (.goto 978, 3) := fd_get adL_law_59 (k := 11) rfl
theorem dL_law_1609 : decode cL_law 1609 = .ok (.aload_n 1, 1) := fd_get adL_law_59 (k := 12) rfl
theorem dL_law_1610 : decode cL_law 1610 = .ok (.aload_n 0, 1) := fd_get adL_law_59 (k := 13) rfl
theorem dL_law_1611 : decode cL_law 1611 = .ok (.iload 4, 2) := fd_get adL_law_59 (k := 14) rfl
theorem dL_law_1613 : decode cL_law 1613 = .ok (.iconst 1, 1) := fd_get adL_law_59 (k := 15) rfl
theorem dL_law_1614 : decode cL_law 1614 = .ok (.iadd, 1) := fd_get adL_law_60 (k := 0) rfl
theorem dL_law_1615 : decode cL_law 1615 = .ok (.iaload, 1) := fd_get adL_law_60 (k := 1) rfl
theorem dL_law_1616 : decode cL_law 1616 = .ok (.aload_n 0, 1) := fd_get adL_law_60 (k := 2) rfl
theorem dL_law_1617 : decode cL_law 1617 = .ok (.iload 4, 2) := fd_get adL_law_60 (k := 3) rfl
theorem dL_law_1619 : decode cL_law 1619 = .ok (.iconst 2, 1) := fd_get adL_law_60 (k := 4) rfl
theorem dL_law_1620 : decode cL_law 1620 = .ok (.iadd, 1) := fd_get adL_law_60 (k := 5) rfl
theorem dL_law_1621 : decode cL_law 1621 = .ok (.iaload, 1) := fd_get adL_law_60 (k := 6) rfl
theorem dL_law_1622 : decode cL_law 1622 = .ok (.aload_n 0, 1) := fd_get adL_law_60 (k := 7) rfl
theorem dL_law_1623 : decode cL_law 1623 = .ok (.iload 4, 2) := fd_get adL_law_60 (k := 8) rfl
theorem dL_law_1625 : decode cL_law 1625 = .ok (.iconst 3, 1) := fd_get adL_law_60 (k := 9) rfl
theorem dL_law_1626 : decode cL_law 1626 = .ok (.iadd, 1) := fd_get adL_law_60 (k := 10) rfl
theorem dL_law_1627 : decode cL_law 1627 = .ok (.iaload, 1) := fd_get adL_law_60 (k := 11) rfl
theorem dL_law_1628 : decode cL_law 1628 = .ok (.aload_n 3, 1) := fd_get adL_law_60 (k := 12) rfl
theorem dL_law_1629 : decode cL_law 1629 = .ok (.invokestatic 278, 3) := fd_get adL_law_60 (k := 13) rfl
theorem dL_law_1632 : decode cL_law 1632 = .ok (.istore 5, 2) := fd_get adL_law_60 (k := 14) rfl
theorem dL_law_1634 : decode cL_law 1634 = .ok (.aload_n 2, 1) := fd_get adL_law_60 (k := 15) rfl
theorem dL_law_1635 : decode cL_law 1635 = .ok (.aload_n 0, 1) := fd_get adL_law_61 (k := 0) rfl
theorem dL_law_1636 : decode cL_law 1636 = .ok (.iload 4, 2) := fd_get adL_law_61 (k := 1) rfl
theorem dL_law_1638 : decode cL_law 1638 = .ok (.iconst 1, 1) := fd_get adL_law_61 (k := 2) rfl
theorem dL_law_1639 : decode cL_law 1639 = .ok (.iadd, 1) := fd_get adL_law_61 (k := 3) rfl
theorem dL_law_1640 : decode cL_law 1640 = .ok (.iaload, 1) := fd_get adL_law_61 (k := 4) rfl
theorem dL_law_1641 : decode cL_law 1641 = .ok (.aload_n 0, 1) := fd_get adL_law_61 (k := 5) rfl
theorem dL_law_1642 : decode cL_law 1642 = .ok (.iload 4, 2) := fd_get adL_law_61 (k := 6) rfl
theorem dL_law_1644 : decode cL_law 1644 = .ok (.iconst 2, 1) := fd_get adL_law_61 (k := 7) rfl
theorem dL_law_1645 : decode cL_law 1645 = .ok (.iadd, 1) := fd_get adL_law_61 (k := 8) rfl
theorem dL_law_1646 : decode cL_law 1646 = .ok (.iaload, 1) := fd_get adL_law_61 (k := 9) rfl
theorem dL_law_1647 : decode cL_law 1647 = .ok (.aload_n 0, 1) := fd_get adL_law_61 (k := 10) rfl
theorem dL_law_1648 : decode cL_law 1648 = .ok (.iload 4, 2) := fd_get adL_law_61 (k := 11) rfl
theorem dL_law_1650 : decode cL_law 1650 = .ok (.iconst 3, 1) := fd_get adL_law_61 (k := 12) rfl
theorem dL_law_1651 : decode cL_law 1651 = .ok (.iadd, 1) := fd_get adL_law_61 (k := 13) rfl
theorem dL_law_1652 : decode cL_law 1652 = .ok (.iaload, 1) := fd_get adL_law_61 (k := 14) rfl
theorem dL_law_1653 : decode cL_law 1653 = .ok (.invokevirtual 280, 3) := fd_get adL_law_61 (k := 15) rfl
theorem dL_law_1656 : decode cL_law 1656 = .ok (.istore 6, 2) := fd_get adL_law_62 (k := 0) rfl
theorem dL_law_1658 : decode cL_law 1658 = .ok (.goto 926, 3) := fd_get adL_law_62 (k := 1) rfl
theorem dL_law_1661 : decode cL_law 1661 = .ok (.aload_n 1, 1) := fd_get adL_law_62 (k := 2) rfl
theorem dL_law_1662 : decode cL_law 1662 = .ok (.aload_n 0, 1) := fd_get adL_law_62 (k := 3) rfl
theorem dL_law_1663 : decode cL_law 1663 = .ok (.iload 4, 2) := fd_get adL_law_62 (k := 4) rfl
theorem dL_law_1665 : decode cL_law 1665 = .ok (.iconst 1, 1) := fd_get adL_law_62 (k := 5) rfl
theorem dL_law_1666 : decode cL_law 1666 = .ok (.iadd, 1) := fd_get adL_law_62 (k := 6) rfl
theorem dL_law_1667 : decode cL_law 1667 = .ok (.iaload, 1) := fd_get adL_law_62 (k := 7) rfl
theorem dL_law_1668 : decode cL_law 1668 = .ok (.aload_n 0, 1) := fd_get adL_law_62 (k := 8) rfl
theorem dL_law_1669 : decode cL_law 1669 = .ok (.iload 4, 2) := fd_get adL_law_62 (k := 9) rfl
theorem dL_law_1671 : decode cL_law 1671 = .ok (.iconst 2, 1) := fd_get adL_law_62 (k := 10) rfl
theorem dL_law_1672 : decode cL_law 1672 = .ok (.iadd, 1) := fd_get adL_law_62 (k := 11) rfl
theorem dL_law_1673 : decode cL_law 1673 = .ok (.iaload, 1) := fd_get adL_law_62 (k := 12) rfl
theorem dL_law_1674 : decode cL_law 1674 = .ok (.ifCond .eq 7, 3) := fd_get adL_law_62 (k := 13) rfl
theorem dL_law_1677 : decode cL_law 1677 = .ok (.iconst 1, 1) := fd_get adL_law_62 (k := 14) rfl
theorem dL_law_1678 : decode cL_law 1678 = .ok (.goto 4, 3) := fd_get adL_law_62 (k := 15) rfl
theorem dL_law_1681 : decode cL_law 1681 = .ok (.iconst 0, 1) := fd_get adL_law_63 (k := 0) rfl
theorem dL_law_1682 : decode cL_law 1682 = .ok (.aload_n 3, 1) := fd_get adL_law_63 (k := 1) rfl
theorem dL_law_1683 : decode cL_law 1683 = .ok (.invokestatic 281, 3) := fd_get adL_law_63 (k := 2) rfl
theorem dL_law_1686 : decode cL_law 1686 = .ok (.istore 5, 2) := fd_get adL_law_63 (k := 3) rfl
theorem dL_law_1688 : decode cL_law 1688 = .ok (.aload_n 2, 1) := fd_get adL_law_63 (k := 4) rfl
theorem dL_law_1689 : decode cL_law 1689 = .ok (.aload_n 0, 1) := fd_get adL_law_63 (k := 5) rfl
theorem dL_law_1690 : decode cL_law 1690 = .ok (.iload 4, 2) := fd_get adL_law_63 (k := 6) rfl
theorem dL_law_1692 : decode cL_law 1692 = .ok (.iconst 1, 1) := fd_get adL_law_63 (k := 7) rfl
theorem dL_law_1693 : decode cL_law 1693 = .ok (.iadd, 1) := fd_get adL_law_63 (k := 8) rfl
theorem dL_law_1694 : decode cL_law 1694 = .ok (.iaload, 1) := fd_get adL_law_63 (k := 9) rfl
theorem dL_law_1695 : decode cL_law 1695 = .ok (.aload_n 0, 1) := fd_get adL_law_63 (k := 10) rfl
theorem dL_law_1696 : decode cL_law 1696 = .ok (.iload 4, 2) := fd_get adL_law_63 (k := 11) rfl
theorem dL_law_1698 : decode cL_law 1698 = .ok (.iconst 2, 1) := fd_get adL_law_63 (k := 12) rfl
theorem dL_law_1699 : decode cL_law 1699 = .ok (.iadd, 1) := fd_get adL_law_63 (k := 13) rfl
theorem dL_law_1700 : decode cL_law 1700 = .ok (.iaload, 1) := fd_get adL_law_63 (k := 14) rfl
theorem dL_law_1701 : decode cL_law 1701 = .ok (.ifCond .eq 7, 3) := fd_get adL_law_63 (k := 15) rfl
theorem dL_law_1704 : decode cL_law 1704 = .ok (.iconst 1, 1) := fd_get adL_law_64 (k := 0) rfl
theorem dL_law_1705 : decode cL_law 1705 = .ok (.goto 4, 3) := fd_get adL_law_64 (k := 1) rfl
theorem dL_law_1708 : decode cL_law 1708 = .ok (.iconst 0, 1) := fd_get adL_law_64 (k := 2) rfl
theorem dL_law_1709 : decode cL_law 1709 = .ok (.invokevirtual 283, 3) := fd_get adL_law_64 (k := 3) rfl
theorem dL_law_1712 : decode cL_law 1712 = .ok (.istore 6, 2) := fd_get adL_law_64 (k := 4) rfl
theorem dL_law_1714 : decode cL_law 1714 = .ok (.goto 870, 3) := fd_get adL_law_64 (k := 5) rfl
theorem dL_law_1717 : decode cL_law 1717 = .ok (.aload_n 1, 1) := fd_get adL_law_64 (k := 6) rfl
theorem dL_law_1718 : decode cL_law 1718 = .ok (.aload_n 0, 1) := fd_get adL_law_64 (k := 7) rfl
theorem dL_law_1719 : decode cL_law 1719 = .ok (.iload 4, 2) := fd_get adL_law_64 (k := 8) rfl
theorem dL_law_1721 : decode cL_law 1721 = .ok (.iconst 1, 1) := fd_get adL_law_64 (k := 9) rfl
theorem dL_law_1722 : decode cL_law 1722 = .ok (.iadd, 1) := fd_get adL_law_64 (k := 10) rfl
theorem dL_law_1723 : decode cL_law 1723 = .ok (.iaload, 1) := fd_get adL_law_64 (k := 11) rfl
theorem dL_law_1724 : decode cL_law 1724 = .ok (.aload_n 3, 1) := fd_get adL_law_64 (k := 12) rfl
theorem dL_law_1725 : decode cL_law 1725 = .ok (.invokestatic 284, 3) := fd_get adL_law_64 (k := 13) rfl
theorem dL_law_1728 : decode cL_law 1728 = .ok (.istore 5, 2) := fd_get adL_law_64 (k := 14) rfl
theorem dL_law_1730 : decode cL_law 1730 = .ok (.aload_n 2, 1) := fd_get adL_law_64 (k := 15) rfl
theorem dL_law_1731 : decode cL_law 1731 = .ok (.aload_n 0, 1) := fd_get adL_law_65 (k := 0) rfl
theorem dL_law_1732 : decode cL_law 1732 = .ok (.iload 4, 2) := fd_get adL_law_65 (k := 1) rfl
theorem dL_law_1734 : decode cL_law 1734 = .ok (.iconst 1, 1) := fd_get adL_law_65 (k := 2) rfl
theorem dL_law_1735 : decode cL_law 1735 = .ok (.iadd, 1) := fd_get adL_law_65 (k := 3) rfl
theorem dL_law_1736 : decode cL_law 1736 = .ok (.iaload, 1) := fd_get adL_law_65 (k := 4) rfl
theorem dL_law_1737 : decode cL_law 1737 = .ok (.invokevirtual 286, 3) := fd_get adL_law_65 (k := 5) rfl
theorem dL_law_1740 : decode cL_law 1740 = .ok (.istore 6, 2) := fd_get adL_law_65 (k := 6) rfl
theorem dL_law_1742 : decode cL_law 1742 = .ok (.goto 842, 3) := fd_get adL_law_65 (k := 7) rfl
theorem dL_law_1745 : decode cL_law 1745 = .ok (.aload_n 1, 1) := fd_get adL_law_65 (k := 8) rfl
theorem dL_law_1746 : decode cL_law 1746 = .ok (.aload_n 0, 1) := fd_get adL_law_65 (k := 9) rfl
theorem dL_law_1747 : decode cL_law 1747 = .ok (.iload 4, 2) := fd_get adL_law_65 (k := 10) rfl
theorem dL_law_1749 : decode cL_law 1749 = .ok (.iconst 1, 1) := fd_get adL_law_65 (k := 11) rfl
theorem dL_law_1750 : decode cL_law 1750 = .ok (.iadd, 1) := fd_get adL_law_65 (k := 12) rfl
theorem dL_law_1751 : decode cL_law 1751 = .ok (.iaload, 1) := fd_get adL_law_65 (k := 13) rfl
theorem dL_law_1752 : decode cL_law 1752 = .ok (.aload_n 3, 1) := fd_get adL_law_65 (k := 14) rfl
theorem dL_law_1753 : decode cL_law 1753 = .ok (.invokestatic 287, 3) := fd_get adL_law_65 (k := 15) rfl
theorem dL_law_1756 : decode cL_law 1756 = .ok (.istore 5, 2) := fd_get adL_law_66 (k := 0) rfl
theorem dL_law_1758 : decode cL_law 1758 = .ok (.aload_n 2, 1) := fd_get adL_law_66 (k := 1) rfl
theorem dL_law_1759 : decode cL_law 1759 = .ok (.aload_n 0, 1) := fd_get adL_law_66 (k := 2) rfl
theorem dL_law_1760 : decode cL_law 1760 = .ok (.iload 4, 2) := fd_get adL_law_66 (k := 3) rfl
theorem dL_law_1762 : decode cL_law 1762 = .ok (.iconst 1, 1) := fd_get adL_law_66 (k := 4) rfl
theorem dL_law_1763 : decode cL_law 1763 = .ok (.iadd, 1) := fd_get adL_law_66 (k := 5) rfl
theorem dL_law_1764 : decode cL_law 1764 = .ok (.iaload, 1) := fd_get adL_law_66 (k := 6) rfl
theorem dL_law_1765 : decode cL_law 1765 = .ok (.invokevirtual 289, 3) := fd_get adL_law_66 (k := 7) rfl
theorem dL_law_1768 : decode cL_law 1768 = .ok (.istore 6, 2) := fd_get adL_law_66 (k := 8) rfl
theorem dL_law_1770 : decode cL_law 1770 = .ok (.goto 814, 3) := fd_get adL_law_66 (k := 9) rfl
theorem dL_law_1773 : decode cL_law 1773 = .ok (.aload_n 1, 1) := fd_get adL_law_66 (k := 10) rfl
theorem dL_law_1774 : decode cL_law 1774 = .ok (.aload_n 0, 1) := fd_get adL_law_66 (k := 11) rfl
theorem dL_law_1775 : decode cL_law 1775 = .ok (.iload 4, 2) := fd_get adL_law_66 (k := 12) rfl
theorem dL_law_1777 : decode cL_law 1777 = .ok (.iconst 1, 1) := fd_get adL_law_66 (k := 13) rfl
theorem dL_law_1778 : decode cL_law 1778 = .ok (.iadd, 1) := fd_get adL_law_66 (k := 14) rfl
theorem dL_law_1779 : decode cL_law 1779 = .ok (.iaload, 1) := fd_get adL_law_66 (k := 15) rfl
theorem dL_law_1780 : decode cL_law 1780 = .ok (.aload_n 3, 1) := fd_get adL_law_67 (k := 0) rfl
theorem dL_law_1781 : decode cL_law 1781 = .ok (.invokestatic 290, 3) := fd_get adL_law_67 (k := 1) rfl
theorem dL_law_1784 : decode cL_law 1784 = .ok (.istore 5, 2) := fd_get adL_law_67 (k := 2) rfl
theorem dL_law_1786 : decode cL_law 1786 = .ok (.aload_n 2, 1) := fd_get adL_law_67 (k := 3) rfl
theorem dL_law_1787 : decode cL_law 1787 = .ok (.aload_n 0, 1) := fd_get adL_law_67 (k := 4) rfl
theorem dL_law_1788 : decode cL_law 1788 = .ok (.iload 4, 2) := fd_get adL_law_67 (k := 5) rfl
theorem dL_law_1790 : decode cL_law 1790 = .ok (.iconst 1, 1) := fd_get adL_law_67 (k := 6) rfl
theorem dL_law_1791 : decode cL_law 1791 = .ok (.iadd, 1) := fd_get adL_law_67 (k := 7) rfl
theorem dL_law_1792 : decode cL_law 1792 = .ok (.iaload, 1) := fd_get adL_law_67 (k := 8) rfl
theorem dL_law_1793 : decode cL_law 1793 = .ok (.invokevirtual 292, 3) := fd_get adL_law_67 (k := 9) rfl
theorem dL_law_1796 : decode cL_law 1796 = .ok (.istore 6, 2) := fd_get adL_law_67 (k := 10) rfl
theorem dL_law_1798 : decode cL_law 1798 = .ok (.goto 786, 3) := fd_get adL_law_67 (k := 11) rfl
theorem dL_law_1801 : decode cL_law 1801 = .ok (.aload_n 1, 1) := fd_get adL_law_67 (k := 12) rfl
theorem dL_law_1802 : decode cL_law 1802 = .ok (.aload_n 3, 1) := fd_get adL_law_67 (k := 13) rfl
theorem dL_law_1803 : decode cL_law 1803 = .ok (.invokestatic 293, 3) := fd_get adL_law_67 (k := 14) rfl
theorem dL_law_1806 : decode cL_law 1806 = .ok (.istore 5, 2) := fd_get adL_law_67 (k := 15) rfl
theorem dL_law_1808 : decode cL_law 1808 = .ok (.aload_n 2, 1) := fd_get adL_law_68 (k := 0) rfl
theorem dL_law_1809 : decode cL_law 1809 = .ok (.invokevirtual 296, 3) := fd_get adL_law_68 (k := 1) rfl
theorem dL_law_1812 : decode cL_law 1812 = .ok (.istore 6, 2) := fd_get adL_law_68 (k := 2) rfl
theorem dL_law_1814 : decode cL_law 1814 = .ok (.goto 770, 3) := fd_get adL_law_68 (k := 3) rfl
theorem dL_law_1817 : decode cL_law 1817 = .ok (.aload_n 1, 1) := fd_get adL_law_68 (k := 4) rfl
theorem dL_law_1818 : decode cL_law 1818 = .ok (.aload_n 0, 1) := fd_get adL_law_68 (k := 5) rfl
theorem dL_law_1819 : decode cL_law 1819 = .ok (.iload 4, 2) := fd_get adL_law_68 (k := 6) rfl
theorem dL_law_1821 : decode cL_law 1821 = .ok (.iconst 1, 1) := fd_get adL_law_68 (k := 7) rfl
theorem dL_law_1822 : decode cL_law 1822 = .ok (.iadd, 1) := fd_get adL_law_68 (k := 8) rfl
theorem dL_law_1823 : decode cL_law 1823 = .ok (.iaload, 1) := fd_get adL_law_68 (k := 9) rfl
theorem dL_law_1824 : decode cL_law 1824 = .ok (.aload_n 3, 1) := fd_get adL_law_68 (k := 10) rfl
theorem dL_law_1825 : decode cL_law 1825 = .ok (.invokestatic 297, 3) := fd_get adL_law_68 (k := 11) rfl
theorem dL_law_1828 : decode cL_law 1828 = .ok (.istore 5, 2) := fd_get adL_law_68 (k := 12) rfl
theorem dL_law_1830 : decode cL_law 1830 = .ok (.aload_n 2, 1) := fd_get adL_law_68 (k := 13) rfl
theorem dL_law_1831 : decode cL_law 1831 = .ok (.aload_n 0, 1) := fd_get adL_law_68 (k := 14) rfl
theorem dL_law_1832 : decode cL_law 1832 = .ok (.iload 4, 2) := fd_get adL_law_68 (k := 15) rfl
theorem dL_law_1834 : decode cL_law 1834 = .ok (.iconst 1, 1) := fd_get adL_law_69 (k := 0) rfl
theorem dL_law_1835 : decode cL_law 1835 = .ok (.iadd, 1) := fd_get adL_law_69 (k := 1) rfl
theorem dL_law_1836 : decode cL_law 1836 = .ok (.iaload, 1) := fd_get adL_law_69 (k := 2) rfl
theorem dL_law_1837 : decode cL_law 1837 = .ok (.invokevirtual 299, 3) := fd_get adL_law_69 (k := 3) rfl
theorem dL_law_1840 : decode cL_law 1840 = .ok (.istore 6, 2) := fd_get adL_law_69 (k := 4) rfl
theorem dL_law_1842 : decode cL_law 1842 = .ok (.goto 742, 3) := fd_get adL_law_69 (k := 5) rfl
theorem dL_law_1845 : decode cL_law 1845 = .ok (.aload_n 1, 1) := fd_get adL_law_69 (k := 6) rfl
theorem dL_law_1846 : decode cL_law 1846 = .ok (.aload_n 3, 1) := fd_get adL_law_69 (k := 7) rfl
theorem dL_law_1847 : decode cL_law 1847 = .ok (.invokestatic 300, 3) := fd_get adL_law_69 (k := 8) rfl
theorem dL_law_1850 : decode cL_law 1850 = .ok (.istore 5, 2) := fd_get adL_law_69 (k := 9) rfl
theorem dL_law_1852 : decode cL_law 1852 = .ok (.aload_n 2, 1) := fd_get adL_law_69 (k := 10) rfl
theorem dL_law_1853 : decode cL_law 1853 = .ok (.invokevirtual 302, 3) := fd_get adL_law_69 (k := 11) rfl
theorem dL_law_1856 : decode cL_law 1856 = .ok (.istore 6, 2) := fd_get adL_law_69 (k := 12) rfl
theorem dL_law_1858 : decode cL_law 1858 = .ok (.goto 726, 3) := fd_get adL_law_69 (k := 13) rfl
theorem dL_law_1861 : decode cL_law 1861 = .ok (.aload_n 1, 1) := fd_get adL_law_69 (k := 14) rfl
theorem dL_law_1862 : decode cL_law 1862 = .ok (.aload_n 0, 1) := fd_get adL_law_69 (k := 15) rfl
theorem dL_law_1863 : decode cL_law 1863 = .ok (.iload 4, 2) := fd_get adL_law_70 (k := 0) rfl
theorem dL_law_1865 : decode cL_law 1865 = .ok (.iconst 1, 1) := fd_get adL_law_70 (k := 1) rfl
theorem dL_law_1866 : decode cL_law 1866 = .ok (.iadd, 1) := fd_get adL_law_70 (k := 2) rfl
theorem dL_law_1867 : decode cL_law 1867 = .ok (.iaload, 1) := fd_get adL_law_70 (k := 3) rfl
theorem dL_law_1868 : decode cL_law 1868 = .ok (.aload_n 0, 1) := fd_get adL_law_70 (k := 4) rfl
theorem dL_law_1869 : decode cL_law 1869 = .ok (.iload 4, 2) := fd_get adL_law_70 (k := 5) rfl
theorem dL_law_1871 : decode cL_law 1871 = .ok (.iconst 2, 1) := fd_get adL_law_70 (k := 6) rfl
theorem dL_law_1872 : decode cL_law 1872 = .ok (.iadd, 1) := fd_get adL_law_70 (k := 7) rfl
theorem dL_law_1873 : decode cL_law 1873 = .ok (.iaload, 1) := fd_get adL_law_70 (k := 8) rfl
theorem dL_law_1874 : decode cL_law 1874 = .ok (.ifCond .eq 7, 3) := fd_get adL_law_70 (k := 9) rfl
theorem dL_law_1877 : decode cL_law 1877 = .ok (.iconst 1, 1) := fd_get adL_law_70 (k := 10) rfl
theorem dL_law_1878 : decode cL_law 1878 = .ok (.goto 4, 3) := fd_get adL_law_70 (k := 11) rfl
theorem dL_law_1881 : decode cL_law 1881 = .ok (.iconst 0, 1) := fd_get adL_law_70 (k := 12) rfl
theorem dL_law_1882 : decode cL_law 1882 = .ok (.aload_n 3, 1) := fd_get adL_law_70 (k := 13) rfl
theorem dL_law_1883 : decode cL_law 1883 = .ok (.invokestatic 303, 3) := fd_get adL_law_70 (k := 14) rfl
theorem dL_law_1886 : decode cL_law 1886 = .ok (.istore 5, 2) := fd_get adL_law_70 (k := 15) rfl
theorem dL_law_1888 : decode cL_law 1888 = .ok (.aload_n 2, 1) := fd_get adL_law_71 (k := 0) rfl
theorem dL_law_1889 : decode cL_law 1889 = .ok (.aload_n 0, 1) := fd_get adL_law_71 (k := 1) rfl
theorem dL_law_1890 : decode cL_law 1890 = .ok (.iload 4, 2) := fd_get adL_law_71 (k := 2) rfl
theorem dL_law_1892 : decode cL_law 1892 = .ok (.iconst 1, 1) := fd_get adL_law_71 (k := 3) rfl
theorem dL_law_1893 : decode cL_law 1893 = .ok (.iadd, 1) := fd_get adL_law_71 (k := 4) rfl
theorem dL_law_1894 : decode cL_law 1894 = .ok (.iaload, 1) := fd_get adL_law_71 (k := 5) rfl
theorem dL_law_1895 : decode cL_law 1895 = .ok (.aload_n 0, 1) := fd_get adL_law_71 (k := 6) rfl
theorem dL_law_1896 : decode cL_law 1896 = .ok (.iload 4, 2) := fd_get adL_law_71 (k := 7) rfl
theorem dL_law_1898 : decode cL_law 1898 = .ok (.iconst 2, 1) := fd_get adL_law_71 (k := 8) rfl
theorem dL_law_1899 : decode cL_law 1899 = .ok (.iadd, 1) := fd_get adL_law_71 (k := 9) rfl
theorem dL_law_1900 : decode cL_law 1900 = .ok (.iaload, 1) := fd_get adL_law_71 (k := 10) rfl
theorem dL_law_1901 : decode cL_law 1901 = .ok (.ifCond .eq 7, 3) := fd_get adL_law_71 (k := 11) rfl
theorem dL_law_1904 : decode cL_law 1904 = .ok (.iconst 1, 1) := fd_get adL_law_71 (k := 12) rfl
theorem dL_law_1905 : decode cL_law 1905 = .ok (.goto 4, 3) := fd_get adL_law_71 (k := 13) rfl
theorem dL_law_1908 : decode cL_law 1908 = .ok (.iconst 0, 1) := fd_get adL_law_71 (k := 14) rfl
theorem dL_law_1909 : decode cL_law 1909 = .ok (.invokevirtual 305, 3) := fd_get adL_law_71 (k := 15) rfl
theorem dL_law_1912 : decode cL_law 1912 = .ok (.istore 6, 2) := fd_get adL_law_72 (k := 0) rfl
theorem dL_law_1914 : decode cL_law 1914 = .ok (.goto 670, 3) := fd_get adL_law_72 (k := 1) rfl
theorem dL_law_1917 : decode cL_law 1917 = .ok (.aload_n 1, 1) := fd_get adL_law_72 (k := 2) rfl
theorem dL_law_1918 : decode cL_law 1918 = .ok (.aload_n 0, 1) := fd_get adL_law_72 (k := 3) rfl
theorem dL_law_1919 : decode cL_law 1919 = .ok (.iload 4, 2) := fd_get adL_law_72 (k := 4) rfl
theorem dL_law_1921 : decode cL_law 1921 = .ok (.iconst 1, 1) := fd_get adL_law_72 (k := 5) rfl
theorem dL_law_1922 : decode cL_law 1922 = .ok (.iadd, 1) := fd_get adL_law_72 (k := 6) rfl
theorem dL_law_1923 : decode cL_law 1923 = .ok (.iaload, 1) := fd_get adL_law_72 (k := 7) rfl
theorem dL_law_1924 : decode cL_law 1924 = .ok (.aload_n 3, 1) := fd_get adL_law_72 (k := 8) rfl
theorem dL_law_1925 : decode cL_law 1925 = .ok (.invokestatic 306, 3) := fd_get adL_law_72 (k := 9) rfl
theorem dL_law_1928 : decode cL_law 1928 = .ok (.istore 5, 2) := fd_get adL_law_72 (k := 10) rfl
theorem dL_law_1930 : decode cL_law 1930 = .ok (.aload_n 2, 1) := fd_get adL_law_72 (k := 11) rfl
theorem dL_law_1931 : decode cL_law 1931 = .ok (.aload_n 0, 1) := fd_get adL_law_72 (k := 12) rfl
theorem dL_law_1932 : decode cL_law 1932 = .ok (.iload 4, 2) := fd_get adL_law_72 (k := 13) rfl
theorem dL_law_1934 : decode cL_law 1934 = .ok (.iconst 1, 1) := fd_get adL_law_72 (k := 14) rfl
theorem dL_law_1935 : decode cL_law 1935 = .ok (.iadd, 1) := fd_get adL_law_72 (k := 15) rfl
theorem dL_law_1936 : decode cL_law 1936 = .ok (.iaload, 1) := fd_get adL_law_73 (k := 0) rfl
theorem dL_law_1937 : decode cL_law 1937 = .ok (.invokevirtual 308, 3) := fd_get adL_law_73 (k := 1) rfl
theorem dL_law_1940 : decode cL_law 1940 = .ok (.istore 6, 2) := fd_get adL_law_73 (k := 2) rfl
theorem dL_law_1942 : decode cL_law 1942 = .ok (.goto 642, 3) := fd_get adL_law_73 (k := 3) rfl
theorem dL_law_1945 : decode cL_law 1945 = .ok (.aload_n 1, 1) := fd_get adL_law_73 (k := 4) rfl
theorem dL_law_1946 : decode cL_law 1946 = .ok (.invokevirtual 309, 3) := fd_get adL_law_73 (k := 5) rfl
theorem dL_law_1949 : decode cL_law 1949 = .ok (.pop, 1) := fd_get adL_law_73 (k := 6) rfl
theorem dL_law_1950 : decode cL_law 1950 = .ok (.aload_n 2, 1) := fd_get adL_law_73 (k := 7) rfl
theorem dL_law_1951 : decode cL_law 1951 = .ok (.invokevirtual 312, 3) := fd_get adL_law_73 (k := 8) rfl
theorem dL_law_1954 : decode cL_law 1954 = .ok (.pop, 1) := fd_get adL_law_73 (k := 9) rfl
theorem dL_law_1955 : decode cL_law 1955 = .ok (.goto 629, 3) := fd_get adL_law_73 (k := 10) rfl
theorem dL_law_1958 : decode cL_law 1958 = .ok (.aload_n 1, 1) := fd_get adL_law_73 (k := 11) rfl
theorem dL_law_1959 : decode cL_law 1959 = .ok (.aload_n 0, 1) := fd_get adL_law_73 (k := 12) rfl
theorem dL_law_1960 : decode cL_law 1960 = .ok (.iload 4, 2) := fd_get adL_law_73 (k := 13) rfl
theorem dL_law_1962 : decode cL_law 1962 = .ok (.iconst 1, 1) := fd_get adL_law_73 (k := 14) rfl
theorem dL_law_1963 : decode cL_law 1963 = .ok (.iadd, 1) := fd_get adL_law_73 (k := 15) rfl
theorem dL_law_1964 : decode cL_law 1964 = .ok (.iaload, 1) := fd_get adL_law_74 (k := 0) rfl
theorem dL_law_1965 : decode cL_law 1965 = .ok (.aload_n 0, 1) := fd_get adL_law_74 (k := 1) rfl
theorem dL_law_1966 : decode cL_law 1966 = .ok (.iload 4, 2) := fd_get adL_law_74 (k := 2) rfl
theorem dL_law_1968 : decode cL_law 1968 = .ok (.iconst 2, 1) := fd_get adL_law_74 (k := 3) rfl
theorem dL_law_1969 : decode cL_law 1969 = .ok (.iadd, 1) := fd_get adL_law_74 (k := 4) rfl
theorem dL_law_1970 : decode cL_law 1970 = .ok (.iaload, 1) := fd_get adL_law_74 (k := 5) rfl
theorem dL_law_1971 : decode cL_law 1971 = .ok (.aload_n 3, 1) := fd_get adL_law_74 (k := 6) rfl
theorem dL_law_1972 : decode cL_law 1972 = .ok (.invokestatic 313, 3) := fd_get adL_law_74 (k := 7) rfl
theorem dL_law_1975 : decode cL_law 1975 = .ok (.istore 5, 2) := fd_get adL_law_74 (k := 8) rfl
theorem dL_law_1977 : decode cL_law 1977 = .ok (.aload_n 2, 1) := fd_get adL_law_74 (k := 9) rfl
theorem dL_law_1978 : decode cL_law 1978 = .ok (.aload_n 0, 1) := fd_get adL_law_74 (k := 10) rfl
theorem dL_law_1979 : decode cL_law 1979 = .ok (.iload 4, 2) := fd_get adL_law_74 (k := 11) rfl
theorem dL_law_1981 : decode cL_law 1981 = .ok (.iconst 1, 1) := fd_get adL_law_74 (k := 12) rfl
theorem dL_law_1982 : decode cL_law 1982 = .ok (.iadd, 1) := fd_get adL_law_74 (k := 13) rfl
theorem dL_law_1983 : decode cL_law 1983 = .ok (.iaload, 1) := fd_get adL_law_74 (k := 14) rfl
theorem dL_law_1984 : decode cL_law 1984 = .ok (.aload_n 0, 1) := fd_get adL_law_74 (k := 15) rfl
theorem dL_law_1985 : decode cL_law 1985 = .ok (.iload 4, 2) := fd_get adL_law_75 (k := 0) rfl
theorem dL_law_1987 : decode cL_law 1987 = .ok (.iconst 2, 1) := fd_get adL_law_75 (k := 1) rfl
theorem dL_law_1988 : decode cL_law 1988 = .ok (.iadd, 1) := fd_get adL_law_75 (k := 2) rfl
theorem dL_law_1989 : decode cL_law 1989 = .ok (.iaload, 1) := fd_get adL_law_75 (k := 3) rfl
theorem dL_law_1990 : decode cL_law 1990 = .ok (.invokevirtual 315, 3) := fd_get adL_law_75 (k := 4) rfl
theorem dL_law_1993 : decode cL_law 1993 = .ok (.istore 6, 2) := fd_get adL_law_75 (k := 5) rfl
theorem dL_law_1995 : decode cL_law 1995 = .ok (.goto 589, 3) := fd_get adL_law_75 (k := 6) rfl
theorem dL_law_1998 : decode cL_law 1998 = .ok (.aload_n 1, 1) := fd_get adL_law_75 (k := 7) rfl
theorem dL_law_1999 : decode cL_law 1999 = .ok (.aload_n 0, 1) := fd_get adL_law_75 (k := 8) rfl
theorem dL_law_2000 : decode cL_law 2000 = .ok (.iload 4, 2) := fd_get adL_law_75 (k := 9) rfl
theorem dL_law_2002 : decode cL_law 2002 = .ok (.iconst 1, 1) := fd_get adL_law_75 (k := 10) rfl
theorem dL_law_2003 : decode cL_law 2003 = .ok (.iadd, 1) := fd_get adL_law_75 (k := 11) rfl
theorem dL_law_2004 : decode cL_law 2004 = .ok (.iaload, 1) := fd_get adL_law_75 (k := 12) rfl
theorem dL_law_2005 : decode cL_law 2005 = .ok (.aload_n 0, 1) := fd_get adL_law_75 (k := 13) rfl
theorem dL_law_2006 : decode cL_law 2006 = .ok (.iload 4, 2) := fd_get adL_law_75 (k := 14) rfl
theorem dL_law_2008 : decode cL_law 2008 = .ok (.iconst 2, 1) := fd_get adL_law_75 (k := 15) rfl
theorem dL_law_2009 : decode cL_law 2009 = .ok (.iadd, 1) := fd_get adL_law_76 (k := 0) rfl
theorem dL_law_2010 : decode cL_law 2010 = .ok (.iaload, 1) := fd_get adL_law_76 (k := 1) rfl
theorem dL_law_2011 : decode cL_law 2011 = .ok (.aload_n 0, 1) := fd_get adL_law_76 (k := 2) rfl
theorem dL_law_2012 : decode cL_law 2012 = .ok (.iload 4, 2) := fd_get adL_law_76 (k := 3) rfl
theorem dL_law_2014 : decode cL_law 2014 = .ok (.iconst 3, 1) := fd_get adL_law_76 (k := 4) rfl
theorem dL_law_2015 : decode cL_law 2015 = .ok (.iadd, 1) := fd_get adL_law_76 (k := 5) rfl
theorem dL_law_2016 : decode cL_law 2016 = .ok (.iaload, 1) := fd_get adL_law_76 (k := 6) rfl
theorem dL_law_2017 : decode cL_law 2017 = .ok (.aload_n 3, 1) := fd_get adL_law_76 (k := 7) rfl
theorem dL_law_2018 : decode cL_law 2018 = .ok (.invokestatic 316, 3) := fd_get adL_law_76 (k := 8) rfl
theorem dL_law_2021 : decode cL_law 2021 = .ok (.istore 5, 2) := fd_get adL_law_76 (k := 9) rfl
theorem dL_law_2023 : decode cL_law 2023 = .ok (.aload_n 2, 1) := fd_get adL_law_76 (k := 10) rfl
theorem dL_law_2024 : decode cL_law 2024 = .ok (.aload_n 0, 1) := fd_get adL_law_76 (k := 11) rfl
theorem dL_law_2025 : decode cL_law 2025 = .ok (.iload 4, 2) := fd_get adL_law_76 (k := 12) rfl
theorem dL_law_2027 : decode cL_law 2027 = .ok (.iconst 1, 1) := fd_get adL_law_76 (k := 13) rfl
theorem dL_law_2028 : decode cL_law 2028 = .ok (.iadd, 1) := fd_get adL_law_76 (k := 14) rfl
theorem dL_law_2029 : decode cL_law 2029 = .ok (.iaload, 1) := fd_get adL_law_76 (k := 15) rfl
theorem dL_law_2030 : decode cL_law 2030 = .ok (.aload_n 0, 1) := fd_get adL_law_77 (k := 0) rfl
theorem dL_law_2031 : decode cL_law 2031 = .ok (.iload 4, 2) := fd_get adL_law_77 (k := 1) rfl
theorem dL_law_2033 : decode cL_law 2033 = .ok (.iconst 2, 1) := fd_get adL_law_77 (k := 2) rfl
theorem dL_law_2034 : decode cL_law 2034 = .ok (.iadd, 1) := fd_get adL_law_77 (k := 3) rfl
theorem dL_law_2035 : decode cL_law 2035 = .ok (.iaload, 1) := fd_get adL_law_77 (k := 4) rfl
theorem dL_law_2036 : decode cL_law 2036 = .ok (.aload_n 0, 1) := fd_get adL_law_77 (k := 5) rfl
theorem dL_law_2037 : decode cL_law 2037 = .ok (.iload 4, 2) := fd_get adL_law_77 (k := 6) rfl
theorem dL_law_2039 : decode cL_law 2039 = .ok (.iconst 3, 1) := fd_get adL_law_77 (k := 7) rfl
theorem dL_law_2040 : decode cL_law 2040 = .ok (.iadd, 1) := fd_get adL_law_77 (k := 8) rfl
theorem dL_law_2041 : decode cL_law 2041 = .ok (.iaload, 1) := fd_get adL_law_77 (k := 9) rfl
theorem dL_law_2042 : decode cL_law 2042 = .ok (.invokevirtual 318, 3) := fd_get adL_law_77 (k := 10) rfl
theorem dL_law_2045 : decode cL_law 2045 = .ok (.istore 6, 2) := fd_get adL_law_77 (k := 11) rfl
theorem dL_law_2047 : decode cL_law 2047 = .ok (.goto 537, 3) := fd_get adL_law_77 (k := 12) rfl
theorem dL_law_2050 : decode cL_law 2050 = .ok (.aload_n 1, 1) := fd_get adL_law_77 (k := 13) rfl
theorem dL_law_2051 : decode cL_law 2051 = .ok (.aload_n 0, 1) := fd_get adL_law_77 (k := 14) rfl
theorem dL_law_2052 : decode cL_law 2052 = .ok (.iload 4, 2) := fd_get adL_law_77 (k := 15) rfl
theorem dL_law_2054 : decode cL_law 2054 = .ok (.iconst 1, 1) := fd_get adL_law_78 (k := 0) rfl
theorem dL_law_2055 : decode cL_law 2055 = .ok (.iadd, 1) := fd_get adL_law_78 (k := 1) rfl
theorem dL_law_2056 : decode cL_law 2056 = .ok (.iaload, 1) := fd_get adL_law_78 (k := 2) rfl
theorem dL_law_2057 : decode cL_law 2057 = .ok (.aload_n 0, 1) := fd_get adL_law_78 (k := 3) rfl
theorem dL_law_2058 : decode cL_law 2058 = .ok (.iload 4, 2) := fd_get adL_law_78 (k := 4) rfl
theorem dL_law_2060 : decode cL_law 2060 = .ok (.iconst 2, 1) := fd_get adL_law_78 (k := 5) rfl
theorem dL_law_2061 : decode cL_law 2061 = .ok (.iadd, 1) := fd_get adL_law_78 (k := 6) rfl
theorem dL_law_2062 : decode cL_law 2062 = .ok (.iaload, 1) := fd_get adL_law_78 (k := 7) rfl
theorem dL_law_2063 : decode cL_law 2063 = .ok (.aload_n 3, 1) := fd_get adL_law_78 (k := 8) rfl
theorem dL_law_2064 : decode cL_law 2064 = .ok (.invokestatic 319, 3) := fd_get adL_law_78 (k := 9) rfl
theorem dL_law_2067 : decode cL_law 2067 = .ok (.istore 5, 2) := fd_get adL_law_78 (k := 10) rfl
theorem dL_law_2069 : decode cL_law 2069 = .ok (.aload_n 2, 1) := fd_get adL_law_78 (k := 11) rfl
theorem dL_law_2070 : decode cL_law 2070 = .ok (.aload_n 0, 1) := fd_get adL_law_78 (k := 12) rfl
theorem dL_law_2071 : decode cL_law 2071 = .ok (.iload 4, 2) := fd_get adL_law_78 (k := 13) rfl
theorem dL_law_2073 : decode cL_law 2073 = .ok (.iconst 1, 1) := fd_get adL_law_78 (k := 14) rfl
theorem dL_law_2074 : decode cL_law 2074 = .ok (.iadd, 1) := fd_get adL_law_78 (k := 15) rfl
theorem dL_law_2075 : decode cL_law 2075 = .ok (.iaload, 1) := fd_get adL_law_79 (k := 0) rfl
theorem dL_law_2076 : decode cL_law 2076 = .ok (.aload_n 0, 1) := fd_get adL_law_79 (k := 1) rfl
theorem dL_law_2077 : decode cL_law 2077 = .ok (.iload 4, 2) := fd_get adL_law_79 (k := 2) rfl
theorem dL_law_2079 : decode cL_law 2079 = .ok (.iconst 2, 1) := fd_get adL_law_79 (k := 3) rfl
theorem dL_law_2080 : decode cL_law 2080 = .ok (.iadd, 1) := fd_get adL_law_79 (k := 4) rfl
theorem dL_law_2081 : decode cL_law 2081 = .ok (.iaload, 1) := fd_get adL_law_79 (k := 5) rfl
theorem dL_law_2082 : decode cL_law 2082 = .ok (.invokevirtual 321, 3) := fd_get adL_law_79 (k := 6) rfl
theorem dL_law_2085 : decode cL_law 2085 = .ok (.istore 6, 2) := fd_get adL_law_79 (k := 7) rfl
theorem dL_law_2087 : decode cL_law 2087 = .ok (.goto 497, 3) := fd_get adL_law_79 (k := 8) rfl
theorem dL_law_2090 : decode cL_law 2090 = .ok (.aload_n 1, 1) := fd_get adL_law_79 (k := 9) rfl
theorem dL_law_2091 : decode cL_law 2091 = .ok (.aload_n 0, 1) := fd_get adL_law_79 (k := 10) rfl
theorem dL_law_2092 : decode cL_law 2092 = .ok (.iload 4, 2) := fd_get adL_law_79 (k := 11) rfl
theorem dL_law_2094 : decode cL_law 2094 = .ok (.iconst 1, 1) := fd_get adL_law_79 (k := 12) rfl
theorem dL_law_2095 : decode cL_law 2095 = .ok (.iadd, 1) := fd_get adL_law_79 (k := 13) rfl
theorem dL_law_2096 : decode cL_law 2096 = .ok (.iaload, 1) := fd_get adL_law_79 (k := 14) rfl
theorem dL_law_2097 : decode cL_law 2097 = .ok (.aload_n 0, 1) := fd_get adL_law_79 (k := 15) rfl
theorem dL_law_2098 : decode cL_law 2098 = .ok (.iload 4, 2) := fd_get adL_law_80 (k := 0) rfl
theorem dL_law_2100 : decode cL_law 2100 = .ok (.iconst 2, 1) := fd_get adL_law_80 (k := 1) rfl
theorem dL_law_2101 : decode cL_law 2101 = .ok (.iadd, 1) := fd_get adL_law_80 (k := 2) rfl
theorem dL_law_2102 : decode cL_law 2102 = .ok (.iaload, 1) := fd_get adL_law_80 (k := 3) rfl
theorem dL_law_2103 : decode cL_law 2103 = .ok (.aload_n 3, 1) := fd_get adL_law_80 (k := 4) rfl
theorem dL_law_2104 : decode cL_law 2104 = .ok (.invokestatic 322, 3) := fd_get adL_law_80 (k := 5) rfl
theorem dL_law_2107 : decode cL_law 2107 = .ok (.istore 5, 2) := fd_get adL_law_80 (k := 6) rfl
theorem dL_law_2109 : decode cL_law 2109 = .ok (.aload_n 2, 1) := fd_get adL_law_80 (k := 7) rfl
theorem dL_law_2110 : decode cL_law 2110 = .ok (.aload_n 0, 1) := fd_get adL_law_80 (k := 8) rfl
theorem dL_law_2111 : decode cL_law 2111 = .ok (.iload 4, 2) := fd_get adL_law_80 (k := 9) rfl
theorem dL_law_2113 : decode cL_law 2113 = .ok (.iconst 1, 1) := fd_get adL_law_80 (k := 10) rfl
theorem dL_law_2114 : decode cL_law 2114 = .ok (.iadd, 1) := fd_get adL_law_80 (k := 11) rfl
theorem dL_law_2115 : decode cL_law 2115 = .ok (.iaload, 1) := fd_get adL_law_80 (k := 12) rfl
theorem dL_law_2116 : decode cL_law 2116 = .ok (.aload_n 0, 1) := fd_get adL_law_80 (k := 13) rfl
theorem dL_law_2117 : decode cL_law 2117 = .ok (.iload 4, 2) := fd_get adL_law_80 (k := 14) rfl
theorem dL_law_2119 : decode cL_law 2119 = .ok (.iconst 2, 1) := fd_get adL_law_80 (k := 15) rfl
theorem dL_law_2120 : decode cL_law 2120 = .ok (.iadd, 1) := fd_get adL_law_81 (k := 0) rfl
theorem dL_law_2121 : decode cL_law 2121 = .ok (.iaload, 1) := fd_get adL_law_81 (k := 1) rfl
theorem dL_law_2122 : decode cL_law 2122 = .ok (.invokevirtual 324, 3) := fd_get adL_law_81 (k := 2) rfl
theorem dL_law_2125 : decode cL_law 2125 = .ok (.istore 6, 2) := fd_get adL_law_81 (k := 3) rfl
theorem dL_law_2127 : decode cL_law 2127 = .ok (.goto 457, 3) := fd_get adL_law_81 (k := 4) rfl
theorem dL_law_2130 : decode cL_law 2130 = .ok (.aload_n 1, 1) := fd_get adL_law_81 (k := 5) rfl
theorem dL_law_2131 : decode cL_law 2131 = .ok (.aload_n 0, 1) := fd_get adL_law_81 (k := 6) rfl
theorem dL_law_2132 : decode cL_law 2132 = .ok (.iload 4, 2) := fd_get adL_law_81 (k := 7) rfl
theorem dL_law_2134 : decode cL_law 2134 = .ok (.iconst 1, 1) := fd_get adL_law_81 (k := 8) rfl
theorem dL_law_2135 : decode cL_law 2135 = .ok (.iadd, 1) := fd_get adL_law_81 (k := 9) rfl
theorem dL_law_2136 : decode cL_law 2136 = .ok (.iaload, 1) := fd_get adL_law_81 (k := 10) rfl
theorem dL_law_2137 : decode cL_law 2137 = .ok (.aload_n 0, 1) := fd_get adL_law_81 (k := 11) rfl
theorem dL_law_2138 : decode cL_law 2138 = .ok (.iload 4, 2) := fd_get adL_law_81 (k := 12) rfl
theorem dL_law_2140 : decode cL_law 2140 = .ok (.iconst 2, 1) := fd_get adL_law_81 (k := 13) rfl
theorem dL_law_2141 : decode cL_law 2141 = .ok (.iadd, 1) := fd_get adL_law_81 (k := 14) rfl
theorem dL_law_2142 : decode cL_law 2142 = .ok (.iaload, 1) := fd_get adL_law_81 (k := 15) rfl
theorem dL_law_2143 : decode cL_law 2143 = .ok (.aload_n 3, 1) := fd_get adL_law_82 (k := 0) rfl
theorem dL_law_2144 : decode cL_law 2144 = .ok (.invokestatic 325, 3) := fd_get adL_law_82 (k := 1) rfl
theorem dL_law_2147 : decode cL_law 2147 = .ok (.istore 5, 2) := fd_get adL_law_82 (k := 2) rfl
theorem dL_law_2149 : decode cL_law 2149 = .ok (.aload_n 2, 1) := fd_get adL_law_82 (k := 3) rfl
theorem dL_law_2150 : decode cL_law 2150 = .ok (.aload_n 0, 1) := fd_get adL_law_82 (k := 4) rfl
theorem dL_law_2151 : decode cL_law 2151 = .ok (.iload 4, 2) := fd_get adL_law_82 (k := 5) rfl
theorem dL_law_2153 : decode cL_law 2153 = .ok (.iconst 1, 1) := fd_get adL_law_82 (k := 6) rfl
theorem dL_law_2154 : decode cL_law 2154 = .ok (.iadd, 1) := fd_get adL_law_82 (k := 7) rfl
theorem dL_law_2155 : decode cL_law 2155 = .ok (.iaload, 1) := fd_get adL_law_82 (k := 8) rfl
theorem dL_law_2156 : decode cL_law 2156 = .ok (.aload_n 0, 1) := fd_get adL_law_82 (k := 9) rfl
theorem dL_law_2157 : decode cL_law 2157 = .ok (.iload 4, 2) := fd_get adL_law_82 (k := 10) rfl
theorem dL_law_2159 : decode cL_law 2159 = .ok (.iconst 2, 1) := fd_get adL_law_82 (k := 11) rfl
theorem dL_law_2160 : decode cL_law 2160 = .ok (.iadd, 1) := fd_get adL_law_82 (k := 12) rfl
theorem dL_law_2161 : decode cL_law 2161 = .ok (.iaload, 1) := fd_get adL_law_82 (k := 13) rfl
theorem dL_law_2162 : decode cL_law 2162 = .ok (.invokevirtual 327, 3) := fd_get adL_law_82 (k := 14) rfl
theorem dL_law_2165 : decode cL_law 2165 = .ok (.istore 6, 2) := fd_get adL_law_82 (k := 15) rfl
theorem dL_law_2167 : decode cL_law 2167 = .ok (.goto 417, 3) := fd_get adL_law_83 (k := 0) rfl
theorem dL_law_2170 : decode cL_law 2170 = .ok (.aload_n 1, 1) := fd_get adL_law_83 (k := 1) rfl
theorem dL_law_2171 : decode cL_law 2171 = .ok (.aload_n 0, 1) := fd_get adL_law_83 (k := 2) rfl
theorem dL_law_2172 : decode cL_law 2172 = .ok (.iload 4, 2) := fd_get adL_law_83 (k := 3) rfl
theorem dL_law_2174 : decode cL_law 2174 = .ok (.iconst 1, 1) := fd_get adL_law_83 (k := 4) rfl
theorem dL_law_2175 : decode cL_law 2175 = .ok (.iadd, 1) := fd_get adL_law_83 (k := 5) rfl
theorem dL_law_2176 : decode cL_law 2176 = .ok (.iaload, 1) := fd_get adL_law_83 (k := 6) rfl
theorem dL_law_2177 : decode cL_law 2177 = .ok (.aload_n 0, 1) := fd_get adL_law_83 (k := 7) rfl
theorem dL_law_2178 : decode cL_law 2178 = .ok (.iload 4, 2) := fd_get adL_law_83 (k := 8) rfl
theorem dL_law_2180 : decode cL_law 2180 = .ok (.iconst 2, 1) := fd_get adL_law_83 (k := 9) rfl
theorem dL_law_2181 : decode cL_law 2181 = .ok (.iadd, 1) := fd_get adL_law_83 (k := 10) rfl
theorem dL_law_2182 : decode cL_law 2182 = .ok (.iaload, 1) := fd_get adL_law_83 (k := 11) rfl
theorem dL_law_2183 : decode cL_law 2183 = .ok (.aload_n 0, 1) := fd_get adL_law_83 (k := 12) rfl
theorem dL_law_2184 : decode cL_law 2184 = .ok (.iload 4, 2) := fd_get adL_law_83 (k := 13) rfl
theorem dL_law_2186 : decode cL_law 2186 = .ok (.iconst 3, 1) := fd_get adL_law_83 (k := 14) rfl
theorem dL_law_2187 : decode cL_law 2187 = .ok (.iadd, 1) := fd_get adL_law_83 (k := 15) rfl
theorem dL_law_2188 : decode cL_law 2188 = .ok (.iaload, 1) := fd_get adL_law_84 (k := 0) rfl
theorem dL_law_2189 : decode cL_law 2189 = .ok (.aload_n 3, 1) := fd_get adL_law_84 (k := 1) rfl
theorem dL_law_2190 : decode cL_law 2190 = .ok (.invokestatic 328, 3) := fd_get adL_law_84 (k := 2) rfl
theorem dL_law_2193 : decode cL_law 2193 = .ok (.istore 5, 2) := fd_get adL_law_84 (k := 3) rfl
theorem dL_law_2195 : decode cL_law 2195 = .ok (.aload_n 2, 1) := fd_get adL_law_84 (k := 4) rfl
theorem dL_law_2196 : decode cL_law 2196 = .ok (.aload_n 0, 1) := fd_get adL_law_84 (k := 5) rfl
theorem dL_law_2197 : decode cL_law 2197 = .ok (.iload 4, 2) := fd_get adL_law_84 (k := 6) rfl
theorem dL_law_2199 : decode cL_law 2199 = .ok (.iconst 1, 1) := fd_get adL_law_84 (k := 7) rfl
theorem dL_law_2200 : decode cL_law 2200 = .ok (.iadd, 1) := fd_get adL_law_84 (k := 8) rfl
theorem dL_law_2201 : decode cL_law 2201 = .ok (.iaload, 1) := fd_get adL_law_84 (k := 9) rfl
theorem dL_law_2202 : decode cL_law 2202 = .ok (.aload_n 0, 1) := fd_get adL_law_84 (k := 10) rfl
theorem dL_law_2203 : decode cL_law 2203 = .ok (.iload 4, 2) := fd_get adL_law_84 (k := 11) rfl
theorem dL_law_2205 : decode cL_law 2205 = .ok (.iconst 2, 1) := fd_get adL_law_84 (k := 12) rfl
theorem dL_law_2206 : decode cL_law 2206 = .ok (.iadd, 1) := fd_get adL_law_84 (k := 13) rfl
theorem dL_law_2207 : decode cL_law 2207 = .ok (.iaload, 1) := fd_get adL_law_84 (k := 14) rfl
theorem dL_law_2208 : decode cL_law 2208 = .ok (.aload_n 0, 1) := fd_get adL_law_84 (k := 15) rfl
theorem dL_law_2209 : decode cL_law 2209 = .ok (.iload 4, 2) := fd_get adL_law_85 (k := 0) rfl
theorem dL_law_2211 : decode cL_law 2211 = .ok (.iconst 3, 1) := fd_get adL_law_85 (k := 1) rfl
theorem dL_law_2212 : decode cL_law 2212 = .ok (.iadd, 1) := fd_get adL_law_85 (k := 2) rfl
theorem dL_law_2213 : decode cL_law 2213 = .ok (.iaload, 1) := fd_get adL_law_85 (k := 3) rfl
theorem dL_law_2214 : decode cL_law 2214 = .ok (.invokevirtual 330, 3) := fd_get adL_law_85 (k := 4) rfl
theorem dL_law_2217 : decode cL_law 2217 = .ok (.istore 6, 2) := fd_get adL_law_85 (k := 5) rfl
theorem dL_law_2219 : decode cL_law 2219 = .ok (.goto 365, 3) := fd_get adL_law_85 (k := 6) rfl
theorem dL_law_2222 : decode cL_law 2222 = .ok (.aload_n 1, 1) := fd_get adL_law_85 (k := 7) rfl
theorem dL_law_2223 : decode cL_law 2223 = .ok (.aload_n 0, 1) := fd_get adL_law_85 (k := 8) rfl
theorem dL_law_2224 : decode cL_law 2224 = .ok (.iload 4, 2) := fd_get adL_law_85 (k := 9) rfl
theorem dL_law_2226 : decode cL_law 2226 = .ok (.iconst 1, 1) := fd_get adL_law_85 (k := 10) rfl
theorem dL_law_2227 : decode cL_law 2227 = .ok (.iadd, 1) := fd_get adL_law_85 (k := 11) rfl
theorem dL_law_2228 : decode cL_law 2228 = .ok (.iaload, 1) := fd_get adL_law_85 (k := 12) rfl
theorem dL_law_2229 : decode cL_law 2229 = .ok (.aload_n 0, 1) := fd_get adL_law_85 (k := 13) rfl
theorem dL_law_2230 : decode cL_law 2230 = .ok (.iload 4, 2) := fd_get adL_law_85 (k := 14) rfl
theorem dL_law_2232 : decode cL_law 2232 = .ok (.iconst 2, 1) := fd_get adL_law_85 (k := 15) rfl
theorem dL_law_2233 : decode cL_law 2233 = .ok (.iadd, 1) := fd_get adL_law_86 (k := 0) rfl
theorem dL_law_2234 : decode cL_law 2234 = .ok (.iaload, 1) := fd_get adL_law_86 (k := 1) rfl
theorem dL_law_2235 : decode cL_law 2235 = .ok (.aload_n 3, 1) := fd_get adL_law_86 (k := 2) rfl
theorem dL_law_2236 : decode cL_law 2236 = .ok (.invokestatic 331, 3) := fd_get adL_law_86 (k := 3) rfl
theorem dL_law_2239 : decode cL_law 2239 = .ok (.istore 5, 2) := fd_get adL_law_86 (k := 4) rfl
theorem dL_law_2241 : decode cL_law 2241 = .ok (.aload_n 2, 1) := fd_get adL_law_86 (k := 5) rfl
theorem dL_law_2242 : decode cL_law 2242 = .ok (.aload_n 0, 1) := fd_get adL_law_86 (k := 6) rfl
theorem dL_law_2243 : decode cL_law 2243 = .ok (.iload 4, 2) := fd_get adL_law_86 (k := 7) rfl
theorem dL_law_2245 : decode cL_law 2245 = .ok (.iconst 1, 1) := fd_get adL_law_86 (k := 8) rfl
theorem dL_law_2246 : decode cL_law 2246 = .ok (.iadd, 1) := fd_get adL_law_86 (k := 9) rfl
theorem dL_law_2247 : decode cL_law 2247 = .ok (.iaload, 1) := fd_get adL_law_86 (k := 10) rfl
theorem dL_law_2248 : decode cL_law 2248 = .ok (.aload_n 0, 1) := fd_get adL_law_86 (k := 11) rfl
theorem dL_law_2249 : decode cL_law 2249 = .ok (.iload 4, 2) := fd_get adL_law_86 (k := 12) rfl
theorem dL_law_2251 : decode cL_law 2251 = .ok (.iconst 2, 1) := fd_get adL_law_86 (k := 13) rfl
theorem dL_law_2252 : decode cL_law 2252 = .ok (.iadd, 1) := fd_get adL_law_86 (k := 14) rfl
theorem dL_law_2253 : decode cL_law 2253 = .ok (.iaload, 1) := fd_get adL_law_86 (k := 15) rfl
theorem dL_law_2254 : decode cL_law 2254 = .ok (.invokevirtual 333, 3) := fd_get adL_law_87 (k := 0) rfl
theorem dL_law_2257 : decode cL_law 2257 = .ok (.istore 6, 2) := fd_get adL_law_87 (k := 1) rfl
theorem dL_law_2259 : decode cL_law 2259 = .ok (.goto 325, 3) := fd_get adL_law_87 (k := 2) rfl
theorem dL_law_2262 : decode cL_law 2262 = .ok (.aload_n 1, 1) := fd_get adL_law_87 (k := 3) rfl
theorem dL_law_2263 : decode cL_law 2263 = .ok (.aload_n 0, 1) := fd_get adL_law_87 (k := 4) rfl
theorem dL_law_2264 : decode cL_law 2264 = .ok (.iload 4, 2) := fd_get adL_law_87 (k := 5) rfl
theorem dL_law_2266 : decode cL_law 2266 = .ok (.iconst 1, 1) := fd_get adL_law_87 (k := 6) rfl
theorem dL_law_2267 : decode cL_law 2267 = .ok (.iadd, 1) := fd_get adL_law_87 (k := 7) rfl
theorem dL_law_2268 : decode cL_law 2268 = .ok (.iaload, 1) := fd_get adL_law_87 (k := 8) rfl
theorem dL_law_2269 : decode cL_law 2269 = .ok (.aload_n 0, 1) := fd_get adL_law_87 (k := 9) rfl
theorem dL_law_2270 : decode cL_law 2270 = .ok (.iload 4, 2) := fd_get adL_law_87 (k := 10) rfl
theorem dL_law_2272 : decode cL_law 2272 = .ok (.iconst 2, 1) := fd_get adL_law_87 (k := 11) rfl
theorem dL_law_2273 : decode cL_law 2273 = .ok (.iadd, 1) := fd_get adL_law_87 (k := 12) rfl
theorem dL_law_2274 : decode cL_law 2274 = .ok (.iaload, 1) := fd_get adL_law_87 (k := 13) rfl
theorem dL_law_2275 : decode cL_law 2275 = .ok (.aload_n 3, 1) := fd_get adL_law_87 (k := 14) rfl
theorem dL_law_2276 : decode cL_law 2276 = .ok (.invokestatic 334, 3) := fd_get adL_law_87 (k := 15) rfl
theorem dL_law_2279 : decode cL_law 2279 = .ok (.istore 5, 2) := fd_get adL_law_88 (k := 0) rfl
theorem dL_law_2281 : decode cL_law 2281 = .ok (.aload_n 2, 1) := fd_get adL_law_88 (k := 1) rfl
theorem dL_law_2282 : decode cL_law 2282 = .ok (.aload_n 0, 1) := fd_get adL_law_88 (k := 2) rfl
theorem dL_law_2283 : decode cL_law 2283 = .ok (.iload 4, 2) := fd_get adL_law_88 (k := 3) rfl
theorem dL_law_2285 : decode cL_law 2285 = .ok (.iconst 1, 1) := fd_get adL_law_88 (k := 4) rfl
theorem dL_law_2286 : decode cL_law 2286 = .ok (.iadd, 1) := fd_get adL_law_88 (k := 5) rfl
theorem dL_law_2287 : decode cL_law 2287 = .ok (.iaload, 1) := fd_get adL_law_88 (k := 6) rfl
theorem dL_law_2288 : decode cL_law 2288 = .ok (.aload_n 0, 1) := fd_get adL_law_88 (k := 7) rfl
theorem dL_law_2289 : decode cL_law 2289 = .ok (.iload 4, 2) := fd_get adL_law_88 (k := 8) rfl
theorem dL_law_2291 : decode cL_law 2291 = .ok (.iconst 2, 1) := fd_get adL_law_88 (k := 9) rfl
theorem dL_law_2292 : decode cL_law 2292 = .ok (.iadd, 1) := fd_get adL_law_88 (k := 10) rfl
theorem dL_law_2293 : decode cL_law 2293 = .ok (.iaload, 1) := fd_get adL_law_88 (k := 11) rfl
theorem dL_law_2294 : decode cL_law 2294 = .ok (.invokevirtual 336, 3) := fd_get adL_law_88 (k := 12) rfl
theorem dL_law_2297 : decode cL_law 2297 = .ok (.istore 6, 2) := fd_get adL_law_88 (k := 13) rfl
theorem dL_law_2299 : decode cL_law 2299 = .ok (.goto 285, 3) := fd_get adL_law_88 (k := 14) rfl
theorem dL_law_2302 : decode cL_law 2302 = .ok (.aload_n 1, 1) := fd_get adL_law_88 (k := 15) rfl
theorem dL_law_2303 : decode cL_law 2303 = .ok (.aload_n 0, 1) := fd_get adL_law_89 (k := 0) rfl
theorem dL_law_2304 : decode cL_law 2304 = .ok (.iload 4, 2) := fd_get adL_law_89 (k := 1) rfl
theorem dL_law_2306 : decode cL_law 2306 = .ok (.iconst 1, 1) := fd_get adL_law_89 (k := 2) rfl
theorem dL_law_2307 : decode cL_law 2307 = .ok (.iadd, 1) := fd_get adL_law_89 (k := 3) rfl
theorem dL_law_2308 : decode cL_law 2308 = .ok (.iaload, 1) := fd_get adL_law_89 (k := 4) rfl
theorem dL_law_2309 : decode cL_law 2309 = .ok (.aload_n 3, 1) := fd_get adL_law_89 (k := 5) rfl
theorem dL_law_2310 : decode cL_law 2310 = .ok (.invokestatic 337, 3) := fd_get adL_law_89 (k := 6) rfl
theorem dL_law_2313 : decode cL_law 2313 = .ok (.istore 5, 2) := fd_get adL_law_89 (k := 7) rfl
theorem dL_law_2315 : decode cL_law 2315 = .ok (.aload_n 2, 1) := fd_get adL_law_89 (k := 8) rfl
theorem dL_law_2316 : decode cL_law 2316 = .ok (.aload_n 0, 1) := fd_get adL_law_89 (k := 9) rfl
theorem dL_law_2317 : decode cL_law 2317 = .ok (.iload 4, 2) := fd_get adL_law_89 (k := 10) rfl
theorem dL_law_2319 : decode cL_law 2319 = .ok (.iconst 1, 1) := fd_get adL_law_89 (k := 11) rfl
theorem dL_law_2320 : decode cL_law 2320 = .ok (.iadd, 1) := fd_get adL_law_89 (k := 12) rfl
theorem dL_law_2321 : decode cL_law 2321 = .ok (.iaload, 1) := fd_get adL_law_89 (k := 13) rfl
theorem dL_law_2322 : decode cL_law 2322 = .ok (.invokevirtual 339, 3) := fd_get adL_law_89 (k := 14) rfl
theorem dL_law_2325 : decode cL_law 2325 = .ok (.astore 6, 2) := fd_get adL_law_89 (k := 15) rfl
theorem dL_law_2327 : decode cL_law 2327 = .ok (.goto 257, 3) := fd_get adL_law_90 (k := 0) rfl
theorem dL_law_2330 : decode cL_law 2330 = .ok (.aload_n 1, 1) := fd_get adL_law_90 (k := 1) rfl
theorem dL_law_2331 : decode cL_law 2331 = .ok (.aload_n 0, 1) := fd_get adL_law_90 (k := 2) rfl
theorem dL_law_2332 : decode cL_law 2332 = .ok (.iload 4, 2) := fd_get adL_law_90 (k := 3) rfl
theorem dL_law_2334 : decode cL_law 2334 = .ok (.iconst 1, 1) := fd_get adL_law_90 (k := 4) rfl
theorem dL_law_2335 : decode cL_law 2335 = .ok (.iadd, 1) := fd_get adL_law_90 (k := 5) rfl
theorem dL_law_2336 : decode cL_law 2336 = .ok (.iaload, 1) := fd_get adL_law_90 (k := 6) rfl
theorem dL_law_2337 : decode cL_law 2337 = .ok (.aload_n 0, 1) := fd_get adL_law_90 (k := 7) rfl
theorem dL_law_2338 : decode cL_law 2338 = .ok (.iload 4, 2) := fd_get adL_law_90 (k := 8) rfl
theorem dL_law_2340 : decode cL_law 2340 = .ok (.iconst 2, 1) := fd_get adL_law_90 (k := 9) rfl
theorem dL_law_2341 : decode cL_law 2341 = .ok (.iadd, 1) := fd_get adL_law_90 (k := 10) rfl
theorem dL_law_2342 : decode cL_law 2342 = .ok (.iaload, 1) := fd_get adL_law_90 (k := 11) rfl
theorem dL_law_2343 : decode cL_law 2343 = .ok (.aload_n 3, 1) := fd_get adL_law_90 (k := 12) rfl
theorem dL_law_2344 : decode cL_law 2344 = .ok (.invokestatic 340, 3) := fd_get adL_law_90 (k := 13) rfl
theorem dL_law_2347 : decode cL_law 2347 = .ok (.istore 5, 2) := fd_get adL_law_90 (k := 14) rfl
theorem dL_law_2349 : decode cL_law 2349 = .ok (.aload_n 2, 1) := fd_get adL_law_90 (k := 15) rfl
theorem dL_law_2350 : decode cL_law 2350 = .ok (.aload_n 0, 1) := fd_get adL_law_91 (k := 0) rfl
theorem dL_law_2351 : decode cL_law 2351 = .ok (.iload 4, 2) := fd_get adL_law_91 (k := 1) rfl
theorem dL_law_2353 : decode cL_law 2353 = .ok (.iconst 1, 1) := fd_get adL_law_91 (k := 2) rfl
theorem dL_law_2354 : decode cL_law 2354 = .ok (.iadd, 1) := fd_get adL_law_91 (k := 3) rfl
theorem dL_law_2355 : decode cL_law 2355 = .ok (.iaload, 1) := fd_get adL_law_91 (k := 4) rfl
theorem dL_law_2356 : decode cL_law 2356 = .ok (.aload_n 0, 1) := fd_get adL_law_91 (k := 5) rfl
theorem dL_law_2357 : decode cL_law 2357 = .ok (.iload 4, 2) := fd_get adL_law_91 (k := 6) rfl
theorem dL_law_2359 : decode cL_law 2359 = .ok (.iconst 2, 1) := fd_get adL_law_91 (k := 7) rfl
theorem dL_law_2360 : decode cL_law 2360 = .ok (.iadd, 1) := fd_get adL_law_91 (k := 8) rfl
theorem dL_law_2361 : decode cL_law 2361 = .ok (.iaload, 1) := fd_get adL_law_91 (k := 9) rfl
theorem dL_law_2362 : decode cL_law 2362 = .ok (.invokevirtual 342, 3) := fd_get adL_law_91 (k := 10) rfl
theorem dL_law_2365 : decode cL_law 2365 = .ok (.istore 6, 2) := fd_get adL_law_91 (k := 11) rfl
theorem dL_law_2367 : decode cL_law 2367 = .ok (.goto 217, 3) := fd_get adL_law_91 (k := 12) rfl
theorem dL_law_2370 : decode cL_law 2370 = .ok (.aload_n 1, 1) := fd_get adL_law_91 (k := 13) rfl
theorem dL_law_2371 : decode cL_law 2371 = .ok (.aload_n 0, 1) := fd_get adL_law_91 (k := 14) rfl
theorem dL_law_2372 : decode cL_law 2372 = .ok (.iload 4, 2) := fd_get adL_law_91 (k := 15) rfl
theorem dL_law_2374 : decode cL_law 2374 = .ok (.iconst 1, 1) := fd_get adL_law_92 (k := 0) rfl
theorem dL_law_2375 : decode cL_law 2375 = .ok (.iadd, 1) := fd_get adL_law_92 (k := 1) rfl
theorem dL_law_2376 : decode cL_law 2376 = .ok (.iaload, 1) := fd_get adL_law_92 (k := 2) rfl
theorem dL_law_2377 : decode cL_law 2377 = .ok (.aload_n 0, 1) := fd_get adL_law_92 (k := 3) rfl
theorem dL_law_2378 : decode cL_law 2378 = .ok (.iload 4, 2) := fd_get adL_law_92 (k := 4) rfl
theorem dL_law_2380 : decode cL_law 2380 = .ok (.iconst 2, 1) := fd_get adL_law_92 (k := 5) rfl
theorem dL_law_2381 : decode cL_law 2381 = .ok (.iadd, 1) := fd_get adL_law_92 (k := 6) rfl
theorem dL_law_2382 : decode cL_law 2382 = .ok (.iaload, 1) := fd_get adL_law_92 (k := 7) rfl
theorem dL_law_2383 : decode cL_law 2383 = .ok (.aload_n 3, 1) := fd_get adL_law_92 (k := 8) rfl
theorem dL_law_2384 : decode cL_law 2384 = .ok (.invokestatic 343, 3) := fd_get adL_law_92 (k := 9) rfl
theorem dL_law_2387 : decode cL_law 2387 = .ok (.istore 5, 2) := fd_get adL_law_92 (k := 10) rfl
theorem dL_law_2389 : decode cL_law 2389 = .ok (.aload_n 2, 1) := fd_get adL_law_92 (k := 11) rfl
theorem dL_law_2390 : decode cL_law 2390 = .ok (.aload_n 0, 1) := fd_get adL_law_92 (k := 12) rfl
theorem dL_law_2391 : decode cL_law 2391 = .ok (.iload 4, 2) := fd_get adL_law_92 (k := 13) rfl
theorem dL_law_2393 : decode cL_law 2393 = .ok (.iconst 1, 1) := fd_get adL_law_92 (k := 14) rfl
theorem dL_law_2394 : decode cL_law 2394 = .ok (.iadd, 1) := fd_get adL_law_92 (k := 15) rfl
theorem dL_law_2395 : decode cL_law 2395 = .ok (.iaload, 1) := fd_get adL_law_93 (k := 0) rfl
theorem dL_law_2396 : decode cL_law 2396 = .ok (.aload_n 0, 1) := fd_get adL_law_93 (k := 1) rfl
theorem dL_law_2397 : decode cL_law 2397 = .ok (.iload 4, 2) := fd_get adL_law_93 (k := 2) rfl
theorem dL_law_2399 : decode cL_law 2399 = .ok (.iconst 2, 1) := fd_get adL_law_93 (k := 3) rfl
theorem dL_law_2400 : decode cL_law 2400 = .ok (.iadd, 1) := fd_get adL_law_93 (k := 4) rfl
theorem dL_law_2401 : decode cL_law 2401 = .ok (.iaload, 1) := fd_get adL_law_93 (k := 5) rfl
theorem dL_law_2402 : decode cL_law 2402 = .ok (.invokevirtual 345, 3) := fd_get adL_law_93 (k := 6) rfl
theorem dL_law_2405 : decode cL_law 2405 = .ok (.istore 6, 2) := fd_get adL_law_93 (k := 7) rfl
theorem dL_law_2407 : decode cL_law 2407 = .ok (.goto 177, 3) := fd_get adL_law_93 (k := 8) rfl
theorem dL_law_2410 : decode cL_law 2410 = .ok (.aload_n 1, 1) := fd_get adL_law_93 (k := 9) rfl
theorem dL_law_2411 : decode cL_law 2411 = .ok (.aload_n 0, 1) := fd_get adL_law_93 (k := 10) rfl
theorem dL_law_2412 : decode cL_law 2412 = .ok (.iload 4, 2) := fd_get adL_law_93 (k := 11) rfl
theorem dL_law_2414 : decode cL_law 2414 = .ok (.iconst 1, 1) := fd_get adL_law_93 (k := 12) rfl
theorem dL_law_2415 : decode cL_law 2415 = .ok (.iadd, 1) := fd_get adL_law_93 (k := 13) rfl
theorem dL_law_2416 : decode cL_law 2416 = .ok (.iaload, 1) := fd_get adL_law_93 (k := 14) rfl
theorem dL_law_2417 : decode cL_law 2417 = .ok (.aload_n 0, 1) := fd_get adL_law_93 (k := 15) rfl
theorem dL_law_2418 : decode cL_law 2418 = .ok (.iload 4, 2) := fd_get adL_law_94 (k := 0) rfl
theorem dL_law_2420 : decode cL_law 2420 = .ok (.iconst 2, 1) := fd_get adL_law_94 (k := 1) rfl
theorem dL_law_2421 : decode cL_law 2421 = .ok (.iadd, 1) := fd_get adL_law_94 (k := 2) rfl
theorem dL_law_2422 : decode cL_law 2422 = .ok (.iaload, 1) := fd_get adL_law_94 (k := 3) rfl
theorem dL_law_2423 : decode cL_law 2423 = .ok (.aload_n 3, 1) := fd_get adL_law_94 (k := 4) rfl
theorem dL_law_2424 : decode cL_law 2424 = .ok (.invokestatic 346, 3) := fd_get adL_law_94 (k := 5) rfl
theorem dL_law_2427 : decode cL_law 2427 = .ok (.istore 5, 2) := fd_get adL_law_94 (k := 6) rfl
theorem dL_law_2429 : decode cL_law 2429 = .ok (.aload_n 2, 1) := fd_get adL_law_94 (k := 7) rfl
theorem dL_law_2430 : decode cL_law 2430 = .ok (.aload_n 0, 1) := fd_get adL_law_94 (k := 8) rfl
theorem dL_law_2431 : decode cL_law 2431 = .ok (.iload 4, 2) := fd_get adL_law_94 (k := 9) rfl
theorem dL_law_2433 : decode cL_law 2433 = .ok (.iconst 1, 1) := fd_get adL_law_94 (k := 10) rfl
theorem dL_law_2434 : decode cL_law 2434 = .ok (.iadd, 1) := fd_get adL_law_94 (k := 11) rfl
theorem dL_law_2435 : decode cL_law 2435 = .ok (.iaload, 1) := fd_get adL_law_94 (k := 12) rfl
theorem dL_law_2436 : decode cL_law 2436 = .ok (.aload_n 0, 1) := fd_get adL_law_94 (k := 13) rfl
theorem dL_law_2437 : decode cL_law 2437 = .ok (.iload 4, 2) := fd_get adL_law_94 (k := 14) rfl
theorem dL_law_2439 : decode cL_law 2439 = .ok (.iconst 2, 1) := fd_get adL_law_94 (k := 15) rfl
theorem dL_law_2440 : decode cL_law 2440 = .ok (.iadd, 1) := fd_get adL_law_95 (k := 0) rfl
theorem dL_law_2441 : decode cL_law 2441 = .ok (.iaload, 1) := fd_get adL_law_95 (k := 1) rfl
theorem dL_law_2442 : decode cL_law 2442 = .ok (.invokevirtual 348, 3) := fd_get adL_law_95 (k := 2) rfl
theorem dL_law_2445 : decode cL_law 2445 = .ok (.istore 6, 2) := fd_get adL_law_95 (k := 3) rfl
theorem dL_law_2447 : decode cL_law 2447 = .ok (.goto 137, 3) := fd_get adL_law_95 (k := 4) rfl
theorem dL_law_2450 : decode cL_law 2450 = .ok (.aload_n 1, 1) := fd_get adL_law_95 (k := 5) rfl
theorem dL_law_2451 : decode cL_law 2451 = .ok (.aload_n 0, 1) := fd_get adL_law_95 (k := 6) rfl
theorem dL_law_2452 : decode cL_law 2452 = .ok (.iload 4, 2) := fd_get adL_law_95 (k := 7) rfl
theorem dL_law_2454 : decode cL_law 2454 = .ok (.iconst 1, 1) := fd_get adL_law_95 (k := 8) rfl
theorem dL_law_2455 : decode cL_law 2455 = .ok (.iadd, 1) := fd_get adL_law_95 (k := 9) rfl
theorem dL_law_2456 : decode cL_law 2456 = .ok (.iaload, 1) := fd_get adL_law_95 (k := 10) rfl
theorem dL_law_2457 : decode cL_law 2457 = .ok (.aload_n 0, 1) := fd_get adL_law_95 (k := 11) rfl
theorem dL_law_2458 : decode cL_law 2458 = .ok (.iload 4, 2) := fd_get adL_law_95 (k := 12) rfl
theorem dL_law_2460 : decode cL_law 2460 = .ok (.iconst 2, 1) := fd_get adL_law_95 (k := 13) rfl
theorem dL_law_2461 : decode cL_law 2461 = .ok (.iadd, 1) := fd_get adL_law_95 (k := 14) rfl
theorem dL_law_2462 : decode cL_law 2462 = .ok (.iaload, 1) := fd_get adL_law_95 (k := 15) rfl
theorem dL_law_2463 : decode cL_law 2463 = .ok (.aload_n 0, 1) := fd_get adL_law_96 (k := 0) rfl
theorem dL_law_2464 : decode cL_law 2464 = .ok (.iload 4, 2) := fd_get adL_law_96 (k := 1) rfl
theorem dL_law_2466 : decode cL_law 2466 = .ok (.iconst 3, 1) := fd_get adL_law_96 (k := 2) rfl
theorem dL_law_2467 : decode cL_law 2467 = .ok (.iadd, 1) := fd_get adL_law_96 (k := 3) rfl
theorem dL_law_2468 : decode cL_law 2468 = .ok (.iaload, 1) := fd_get adL_law_96 (k := 4) rfl
theorem dL_law_2469 : decode cL_law 2469 = .ok (.aload_n 3, 1) := fd_get adL_law_96 (k := 5) rfl
theorem dL_law_2470 : decode cL_law 2470 = .ok (.invokestatic 349, 3) := fd_get adL_law_96 (k := 6) rfl
theorem dL_law_2473 : decode cL_law 2473 = .ok (.istore 5, 2) := fd_get adL_law_96 (k := 7) rfl
theorem dL_law_2475 : decode cL_law 2475 = .ok (.aload_n 2, 1) := fd_get adL_law_96 (k := 8) rfl
theorem dL_law_2476 : decode cL_law 2476 = .ok (.aload_n 0, 1) := fd_get adL_law_96 (k := 9) rfl
theorem dL_law_2477 : decode cL_law 2477 = .ok (.iload 4, 2) := fd_get adL_law_96 (k := 10) rfl
theorem dL_law_2479 : decode cL_law 2479 = .ok (.iconst 1, 1) := fd_get adL_law_96 (k := 11) rfl
theorem dL_law_2480 : decode cL_law 2480 = .ok (.iadd, 1) := fd_get adL_law_96 (k := 12) rfl
theorem dL_law_2481 : decode cL_law 2481 = .ok (.iaload, 1) := fd_get adL_law_96 (k := 13) rfl
theorem dL_law_2482 : decode cL_law 2482 = .ok (.aload_n 0, 1) := fd_get adL_law_96 (k := 14) rfl
theorem dL_law_2483 : decode cL_law 2483 = .ok (.iload 4, 2) := fd_get adL_law_96 (k := 15) rfl
theorem dL_law_2485 : decode cL_law 2485 = .ok (.iconst 2, 1) := fd_get adL_law_97 (k := 0) rfl
theorem dL_law_2486 : decode cL_law 2486 = .ok (.iadd, 1) := fd_get adL_law_97 (k := 1) rfl
theorem dL_law_2487 : decode cL_law 2487 = .ok (.iaload, 1) := fd_get adL_law_97 (k := 2) rfl
theorem dL_law_2488 : decode cL_law 2488 = .ok (.aload_n 0, 1) := fd_get adL_law_97 (k := 3) rfl
theorem dL_law_2489 : decode cL_law 2489 = .ok (.iload 4, 2) := fd_get adL_law_97 (k := 4) rfl
theorem dL_law_2491 : decode cL_law 2491 = .ok (.iconst 3, 1) := fd_get adL_law_97 (k := 5) rfl
theorem dL_law_2492 : decode cL_law 2492 = .ok (.iadd, 1) := fd_get adL_law_97 (k := 6) rfl
theorem dL_law_2493 : decode cL_law 2493 = .ok (.iaload, 1) := fd_get adL_law_97 (k := 7) rfl
theorem dL_law_2494 : decode cL_law 2494 = .ok (.invokevirtual 351, 3) := fd_get adL_law_97 (k := 8) rfl
theorem dL_law_2497 : decode cL_law 2497 = .ok (.istore 6, 2) := fd_get adL_law_97 (k := 9) rfl
theorem dL_law_2499 : decode cL_law 2499 = .ok (.goto 85, 3) := fd_get adL_law_97 (k := 10) rfl
theorem dL_law_2502 : decode cL_law 2502 = .ok (.aload_n 1, 1) := fd_get adL_law_97 (k := 11) rfl
theorem dL_law_2503 : decode cL_law 2503 = .ok (.aload_n 0, 1) := fd_get adL_law_97 (k := 12) rfl
theorem dL_law_2504 : decode cL_law 2504 = .ok (.iload 4, 2) := fd_get adL_law_97 (k := 13) rfl
theorem dL_law_2506 : decode cL_law 2506 = .ok (.iconst 1, 1) := fd_get adL_law_97 (k := 14) rfl
theorem dL_law_2507 : decode cL_law 2507 = .ok (.iadd, 1) := fd_get adL_law_97 (k := 15) rfl
theorem dL_law_2508 : decode cL_law 2508 = .ok (.iaload, 1) := fd_get adL_law_98 (k := 0) rfl
theorem dL_law_2509 : decode cL_law 2509 = .ok (.aload_n 3, 1) := fd_get adL_law_98 (k := 1) rfl
theorem dL_law_2510 : decode cL_law 2510 = .ok (.invokestatic 352, 3) := fd_get adL_law_98 (k := 2) rfl
theorem dL_law_2513 : decode cL_law 2513 = .ok (.istore 5, 2) := fd_get adL_law_98 (k := 3) rfl
theorem dL_law_2515 : decode cL_law 2515 = .ok (.aload_n 2, 1) := fd_get adL_law_98 (k := 4) rfl
theorem dL_law_2516 : decode cL_law 2516 = .ok (.aload_n 0, 1) := fd_get adL_law_98 (k := 5) rfl
theorem dL_law_2517 : decode cL_law 2517 = .ok (.iload 4, 2) := fd_get adL_law_98 (k := 6) rfl
theorem dL_law_2519 : decode cL_law 2519 = .ok (.iconst 1, 1) := fd_get adL_law_98 (k := 7) rfl
theorem dL_law_2520 : decode cL_law 2520 = .ok (.iadd, 1) := fd_get adL_law_98 (k := 8) rfl
theorem dL_law_2521 : decode cL_law 2521 = .ok (.iaload, 1) := fd_get adL_law_98 (k := 9) rfl
theorem dL_law_2522 : decode cL_law 2522 = .ok (.invokevirtual 354, 3) := fd_get adL_law_98 (k := 10) rfl
theorem dL_law_2525 : decode cL_law 2525 = .ok (.astore 6, 2) := fd_get adL_law_98 (k := 11) rfl
theorem dL_law_2527 : decode cL_law 2527 = .ok (.goto 57, 3) := fd_get adL_law_98 (k := 12) rfl
theorem dL_law_2530 : decode cL_law 2530 = .ok (.aload_n 1, 1) := fd_get adL_law_98 (k := 13) rfl
theorem dL_law_2531 : decode cL_law 2531 = .ok (.aload_n 0, 1) := fd_get adL_law_98 (k := 14) rfl
theorem dL_law_2532 : decode cL_law 2532 = .ok (.iload 4, 2) := fd_get adL_law_98 (k := 15) rfl
theorem dL_law_2534 : decode cL_law 2534 = .ok (.iconst 1, 1) := fd_get adL_law_99 (k := 0) rfl
theorem dL_law_2535 : decode cL_law 2535 = .ok (.iadd, 1) := fd_get adL_law_99 (k := 1) rfl
theorem dL_law_2536 : decode cL_law 2536 = .ok (.iaload, 1) := fd_get adL_law_99 (k := 2) rfl
theorem dL_law_2537 : decode cL_law 2537 = .ok (.aload_n 3, 1) := fd_get adL_law_99 (k := 3) rfl
theorem dL_law_2538 : decode cL_law 2538 = .ok (.invokestatic 355, 3) := fd_get adL_law_99 (k := 4) rfl
theorem dL_law_2541 : decode cL_law 2541 = .ok (.istore 5, 2) := fd_get adL_law_99 (k := 5) rfl
theorem dL_law_2543 : decode cL_law 2543 = .ok (.aload_n 2, 1) := fd_get adL_law_99 (k := 6) rfl
theorem dL_law_2544 : decode cL_law 2544 = .ok (.aload_n 0, 1) := fd_get adL_law_99 (k := 7) rfl
theorem dL_law_2545 : decode cL_law 2545 = .ok (.iload 4, 2) := fd_get adL_law_99 (k := 8) rfl
theorem dL_law_2547 : decode cL_law 2547 = .ok (.iconst 1, 1) := fd_get adL_law_99 (k := 9) rfl
theorem dL_law_2548 : decode cL_law 2548 = .ok (.iadd, 1) := fd_get adL_law_99 (k := 10) rfl
theorem dL_law_2549 : decode cL_law 2549 = .ok (.iaload, 1) := fd_get adL_law_99 (k := 11) rfl
theorem dL_law_2550 : decode cL_law 2550 = .ok (.invokevirtual 357, 3) := fd_get adL_law_99 (k := 12) rfl
theorem dL_law_2553 : decode cL_law 2553 = .ok (.istore 6, 2) := fd_get adL_law_99 (k := 13) rfl
theorem dL_law_2555 : decode cL_law 2555 = .ok (.goto 29, 3) := fd_get adL_law_99 (k := 14) rfl
theorem dL_law_2558 : decode cL_law 2558 = .ok (.aload_n 1, 1) := fd_get adL_law_99 (k := 15) rfl
theorem dL_law_2559 : decode cL_law 2559 = .ok (.invokevirtual 358, 3) := fd_get adL_law_100 (k := 0) rfl
theorem dL_law_2562 : decode cL_law 2562 = .ok (.pop, 1) := fd_get adL_law_100 (k := 1) rfl
theorem dL_law_2563 : decode cL_law 2563 = .ok (.aload_n 2, 1) := fd_get adL_law_100 (k := 2) rfl
theorem dL_law_2564 : decode cL_law 2564 = .ok (.invokevirtual 362, 3) := fd_get adL_law_100 (k := 3) rfl
theorem dL_law_2567 : decode cL_law 2567 = .ok (.pop, 1) := fd_get adL_law_100 (k := 4) rfl
theorem dL_law_2568 : decode cL_law 2568 = .ok (.goto 16, 3) := fd_get adL_law_100 (k := 5) rfl
theorem dL_law_2571 : decode cL_law 2571 = .ok (.aload_n 1, 1) := fd_get adL_law_100 (k := 6) rfl
theorem dL_law_2572 : decode cL_law 2572 = .ok (.invokevirtual 363, 3) := fd_get adL_law_100 (k := 7) rfl
theorem dL_law_2575 : decode cL_law 2575 = .ok (.pop2, 1) := fd_get adL_law_100 (k := 8) rfl
theorem dL_law_2576 : decode cL_law 2576 = .ok (.aload_n 2, 1) := fd_get adL_law_100 (k := 9) rfl
theorem dL_law_2577 : decode cL_law 2577 = .ok (.invokevirtual 367, 3) := fd_get adL_law_100 (k := 10) rfl
theorem dL_law_2580 : decode cL_law 2580 = .ok (.pop2, 1) := fd_get adL_law_100 (k := 11) rfl
theorem dL_law_2581 : decode cL_law 2581 = .ok (.goto 3, 3) := fd_get adL_law_100 (k := 12) rfl
theorem dL_law_2584 : decode cL_law 2584 = .ok (.iinc 4 6, 3) := fd_get adL_law_100 (k := 13) rfl
theorem dL_law_2587 : decode cL_law 2587 = .ok (.goto (-2560), 3) := fd_get adL_law_100 (k := 14) rfl
theorem dL_law_2590 : decode cL_law 2590 = .ok (.iconst 1, 1) := fd_get adL_law_100 (k := 15) rfl
theorem dL_law_2591 : decode cL_law 2591 = .ok (.ireturn, 1) := fd_get adL_law_101 (k := 0) rfl
