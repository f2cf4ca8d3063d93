def tb_X10_init : List (Nat × Instr × Nat) := [(0, .aload_n 0, 1), (1, .invokespecial 1, 3), (4, .aload_n 0, 1), (5, .sipush 700, 3), (8, .newarray .int, 2), (10, .putfield 7, 3), (13, .aload_n 0, 1), (14, .bipush 126, 2), (16, .newarray .int, 2), (18, .dup, 1), (19, .iconst 0, 1), (20, .bipush 99, 2), (22, .iastore, 1), (23, .dup, 1), (24, .iconst 1, 1), (25, .bipush 108, 2), (27, .iastore, 1), (28, .dup, 1), (29, .iconst 2, 1), (30, .bipush 97, 2), (32, .iastore, 1), (33, .dup, 1), (34, .iconst 3, 1), (35, .bipush 105, 2), (37, .iastore, 1), (38, .dup, 1), (39, .iconst 4, 1), (40, .bipush 109, 2), (42, .iastore, 1), (43, .dup, 1), (44, .iconst 5, 1), (45, .bipush 32, 2), (47, .iastore, 1), (48, .dup, 1), (49, .bipush 6, 2), (51, .bipush 99, 2), (53, .iastore, 1), (54, .dup, 1), (55, .bipush 7, 2), (57, .bipush 111, 2), (59, .iastore, 1), (60, .dup, 1), (61, .bipush 8, 2), (63, .bipush 110, 2), (65, .iastore, 1), (66, .dup, 1), (67, .bipush 9, 2), (69, .bipush 116, 2), (71, .iastore, 1), (72, .dup, 1), (73, .bipush 10, 2), (75, .bipush 114, 2), (77, .iastore, 1), (78, .dup, 1), (79, .bipush 11, 2), (81, .bipush 97, 2), (83, .iastore, 1), (84, .dup, 1), (85, .bipush 12, 2), (87, .bipush 32, 2), (89, .iastore, 1), (90, .dup, 1), (91, .bipush 13, 2), (93, .bipush 115, 2), (95, .iastore, 1), (96, .dup, 1), (97, .bipush 14, 2), (99, .bipush 116, 2), (101, .iastore, 1), (102, .dup, 1), (103, .bipush 15, 2), (105, .bipush 114, 2), (107, .iastore, 1), (108, .dup, 1), (109, .bipush 16, 2), (111, .bipush 97, 2), (113, .iastore, 1), (114, .dup, 1), (115, .bipush 17, 2), (117, .bipush 119, 2), (119, .iastore, 1), (120, .dup, 1), (121, .bipush 18, 2), (123, .bipush 32, 2), (125, .iastore, 1), (126, .dup, 1), (127, .bipush 19, 2), (129, .bipush 109, 2), (131, .iastore, 1), (132, .dup, 1), (133, .bipush 20, 2), (135, .bipush 101, 2), (137, .iastore, 1), (138, .dup, 1), (139, .bipush 21, 2), (141, .bipush 109, 2), (143, .iastore, 1), (144, .dup, 1), (145, .bipush 22, 2), (147, .bipush 98, 2), (149, .iastore, 1), (150, .dup, 1), (151, .bipush 23, 2), (153, .bipush 101, 2), (155, .iastore, 1), (156, .dup, 1), (157, .bipush 24, 2), (159, .bipush 114, 2), (161, .iastore, 1), (162, .dup, 1), (163, .bipush 25, 2), (165, .bipush 32, 2), (167, .iastore, 1), (168, .dup, 1), (169, .bipush 26, 2), (171, .bipush 104, 2), (173, .iastore, 1), (174, .dup, 1), (175, .bipush 27, 2), (177, .bipush 111, 2), (179, .iastore, 1), (180, .dup, 1), (181, .bipush 28, 2), (183, .bipush 108, 2), (185, .iastore, 1), (186, .dup, 1), (187, .bipush 29, 2), (189, .bipush 100, 2), (191, .iastore, 1), (192, .dup, 1), (193, .bipush 30, 2), (195, .bipush 115, 2), (197, .iastore, 1), (198, .dup, 1), (199, .bipush 31, 2), (201, .bipush 32, 2), (203, .iastore, 1), (204, .dup, 1), (205, .bipush 32, 2), (207, .bipush 100, 2), (209, .iastore, 1), (210, .dup, 1), (211, .bipush 33, 2), (213, .bipush 101, 2), (215, .iastore, 1), (216, .dup, 1), (217, .bipush 34, 2), (219, .bipush 98, 2), (221, .iastore, 1), (222, .dup, 1), (223, .bipush 35, 2), (225, .bipush 97, 2), (227, .iastore, 1), (228, .dup, 1), (229, .bipush 36, 2), (231, .bipush 116, 2), (233, .iastore, 1), (234, .dup, 1), (235, .bipush 37, 2), (237, .bipush 101, 2), (239, .iastore, 1), (240, .dup, 1), (241, .bipush 38, 2), (243, .bipush 32, 2), (245, .iastore, 1), (246, .dup, 1), (247, .bipush 39, 2), (249, .bipush 115, 2), (251, .iastore, 1), (252, .dup, 1), (253, .bipush 40, 2), (255, .bipush 116, 2), (257, .iastore, 1), (258, .dup, 1), (259, .bipush 41, 2), (261, .bipush 117, 2), (263, .iastore, 1), (264, .dup, 1), (265, .bipush 42, 2), (267, .bipush 102, 2), (269, .iastore, 1), (270, .dup, 1), (271, .bipush 43, 2), (273, .bipush 102, 2), (275, .iastore, 1), (276, .dup, 1), (277, .bipush 44, 2), (279, .bipush 32, 2), (281, .iastore, 1), (282, .dup, 1), (283, .bipush 45, 2), (285, .bipush 100, 2), (287, .iastore, 1), (288, .dup, 1), (289, .bipush 46, 2), (291, .bipush 97, 2), (293, .iastore, 1), (294, .dup, 1), (295, .bipush 47, 2), (297, .bipush 109, 2), (299, .iastore, 1), (300, .dup, 1), (301, .bipush 48, 2), (303, .bipush 112, 2), (305, .iastore, 1), (306, .dup, 1), (307, .bipush 49, 2), (309, .bipush 32, 2), (311, .iastore, 1), (312, .dup, 1), (313, .bipush 50, 2), (315, .bipush 115, 2), (317, .iastore, 1), (318, .dup, 1), (319, .bipush 51, 2), (321, .bipush 101, 2), (323, .iastore, 1), (324, .dup, 1), (325, .bipush 52, 2), (327, .bipush 101, 2), (329, .iastore, 1), (330, .dup, 1), (331, .bipush 53, 2), (333, .bipush 100, 2), (335, .iastore, 1), (336, .dup, 1), (337, .bipush 54, 2), (339, .bipush 32, 2), (341, .iastore, 1), (342, .dup, 1), (343, .bipush 55, 2), (345, .bipush 108, 2), (347, .iastore, 1), (348, .dup, 1), (349, .bipush 56, 2), (351, .bipush 97, 2), (353, .iastore, 1), (354, .dup, 1), (355, .bipush 57, 2), (357, .bipush 119, 2), (359, .iastore, 1), (360, .dup, 1), (361, .bipush 58, 2), (363, .bipush 32, 2), (365, .iastore, 1), (366, .dup, 1), (367, .bipush 59, 2), (369, .bipush 108, 2), (371, .iastore, 1), (372, .dup, 1), (373, .bipush 60, 2), (375, .bipush 101, 2), (377, .iastore, 1), (378, .dup, 1), (379, .bipush 61, 2), (381, .bipush 97, 2), (383, .iastore, 1), (384, .dup, 1), (385, .bipush 62, 2), (387, .bipush 110, 2), (389, .iastore, 1), (390, .dup, 1), (391, .bipush 63, 2), (393, .bipush 32, 2), (395, .iastore, 1), (396, .dup, 1), (397, .bipush 64, 2), (399, .bipush 119, 2), (401, .iastore, 1), (402, .dup, 1), (403, .bipush 65, 2), (405, .bipush 101, 2), (407, .iastore, 1), (408, .dup, 1), (409, .bipush 66, 2), (411, .bipush 97, 2), (413, .iastore, 1), (414, .dup, 1), (415, .bipush 67, 2), (417, .bipush 114, 2), (419, .iastore, 1), (420, .dup, 1), (421, .bipush 68, 2), (423, .bipush 32, 2), (425, .iastore, 1), (426, .dup, 1), (427, .bipush 69, 2), (429, .bipush 116, 2), (431, .iastore, 1), (432, .dup, 1), (433, .bipush 70, 2), (435, .bipush 117, 2), (437, .iastore, 1), (438, .dup, 1), (439, .bipush 71, 2), (441, .bipush 114, 2), (443, .iastore, 1), (444, .dup, 1), (445, .bipush 72, 2), (447, .bipush 110, 2), (449, .iastore, 1), (450, .dup, 1), (451, .bipush 73, 2), (453, .bipush 32, 2), (455, .iastore, 1), (456, .dup, 1), (457, .bipush 74, 2), (459, .bipush 97, 2), (461, .iastore, 1), (462, .dup, 1), (463, .bipush 75, 2), (465, .bipush 110, 2), (467, .iastore, 1), (468, .dup, 1), (469, .bipush 76, 2), (471, .bipush 100, 2), (473, .iastore, 1), (474, .dup, 1), (475, .bipush 77, 2), (477, .bipush 32, 2), (479, .iastore, 1), (480, .dup, 1), (481, .bipush 78, 2), (483, .bipush 111, 2), (485, .iastore, 1), (486, .dup, 1), (487, .bipush 79, 2), (489, .bipush 114, 2), (491, .iastore, 1), (492, .dup, 1), (493, .bipush 80, 2), (495, .bipush 32, 2), (497, .iastore, 1), (498, .dup, 1), (499, .bipush 81, 2), (501, .bipush 110, 2), (503, .iastore, 1), (504, .dup, 1), (505, .bipush 82, 2), (507, .bipush 111, 2), (509, .iastore, 1), (510, .dup, 1), (511, .bipush 83, 2), (513, .bipush 116, 2), (515, .iastore, 1), (516, .dup, 1), (517, .bipush 84, 2), (519, .bipush 32, 2), (521, .iastore, 1), (522, .dup, 1), (523, .bipush 85, 2), (525, .bipush 119, 2), (527, .iastore, 1), (528, .dup, 1), (529, .bipush 86, 2), (531, .bipush 101, 2), (533, .iastore, 1), (534, .dup, 1), (535, .bipush 87, 2), (537, .bipush 105, 2), (539, .iastore, 1), (540, .dup, 1), (541, .bipush 88, 2), (543, .bipush 103, 2), (545, .iastore, 1), (546, .dup, 1), (547, .bipush 89, 2), (549, .bipush 104, 2), (551, .iastore, 1), (552, .dup, 1), (553, .bipush 90, 2), (555, .bipush 116, 2), (557, .iastore, 1), (558, .dup, 1), (559, .bipush 91, 2), (561, .bipush 32, 2), (563, .iastore, 1), (564, .dup, 1), (565, .bipush 92, 2), (567, .bipush 116, 2), (569, .iastore, 1), (570, .dup, 1), (571, .bipush 93, 2), (573, .bipush 101, 2), (575, .iastore, 1), (576, .dup, 1), (577, .bipush 94, 2), (579, .bipush 109, 2), (581, .iastore, 1), (582, .dup, 1), (583, .bipush 95, 2), (585, .bipush 112, 2), (587, .iastore, 1), (588, .dup, 1), (589, .bipush 96, 2), (591, .bipush 101, 2), (593, .iastore, 1), (594, .dup, 1), (595, .bipush 97, 2), (597, .bipush 114, 2), (599, .iastore, 1), (600, .dup, 1), (601, .bipush 98, 2), (603, .bipush 32, 2), (605, .iastore, 1), (606, .dup, 1), (607, .bipush 99, 2), (609, .bipush 102, 2), (611, .iastore, 1), (612, .dup, 1), (613, .bipush 100, 2), (615, .bipush 117, 2), (617, .iastore, 1), (618, .dup, 1), (619, .bipush 101, 2), (621, .bipush 108, 2), (623, .iastore, 1), (624, .dup, 1), (625, .bipush 102, 2), (627, .bipush 108, 2), (629, .iastore, 1), (630, .dup, 1), (631, .bipush 103, 2), (633, .bipush 32, 2), (635, .iastore, 1), (636, .dup, 1), (637, .bipush 104, 2), (639, .bipush 102, 2), (641, .iastore, 1), (642, .dup, 1), (643, .bipush 105, 2), (645, .bipush 111, 2), (647, .iastore, 1), (648, .dup, 1), (649, .bipush 106, 2), (651, .bipush 114, 2), (653, .iastore, 1), (654, .dup, 1), (655, .bipush 107, 2), (657, .bipush 99, 2), (659, .iastore, 1), (660, .dup, 1), (661, .bipush 108, 2), (663, .bipush 101, 2), (665, .iastore, 1), (666, .dup, 1), (667, .bipush 109, 2), (669, .bipush 32, 2), (671, .iastore, 1), (672, .dup, 1), (673, .bipush 110, 2), (675, .bipush 119, 2), (677, .iastore, 1), (678, .dup, 1), (679, .bipush 111, 2), (681, .bipush 105, 2), (683, .iastore, 1), (684, .dup, 1), (685, .bipush 112, 2), (687, .bipush 110, 2), (689, .iastore, 1), (690, .dup, 1), (691, .bipush 113, 2), (693, .bipush 115, 2), (695, .iastore, 1), (696, .dup, 1), (697, .bipush 114, 2), (699, .bipush 32, 2), (701, .iastore, 1), (702, .dup, 1), (703, .bipush 115, 2), (705, .bipush 104, 2), (707, .iastore, 1), (708, .dup, 1), (709, .bipush 116, 2), (711, .bipush 101, 2), (713, .iastore, 1), (714, .dup, 1), (715, .bipush 117, 2), (717, .bipush 108, 2), (719, .iastore, 1), (720, .dup, 1), (721, .bipush 118, 2), (723, .bipush 100, 2), (725, .iastore, 1), (726, .dup, 1), (727, .bipush 119, 2), (729, .bipush 32, 2), (731, .iastore, 1), (732, .dup, 1), (733, .bipush 120, 2), (735, .bipush 110, 2), (737, .iastore, 1), (738, .dup, 1), (739, .bipush 121, 2), (741, .bipush 105, 2), (743, .iastore, 1), (744, .dup, 1), (745, .bipush 122, 2), (747, .bipush 103, 2), (749, .iastore, 1), (750, .dup, 1), (751, .bipush 123, 2), (753, .bipush 104, 2), (755, .iastore, 1), (756, .dup, 1), (757, .bipush 124, 2), (759, .bipush 116, 2), (761, .iastore, 1), (762, .dup, 1), (763, .bipush 125, 2), (765, .bipush 32, 2), (767, .iastore, 1), (768, .putfield 13, 3), (771, .aload_n 0, 1), (772, .iconst (-1), 1), (773, .putfield 16, 3), (776, .aload_n 0, 1), (777, .iconst 2, 1), (778, .newarray .boolean, 2), (780, .putfield 20, 3), (783, .aload_n 0, 1), (784, .iconst 4, 1), (785, .newarray .int, 2), (787, .putfield 24, 3), (790, .aload_n 0, 1), (791, .bipush 16, 2), (793, .newarray .int, 2), (795, .putfield 27, 3), (798, .aload_n 0, 1), (799, .bipush 16, 2), (801, .newarray .int, 2), (803, .putfield 30, 3), (806, .aload_n 0, 1), (807, .bipush 16, 2), (809, .newarray .int, 2), (811, .putfield 33, 3), (814, .aload_n 0, 1), (815, .bipush 32, 2), (817, .newarray .int, 2), (819, .putfield 36, 3), (822, .aload_n 0, 1), (823, .bipush 32, 2), (825, .newarray .int, 2), (827, .putfield 39, 3), (830, .aload_n 0, 1), (831, .bipush 10, 2), (833, .newarray .int, 2), (835, .putfield 42, 3), (838, .aload_n 0, 1), (839, .bipush 10, 2), (841, .newarray .int, 2), (843, .putfield 45, 3), (846, .aload_n 0, 1), (847, .bipush 10, 2), (849, .newarray .int, 2), (851, .putfield 48, 3), (854, .aload_n 0, 1), (855, .bipush 10, 2), (857, .newarray .int, 2), (859, .putfield 51, 3), (862, .aload_n 0, 1), (863, .bipush 10, 2), (865, .newarray .int, 2), (867, .putfield 54, 3), (870, .aload_n 0, 1), (871, .bipush 24, 2), (873, .newarray .int, 2), (875, .putfield 57, 3), (878, .aload_n 0, 1), (879, .bipush 24, 2), (881, .newarray .int, 2), (883, .putfield 60, 3), (886, .aload_n 0, 1), (887, .bipush 24, 2), (889, .newarray .int, 2), (891, .putfield 63, 3), (894, .aload_n 0, 1), (895, .bipush 12, 2), (897, .newarray .int, 2), (899, .putfield 66, 3), (902, .aload_n 0, 1), (903, .bipush 12, 2), (905, .newarray .int, 2), (907, .putfield 69, 3), (910, .aload_n 0, 1), (911, .bipush 6, 2), (913, .newarray .boolean, 2), (915, .putfield 72, 3), (918, .aload_n 0, 1), (919, .bipush 6, 2), (921, .newarray .int, 2), (923, .putfield 75, 3), (926, .aload_n 0, 1), (927, .bipush 6, 2), (929, .newarray .int, 2), (931, .putfield 78, 3), (934, .aload_n 0, 1), (935, .sipush 128, 3), (938, .newarray .int, 2), (940, .putfield 81, 3), (943, .aload_n 0, 1), (944, .sipush 128, 3), (947, .newarray .int, 2), (949, .putfield 84, 3), (952, .aload_n 0, 1), (953, .sipush 128, 3), (956, .newarray .int, 2), (958, .putfield 87, 3), (961, .aload_n 0, 1), (962, .bipush 96, 2), (964, .newarray .int, 2), (966, .putfield 90, 3), (969, .aload_n 0, 1), (970, .bipush 96, 2), (972, .newarray .int, 2), (974, .putfield 93, 3), (977, .aload_n 0, 1), (978, .bipush 7, 2), (980, .newarray .long, 2), (982, .putfield 96, 3), (985, .aload_n 0, 1), (986, .bipush 64, 2), (988, .newarray .long, 2), (990, .putfield 100, 3), (993, .aload_n 0, 1), (994, .bipush 10, 2), (996, .newarray .int, 2), (998, .putfield 103, 3), (1001, .aload_n 0, 1), (1002, .bipush 10, 2), (1004, .newarray .boolean, 2), (1006, .putfield 106, 3), (1009, .aload_n 0, 1), (1010, .bipush 10, 2), (1012, .newarray .int, 2), (1014, .putfield 109, 3), (1017, .aload_n 0, 1), (1018, .bipush 10, 2), (1020, .newarray .int, 2), (1022, .putfield 112, 3), (1025, .aload_n 0, 1), (1026, .bipush 10, 2), (1028, .newarray .int, 2), (1030, .putfield 115, 3), (1033, .aload_n 0, 1), (1034, .iconst 2, 1), (1035, .newarray .int, 2), (1037, .putfield 118, 3), (1040, .aload_n 0, 1), (1041, .iconst 2, 1), (1042, .newarray .int, 2), (1044, .putfield 121, 3), (1047, .aload_n 0, 1), (1048, .sipush 2048, 3), (1051, .newarray .boolean, 2), (1053, .putfield 124, 3), (1056, .aload_n 0, 1), (1057, .iconst 2, 1), (1058, .newarray .int, 2), (1060, .putfield 127, 3), (1063, .aload_n 0, 1), (1064, .iconst 5, 1), (1065, .newarray .int, 2), (1067, .putfield 130, 3), (1070, .aload_n 0, 1), (1071, .iconst (-1), 1), (1072, .putfield 133, 3), (1075, .aload_n 0, 1), (1076, .bipush 96, 2), (1078, .newarray .int, 2), (1080, .putfield 136, 3), (1083, .aload_n 0, 1), (1084, .bipush 24, 2), (1086, .newarray .boolean, 2), (1088, .putfield 139, 3), (1091, .aload_n 0, 1), (1092, .sipush 400, 3), (1095, .newarray .int, 2), (1097, .putfield 142, 3), (1100, .aload_n 0, 1), (1101, .bipush 20, 2), (1103, .newarray .int, 2), (1105, .putfield 145, 3), (1108, .aload_n 0, 1), (1109, .iconst 5, 1), (1110, .newarray .boolean, 2), (1112, .putfield 148, 3), (1115, .aload_n 0, 1), (1116, .invokevirtual 151, 3), (1119, .aload_n 0, 1), (1120, .invokevirtual 154, 3), (1123, .return_, 1)]
theorem dt_X10_init : dOk cX10_init tb_X10_init = true := by decide +kernel
def fX10_init_107 (h : Hp) : Option Hp := if stB (uR (uR (uR (uR (uR (uI (uR (uR (uR (uR (uR (uR (uR (uR (uR (uR (uR (uR (uR (uR (uR (uR (uR (uR (uR (uR (uR (uR (uR (uR (uR (uR (uR (uR (uR (uR (uR (uR (uR (uR (uR (uR (uR (uI (uR (uI (uI (uI (uI (uI (uI (uI (uI (uI (uI (uI (uI (uI (uI (uI (uI (uI (uI (uI (uI (uI (uI (uI (uI (uI (uI (uI (uI (uI (uI (uI (uI (uI (uI (uI (uI (uI (uI (uI (uI (uI (uI (uI (uI (uI (uI (uI (uI (uI (uI (uI (uI (uI (uI (uI (uI (uI (uI (uI (uI (uI (uI (uI (uI (uI (uI (uI (uI (uI (uI (uI (uI (uI (uI (uI (uI (uI (uI (uI (uI (uI (uI (uI (uI (uI (uI (uI (uI (uI (uI (uI (uI (uI (uI (uI (uI (uI (uI (uI (uI (uI (uI (uI (uI (uI (uI (uI (uI (uI (uI (uI (uI (uI (uI (uI (uI (uI (uI (uI (uI (uI (uI (uI (uI (uI (uI (uR h 107 0 (some 108)) 109 (Int32.toNatClampNeg (0 : Int32)) (99 : Int32)) 109 (Int32.toNatClampNeg (1 : Int32)) (108 : Int32)) 109 (Int32.toNatClampNeg (2 : Int32)) (97 : Int32)) 109 (Int32.toNatClampNeg (3 : Int32)) (105 : Int32)) 109 (Int32.toNatClampNeg (4 : Int32)) (109 : Int32)) 109 (Int32.toNatClampNeg (5 : Int32)) (32 : Int32)) 109 (Int32.toNatClampNeg (6 : Int32)) (99 : Int32)) 109 (Int32.toNatClampNeg (7 : Int32)) (111 : Int32)) 109 (Int32.toNatClampNeg (8 : Int32)) (110 : Int32)) 109 (Int32.toNatClampNeg (9 : Int32)) (116 : Int32)) 109 (Int32.toNatClampNeg (10 : Int32)) (114 : Int32)) 109 (Int32.toNatClampNeg (11 : Int32)) (97 : Int32)) 109 (Int32.toNatClampNeg (12 : Int32)) (32 : Int32)) 109 (Int32.toNatClampNeg (13 : Int32)) (115 : Int32)) 109 (Int32.toNatClampNeg (14 : Int32)) (116 : Int32)) 109 (Int32.toNatClampNeg (15 : Int32)) (114 : Int32)) 109 (Int32.toNatClampNeg (16 : Int32)) (97 : Int32)) 109 (Int32.toNatClampNeg (17 : Int32)) (119 : Int32)) 109 (Int32.toNatClampNeg (18 : Int32)) (32 : Int32)) 109 (Int32.toNatClampNeg (19 : Int32)) (109 : Int32)) 109 (Int32.toNatClampNeg (20 : Int32)) (101 : Int32)) 109 (Int32.toNatClampNeg (21 : Int32)) (109 : Int32)) 109 (Int32.toNatClampNeg (22 : Int32)) (98 : Int32)) 109 (Int32.toNatClampNeg (23 : Int32)) (101 : Int32)) 109 (Int32.toNatClampNeg (24 : Int32)) (114 : Int32)) 109 (Int32.toNatClampNeg (25 : Int32)) (32 : Int32)) 109 (Int32.toNatClampNeg (26 : Int32)) (104 : Int32)) 109 (Int32.toNatClampNeg (27 : Int32)) (111 : Int32)) 109 (Int32.toNatClampNeg (28 : Int32)) (108 : Int32)) 109 (Int32.toNatClampNeg (29 : Int32)) (100 : Int32)) 109 (Int32.toNatClampNeg (30 : Int32)) (115 : Int32)) 109 (Int32.toNatClampNeg (31 : Int32)) (32 : Int32)) 109 (Int32.toNatClampNeg (32 : Int32)) (100 : Int32)) 109 (Int32.toNatClampNeg (33 : Int32)) (101 : Int32)) 109 (Int32.toNatClampNeg (34 : Int32)) (98 : Int32)) 109 (Int32.toNatClampNeg (35 : Int32)) (97 : Int32)) 109 (Int32.toNatClampNeg (36 : Int32)) (116 : Int32)) 109 (Int32.toNatClampNeg (37 : Int32)) (101 : Int32)) 109 (Int32.toNatClampNeg (38 : Int32)) (32 : Int32)) 109 (Int32.toNatClampNeg (39 : Int32)) (115 : Int32)) 109 (Int32.toNatClampNeg (40 : Int32)) (116 : Int32)) 109 (Int32.toNatClampNeg (41 : Int32)) (117 : Int32)) 109 (Int32.toNatClampNeg (42 : Int32)) (102 : Int32)) 109 (Int32.toNatClampNeg (43 : Int32)) (102 : Int32)) 109 (Int32.toNatClampNeg (44 : Int32)) (32 : Int32)) 109 (Int32.toNatClampNeg (45 : Int32)) (100 : Int32)) 109 (Int32.toNatClampNeg (46 : Int32)) (97 : Int32)) 109 (Int32.toNatClampNeg (47 : Int32)) (109 : Int32)) 109 (Int32.toNatClampNeg (48 : Int32)) (112 : Int32)) 109 (Int32.toNatClampNeg (49 : Int32)) (32 : Int32)) 109 (Int32.toNatClampNeg (50 : Int32)) (115 : Int32)) 109 (Int32.toNatClampNeg (51 : Int32)) (101 : Int32)) 109 (Int32.toNatClampNeg (52 : Int32)) (101 : Int32)) 109 (Int32.toNatClampNeg (53 : Int32)) (100 : Int32)) 109 (Int32.toNatClampNeg (54 : Int32)) (32 : Int32)) 109 (Int32.toNatClampNeg (55 : Int32)) (108 : Int32)) 109 (Int32.toNatClampNeg (56 : Int32)) (97 : Int32)) 109 (Int32.toNatClampNeg (57 : Int32)) (119 : Int32)) 109 (Int32.toNatClampNeg (58 : Int32)) (32 : Int32)) 109 (Int32.toNatClampNeg (59 : Int32)) (108 : Int32)) 109 (Int32.toNatClampNeg (60 : Int32)) (101 : Int32)) 109 (Int32.toNatClampNeg (61 : Int32)) (97 : Int32)) 109 (Int32.toNatClampNeg (62 : Int32)) (110 : Int32)) 109 (Int32.toNatClampNeg (63 : Int32)) (32 : Int32)) 109 (Int32.toNatClampNeg (64 : Int32)) (119 : Int32)) 109 (Int32.toNatClampNeg (65 : Int32)) (101 : Int32)) 109 (Int32.toNatClampNeg (66 : Int32)) (97 : Int32)) 109 (Int32.toNatClampNeg (67 : Int32)) (114 : Int32)) 109 (Int32.toNatClampNeg (68 : Int32)) (32 : Int32)) 109 (Int32.toNatClampNeg (69 : Int32)) (116 : Int32)) 109 (Int32.toNatClampNeg (70 : Int32)) (117 : Int32)) 109 (Int32.toNatClampNeg (71 : Int32)) (114 : Int32)) 109 (Int32.toNatClampNeg (72 : Int32)) (110 : Int32)) 109 (Int32.toNatClampNeg (73 : Int32)) (32 : Int32)) 109 (Int32.toNatClampNeg (74 : Int32)) (97 : Int32)) 109 (Int32.toNatClampNeg (75 : Int32)) (110 : Int32)) 109 (Int32.toNatClampNeg (76 : Int32)) (100 : Int32)) 109 (Int32.toNatClampNeg (77 : Int32)) (32 : Int32)) 109 (Int32.toNatClampNeg (78 : Int32)) (111 : Int32)) 109 (Int32.toNatClampNeg (79 : Int32)) (114 : Int32)) 109 (Int32.toNatClampNeg (80 : Int32)) (32 : Int32)) 109 (Int32.toNatClampNeg (81 : Int32)) (110 : Int32)) 109 (Int32.toNatClampNeg (82 : Int32)) (111 : Int32)) 109 (Int32.toNatClampNeg (83 : Int32)) (116 : Int32)) 109 (Int32.toNatClampNeg (84 : Int32)) (32 : Int32)) 109 (Int32.toNatClampNeg (85 : Int32)) (119 : Int32)) 109 (Int32.toNatClampNeg (86 : Int32)) (101 : Int32)) 109 (Int32.toNatClampNeg (87 : Int32)) (105 : Int32)) 109 (Int32.toNatClampNeg (88 : Int32)) (103 : Int32)) 109 (Int32.toNatClampNeg (89 : Int32)) (104 : Int32)) 109 (Int32.toNatClampNeg (90 : Int32)) (116 : Int32)) 109 (Int32.toNatClampNeg (91 : Int32)) (32 : Int32)) 109 (Int32.toNatClampNeg (92 : Int32)) (116 : Int32)) 109 (Int32.toNatClampNeg (93 : Int32)) (101 : Int32)) 109 (Int32.toNatClampNeg (94 : Int32)) (109 : Int32)) 109 (Int32.toNatClampNeg (95 : Int32)) (112 : Int32)) 109 (Int32.toNatClampNeg (96 : Int32)) (101 : Int32)) 109 (Int32.toNatClampNeg (97 : Int32)) (114 : Int32)) 109 (Int32.toNatClampNeg (98 : Int32)) (32 : Int32)) 109 (Int32.toNatClampNeg (99 : Int32)) (102 : Int32)) 109 (Int32.toNatClampNeg (100 : Int32)) (117 : Int32)) 109 (Int32.toNatClampNeg (101 : Int32)) (108 : Int32)) 109 (Int32.toNatClampNeg (102 : Int32)) (108 : Int32)) 109 (Int32.toNatClampNeg (103 : Int32)) (32 : Int32)) 109 (Int32.toNatClampNeg (104 : Int32)) (102 : Int32)) 109 (Int32.toNatClampNeg (105 : Int32)) (111 : Int32)) 109 (Int32.toNatClampNeg (106 : Int32)) (114 : Int32)) 109 (Int32.toNatClampNeg (107 : Int32)) (99 : Int32)) 109 (Int32.toNatClampNeg (108 : Int32)) (101 : Int32)) 109 (Int32.toNatClampNeg (109 : Int32)) (32 : Int32)) 109 (Int32.toNatClampNeg (110 : Int32)) (119 : Int32)) 109 (Int32.toNatClampNeg (111 : Int32)) (105 : Int32)) 109 (Int32.toNatClampNeg (112 : Int32)) (110 : Int32)) 109 (Int32.toNatClampNeg (113 : Int32)) (115 : Int32)) 109 (Int32.toNatClampNeg (114 : Int32)) (32 : Int32)) 109 (Int32.toNatClampNeg (115 : Int32)) (104 : Int32)) 109 (Int32.toNatClampNeg (116 : Int32)) (101 : Int32)) 109 (Int32.toNatClampNeg (117 : Int32)) (108 : Int32)) 109 (Int32.toNatClampNeg (118 : Int32)) (100 : Int32)) 109 (Int32.toNatClampNeg (119 : Int32)) (32 : Int32)) 109 (Int32.toNatClampNeg (120 : Int32)) (110 : Int32)) 109 (Int32.toNatClampNeg (121 : Int32)) (105 : Int32)) 109 (Int32.toNatClampNeg (122 : Int32)) (103 : Int32)) 109 (Int32.toNatClampNeg (123 : Int32)) (104 : Int32)) 109 (Int32.toNatClampNeg (124 : Int32)) (116 : Int32)) 109 (Int32.toNatClampNeg (125 : Int32)) (32 : Int32)) 107 3 (some 109)) 107 5 (-1 : Int32)) 107 26 (some 110)) 107 27 (some 111)) 107 28 (some 112)) 107 29 (some 113)) 107 30 (some 114)) 107 31 (some 115)) 107 32 (some 116)) 107 33 (some 117)) 107 34 (some 118)) 107 35 (some 119)) 107 36 (some 120)) 107 37 (some 121)) 107 38 (some 122)) 107 39 (some 123)) 107 40 (some 124)) 107 41 (some 125)) 107 42 (some 126)) 107 43 (some 127)) 107 44 (some 128)) 107 45 (some 129)) 107 46 (some 130)) 107 47 (some 131)) 107 48 (some 132)) 107 49 (some 133)) 107 50 (some 134)) 107 57 (some 135)) 107 58 (some 136)) 107 60 (some 137)) 107 61 (some 138)) 107 62 (some 139)) 107 63 (some 140)) 107 64 (some 141)) 107 65 (some 142)) 107 66 (some 143)) 107 73 (some 144)) 107 74 (some 145)) 107 75 (some 146)) 107 77 (-1 : Int32)) 107 78 (some 147)) 107 79 (some 148)) 107 81 (some 149)) 107 83 (some 150)) 107 84 (some 151)) then ((fX10_plain (uR (uR (uR (uR (uR (uI (uR (uR (uR (uR (uR (uR (uR (uR (uR (uR (uR (uR (uR (uR (uR (uR (uR (uR (uR (uR (uR (uR (uR (uR (uR (uR (uR (uR (uR (uR (uR (uR (uR (uR (uR (uR (uR (uI (uR (uI (uI (uI (uI (uI (uI (uI (uI (uI (uI (uI (uI (uI (uI (uI (uI (uI (uI (uI (uI (uI (uI (uI (uI (uI (uI (uI (uI (uI (uI (uI (uI (uI (uI (uI (uI (uI (uI (uI (uI (uI (uI (uI (uI (uI (uI (uI (uI (uI (uI (uI (uI (uI (uI (uI (uI (uI (uI (uI (uI (uI (uI (uI (uI (uI (uI (uI (uI (uI (uI (uI (uI (uI (uI (uI (uI (uI (uI (uI (uI (uI (uI (uI (uI (uI (uI (uI (uI (uI (uI (uI (uI (uI (uI (uI (uI (uI (uI (uI (uI (uI (uI (uI (uI (uI (uI (uI (uI (uI (uI (uI (uI (uI (uI (uI (uI (uI (uI (uI (uI (uI (uI (uI (uI (uI (uI (uR h 107 0 (some 108)) 109 (Int32.toNatClampNeg (0 : Int32)) (99 : Int32)) 109 (Int32.toNatClampNeg (1 : Int32)) (108 : Int32)) 109 (Int32.toNatClampNeg (2 : Int32)) (97 : Int32)) 109 (Int32.toNatClampNeg (3 : Int32)) (105 : Int32)) 109 (Int32.toNatClampNeg (4 : Int32)) (109 : Int32)) 109 (Int32.toNatClampNeg (5 : Int32)) (32 : Int32)) 109 (Int32.toNatClampNeg (6 : Int32)) (99 : Int32)) 109 (Int32.toNatClampNeg (7 : Int32)) (111 : Int32)) 109 (Int32.toNatClampNeg (8 : Int32)) (110 : Int32)) 109 (Int32.toNatClampNeg (9 : Int32)) (116 : Int32)) 109 (Int32.toNatClampNeg (10 : Int32)) (114 : Int32)) 109 (Int32.toNatClampNeg (11 : Int32)) (97 : Int32)) 109 (Int32.toNatClampNeg (12 : Int32)) (32 : Int32)) 109 (Int32.toNatClampNeg (13 : Int32)) (115 : Int32)) 109 (Int32.toNatClampNeg (14 : Int32)) (116 : Int32)) 109 (Int32.toNatClampNeg (15 : Int32)) (114 : Int32)) 109 (Int32.toNatClampNeg (16 : Int32)) (97 : Int32)) 109 (Int32.toNatClampNeg (17 : Int32)) (119 : Int32)) 109 (Int32.toNatClampNeg (18 : Int32)) (32 : Int32)) 109 (Int32.toNatClampNeg (19 : Int32)) (109 : Int32)) 109 (Int32.toNatClampNeg (20 : Int32)) (101 : Int32)) 109 (Int32.toNatClampNeg (21 : Int32)) (109 : Int32)) 109 (Int32.toNatClampNeg (22 : Int32)) (98 : Int32)) 109 (Int32.toNatClampNeg (23 : Int32)) (101 : Int32)) 109 (Int32.toNatClampNeg (24 : Int32)) (114 : Int32)) 109 (Int32.toNatClampNeg (25 : Int32)) (32 : Int32)) 109 (Int32.toNatClampNeg (26 : Int32)) (104 : Int32)) 109 (Int32.toNatClampNeg (27 : Int32)) (111 : Int32)) 109 (Int32.toNatClampNeg (28 : Int32)) (108 : Int32)) 109 (Int32.toNatClampNeg (29 : Int32)) (100 : Int32)) 109 (Int32.toNatClampNeg (30 : Int32)) (115 : Int32)) 109 (Int32.toNatClampNeg (31 : Int32)) (32 : Int32)) 109 (Int32.toNatClampNeg (32 : Int32)) (100 : Int32)) 109 (Int32.toNatClampNeg (33 : Int32)) (101 : Int32)) 109 (Int32.toNatClampNeg (34 : Int32)) (98 : Int32)) 109 (Int32.toNatClampNeg (35 : Int32)) (97 : Int32)) 109 (Int32.toNatClampNeg (36 : Int32)) (116 : Int32)) 109 (Int32.toNatClampNeg (37 : Int32)) (101 : Int32)) 109 (Int32.toNatClampNeg (38 : Int32)) (32 : Int32)) 109 (Int32.toNatClampNeg (39 : Int32)) (115 : Int32)) 109 (Int32.toNatClampNeg (40 : Int32)) (116 : Int32)) 109 (Int32.toNatClampNeg (41 : Int32)) (117 : Int32)) 109 (Int32.toNatClampNeg (42 : Int32)) (102 : Int32)) 109 (Int32.toNatClampNeg (43 : Int32)) (102 : Int32)) 109 (Int32.toNatClampNeg (44 : Int32)) (32 : Int32)) 109 (Int32.toNatClampNeg (45 : Int32)) (100 : Int32)) 109 (Int32.toNatClampNeg (46 : Int32)) (97 : Int32)) 109 (Int32.toNatClampNeg (47 : Int32)) (109 : Int32)) 109 (Int32.toNatClampNeg (48 : Int32)) (112 : Int32)) 109 (Int32.toNatClampNeg (49 : Int32)) (32 : Int32)) 109 (Int32.toNatClampNeg (50 : Int32)) (115 : Int32)) 109 (Int32.toNatClampNeg (51 : Int32)) (101 : Int32)) 109 (Int32.toNatClampNeg (52 : Int32)) (101 : Int32)) 109 (Int32.toNatClampNeg (53 : Int32)) (100 : Int32)) 109 (Int32.toNatClampNeg (54 : Int32)) (32 : Int32)) 109 (Int32.toNatClampNeg (55 : Int32)) (108 : Int32)) 109 (Int32.toNatClampNeg (56 : Int32)) (97 : Int32)) 109 (Int32.toNatClampNeg (57 : Int32)) (119 : Int32)) 109 (Int32.toNatClampNeg (58 : Int32)) (32 : Int32)) 109 (Int32.toNatClampNeg (59 : Int32)) (108 : Int32)) 109 (Int32.toNatClampNeg (60 : Int32)) (101 : Int32)) 109 (Int32.toNatClampNeg (61 : Int32)) (97 : Int32)) 109 (Int32.toNatClampNeg (62 : Int32)) (110 : Int32)) 109 (Int32.toNatClampNeg (63 : Int32)) (32 : Int32)) 109 (Int32.toNatClampNeg (64 : Int32)) (119 : Int32)) 109 (Int32.toNatClampNeg (65 : Int32)) (101 : Int32)) 109 (Int32.toNatClampNeg (66 : Int32)) (97 : Int32)) 109 (Int32.toNatClampNeg (67 : Int32)) (114 : Int32)) 109 (Int32.toNatClampNeg (68 : Int32)) (32 : Int32)) 109 (Int32.toNatClampNeg (69 : Int32)) (116 : Int32)) 109 (Int32.toNatClampNeg (70 : Int32)) (117 : Int32)) 109 (Int32.toNatClampNeg (71 : Int32)) (114 : Int32)) 109 (Int32.toNatClampNeg (72 : Int32)) (110 : Int32)) 109 (Int32.toNatClampNeg (73 : Int32)) (32 : Int32)) 109 (Int32.toNatClampNeg (74 : Int32)) (97 : Int32)) 109 (Int32.toNatClampNeg (75 : Int32)) (110 : Int32)) 109 (Int32.toNatClampNeg (76 : Int32)) (100 : Int32)) 109 (Int32.toNatClampNeg (77 : Int32)) (32 : Int32)) 109 (Int32.toNatClampNeg (78 : Int32)) (111 : Int32)) 109 (Int32.toNatClampNeg (79 : Int32)) (114 : Int32)) 109 (Int32.toNatClampNeg (80 : Int32)) (32 : Int32)) 109 (Int32.toNatClampNeg (81 : Int32)) (110 : Int32)) 109 (Int32.toNatClampNeg (82 : Int32)) (111 : Int32)) 109 (Int32.toNatClampNeg (83 : Int32)) (116 : Int32)) 109 (Int32.toNatClampNeg (84 : Int32)) (32 : Int32)) 109 (Int32.toNatClampNeg (85 : Int32)) (119 : Int32)) 109 (Int32.toNatClampNeg (86 : Int32)) (101 : Int32)) 109 (Int32.toNatClampNeg (87 : Int32)) (105 : Int32)) 109 (Int32.toNatClampNeg (88 : Int32)) (103 : Int32)) 109 (Int32.toNatClampNeg (89 : Int32)) (104 : Int32)) 109 (Int32.toNatClampNeg (90 : Int32)) (116 : Int32)) 109 (Int32.toNatClampNeg (91 : Int32)) (32 : Int32)) 109 (Int32.toNatClampNeg (92 : Int32)) (116 : Int32)) 109 (Int32.toNatClampNeg (93 : Int32)) (101 : Int32)) 109 (Int32.toNatClampNeg (94 : Int32)) (109 : Int32)) 109 (Int32.toNatClampNeg (95 : Int32)) (112 : Int32)) 109 (Int32.toNatClampNeg (96 : Int32)) (101 : Int32)) 109 (Int32.toNatClampNeg (97 : Int32)) (114 : Int32)) 109 (Int32.toNatClampNeg (98 : Int32)) (32 : Int32)) 109 (Int32.toNatClampNeg (99 : Int32)) (102 : Int32)) 109 (Int32.toNatClampNeg (100 : Int32)) (117 : Int32)) 109 (Int32.toNatClampNeg (101 : Int32)) (108 : Int32)) 109 (Int32.toNatClampNeg (102 : Int32)) (108 : Int32)) 109 (Int32.toNatClampNeg (103 : Int32)) (32 : Int32)) 109 (Int32.toNatClampNeg (104 : Int32)) (102 : Int32)) 109 (Int32.toNatClampNeg (105 : Int32)) (111 : Int32)) 109 (Int32.toNatClampNeg (106 : Int32)) (114 : Int32)) 109 (Int32.toNatClampNeg (107 : Int32)) (99 : Int32)) 109 (Int32.toNatClampNeg (108 : Int32)) (101 : Int32)) 109 (Int32.toNatClampNeg (109 : Int32)) (32 : Int32)) 109 (Int32.toNatClampNeg (110 : Int32)) (119 : Int32)) 109 (Int32.toNatClampNeg (111 : Int32)) (105 : Int32)) 109 (Int32.toNatClampNeg (112 : Int32)) (110 : Int32)) 109 (Int32.toNatClampNeg (113 : Int32)) (115 : Int32)) 109 (Int32.toNatClampNeg (114 : Int32)) (32 : Int32)) 109 (Int32.toNatClampNeg (115 : Int32)) (104 : Int32)) 109 (Int32.toNatClampNeg (116 : Int32)) (101 : Int32)) 109 (Int32.toNatClampNeg (117 : Int32)) (108 : Int32)) 109 (Int32.toNatClampNeg (118 : Int32)) (100 : Int32)) 109 (Int32.toNatClampNeg (119 : Int32)) (32 : Int32)) 109 (Int32.toNatClampNeg (120 : Int32)) (110 : Int32)) 109 (Int32.toNatClampNeg (121 : Int32)) (105 : Int32)) 109 (Int32.toNatClampNeg (122 : Int32)) (103 : Int32)) 109 (Int32.toNatClampNeg (123 : Int32)) (104 : Int32)) 109 (Int32.toNatClampNeg (124 : Int32)) (116 : Int32)) 109 (Int32.toNatClampNeg (125 : Int32)) (32 : Int32)) 107 3 (some 109)) 107 5 (-1 : Int32)) 107 26 (some 110)) 107 27 (some 111)) 107 28 (some 112)) 107 29 (some 113)) 107 30 (some 114)) 107 31 (some 115)) 107 32 (some 116)) 107 33 (some 117)) 107 34 (some 118)) 107 35 (some 119)) 107 36 (some 120)) 107 37 (some 121)) 107 38 (some 122)) 107 39 (some 123)) 107 40 (some 124)) 107 41 (some 125)) 107 42 (some 126)) 107 43 (some 127)) 107 44 (some 128)) 107 45 (some 129)) 107 46 (some 130)) 107 47 (some 131)) 107 48 (some 132)) 107 49 (some 133)) 107 50 (some 134)) 107 57 (some 135)) 107 58 (some 136)) 107 60 (some 137)) 107 61 (some 138)) 107 62 (some 139)) 107 63 (some 140)) 107 64 (some 141)) 107 65 (some 142)) 107 66 (some 143)) 107 73 (some 144)) 107 74 (some 145)) 107 75 (some 146)) 107 77 (-1 : Int32)) 107 78 (some 147)) 107 79 (some 148)) 107 81 (some 149)) 107 83 (some 150)) 107 84 (some 151))).bind (fun h_1 => (fX10_keepText h_1).bind (fun h_2 => some h_2))) else none
set_option maxRecDepth 100000 in
set_option maxHeartbeats 8000000 in
theorem c_X10_init_107 {l : Launch} {sb : State} {D : va_G} {ids : Nat → ClassId} (h r : Hp) (hr : fX10_init_107 h = some r) : jMc l yX10_init cX10_init 1 3 sb D ids shp 108 44 4409 [.ref 107] h (jQv sb D ids shp St 152 r) := by
  refine jMc_of (Qc := fun r => jQv sb D ids shp St 152 r) hr rfl rfl (Nat.le_of_ble_eq_true rfl) ?_
  intro p e s m args below meth c hC hret hin hs0
  unfold fX10_init_107
  refine j_aload_n hC 0 rfl rfl (dOk_at dt_X10_init 0 rfl) ?_
  refine j_objInit hC oiX10_1 ⟨Nat.le_of_ble_eq_true rfl, Nat.le_of_ble_eq_true rfl⟩ (Nat.le_of_ble_eq_true rfl) (dOk_at dt_X10_init 1 rfl) ?_
  refine j_aload_n hC 0 rfl rfl (dOk_at dt_X10_init 2 rfl) ?_
  refine j_sipush hC (v := (700 : Int32)) rfl (dOk_at dt_X10_init 3 rfl) ?_
  refine j_newaI (atype := .int) (n := 108) (t := 1) (ty := .int) (N := 700) hC aw_int rfl rfl (fun C q => by cases q) (show shp 108 = (20 + 1, 700) from rfl) rfl (by decide) (by decide +kernel) (by decide +kernel) (Nat.le_of_ble_eq_true rfl) (by omega) ⟨Nat.le_of_ble_eq_true rfl, Nat.le_of_ble_eq_true rfl⟩ (dOk_at dt_X10_init 4 rfl) ?_
  refine j_putRc (n := 109) hC hin flX10_7 (fun q hq _ => by cases hq; rfl) (show shp 107 = (10, 88) from rfl) (Nat.le_of_ble_eq_true rfl) (by decide) (by decide) (Or.inr ⟨_, rfl⟩) (dOk_at dt_X10_init 5 rfl) ?_
  refine j_aload_n hC 0 rfl rfl (dOk_at dt_X10_init 6 rfl) ?_
  refine j_bipush hC (v := (126 : Int32)) rfl (dOk_at dt_X10_init 7 rfl) ?_
  refine j_newaI (atype := .int) (n := 109) (t := 1) (ty := .int) (N := 126) hC aw_int rfl rfl (fun C q => by cases q) (show shp 109 = (20 + 1, 126) from rfl) rfl (by decide) (by decide +kernel) (by decide +kernel) (Nat.le_of_ble_eq_true rfl) (by omega) ⟨Nat.le_of_ble_eq_true rfl, Nat.le_of_ble_eq_true rfl⟩ (dOk_at dt_X10_init 8 rfl) ?_
  refine j_dupr hC (dOk_at dt_X10_init 9 rfl) ?_
  refine j_iconst hC (v := (0 : Int32)) rfl (dOk_at dt_X10_init 10 rfl) ?_
  refine j_bipush hC (v := (99 : Int32)) rfl (dOk_at dt_X10_init 11 rfl) ?_
  refine j_iastc (n := 110) hC (show shp 109 = (21, 126) from rfl) (Nat.le_of_ble_eq_true rfl) (by decide +kernel) (dOk_at dt_X10_init 12 rfl) ?_
  refine j_dupr hC (dOk_at dt_X10_init 13 rfl) ?_
  refine j_iconst hC (v := (1 : Int32)) rfl (dOk_at dt_X10_init 14 rfl) ?_
  refine j_bipush hC (v := (108 : Int32)) rfl (dOk_at dt_X10_init 15 rfl) ?_
  refine j_iastc (n := 110) hC (show shp 109 = (21, 126) from rfl) (Nat.le_of_ble_eq_true rfl) (by decide +kernel) (dOk_at dt_X10_init 16 rfl) ?_
  refine j_dupr hC (dOk_at dt_X10_init 17 rfl) ?_
  refine j_iconst hC (v := (2 : Int32)) rfl (dOk_at dt_X10_init 18 rfl) ?_
  refine j_bipush hC (v := (97 : Int32)) rfl (dOk_at dt_X10_init 19 rfl) ?_
  refine j_iastc (n := 110) hC (show shp 109 = (21, 126) from rfl) (Nat.le_of_ble_eq_true rfl) (by decide +kernel) (dOk_at dt_X10_init 20 rfl) ?_
  refine j_dupr hC (dOk_at dt_X10_init 21 rfl) ?_
  refine j_iconst hC (v := (3 : Int32)) rfl (dOk_at dt_X10_init 22 rfl) ?_
  refine j_bipush hC (v := (105 : Int32)) rfl (dOk_at dt_X10_init 23 rfl) ?_
  refine j_iastc (n := 110) hC (show shp 109 = (21, 126) from rfl) (Nat.le_of_ble_eq_true rfl) (by decide +kernel) (dOk_at dt_X10_init 24 rfl) ?_
  refine j_dupr hC (dOk_at dt_X10_init 25 rfl) ?_
  refine j_iconst hC (v := (4 : Int32)) rfl (dOk_at dt_X10_init 26 rfl) ?_
  refine j_bipush hC (v := (109 : Int32)) rfl (dOk_at dt_X10_init 27 rfl) ?_
  refine j_iastc (n := 110) hC (show shp 109 = (21, 126) from rfl) (Nat.le_of_ble_eq_true rfl) (by decide +kernel) (dOk_at dt_X10_init 28 rfl) ?_
  refine j_dupr hC (dOk_at dt_X10_init 29 rfl) ?_
  refine j_iconst hC (v := (5 : Int32)) rfl (dOk_at dt_X10_init 30 rfl) ?_
  refine j_bipush hC (v := (32 : Int32)) rfl (dOk_at dt_X10_init 31 rfl) ?_
  refine j_iastc (n := 110) hC (show shp 109 = (21, 126) from rfl) (Nat.le_of_ble_eq_true rfl) (by decide +kernel) (dOk_at dt_X10_init 32 rfl) ?_
  refine j_dupr hC (dOk_at dt_X10_init 33 rfl) ?_
  refine j_bipush hC (v := (6 : Int32)) rfl (dOk_at dt_X10_init 34 rfl) ?_
  refine j_bipush hC (v := (99 : Int32)) rfl (dOk_at dt_X10_init 35 rfl) ?_
  refine j_iastc (n := 110) hC (show shp 109 = (21, 126) from rfl) (Nat.le_of_ble_eq_true rfl) (by decide +kernel) (dOk_at dt_X10_init 36 rfl) ?_
  refine j_dupr hC (dOk_at dt_X10_init 37 rfl) ?_
  refine j_bipush hC (v := (7 : Int32)) rfl (dOk_at dt_X10_init 38 rfl) ?_
  refine j_bipush hC (v := (111 : Int32)) rfl (dOk_at dt_X10_init 39 rfl) ?_
  refine j_iastc (n := 110) hC (show shp 109 = (21, 126) from rfl) (Nat.le_of_ble_eq_true rfl) (by decide +kernel) (dOk_at dt_X10_init 40 rfl) ?_
  refine j_dupr hC (dOk_at dt_X10_init 41 rfl) ?_
  refine j_bipush hC (v := (8 : Int32)) rfl (dOk_at dt_X10_init 42 rfl) ?_
  refine j_bipush hC (v := (110 : Int32)) rfl (dOk_at dt_X10_init 43 rfl) ?_
  refine j_iastc (n := 110) hC (show shp 109 = (21, 126) from rfl) (Nat.le_of_ble_eq_true rfl) (by decide +kernel) (dOk_at dt_X10_init 44 rfl) ?_
  refine j_dupr hC (dOk_at dt_X10_init 45 rfl) ?_
  refine j_bipush hC (v := (9 : Int32)) rfl (dOk_at dt_X10_init 46 rfl) ?_
  refine j_bipush hC (v := (116 : Int32)) rfl (dOk_at dt_X10_init 47 rfl) ?_
  refine j_iastc (n := 110) hC (show shp 109 = (21, 126) from rfl) (Nat.le_of_ble_eq_true rfl) (by decide +kernel) (dOk_at dt_X10_init 48 rfl) ?_
  refine j_dupr hC (dOk_at dt_X10_init 49 rfl) ?_
  refine j_bipush hC (v := (10 : Int32)) rfl (dOk_at dt_X10_init 50 rfl) ?_
  refine j_bipush hC (v := (114 : Int32)) rfl (dOk_at dt_X10_init 51 rfl) ?_
  refine j_iastc (n := 110) hC (show shp 109 = (21, 126) from rfl) (Nat.le_of_ble_eq_true rfl) (by decide +kernel) (dOk_at dt_X10_init 52 rfl) ?_
  refine j_dupr hC (dOk_at dt_X10_init 53 rfl) ?_
  refine j_bipush hC (v := (11 : Int32)) rfl (dOk_at dt_X10_init 54 rfl) ?_
  refine j_bipush hC (v := (97 : Int32)) rfl (dOk_at dt_X10_init 55 rfl) ?_
  refine j_iastc (n := 110) hC (show shp 109 = (21, 126) from rfl) (Nat.le_of_ble_eq_true rfl) (by decide +kernel) (dOk_at dt_X10_init 56 rfl) ?_
  refine j_dupr hC (dOk_at dt_X10_init 57 rfl) ?_
  refine j_bipush hC (v := (12 : Int32)) rfl (dOk_at dt_X10_init 58 rfl) ?_
  refine j_bipush hC (v := (32 : Int32)) rfl (dOk_at dt_X10_init 59 rfl) ?_
  refine j_iastc (n := 110) hC (show shp 109 = (21, 126) from rfl) (Nat.le_of_ble_eq_true rfl) (by decide +kernel) (dOk_at dt_X10_init 60 rfl) ?_
  refine j_dupr hC (dOk_at dt_X10_init 61 rfl) ?_
  refine j_bipush hC (v := (13 : Int32)) rfl (dOk_at dt_X10_init 62 rfl) ?_
  refine j_bipush hC (v := (115 : Int32)) rfl (dOk_at dt_X10_init 63 rfl) ?_
  refine j_iastc (n := 110) hC (show shp 109 = (21, 126) from rfl) (Nat.le_of_ble_eq_true rfl) (by decide +kernel) (dOk_at dt_X10_init 64 rfl) ?_
  refine j_dupr hC (dOk_at dt_X10_init 65 rfl) ?_
  refine j_bipush hC (v := (14 : Int32)) rfl (dOk_at dt_X10_init 66 rfl) ?_
  refine j_bipush hC (v := (116 : Int32)) rfl (dOk_at dt_X10_init 67 rfl) ?_
  refine j_iastc (n := 110) hC (show shp 109 = (21, 126) from rfl) (Nat.le_of_ble_eq_true rfl) (by decide +kernel) (dOk_at dt_X10_init 68 rfl) ?_
  refine j_dupr hC (dOk_at dt_X10_init 69 rfl) ?_
  refine j_bipush hC (v := (15 : Int32)) rfl (dOk_at dt_X10_init 70 rfl) ?_
  refine j_bipush hC (v := (114 : Int32)) rfl (dOk_at dt_X10_init 71 rfl) ?_
  refine j_iastc (n := 110) hC (show shp 109 = (21, 126) from rfl) (Nat.le_of_ble_eq_true rfl) (by decide +kernel) (dOk_at dt_X10_init 72 rfl) ?_
  refine j_dupr hC (dOk_at dt_X10_init 73 rfl) ?_
  refine j_bipush hC (v := (16 : Int32)) rfl (dOk_at dt_X10_init 74 rfl) ?_
  refine j_bipush hC (v := (97 : Int32)) rfl (dOk_at dt_X10_init 75 rfl) ?_
  refine j_iastc (n := 110) hC (show shp 109 = (21, 126) from rfl) (Nat.le_of_ble_eq_true rfl) (by decide +kernel) (dOk_at dt_X10_init 76 rfl) ?_
  refine j_dupr hC (dOk_at dt_X10_init 77 rfl) ?_
  refine j_bipush hC (v := (17 : Int32)) rfl (dOk_at dt_X10_init 78 rfl) ?_
  refine j_bipush hC (v := (119 : Int32)) rfl (dOk_at dt_X10_init 79 rfl) ?_
  refine j_iastc (n := 110) hC (show shp 109 = (21, 126) from rfl) (Nat.le_of_ble_eq_true rfl) (by decide +kernel) (dOk_at dt_X10_init 80 rfl) ?_
  refine j_dupr hC (dOk_at dt_X10_init 81 rfl) ?_
  refine j_bipush hC (v := (18 : Int32)) rfl (dOk_at dt_X10_init 82 rfl) ?_
  refine j_bipush hC (v := (32 : Int32)) rfl (dOk_at dt_X10_init 83 rfl) ?_
  refine j_iastc (n := 110) hC (show shp 109 = (21, 126) from rfl) (Nat.le_of_ble_eq_true rfl) (by decide +kernel) (dOk_at dt_X10_init 84 rfl) ?_
  refine j_dupr hC (dOk_at dt_X10_init 85 rfl) ?_
  refine j_bipush hC (v := (19 : Int32)) rfl (dOk_at dt_X10_init 86 rfl) ?_
  refine j_bipush hC (v := (109 : Int32)) rfl (dOk_at dt_X10_init 87 rfl) ?_
  refine j_iastc (n := 110) hC (show shp 109 = (21, 126) from rfl) (Nat.le_of_ble_eq_true rfl) (by decide +kernel) (dOk_at dt_X10_init 88 rfl) ?_
  refine j_dupr hC (dOk_at dt_X10_init 89 rfl) ?_
  refine j_bipush hC (v := (20 : Int32)) rfl (dOk_at dt_X10_init 90 rfl) ?_
  refine j_bipush hC (v := (101 : Int32)) rfl (dOk_at dt_X10_init 91 rfl) ?_
  refine j_iastc (n := 110) hC (show shp 109 = (21, 126) from rfl) (Nat.le_of_ble_eq_true rfl) (by decide +kernel) (dOk_at dt_X10_init 92 rfl) ?_
  refine j_dupr hC (dOk_at dt_X10_init 93 rfl) ?_
  refine j_bipush hC (v := (21 : Int32)) rfl (dOk_at dt_X10_init 94 rfl) ?_
  refine j_bipush hC (v := (109 : Int32)) rfl (dOk_at dt_X10_init 95 rfl) ?_
  refine j_iastc (n := 110) hC (show shp 109 = (21, 126) from rfl) (Nat.le_of_ble_eq_true rfl) (by decide +kernel) (dOk_at dt_X10_init 96 rfl) ?_
  refine j_dupr hC (dOk_at dt_X10_init 97 rfl) ?_
  refine j_bipush hC (v := (22 : Int32)) rfl (dOk_at dt_X10_init 98 rfl) ?_
  refine j_bipush hC (v := (98 : Int32)) rfl (dOk_at dt_X10_init 99 rfl) ?_
  refine j_iastc (n := 110) hC (show shp 109 = (21, 126) from rfl) (Nat.le_of_ble_eq_true rfl) (by decide +kernel) (dOk_at dt_X10_init 100 rfl) ?_
  refine j_dupr hC (dOk_at dt_X10_init 101 rfl) ?_
  refine j_bipush hC (v := (23 : Int32)) rfl (dOk_at dt_X10_init 102 rfl) ?_
  refine j_bipush hC (v := (101 : Int32)) rfl (dOk_at dt_X10_init 103 rfl) ?_
  refine j_iastc (n := 110) hC (show shp 109 = (21, 126) from rfl) (Nat.le_of_ble_eq_true rfl) (by decide +kernel) (dOk_at dt_X10_init 104 rfl) ?_
  refine j_dupr hC (dOk_at dt_X10_init 105 rfl) ?_
  refine j_bipush hC (v := (24 : Int32)) rfl (dOk_at dt_X10_init 106 rfl) ?_
  refine j_bipush hC (v := (114 : Int32)) rfl (dOk_at dt_X10_init 107 rfl) ?_
  refine j_iastc (n := 110) hC (show shp 109 = (21, 126) from rfl) (Nat.le_of_ble_eq_true rfl) (by decide +kernel) (dOk_at dt_X10_init 108 rfl) ?_
  refine j_dupr hC (dOk_at dt_X10_init 109 rfl) ?_
  refine j_bipush hC (v := (25 : Int32)) rfl (dOk_at dt_X10_init 110 rfl) ?_
  refine j_bipush hC (v := (32 : Int32)) rfl (dOk_at dt_X10_init 111 rfl) ?_
  refine j_iastc (n := 110) hC (show shp 109 = (21, 126) from rfl) (Nat.le_of_ble_eq_true rfl) (by decide +kernel) (dOk_at dt_X10_init 112 rfl) ?_
  refine j_dupr hC (dOk_at dt_X10_init 113 rfl) ?_
  refine j_bipush hC (v := (26 : Int32)) rfl (dOk_at dt_X10_init 114 rfl) ?_
  refine j_bipush hC (v := (104 : Int32)) rfl (dOk_at dt_X10_init 115 rfl) ?_
  refine j_iastc (n := 110) hC (show shp 109 = (21, 126) from rfl) (Nat.le_of_ble_eq_true rfl) (by decide +kernel) (dOk_at dt_X10_init 116 rfl) ?_
  refine j_dupr hC (dOk_at dt_X10_init 117 rfl) ?_
  refine j_bipush hC (v := (27 : Int32)) rfl (dOk_at dt_X10_init 118 rfl) ?_
  refine j_bipush hC (v := (111 : Int32)) rfl (dOk_at dt_X10_init 119 rfl) ?_
  refine j_iastc (n := 110) hC (show shp 109 = (21, 126) from rfl) (Nat.le_of_ble_eq_true rfl) (by decide +kernel) (dOk_at dt_X10_init 120 rfl) ?_
  refine j_dupr hC (dOk_at dt_X10_init 121 rfl) ?_
  refine j_bipush hC (v := (28 : Int32)) rfl (dOk_at dt_X10_init 122 rfl) ?_
  refine j_bipush hC (v := (108 : Int32)) rfl (dOk_at dt_X10_init 123 rfl) ?_
  refine j_iastc (n := 110) hC (show shp 109 = (21, 126) from rfl) (Nat.le_of_ble_eq_true rfl) (by decide +kernel) (dOk_at dt_X10_init 124 rfl) ?_
  refine j_dupr hC (dOk_at dt_X10_init 125 rfl) ?_
  refine j_bipush hC (v := (29 : Int32)) rfl (dOk_at dt_X10_init 126 rfl) ?_
  refine j_bipush hC (v := (100 : Int32)) rfl (dOk_at dt_X10_init 127 rfl) ?_
  refine j_iastc (n := 110) hC (show shp 109 = (21, 126) from rfl) (Nat.le_of_ble_eq_true rfl) (by decide +kernel) (dOk_at dt_X10_init 128 rfl) ?_
  refine j_dupr hC (dOk_at dt_X10_init 129 rfl) ?_
  refine j_bipush hC (v := (30 : Int32)) rfl (dOk_at dt_X10_init 130 rfl) ?_
  refine j_bipush hC (v := (115 : Int32)) rfl (dOk_at dt_X10_init 131 rfl) ?_
  refine j_iastc (n := 110) hC (show shp 109 = (21, 126) from rfl) (Nat.le_of_ble_eq_true rfl) (by decide +kernel) (dOk_at dt_X10_init 132 rfl) ?_
  refine j_dupr hC (dOk_at dt_X10_init 133 rfl) ?_
  refine j_bipush hC (v := (31 : Int32)) rfl (dOk_at dt_X10_init 134 rfl) ?_
  refine j_bipush hC (v := (32 : Int32)) rfl (dOk_at dt_X10_init 135 rfl) ?_
  refine j_iastc (n := 110) hC (show shp 109 = (21, 126) from rfl) (Nat.le_of_ble_eq_true rfl) (by decide +kernel) (dOk_at dt_X10_init 136 rfl) ?_
  refine j_dupr hC (dOk_at dt_X10_init 137 rfl) ?_
  refine j_bipush hC (v := (32 : Int32)) rfl (dOk_at dt_X10_init 138 rfl) ?_
  refine j_bipush hC (v := (100 : Int32)) rfl (dOk_at dt_X10_init 139 rfl) ?_
  refine j_iastc (n := 110) hC (show shp 109 = (21, 126) from rfl) (Nat.le_of_ble_eq_true rfl) (by decide +kernel) (dOk_at dt_X10_init 140 rfl) ?_
  refine j_dupr hC (dOk_at dt_X10_init 141 rfl) ?_
  refine j_bipush hC (v := (33 : Int32)) rfl (dOk_at dt_X10_init 142 rfl) ?_
  refine j_bipush hC (v := (101 : Int32)) rfl (dOk_at dt_X10_init 143 rfl) ?_
  refine j_iastc (n := 110) hC (show shp 109 = (21, 126) from rfl) (Nat.le_of_ble_eq_true rfl) (by decide +kernel) (dOk_at dt_X10_init 144 rfl) ?_
  refine j_dupr hC (dOk_at dt_X10_init 145 rfl) ?_
  refine j_bipush hC (v := (34 : Int32)) rfl (dOk_at dt_X10_init 146 rfl) ?_
  refine j_bipush hC (v := (98 : Int32)) rfl (dOk_at dt_X10_init 147 rfl) ?_
  refine j_iastc (n := 110) hC (show shp 109 = (21, 126) from rfl) (Nat.le_of_ble_eq_true rfl) (by decide +kernel) (dOk_at dt_X10_init 148 rfl) ?_
  refine j_dupr hC (dOk_at dt_X10_init 149 rfl) ?_
  refine j_bipush hC (v := (35 : Int32)) rfl (dOk_at dt_X10_init 150 rfl) ?_
  refine j_bipush hC (v := (97 : Int32)) rfl (dOk_at dt_X10_init 151 rfl) ?_
  refine j_iastc (n := 110) hC (show shp 109 = (21, 126) from rfl) (Nat.le_of_ble_eq_true rfl) (by decide +kernel) (dOk_at dt_X10_init 152 rfl) ?_
  refine j_dupr hC (dOk_at dt_X10_init 153 rfl) ?_
  refine j_bipush hC (v := (36 : Int32)) rfl (dOk_at dt_X10_init 154 rfl) ?_
  refine j_bipush hC (v := (116 : Int32)) rfl (dOk_at dt_X10_init 155 rfl) ?_
  refine j_iastc (n := 110) hC (show shp 109 = (21, 126) from rfl) (Nat.le_of_ble_eq_true rfl) (by decide +kernel) (dOk_at dt_X10_init 156 rfl) ?_
  refine j_dupr hC (dOk_at dt_X10_init 157 rfl) ?_
  refine j_bipush hC (v := (37 : Int32)) rfl (dOk_at dt_X10_init 158 rfl) ?_
  refine j_bipush hC (v := (101 : Int32)) rfl (dOk_at dt_X10_init 159 rfl) ?_
  refine j_iastc (n := 110) hC (show shp 109 = (21, 126) from rfl) (Nat.le_of_ble_eq_true rfl) (by decide +kernel) (dOk_at dt_X10_init 160 rfl) ?_
  refine j_dupr hC (dOk_at dt_X10_init 161 rfl) ?_
  refine j_bipush hC (v := (38 : Int32)) rfl (dOk_at dt_X10_init 162 rfl) ?_
  refine j_bipush hC (v := (32 : Int32)) rfl (dOk_at dt_X10_init 163 rfl) ?_
  refine j_iastc (n := 110) hC (show shp 109 = (21, 126) from rfl) (Nat.le_of_ble_eq_true rfl) (by decide +kernel) (dOk_at dt_X10_init 164 rfl) ?_
  refine j_dupr hC (dOk_at dt_X10_init 165 rfl) ?_
  refine j_bipush hC (v := (39 : Int32)) rfl (dOk_at dt_X10_init 166 rfl) ?_
  refine j_bipush hC (v := (115 : Int32)) rfl (dOk_at dt_X10_init 167 rfl) ?_
  refine j_iastc (n := 110) hC (show shp 109 = (21, 126) from rfl) (Nat.le_of_ble_eq_true rfl) (by decide +kernel) (dOk_at dt_X10_init 168 rfl) ?_
  refine j_dupr hC (dOk_at dt_X10_init 169 rfl) ?_
  refine j_bipush hC (v := (40 : Int32)) rfl (dOk_at dt_X10_init 170 rfl) ?_
  refine j_bipush hC (v := (116 : Int32)) rfl (dOk_at dt_X10_init 171 rfl) ?_
  refine j_iastc (n := 110) hC (show shp 109 = (21, 126) from rfl) (Nat.le_of_ble_eq_true rfl) (by decide +kernel) (dOk_at dt_X10_init 172 rfl) ?_
  refine j_dupr hC (dOk_at dt_X10_init 173 rfl) ?_
  refine j_bipush hC (v := (41 : Int32)) rfl (dOk_at dt_X10_init 174 rfl) ?_
  refine j_bipush hC (v := (117 : Int32)) rfl (dOk_at dt_X10_init 175 rfl) ?_
  refine j_iastc (n := 110) hC (show shp 109 = (21, 126) from rfl) (Nat.le_of_ble_eq_true rfl) (by decide +kernel) (dOk_at dt_X10_init 176 rfl) ?_
  refine j_dupr hC (dOk_at dt_X10_init 177 rfl) ?_
  refine j_bipush hC (v := (42 : Int32)) rfl (dOk_at dt_X10_init 178 rfl) ?_
  refine j_bipush hC (v := (102 : Int32)) rfl (dOk_at dt_X10_init 179 rfl) ?_
  refine j_iastc (n := 110) hC (show shp 109 = (21, 126) from rfl) (Nat.le_of_ble_eq_true rfl) (by decide +kernel) (dOk_at dt_X10_init 180 rfl) ?_
  refine j_dupr hC (dOk_at dt_X10_init 181 rfl) ?_
  refine j_bipush hC (v := (43 : Int32)) rfl (dOk_at dt_X10_init 182 rfl) ?_
  refine j_bipush hC (v := (102 : Int32)) rfl (dOk_at dt_X10_init 183 rfl) ?_
  refine j_iastc (n := 110) hC (show shp 109 = (21, 126) from rfl) (Nat.le_of_ble_eq_true rfl) (by decide +kernel) (dOk_at dt_X10_init 184 rfl) ?_
  refine j_dupr hC (dOk_at dt_X10_init 185 rfl) ?_
  refine j_bipush hC (v := (44 : Int32)) rfl (dOk_at dt_X10_init 186 rfl) ?_
  refine j_bipush hC (v := (32 : Int32)) rfl (dOk_at dt_X10_init 187 rfl) ?_
  refine j_iastc (n := 110) hC (show shp 109 = (21, 126) from rfl) (Nat.le_of_ble_eq_true rfl) (by decide +kernel) (dOk_at dt_X10_init 188 rfl) ?_
  refine j_dupr hC (dOk_at dt_X10_init 189 rfl) ?_
  refine j_bipush hC (v := (45 : Int32)) rfl (dOk_at dt_X10_init 190 rfl) ?_
  refine j_bipush hC (v := (100 : Int32)) rfl (dOk_at dt_X10_init 191 rfl) ?_
  refine j_iastc (n := 110) hC (show shp 109 = (21, 126) from rfl) (Nat.le_of_ble_eq_true rfl) (by decide +kernel) (dOk_at dt_X10_init 192 rfl) ?_
  refine j_dupr hC (dOk_at dt_X10_init 193 rfl) ?_
  refine j_bipush hC (v := (46 : Int32)) rfl (dOk_at dt_X10_init 194 rfl) ?_
  refine j_bipush hC (v := (97 : Int32)) rfl (dOk_at dt_X10_init 195 rfl) ?_
  refine j_iastc (n := 110) hC (show shp 109 = (21, 126) from rfl) (Nat.le_of_ble_eq_true rfl) (by decide +kernel) (dOk_at dt_X10_init 196 rfl) ?_
  refine j_dupr hC (dOk_at dt_X10_init 197 rfl) ?_
  refine j_bipush hC (v := (47 : Int32)) rfl (dOk_at dt_X10_init 198 rfl) ?_
  refine j_bipush hC (v := (109 : Int32)) rfl (dOk_at dt_X10_init 199 rfl) ?_
  refine j_iastc (n := 110) hC (show shp 109 = (21, 126) from rfl) (Nat.le_of_ble_eq_true rfl) (by decide +kernel) (dOk_at dt_X10_init 200 rfl) ?_
  refine j_dupr hC (dOk_at dt_X10_init 201 rfl) ?_
  refine j_bipush hC (v := (48 : Int32)) rfl (dOk_at dt_X10_init 202 rfl) ?_
  refine j_bipush hC (v := (112 : Int32)) rfl (dOk_at dt_X10_init 203 rfl) ?_
  refine j_iastc (n := 110) hC (show shp 109 = (21, 126) from rfl) (Nat.le_of_ble_eq_true rfl) (by decide +kernel) (dOk_at dt_X10_init 204 rfl) ?_
  refine j_dupr hC (dOk_at dt_X10_init 205 rfl) ?_
  refine j_bipush hC (v := (49 : Int32)) rfl (dOk_at dt_X10_init 206 rfl) ?_
  refine j_bipush hC (v := (32 : Int32)) rfl (dOk_at dt_X10_init 207 rfl) ?_
  refine j_iastc (n := 110) hC (show shp 109 = (21, 126) from rfl) (Nat.le_of_ble_eq_true rfl) (by decide +kernel) (dOk_at dt_X10_init 208 rfl) ?_
  refine j_dupr hC (dOk_at dt_X10_init 209 rfl) ?_
  refine j_bipush hC (v := (50 : Int32)) rfl (dOk_at dt_X10_init 210 rfl) ?_
  refine j_bipush hC (v := (115 : Int32)) rfl (dOk_at dt_X10_init 211 rfl) ?_
  refine j_iastc (n := 110) hC (show shp 109 = (21, 126) from rfl) (Nat.le_of_ble_eq_true rfl) (by decide +kernel) (dOk_at dt_X10_init 212 rfl) ?_
  refine j_dupr hC (dOk_at dt_X10_init 213 rfl) ?_
  refine j_bipush hC (v := (51 : Int32)) rfl (dOk_at dt_X10_init 214 rfl) ?_
  refine j_bipush hC (v := (101 : Int32)) rfl (dOk_at dt_X10_init 215 rfl) ?_
  refine j_iastc (n := 110) hC (show shp 109 = (21, 126) from rfl) (Nat.le_of_ble_eq_true rfl) (by decide +kernel) (dOk_at dt_X10_init 216 rfl) ?_
  refine j_dupr hC (dOk_at dt_X10_init 217 rfl) ?_
  refine j_bipush hC (v := (52 : Int32)) rfl (dOk_at dt_X10_init 218 rfl) ?_
  refine j_bipush hC (v := (101 : Int32)) rfl (dOk_at dt_X10_init 219 rfl) ?_
  refine j_iastc (n := 110) hC (show shp 109 = (21, 126) from rfl) (Nat.le_of_ble_eq_true rfl) (by decide +kernel) (dOk_at dt_X10_init 220 rfl) ?_
  refine j_dupr hC (dOk_at dt_X10_init 221 rfl) ?_
  refine j_bipush hC (v := (53 : Int32)) rfl (dOk_at dt_X10_init 222 rfl) ?_
  refine j_bipush hC (v := (100 : Int32)) rfl (dOk_at dt_X10_init 223 rfl) ?_
  refine j_iastc (n := 110) hC (show shp 109 = (21, 126) from rfl) (Nat.le_of_ble_eq_true rfl) (by decide +kernel) (dOk_at dt_X10_init 224 rfl) ?_
  refine j_dupr hC (dOk_at dt_X10_init 225 rfl) ?_
  refine j_bipush hC (v := (54 : Int32)) rfl (dOk_at dt_X10_init 226 rfl) ?_
  refine j_bipush hC (v := (32 : Int32)) rfl (dOk_at dt_X10_init 227 rfl) ?_
  refine j_iastc (n := 110) hC (show shp 109 = (21, 126) from rfl) (Nat.le_of_ble_eq_true rfl) (by decide +kernel) (dOk_at dt_X10_init 228 rfl) ?_
  refine j_dupr hC (dOk_at dt_X10_init 229 rfl) ?_
  refine j_bipush hC (v := (55 : Int32)) rfl (dOk_at dt_X10_init 230 rfl) ?_
  refine j_bipush hC (v := (108 : Int32)) rfl (dOk_at dt_X10_init 231 rfl) ?_
  refine j_iastc (n := 110) hC (show shp 109 = (21, 126) from rfl) (Nat.le_of_ble_eq_true rfl) (by decide +kernel) (dOk_at dt_X10_init 232 rfl) ?_
  refine j_dupr hC (dOk_at dt_X10_init 233 rfl) ?_
  refine j_bipush hC (v := (56 : Int32)) rfl (dOk_at dt_X10_init 234 rfl) ?_
  refine j_bipush hC (v := (97 : Int32)) rfl (dOk_at dt_X10_init 235 rfl) ?_
  refine j_iastc (n := 110) hC (show shp 109 = (21, 126) from rfl) (Nat.le_of_ble_eq_true rfl) (by decide +kernel) (dOk_at dt_X10_init 236 rfl) ?_
  refine j_dupr hC (dOk_at dt_X10_init 237 rfl) ?_
  refine j_bipush hC (v := (57 : Int32)) rfl (dOk_at dt_X10_init 238 rfl) ?_
  refine j_bipush hC (v := (119 : Int32)) rfl (dOk_at dt_X10_init 239 rfl) ?_
  refine j_iastc (n := 110) hC (show shp 109 = (21, 126) from rfl) (Nat.le_of_ble_eq_true rfl) (by decide +kernel) (dOk_at dt_X10_init 240 rfl) ?_
  refine j_dupr hC (dOk_at dt_X10_init 241 rfl) ?_
  refine j_bipush hC (v := (58 : Int32)) rfl (dOk_at dt_X10_init 242 rfl) ?_
  refine j_bipush hC (v := (32 : Int32)) rfl (dOk_at dt_X10_init 243 rfl) ?_
  refine j_iastc (n := 110) hC (show shp 109 = (21, 126) from rfl) (Nat.le_of_ble_eq_true rfl) (by decide +kernel) (dOk_at dt_X10_init 244 rfl) ?_
  refine j_dupr hC (dOk_at dt_X10_init 245 rfl) ?_
  refine j_bipush hC (v := (59 : Int32)) rfl (dOk_at dt_X10_init 246 rfl) ?_
  refine j_bipush hC (v := (108 : Int32)) rfl (dOk_at dt_X10_init 247 rfl) ?_
  refine j_iastc (n := 110) hC (show shp 109 = (21, 126) from rfl) (Nat.le_of_ble_eq_true rfl) (by decide +kernel) (dOk_at dt_X10_init 248 rfl) ?_
  refine j_dupr hC (dOk_at dt_X10_init 249 rfl) ?_
  refine j_bipush hC (v := (60 : Int32)) rfl (dOk_at dt_X10_init 250 rfl) ?_
  refine j_bipush hC (v := (101 : Int32)) rfl (dOk_at dt_X10_init 251 rfl) ?_
  refine j_iastc (n := 110) hC (show shp 109 = (21, 126) from rfl) (Nat.le_of_ble_eq_true rfl) (by decide +kernel) (dOk_at dt_X10_init 252 rfl) ?_
  refine j_dupr hC (dOk_at dt_X10_init 253 rfl) ?_
  refine j_bipush hC (v := (61 : Int32)) rfl (dOk_at dt_X10_init 254 rfl) ?_
  refine j_bipush hC (v := (97 : Int32)) rfl (dOk_at dt_X10_init 255 rfl) ?_
  refine j_iastc (n := 110) hC (show shp 109 = (21, 126) from rfl) (Nat.le_of_ble_eq_true rfl) (by decide +kernel) (dOk_at dt_X10_init 256 rfl) ?_
  refine j_dupr hC (dOk_at dt_X10_init 257 rfl) ?_
  refine j_bipush hC (v := (62 : Int32)) rfl (dOk_at dt_X10_init 258 rfl) ?_
  refine j_bipush hC (v := (110 : Int32)) rfl (dOk_at dt_X10_init 259 rfl) ?_
  refine j_iastc (n := 110) hC (show shp 109 = (21, 126) from rfl) (Nat.le_of_ble_eq_true rfl) (by decide +kernel) (dOk_at dt_X10_init 260 rfl) ?_
  refine j_dupr hC (dOk_at dt_X10_init 261 rfl) ?_
  refine j_bipush hC (v := (63 : Int32)) rfl (dOk_at dt_X10_init 262 rfl) ?_
  refine j_bipush hC (v := (32 : Int32)) rfl (dOk_at dt_X10_init 263 rfl) ?_
  refine j_iastc (n := 110) hC (show shp 109 = (21, 126) from rfl) (Nat.le_of_ble_eq_true rfl) (by decide +kernel) (dOk_at dt_X10_init 264 rfl) ?_
  refine j_dupr hC (dOk_at dt_X10_init 265 rfl) ?_
  refine j_bipush hC (v := (64 : Int32)) rfl (dOk_at dt_X10_init 266 rfl) ?_
  refine j_bipush hC (v := (119 : Int32)) rfl (dOk_at dt_X10_init 267 rfl) ?_
  refine j_iastc (n := 110) hC (show shp 109 = (21, 126) from rfl) (Nat.le_of_ble_eq_true rfl) (by decide +kernel) (dOk_at dt_X10_init 268 rfl) ?_
  refine j_dupr hC (dOk_at dt_X10_init 269 rfl) ?_
  refine j_bipush hC (v := (65 : Int32)) rfl (dOk_at dt_X10_init 270 rfl) ?_
  refine j_bipush hC (v := (101 : Int32)) rfl (dOk_at dt_X10_init 271 rfl) ?_
  refine j_iastc (n := 110) hC (show shp 109 = (21, 126) from rfl) (Nat.le_of_ble_eq_true rfl) (by decide +kernel) (dOk_at dt_X10_init 272 rfl) ?_
  refine j_dupr hC (dOk_at dt_X10_init 273 rfl) ?_
  refine j_bipush hC (v := (66 : Int32)) rfl (dOk_at dt_X10_init 274 rfl) ?_
  refine j_bipush hC (v := (97 : Int32)) rfl (dOk_at dt_X10_init 275 rfl) ?_
  refine j_iastc (n := 110) hC (show shp 109 = (21, 126) from rfl) (Nat.le_of_ble_eq_true rfl) (by decide +kernel) (dOk_at dt_X10_init 276 rfl) ?_
  refine j_dupr hC (dOk_at dt_X10_init 277 rfl) ?_
  refine j_bipush hC (v := (67 : Int32)) rfl (dOk_at dt_X10_init 278 rfl) ?_
  refine j_bipush hC (v := (114 : Int32)) rfl (dOk_at dt_X10_init 279 rfl) ?_
  refine j_iastc (n := 110) hC (show shp 109 = (21, 126) from rfl) (Nat.le_of_ble_eq_true rfl) (by decide +kernel) (dOk_at dt_X10_init 280 rfl) ?_
  refine j_dupr hC (dOk_at dt_X10_init 281 rfl) ?_
  refine j_bipush hC (v := (68 : Int32)) rfl (dOk_at dt_X10_init 282 rfl) ?_
  refine j_bipush hC (v := (32 : Int32)) rfl (dOk_at dt_X10_init 283 rfl) ?_
  refine j_iastc (n := 110) hC (show shp 109 = (21, 126) from rfl) (Nat.le_of_ble_eq_true rfl) (by decide +kernel) (dOk_at dt_X10_init 284 rfl) ?_
  refine j_dupr hC (dOk_at dt_X10_init 285 rfl) ?_
  refine j_bipush hC (v := (69 : Int32)) rfl (dOk_at dt_X10_init 286 rfl) ?_
  refine j_bipush hC (v := (116 : Int32)) rfl (dOk_at dt_X10_init 287 rfl) ?_
  refine j_iastc (n := 110) hC (show shp 109 = (21, 126) from rfl) (Nat.le_of_ble_eq_true rfl) (by decide +kernel) (dOk_at dt_X10_init 288 rfl) ?_
  refine j_dupr hC (dOk_at dt_X10_init 289 rfl) ?_
  refine j_bipush hC (v := (70 : Int32)) rfl (dOk_at dt_X10_init 290 rfl) ?_
  refine j_bipush hC (v := (117 : Int32)) rfl (dOk_at dt_X10_init 291 rfl) ?_
  refine j_iastc (n := 110) hC (show shp 109 = (21, 126) from rfl) (Nat.le_of_ble_eq_true rfl) (by decide +kernel) (dOk_at dt_X10_init 292 rfl) ?_
  refine j_dupr hC (dOk_at dt_X10_init 293 rfl) ?_
  refine j_bipush hC (v := (71 : Int32)) rfl (dOk_at dt_X10_init 294 rfl) ?_
  refine j_bipush hC (v := (114 : Int32)) rfl (dOk_at dt_X10_init 295 rfl) ?_
  refine j_iastc (n := 110) hC (show shp 109 = (21, 126) from rfl) (Nat.le_of_ble_eq_true rfl) (by decide +kernel) (dOk_at dt_X10_init 296 rfl) ?_
  refine j_dupr hC (dOk_at dt_X10_init 297 rfl) ?_
  refine j_bipush hC (v := (72 : Int32)) rfl (dOk_at dt_X10_init 298 rfl) ?_
  refine j_bipush hC (v := (110 : Int32)) rfl (dOk_at dt_X10_init 299 rfl) ?_
  refine j_iastc (n := 110) hC (show shp 109 = (21, 126) from rfl) (Nat.le_of_ble_eq_true rfl) (by decide +kernel) (dOk_at dt_X10_init 300 rfl) ?_
  refine j_dupr hC (dOk_at dt_X10_init 301 rfl) ?_
  refine j_bipush hC (v := (73 : Int32)) rfl (dOk_at dt_X10_init 302 rfl) ?_
  refine j_bipush hC (v := (32 : Int32)) rfl (dOk_at dt_X10_init 303 rfl) ?_
  refine j_iastc (n := 110) hC (show shp 109 = (21, 126) from rfl) (Nat.le_of_ble_eq_true rfl) (by decide +kernel) (dOk_at dt_X10_init 304 rfl) ?_
  refine j_dupr hC (dOk_at dt_X10_init 305 rfl) ?_
  refine j_bipush hC (v := (74 : Int32)) rfl (dOk_at dt_X10_init 306 rfl) ?_
  refine j_bipush hC (v := (97 : Int32)) rfl (dOk_at dt_X10_init 307 rfl) ?_
  refine j_iastc (n := 110) hC (show shp 109 = (21, 126) from rfl) (Nat.le_of_ble_eq_true rfl) (by decide +kernel) (dOk_at dt_X10_init 308 rfl) ?_
  refine j_dupr hC (dOk_at dt_X10_init 309 rfl) ?_
  refine j_bipush hC (v := (75 : Int32)) rfl (dOk_at dt_X10_init 310 rfl) ?_
  refine j_bipush hC (v := (110 : Int32)) rfl (dOk_at dt_X10_init 311 rfl) ?_
  refine j_iastc (n := 110) hC (show shp 109 = (21, 126) from rfl) (Nat.le_of_ble_eq_true rfl) (by decide +kernel) (dOk_at dt_X10_init 312 rfl) ?_
  refine j_dupr hC (dOk_at dt_X10_init 313 rfl) ?_
  refine j_bipush hC (v := (76 : Int32)) rfl (dOk_at dt_X10_init 314 rfl) ?_
  refine j_bipush hC (v := (100 : Int32)) rfl (dOk_at dt_X10_init 315 rfl) ?_
  refine j_iastc (n := 110) hC (show shp 109 = (21, 126) from rfl) (Nat.le_of_ble_eq_true rfl) (by decide +kernel) (dOk_at dt_X10_init 316 rfl) ?_
  refine j_dupr hC (dOk_at dt_X10_init 317 rfl) ?_
  refine j_bipush hC (v := (77 : Int32)) rfl (dOk_at dt_X10_init 318 rfl) ?_
  refine j_bipush hC (v := (32 : Int32)) rfl (dOk_at dt_X10_init 319 rfl) ?_
  refine j_iastc (n := 110) hC (show shp 109 = (21, 126) from rfl) (Nat.le_of_ble_eq_true rfl) (by decide +kernel) (dOk_at dt_X10_init 320 rfl) ?_
  refine j_dupr hC (dOk_at dt_X10_init 321 rfl) ?_
  refine j_bipush hC (v := (78 : Int32)) rfl (dOk_at dt_X10_init 322 rfl) ?_
  refine j_bipush hC (v := (111 : Int32)) rfl (dOk_at dt_X10_init 323 rfl) ?_
  refine j_iastc (n := 110) hC (show shp 109 = (21, 126) from rfl) (Nat.le_of_ble_eq_true rfl) (by decide +kernel) (dOk_at dt_X10_init 324 rfl) ?_
  refine j_dupr hC (dOk_at dt_X10_init 325 rfl) ?_
  refine j_bipush hC (v := (79 : Int32)) rfl (dOk_at dt_X10_init 326 rfl) ?_
  refine j_bipush hC (v := (114 : Int32)) rfl (dOk_at dt_X10_init 327 rfl) ?_
  refine j_iastc (n := 110) hC (show shp 109 = (21, 126) from rfl) (Nat.le_of_ble_eq_true rfl) (by decide +kernel) (dOk_at dt_X10_init 328 rfl) ?_
  refine j_dupr hC (dOk_at dt_X10_init 329 rfl) ?_
  refine j_bipush hC (v := (80 : Int32)) rfl (dOk_at dt_X10_init 330 rfl) ?_
  refine j_bipush hC (v := (32 : Int32)) rfl (dOk_at dt_X10_init 331 rfl) ?_
  refine j_iastc (n := 110) hC (show shp 109 = (21, 126) from rfl) (Nat.le_of_ble_eq_true rfl) (by decide +kernel) (dOk_at dt_X10_init 332 rfl) ?_
  refine j_dupr hC (dOk_at dt_X10_init 333 rfl) ?_
  refine j_bipush hC (v := (81 : Int32)) rfl (dOk_at dt_X10_init 334 rfl) ?_
  refine j_bipush hC (v := (110 : Int32)) rfl (dOk_at dt_X10_init 335 rfl) ?_
  refine j_iastc (n := 110) hC (show shp 109 = (21, 126) from rfl) (Nat.le_of_ble_eq_true rfl) (by decide +kernel) (dOk_at dt_X10_init 336 rfl) ?_
  refine j_dupr hC (dOk_at dt_X10_init 337 rfl) ?_
  refine j_bipush hC (v := (82 : Int32)) rfl (dOk_at dt_X10_init 338 rfl) ?_
  refine j_bipush hC (v := (111 : Int32)) rfl (dOk_at dt_X10_init 339 rfl) ?_
  refine j_iastc (n := 110) hC (show shp 109 = (21, 126) from rfl) (Nat.le_of_ble_eq_true rfl) (by decide +kernel) (dOk_at dt_X10_init 340 rfl) ?_
  refine j_dupr hC (dOk_at dt_X10_init 341 rfl) ?_
  refine j_bipush hC (v := (83 : Int32)) rfl (dOk_at dt_X10_init 342 rfl) ?_
  refine j_bipush hC (v := (116 : Int32)) rfl (dOk_at dt_X10_init 343 rfl) ?_
  refine j_iastc (n := 110) hC (show shp 109 = (21, 126) from rfl) (Nat.le_of_ble_eq_true rfl) (by decide +kernel) (dOk_at dt_X10_init 344 rfl) ?_
  refine j_dupr hC (dOk_at dt_X10_init 345 rfl) ?_
  refine j_bipush hC (v := (84 : Int32)) rfl (dOk_at dt_X10_init 346 rfl) ?_
  refine j_bipush hC (v := (32 : Int32)) rfl (dOk_at dt_X10_init 347 rfl) ?_
  refine j_iastc (n := 110) hC (show shp 109 = (21, 126) from rfl) (Nat.le_of_ble_eq_true rfl) (by decide +kernel) (dOk_at dt_X10_init 348 rfl) ?_
  refine j_dupr hC (dOk_at dt_X10_init 349 rfl) ?_
  refine j_bipush hC (v := (85 : Int32)) rfl (dOk_at dt_X10_init 350 rfl) ?_
  refine j_bipush hC (v := (119 : Int32)) rfl (dOk_at dt_X10_init 351 rfl) ?_
  refine j_iastc (n := 110) hC (show shp 109 = (21, 126) from rfl) (Nat.le_of_ble_eq_true rfl) (by decide +kernel) (dOk_at dt_X10_init 352 rfl) ?_
  refine j_dupr hC (dOk_at dt_X10_init 353 rfl) ?_
  refine j_bipush hC (v := (86 : Int32)) rfl (dOk_at dt_X10_init 354 rfl) ?_
  refine j_bipush hC (v := (101 : Int32)) rfl (dOk_at dt_X10_init 355 rfl) ?_
  refine j_iastc (n := 110) hC (show shp 109 = (21, 126) from rfl) (Nat.le_of_ble_eq_true rfl) (by decide +kernel) (dOk_at dt_X10_init 356 rfl) ?_
  refine j_dupr hC (dOk_at dt_X10_init 357 rfl) ?_
  refine j_bipush hC (v := (87 : Int32)) rfl (dOk_at dt_X10_init 358 rfl) ?_
  refine j_bipush hC (v := (105 : Int32)) rfl (dOk_at dt_X10_init 359 rfl) ?_
  refine j_iastc (n := 110) hC (show shp 109 = (21, 126) from rfl) (Nat.le_of_ble_eq_true rfl) (by decide +kernel) (dOk_at dt_X10_init 360 rfl) ?_
  refine j_dupr hC (dOk_at dt_X10_init 361 rfl) ?_
  refine j_bipush hC (v := (88 : Int32)) rfl (dOk_at dt_X10_init 362 rfl) ?_
  refine j_bipush hC (v := (103 : Int32)) rfl (dOk_at dt_X10_init 363 rfl) ?_
  refine j_iastc (n := 110) hC (show shp 109 = (21, 126) from rfl) (Nat.le_of_ble_eq_true rfl) (by decide +kernel) (dOk_at dt_X10_init 364 rfl) ?_
  refine j_dupr hC (dOk_at dt_X10_init 365 rfl) ?_
  refine j_bipush hC (v := (89 : Int32)) rfl (dOk_at dt_X10_init 366 rfl) ?_
  refine j_bipush hC (v := (104 : Int32)) rfl (dOk_at dt_X10_init 367 rfl) ?_
  refine j_iastc (n := 110) hC (show shp 109 = (21, 126) from rfl) (Nat.le_of_ble_eq_true rfl) (by decide +kernel) (dOk_at dt_X10_init 368 rfl) ?_
  refine j_dupr hC (dOk_at dt_X10_init 369 rfl) ?_
  refine j_bipush hC (v := (90 : Int32)) rfl (dOk_at dt_X10_init 370 rfl) ?_
  refine j_bipush hC (v := (116 : Int32)) rfl (dOk_at dt_X10_init 371 rfl) ?_
  refine j_iastc (n := 110) hC (show shp 109 = (21, 126) from rfl) (Nat.le_of_ble_eq_true rfl) (by decide +kernel) (dOk_at dt_X10_init 372 rfl) ?_
  refine j_dupr hC (dOk_at dt_X10_init 373 rfl) ?_
  refine j_bipush hC (v := (91 : Int32)) rfl (dOk_at dt_X10_init 374 rfl) ?_
  refine j_bipush hC (v := (32 : Int32)) rfl (dOk_at dt_X10_init 375 rfl) ?_
  refine j_iastc (n := 110) hC (show shp 109 = (21, 126) from rfl) (Nat.le_of_ble_eq_true rfl) (by decide +kernel) (dOk_at dt_X10_init 376 rfl) ?_
  refine j_dupr hC (dOk_at dt_X10_init 377 rfl) ?_
  refine j_bipush hC (v := (92 : Int32)) rfl (dOk_at dt_X10_init 378 rfl) ?_
  refine j_bipush hC (v := (116 : Int32)) rfl (dOk_at dt_X10_init 379 rfl) ?_
  refine j_iastc (n := 110) hC (show shp 109 = (21, 126) from rfl) (Nat.le_of_ble_eq_true rfl) (by decide +kernel) (dOk_at dt_X10_init 380 rfl) ?_
  refine j_dupr hC (dOk_at dt_X10_init 381 rfl) ?_
  refine j_bipush hC (v := (93 : Int32)) rfl (dOk_at dt_X10_init 382 rfl) ?_
  refine j_bipush hC (v := (101 : Int32)) rfl (dOk_at dt_X10_init 383 rfl) ?_
  refine j_iastc (n := 110) hC (show shp 109 = (21, 126) from rfl) (Nat.le_of_ble_eq_true rfl) (by decide +kernel) (dOk_at dt_X10_init 384 rfl) ?_
  refine j_dupr hC (dOk_at dt_X10_init 385 rfl) ?_
  refine j_bipush hC (v := (94 : Int32)) rfl (dOk_at dt_X10_init 386 rfl) ?_
  refine j_bipush hC (v := (109 : Int32)) rfl (dOk_at dt_X10_init 387 rfl) ?_
  refine j_iastc (n := 110) hC (show shp 109 = (21, 126) from rfl) (Nat.le_of_ble_eq_true rfl) (by decide +kernel) (dOk_at dt_X10_init 388 rfl) ?_
  refine j_dupr hC (dOk_at dt_X10_init 389 rfl) ?_
  refine j_bipush hC (v := (95 : Int32)) rfl (dOk_at dt_X10_init 390 rfl) ?_
  refine j_bipush hC (v := (112 : Int32)) rfl (dOk_at dt_X10_init 391 rfl) ?_
  refine j_iastc (n := 110) hC (show shp 109 = (21, 126) from rfl) (Nat.le_of_ble_eq_true rfl) (by decide +kernel) (dOk_at dt_X10_init 392 rfl) ?_
  refine j_dupr hC (dOk_at dt_X10_init 393 rfl) ?_
  refine j_bipush hC (v := (96 : Int32)) rfl (dOk_at dt_X10_init 394 rfl) ?_
  refine j_bipush hC (v := (101 : Int32)) rfl (dOk_at dt_X10_init 395 rfl) ?_
  refine j_iastc (n := 110) hC (show shp 109 = (21, 126) from rfl) (Nat.le_of_ble_eq_true rfl) (by decide +kernel) (dOk_at dt_X10_init 396 rfl) ?_
  refine j_dupr hC (dOk_at dt_X10_init 397 rfl) ?_
  refine j_bipush hC (v := (97 : Int32)) rfl (dOk_at dt_X10_init 398 rfl) ?_
  refine j_bipush hC (v := (114 : Int32)) rfl (dOk_at dt_X10_init 399 rfl) ?_
  refine j_iastc (n := 110) hC (show shp 109 = (21, 126) from rfl) (Nat.le_of_ble_eq_true rfl) (by decide +kernel) (dOk_at dt_X10_init 400 rfl) ?_
  refine j_dupr hC (dOk_at dt_X10_init 401 rfl) ?_
  refine j_bipush hC (v := (98 : Int32)) rfl (dOk_at dt_X10_init 402 rfl) ?_
  refine j_bipush hC (v := (32 : Int32)) rfl (dOk_at dt_X10_init 403 rfl) ?_
  refine j_iastc (n := 110) hC (show shp 109 = (21, 126) from rfl) (Nat.le_of_ble_eq_true rfl) (by decide +kernel) (dOk_at dt_X10_init 404 rfl) ?_
  refine j_dupr hC (dOk_at dt_X10_init 405 rfl) ?_
  refine j_bipush hC (v := (99 : Int32)) rfl (dOk_at dt_X10_init 406 rfl) ?_
  refine j_bipush hC (v := (102 : Int32)) rfl (dOk_at dt_X10_init 407 rfl) ?_
  refine j_iastc (n := 110) hC (show shp 109 = (21, 126) from rfl) (Nat.le_of_ble_eq_true rfl) (by decide +kernel) (dOk_at dt_X10_init 408 rfl) ?_
  refine j_dupr hC (dOk_at dt_X10_init 409 rfl) ?_
  refine j_bipush hC (v := (100 : Int32)) rfl (dOk_at dt_X10_init 410 rfl) ?_
  refine j_bipush hC (v := (117 : Int32)) rfl (dOk_at dt_X10_init 411 rfl) ?_
  refine j_iastc (n := 110) hC (show shp 109 = (21, 126) from rfl) (Nat.le_of_ble_eq_true rfl) (by decide +kernel) (dOk_at dt_X10_init 412 rfl) ?_
  refine j_dupr hC (dOk_at dt_X10_init 413 rfl) ?_
  refine j_bipush hC (v := (101 : Int32)) rfl (dOk_at dt_X10_init 414 rfl) ?_
  refine j_bipush hC (v := (108 : Int32)) rfl (dOk_at dt_X10_init 415 rfl) ?_
  refine j_iastc (n := 110) hC (show shp 109 = (21, 126) from rfl) (Nat.le_of_ble_eq_true rfl) (by decide +kernel) (dOk_at dt_X10_init 416 rfl) ?_
  refine j_dupr hC (dOk_at dt_X10_init 417 rfl) ?_
  refine j_bipush hC (v := (102 : Int32)) rfl (dOk_at dt_X10_init 418 rfl) ?_
  refine j_bipush hC (v := (108 : Int32)) rfl (dOk_at dt_X10_init 419 rfl) ?_
  refine j_iastc (n := 110) hC (show shp 109 = (21, 126) from rfl) (Nat.le_of_ble_eq_true rfl) (by decide +kernel) (dOk_at dt_X10_init 420 rfl) ?_
  refine j_dupr hC (dOk_at dt_X10_init 421 rfl) ?_
  refine j_bipush hC (v := (103 : Int32)) rfl (dOk_at dt_X10_init 422 rfl) ?_
  refine j_bipush hC (v := (32 : Int32)) rfl (dOk_at dt_X10_init 423 rfl) ?_
  refine j_iastc (n := 110) hC (show shp 109 = (21, 126) from rfl) (Nat.le_of_ble_eq_true rfl) (by decide +kernel) (dOk_at dt_X10_init 424 rfl) ?_
  refine j_dupr hC (dOk_at dt_X10_init 425 rfl) ?_
  refine j_bipush hC (v := (104 : Int32)) rfl (dOk_at dt_X10_init 426 rfl) ?_
  refine j_bipush hC (v := (102 : Int32)) rfl (dOk_at dt_X10_init 427 rfl) ?_
  refine j_iastc (n := 110) hC (show shp 109 = (21, 126) from rfl) (Nat.le_of_ble_eq_true rfl) (by decide +kernel) (dOk_at dt_X10_init 428 rfl) ?_
  refine j_dupr hC (dOk_at dt_X10_init 429 rfl) ?_
  refine j_bipush hC (v := (105 : Int32)) rfl (dOk_at dt_X10_init 430 rfl) ?_
  refine j_bipush hC (v := (111 : Int32)) rfl (dOk_at dt_X10_init 431 rfl) ?_
  refine j_iastc (n := 110) hC (show shp 109 = (21, 126) from rfl) (Nat.le_of_ble_eq_true rfl) (by decide +kernel) (dOk_at dt_X10_init 432 rfl) ?_
  refine j_dupr hC (dOk_at dt_X10_init 433 rfl) ?_
  refine j_bipush hC (v := (106 : Int32)) rfl (dOk_at dt_X10_init 434 rfl) ?_
  refine j_bipush hC (v := (114 : Int32)) rfl (dOk_at dt_X10_init 435 rfl) ?_
  refine j_iastc (n := 110) hC (show shp 109 = (21, 126) from rfl) (Nat.le_of_ble_eq_true rfl) (by decide +kernel) (dOk_at dt_X10_init 436 rfl) ?_
  refine j_dupr hC (dOk_at dt_X10_init 437 rfl) ?_
  refine j_bipush hC (v := (107 : Int32)) rfl (dOk_at dt_X10_init 438 rfl) ?_
  refine j_bipush hC (v := (99 : Int32)) rfl (dOk_at dt_X10_init 439 rfl) ?_
  refine j_iastc (n := 110) hC (show shp 109 = (21, 126) from rfl) (Nat.le_of_ble_eq_true rfl) (by decide +kernel) (dOk_at dt_X10_init 440 rfl) ?_
  refine j_dupr hC (dOk_at dt_X10_init 441 rfl) ?_
  refine j_bipush hC (v := (108 : Int32)) rfl (dOk_at dt_X10_init 442 rfl) ?_
  refine j_bipush hC (v := (101 : Int32)) rfl (dOk_at dt_X10_init 443 rfl) ?_
  refine j_iastc (n := 110) hC (show shp 109 = (21, 126) from rfl) (Nat.le_of_ble_eq_true rfl) (by decide +kernel) (dOk_at dt_X10_init 444 rfl) ?_
  refine j_dupr hC (dOk_at dt_X10_init 445 rfl) ?_
  refine j_bipush hC (v := (109 : Int32)) rfl (dOk_at dt_X10_init 446 rfl) ?_
  refine j_bipush hC (v := (32 : Int32)) rfl (dOk_at dt_X10_init 447 rfl) ?_
  refine j_iastc (n := 110) hC (show shp 109 = (21, 126) from rfl) (Nat.le_of_ble_eq_true rfl) (by decide +kernel) (dOk_at dt_X10_init 448 rfl) ?_
  refine j_dupr hC (dOk_at dt_X10_init 449 rfl) ?_
  refine j_bipush hC (v := (110 : Int32)) rfl (dOk_at dt_X10_init 450 rfl) ?_
  refine j_bipush hC (v := (119 : Int32)) rfl (dOk_at dt_X10_init 451 rfl) ?_
  refine j_iastc (n := 110) hC (show shp 109 = (21, 126) from rfl) (Nat.le_of_ble_eq_true rfl) (by decide +kernel) (dOk_at dt_X10_init 452 rfl) ?_
  refine j_dupr hC (dOk_at dt_X10_init 453 rfl) ?_
  refine j_bipush hC (v := (111 : Int32)) rfl (dOk_at dt_X10_init 454 rfl) ?_
  refine j_bipush hC (v := (105 : Int32)) rfl (dOk_at dt_X10_init 455 rfl) ?_
  refine j_iastc (n := 110) hC (show shp 109 = (21, 126) from rfl) (Nat.le_of_ble_eq_true rfl) (by decide +kernel) (dOk_at dt_X10_init 456 rfl) ?_
  refine j_dupr hC (dOk_at dt_X10_init 457 rfl) ?_
  refine j_bipush hC (v := (112 : Int32)) rfl (dOk_at dt_X10_init 458 rfl) ?_
  refine j_bipush hC (v := (110 : Int32)) rfl (dOk_at dt_X10_init 459 rfl) ?_
  refine j_iastc (n := 110) hC (show shp 109 = (21, 126) from rfl) (Nat.le_of_ble_eq_true rfl) (by decide +kernel) (dOk_at dt_X10_init 460 rfl) ?_
  refine j_dupr hC (dOk_at dt_X10_init 461 rfl) ?_
  refine j_bipush hC (v := (113 : Int32)) rfl (dOk_at dt_X10_init 462 rfl) ?_
  refine j_bipush hC (v := (115 : Int32)) rfl (dOk_at dt_X10_init 463 rfl) ?_
  refine j_iastc (n := 110) hC (show shp 109 = (21, 126) from rfl) (Nat.le_of_ble_eq_true rfl) (by decide +kernel) (dOk_at dt_X10_init 464 rfl) ?_
  refine j_dupr hC (dOk_at dt_X10_init 465 rfl) ?_
  refine j_bipush hC (v := (114 : Int32)) rfl (dOk_at dt_X10_init 466 rfl) ?_
  refine j_bipush hC (v := (32 : Int32)) rfl (dOk_at dt_X10_init 467 rfl) ?_
  refine j_iastc (n := 110) hC (show shp 109 = (21, 126) from rfl) (Nat.le_of_ble_eq_true rfl) (by decide +kernel) (dOk_at dt_X10_init 468 rfl) ?_
  refine j_dupr hC (dOk_at dt_X10_init 469 rfl) ?_
  refine j_bipush hC (v := (115 : Int32)) rfl (dOk_at dt_X10_init 470 rfl) ?_
  refine j_bipush hC (v := (104 : Int32)) rfl (dOk_at dt_X10_init 471 rfl) ?_
  refine j_iastc (n := 110) hC (show shp 109 = (21, 126) from rfl) (Nat.le_of_ble_eq_true rfl) (by decide +kernel) (dOk_at dt_X10_init 472 rfl) ?_
  refine j_dupr hC (dOk_at dt_X10_init 473 rfl) ?_
  refine j_bipush hC (v := (116 : Int32)) rfl (dOk_at dt_X10_init 474 rfl) ?_
  refine j_bipush hC (v := (101 : Int32)) rfl (dOk_at dt_X10_init 475 rfl) ?_
  refine j_iastc (n := 110) hC (show shp 109 = (21, 126) from rfl) (Nat.le_of_ble_eq_true rfl) (by decide +kernel) (dOk_at dt_X10_init 476 rfl) ?_
  refine j_dupr hC (dOk_at dt_X10_init 477 rfl) ?_
  refine j_bipush hC (v := (117 : Int32)) rfl (dOk_at dt_X10_init 478 rfl) ?_
  refine j_bipush hC (v := (108 : Int32)) rfl (dOk_at dt_X10_init 479 rfl) ?_
  refine j_iastc (n := 110) hC (show shp 109 = (21, 126) from rfl) (Nat.le_of_ble_eq_true rfl) (by decide +kernel) (dOk_at dt_X10_init 480 rfl) ?_
  refine j_dupr hC (dOk_at dt_X10_init 481 rfl) ?_
  refine j_bipush hC (v := (118 : Int32)) rfl (dOk_at dt_X10_init 482 rfl) ?_
  refine j_bipush hC (v := (100 : Int32)) rfl (dOk_at dt_X10_init 483 rfl) ?_
  refine j_iastc (n := 110) hC (show shp 109 = (21, 126) from rfl) (Nat.le_of_ble_eq_true rfl) (by decide +kernel) (dOk_at dt_X10_init 484 rfl) ?_
  refine j_dupr hC (dOk_at dt_X10_init 485 rfl) ?_
  refine j_bipush hC (v := (119 : Int32)) rfl (dOk_at dt_X10_init 486 rfl) ?_
  refine j_bipush hC (v := (32 : Int32)) rfl (dOk_at dt_X10_init 487 rfl) ?_
  refine j_iastc (n := 110) hC (show shp 109 = (21, 126) from rfl) (Nat.le_of_ble_eq_true rfl) (by decide +kernel) (dOk_at dt_X10_init 488 rfl) ?_
  refine j_dupr hC (dOk_at dt_X10_init 489 rfl) ?_
  refine j_bipush hC (v := (120 : Int32)) rfl (dOk_at dt_X10_init 490 rfl) ?_
  refine j_bipush hC (v := (110 : Int32)) rfl (dOk_at dt_X10_init 491 rfl) ?_
  refine j_iastc (n := 110) hC (show shp 109 = (21, 126) from rfl) (Nat.le_of_ble_eq_true rfl) (by decide +kernel) (dOk_at dt_X10_init 492 rfl) ?_
  refine j_dupr hC (dOk_at dt_X10_init 493 rfl) ?_
  refine j_bipush hC (v := (121 : Int32)) rfl (dOk_at dt_X10_init 494 rfl) ?_
  refine j_bipush hC (v := (105 : Int32)) rfl (dOk_at dt_X10_init 495 rfl) ?_
  refine j_iastc (n := 110) hC (show shp 109 = (21, 126) from rfl) (Nat.le_of_ble_eq_true rfl) (by decide +kernel) (dOk_at dt_X10_init 496 rfl) ?_
  refine j_dupr hC (dOk_at dt_X10_init 497 rfl) ?_
  refine j_bipush hC (v := (122 : Int32)) rfl (dOk_at dt_X10_init 498 rfl) ?_
  refine j_bipush hC (v := (103 : Int32)) rfl (dOk_at dt_X10_init 499 rfl) ?_
  refine j_iastc (n := 110) hC (show shp 109 = (21, 126) from rfl) (Nat.le_of_ble_eq_true rfl) (by decide +kernel) (dOk_at dt_X10_init 500 rfl) ?_
  refine j_dupr hC (dOk_at dt_X10_init 501 rfl) ?_
  refine j_bipush hC (v := (123 : Int32)) rfl (dOk_at dt_X10_init 502 rfl) ?_
  refine j_bipush hC (v := (104 : Int32)) rfl (dOk_at dt_X10_init 503 rfl) ?_
  refine j_iastc (n := 110) hC (show shp 109 = (21, 126) from rfl) (Nat.le_of_ble_eq_true rfl) (by decide +kernel) (dOk_at dt_X10_init 504 rfl) ?_
  refine j_dupr hC (dOk_at dt_X10_init 505 rfl) ?_
  refine j_bipush hC (v := (124 : Int32)) rfl (dOk_at dt_X10_init 506 rfl) ?_
  refine j_bipush hC (v := (116 : Int32)) rfl (dOk_at dt_X10_init 507 rfl) ?_
  refine j_iastc (n := 110) hC (show shp 109 = (21, 126) from rfl) (Nat.le_of_ble_eq_true rfl) (by decide +kernel) (dOk_at dt_X10_init 508 rfl) ?_
  refine j_dupr hC (dOk_at dt_X10_init 509 rfl) ?_
  refine j_bipush hC (v := (125 : Int32)) rfl (dOk_at dt_X10_init 510 rfl) ?_
  refine j_bipush hC (v := (32 : Int32)) rfl (dOk_at dt_X10_init 511 rfl) ?_
  refine j_iastc (n := 110) hC (show shp 109 = (21, 126) from rfl) (Nat.le_of_ble_eq_true rfl) (by decide +kernel) (dOk_at dt_X10_init 512 rfl) ?_
  refine j_putRc (n := 110) hC hin flX10_13 (fun q hq _ => by cases hq; rfl) (show shp 107 = (10, 88) from rfl) (Nat.le_of_ble_eq_true rfl) (by decide) (by decide) (Or.inr ⟨_, rfl⟩) (dOk_at dt_X10_init 513 rfl) ?_
  refine j_aload_n hC 0 rfl rfl (dOk_at dt_X10_init 514 rfl) ?_
  refine j_iconst hC (v := (-1 : Int32)) rfl (dOk_at dt_X10_init 515 rfl) ?_
  refine j_putIc (n := 110) hC hin flX10_16 (fun q hq _ => by cases hq; rfl) (show shp 107 = (10, 88) from rfl) (Nat.le_of_ble_eq_true rfl) (by decide) (by decide) rfl (dOk_at dt_X10_init 516 rfl) ?_
  refine j_aload_n hC 0 rfl rfl (dOk_at dt_X10_init 517 rfl) ?_
  refine j_iconst hC (v := (2 : Int32)) rfl (dOk_at dt_X10_init 518 rfl) ?_
  refine j_newaI (atype := .boolean) (n := 110) (t := 3) (ty := .boolean) (N := 2) hC aw_boolean rfl rfl (fun C q => by cases q) (show shp 110 = (20 + 3, 2) from rfl) rfl (by decide) (by decide +kernel) (by decide +kernel) (Nat.le_of_ble_eq_true rfl) (by omega) ⟨Nat.le_of_ble_eq_true rfl, Nat.le_of_ble_eq_true rfl⟩ (dOk_at dt_X10_init 519 rfl) ?_
  refine j_putRc (n := 111) hC hin flX10_20 (fun q hq _ => by cases hq; rfl) (show shp 107 = (10, 88) from rfl) (Nat.le_of_ble_eq_true rfl) (by decide) (by decide) (Or.inr ⟨_, rfl⟩) (dOk_at dt_X10_init 520 rfl) ?_
  refine j_aload_n hC 0 rfl rfl (dOk_at dt_X10_init 521 rfl) ?_
  refine j_iconst hC (v := (4 : Int32)) rfl (dOk_at dt_X10_init 522 rfl) ?_
  refine j_newaI (atype := .int) (n := 111) (t := 1) (ty := .int) (N := 4) hC aw_int rfl rfl (fun C q => by cases q) (show shp 111 = (20 + 1, 4) from rfl) rfl (by decide) (by decide +kernel) (by decide +kernel) (Nat.le_of_ble_eq_true rfl) (by omega) ⟨Nat.le_of_ble_eq_true rfl, Nat.le_of_ble_eq_true rfl⟩ (dOk_at dt_X10_init 523 rfl) ?_
  refine j_putRc (n := 112) hC hin flX10_24 (fun q hq _ => by cases hq; rfl) (show shp 107 = (10, 88) from rfl) (Nat.le_of_ble_eq_true rfl) (by decide) (by decide) (Or.inr ⟨_, rfl⟩) (dOk_at dt_X10_init 524 rfl) ?_
  refine j_aload_n hC 0 rfl rfl (dOk_at dt_X10_init 525 rfl) ?_
  refine j_bipush hC (v := (16 : Int32)) rfl (dOk_at dt_X10_init 526 rfl) ?_
  refine j_newaI (atype := .int) (n := 112) (t := 1) (ty := .int) (N := 16) hC aw_int rfl rfl (fun C q => by cases q) (show shp 112 = (20 + 1, 16) from rfl) rfl (by decide) (by decide +kernel) (by decide +kernel) (Nat.le_of_ble_eq_true rfl) (by omega) ⟨Nat.le_of_ble_eq_true rfl, Nat.le_of_ble_eq_true rfl⟩ (dOk_at dt_X10_init 527 rfl) ?_
  refine j_putRc (n := 113) hC hin flX10_27 (fun q hq _ => by cases hq; rfl) (show shp 107 = (10, 88) from rfl) (Nat.le_of_ble_eq_true rfl) (by decide) (by decide) (Or.inr ⟨_, rfl⟩) (dOk_at dt_X10_init 528 rfl) ?_
  refine j_aload_n hC 0 rfl rfl (dOk_at dt_X10_init 529 rfl) ?_
  refine j_bipush hC (v := (16 : Int32)) rfl (dOk_at dt_X10_init 530 rfl) ?_
  refine j_newaI (atype := .int) (n := 113) (t := 1) (ty := .int) (N := 16) hC aw_int rfl rfl (fun C q => by cases q) (show shp 113 = (20 + 1, 16) from rfl) rfl (by decide) (by decide +kernel) (by decide +kernel) (Nat.le_of_ble_eq_true rfl) (by omega) ⟨Nat.le_of_ble_eq_true rfl, Nat.le_of_ble_eq_true rfl⟩ (dOk_at dt_X10_init 531 rfl) ?_
  refine j_putRc (n := 114) hC hin flX10_30 (fun q hq _ => by cases hq; rfl) (show shp 107 = (10, 88) from rfl) (Nat.le_of_ble_eq_true rfl) (by decide) (by decide) (Or.inr ⟨_, rfl⟩) (dOk_at dt_X10_init 532 rfl) ?_
  refine j_aload_n hC 0 rfl rfl (dOk_at dt_X10_init 533 rfl) ?_
  refine j_bipush hC (v := (16 : Int32)) rfl (dOk_at dt_X10_init 534 rfl) ?_
  refine j_newaI (atype := .int) (n := 114) (t := 1) (ty := .int) (N := 16) hC aw_int rfl rfl (fun C q => by cases q) (show shp 114 = (20 + 1, 16) from rfl) rfl (by decide) (by decide +kernel) (by decide +kernel) (Nat.le_of_ble_eq_true rfl) (by omega) ⟨Nat.le_of_ble_eq_true rfl, Nat.le_of_ble_eq_true rfl⟩ (dOk_at dt_X10_init 535 rfl) ?_
  refine j_putRc (n := 115) hC hin flX10_33 (fun q hq _ => by cases hq; rfl) (show shp 107 = (10, 88) from rfl) (Nat.le_of_ble_eq_true rfl) (by decide) (by decide) (Or.inr ⟨_, rfl⟩) (dOk_at dt_X10_init 536 rfl) ?_
  refine j_aload_n hC 0 rfl rfl (dOk_at dt_X10_init 537 rfl) ?_
  refine j_bipush hC (v := (32 : Int32)) rfl (dOk_at dt_X10_init 538 rfl) ?_
  refine j_newaI (atype := .int) (n := 115) (t := 1) (ty := .int) (N := 32) hC aw_int rfl rfl (fun C q => by cases q) (show shp 115 = (20 + 1, 32) from rfl) rfl (by decide) (by decide +kernel) (by decide +kernel) (Nat.le_of_ble_eq_true rfl) (by omega) ⟨Nat.le_of_ble_eq_true rfl, Nat.le_of_ble_eq_true rfl⟩ (dOk_at dt_X10_init 539 rfl) ?_
  refine j_putRc (n := 116) hC hin flX10_36 (fun q hq _ => by cases hq; rfl) (show shp 107 = (10, 88) from rfl) (Nat.le_of_ble_eq_true rfl) (by decide) (by decide) (Or.inr ⟨_, rfl⟩) (dOk_at dt_X10_init 540 rfl) ?_
  refine j_aload_n hC 0 rfl rfl (dOk_at dt_X10_init 541 rfl) ?_
  refine j_bipush hC (v := (32 : Int32)) rfl (dOk_at dt_X10_init 542 rfl) ?_
  refine j_newaI (atype := .int) (n := 116) (t := 1) (ty := .int) (N := 32) hC aw_int rfl rfl (fun C q => by cases q) (show shp 116 = (20 + 1, 32) from rfl) rfl (by decide) (by decide +kernel) (by decide +kernel) (Nat.le_of_ble_eq_true rfl) (by omega) ⟨Nat.le_of_ble_eq_true rfl, Nat.le_of_ble_eq_true rfl⟩ (dOk_at dt_X10_init 543 rfl) ?_
  refine j_putRc (n := 117) hC hin flX10_39 (fun q hq _ => by cases hq; rfl) (show shp 107 = (10, 88) from rfl) (Nat.le_of_ble_eq_true rfl) (by decide) (by decide) (Or.inr ⟨_, rfl⟩) (dOk_at dt_X10_init 544 rfl) ?_
  refine j_aload_n hC 0 rfl rfl (dOk_at dt_X10_init 545 rfl) ?_
  refine j_bipush hC (v := (10 : Int32)) rfl (dOk_at dt_X10_init 546 rfl) ?_
  refine j_newaI (atype := .int) (n := 117) (t := 1) (ty := .int) (N := 10) hC aw_int rfl rfl (fun C q => by cases q) (show shp 117 = (20 + 1, 10) from rfl) rfl (by decide) (by decide +kernel) (by decide +kernel) (Nat.le_of_ble_eq_true rfl) (by omega) ⟨Nat.le_of_ble_eq_true rfl, Nat.le_of_ble_eq_true rfl⟩ (dOk_at dt_X10_init 547 rfl) ?_
  refine j_putRc (n := 118) hC hin flX10_42 (fun q hq _ => by cases hq; rfl) (show shp 107 = (10, 88) from rfl) (Nat.le_of_ble_eq_true rfl) (by decide) (by decide) (Or.inr ⟨_, rfl⟩) (dOk_at dt_X10_init 548 rfl) ?_
  refine j_aload_n hC 0 rfl rfl (dOk_at dt_X10_init 549 rfl) ?_
  refine j_bipush hC (v := (10 : Int32)) rfl (dOk_at dt_X10_init 550 rfl) ?_
  refine j_newaI (atype := .int) (n := 118) (t := 1) (ty := .int) (N := 10) hC aw_int rfl rfl (fun C q => by cases q) (show shp 118 = (20 + 1, 10) from rfl) rfl (by decide) (by decide +kernel) (by decide +kernel) (Nat.le_of_ble_eq_true rfl) (by omega) ⟨Nat.le_of_ble_eq_true rfl, Nat.le_of_ble_eq_true rfl⟩ (dOk_at dt_X10_init 551 rfl) ?_
  refine j_putRc (n := 119) hC hin flX10_45 (fun q hq _ => by cases hq; rfl) (show shp 107 = (10, 88) from rfl) (Nat.le_of_ble_eq_true rfl) (by decide) (by decide) (Or.inr ⟨_, rfl⟩) (dOk_at dt_X10_init 552 rfl) ?_
  refine j_aload_n hC 0 rfl rfl (dOk_at dt_X10_init 553 rfl) ?_
  refine j_bipush hC (v := (10 : Int32)) rfl (dOk_at dt_X10_init 554 rfl) ?_
  refine j_newaI (atype := .int) (n := 119) (t := 1) (ty := .int) (N := 10) hC aw_int rfl rfl (fun C q => by cases q) (show shp 119 = (20 + 1, 10) from rfl) rfl (by decide) (by decide +kernel) (by decide +kernel) (Nat.le_of_ble_eq_true rfl) (by omega) ⟨Nat.le_of_ble_eq_true rfl, Nat.le_of_ble_eq_true rfl⟩ (dOk_at dt_X10_init 555 rfl) ?_
  refine j_putRc (n := 120) hC hin flX10_48 (fun q hq _ => by cases hq; rfl) (show shp 107 = (10, 88) from rfl) (Nat.le_of_ble_eq_true rfl) (by decide) (by decide) (Or.inr ⟨_, rfl⟩) (dOk_at dt_X10_init 556 rfl) ?_
  refine j_aload_n hC 0 rfl rfl (dOk_at dt_X10_init 557 rfl) ?_
  refine j_bipush hC (v := (10 : Int32)) rfl (dOk_at dt_X10_init 558 rfl) ?_
  refine j_newaI (atype := .int) (n := 120) (t := 1) (ty := .int) (N := 10) hC aw_int rfl rfl (fun C q => by cases q) (show shp 120 = (20 + 1, 10) from rfl) rfl (by decide) (by decide +kernel) (by decide +kernel) (Nat.le_of_ble_eq_true rfl) (by omega) ⟨Nat.le_of_ble_eq_true rfl, Nat.le_of_ble_eq_true rfl⟩ (dOk_at dt_X10_init 559 rfl) ?_
  refine j_putRc (n := 121) hC hin flX10_51 (fun q hq _ => by cases hq; rfl) (show shp 107 = (10, 88) from rfl) (Nat.le_of_ble_eq_true rfl) (by decide) (by decide) (Or.inr ⟨_, rfl⟩) (dOk_at dt_X10_init 560 rfl) ?_
  refine j_aload_n hC 0 rfl rfl (dOk_at dt_X10_init 561 rfl) ?_
  refine j_bipush hC (v := (10 : Int32)) rfl (dOk_at dt_X10_init 562 rfl) ?_
  refine j_newaI (atype := .int) (n := 121) (t := 1) (ty := .int) (N := 10) hC aw_int rfl rfl (fun C q => by cases q) (show shp 121 = (20 + 1, 10) from rfl) rfl (by decide) (by decide +kernel) (by decide +kernel) (Nat.le_of_ble_eq_true rfl) (by omega) ⟨Nat.le_of_ble_eq_true rfl, Nat.le_of_ble_eq_true rfl⟩ (dOk_at dt_X10_init 563 rfl) ?_
  refine j_putRc (n := 122) hC hin flX10_54 (fun q hq _ => by cases hq; rfl) (show shp 107 = (10, 88) from rfl) (Nat.le_of_ble_eq_true rfl) (by decide) (by decide) (Or.inr ⟨_, rfl⟩) (dOk_at dt_X10_init 564 rfl) ?_
  refine j_aload_n hC 0 rfl rfl (dOk_at dt_X10_init 565 rfl) ?_
  refine j_bipush hC (v := (24 : Int32)) rfl (dOk_at dt_X10_init 566 rfl) ?_
  refine j_newaI (atype := .int) (n := 122) (t := 1) (ty := .int) (N := 24) hC aw_int rfl rfl (fun C q => by cases q) (show shp 122 = (20 + 1, 24) from rfl) rfl (by decide) (by decide +kernel) (by decide +kernel) (Nat.le_of_ble_eq_true rfl) (by omega) ⟨Nat.le_of_ble_eq_true rfl, Nat.le_of_ble_eq_true rfl⟩ (dOk_at dt_X10_init 567 rfl) ?_
  refine j_putRc (n := 123) hC hin flX10_57 (fun q hq _ => by cases hq; rfl) (show shp 107 = (10, 88) from rfl) (Nat.le_of_ble_eq_true rfl) (by decide) (by decide) (Or.inr ⟨_, rfl⟩) (dOk_at dt_X10_init 568 rfl) ?_
  refine j_aload_n hC 0 rfl rfl (dOk_at dt_X10_init 569 rfl) ?_
  refine j_bipush hC (v := (24 : Int32)) rfl (dOk_at dt_X10_init 570 rfl) ?_
  refine j_newaI (atype := .int) (n := 123) (t := 1) (ty := .int) (N := 24) hC aw_int rfl rfl (fun C q => by cases q) (show shp 123 = (20 + 1, 24) from rfl) rfl (by decide) (by decide +kernel) (by decide +kernel) (Nat.le_of_ble_eq_true rfl) (by omega) ⟨Nat.le_of_ble_eq_true rfl, Nat.le_of_ble_eq_true rfl⟩ (dOk_at dt_X10_init 571 rfl) ?_
  refine j_putRc (n := 124) hC hin flX10_60 (fun q hq _ => by cases hq; rfl) (show shp 107 = (10, 88) from rfl) (Nat.le_of_ble_eq_true rfl) (by decide) (by decide) (Or.inr ⟨_, rfl⟩) (dOk_at dt_X10_init 572 rfl) ?_
  refine j_aload_n hC 0 rfl rfl (dOk_at dt_X10_init 573 rfl) ?_
  refine j_bipush hC (v := (24 : Int32)) rfl (dOk_at dt_X10_init 574 rfl) ?_
  refine j_newaI (atype := .int) (n := 124) (t := 1) (ty := .int) (N := 24) hC aw_int rfl rfl (fun C q => by cases q) (show shp 124 = (20 + 1, 24) from rfl) rfl (by decide) (by decide +kernel) (by decide +kernel) (Nat.le_of_ble_eq_true rfl) (by omega) ⟨Nat.le_of_ble_eq_true rfl, Nat.le_of_ble_eq_true rfl⟩ (dOk_at dt_X10_init 575 rfl) ?_
  refine j_putRc (n := 125) hC hin flX10_63 (fun q hq _ => by cases hq; rfl) (show shp 107 = (10, 88) from rfl) (Nat.le_of_ble_eq_true rfl) (by decide) (by decide) (Or.inr ⟨_, rfl⟩) (dOk_at dt_X10_init 576 rfl) ?_
  refine j_aload_n hC 0 rfl rfl (dOk_at dt_X10_init 577 rfl) ?_
  refine j_bipush hC (v := (12 : Int32)) rfl (dOk_at dt_X10_init 578 rfl) ?_
  refine j_newaI (atype := .int) (n := 125) (t := 1) (ty := .int) (N := 12) hC aw_int rfl rfl (fun C q => by cases q) (show shp 125 = (20 + 1, 12) from rfl) rfl (by decide) (by decide +kernel) (by decide +kernel) (Nat.le_of_ble_eq_true rfl) (by omega) ⟨Nat.le_of_ble_eq_true rfl, Nat.le_of_ble_eq_true rfl⟩ (dOk_at dt_X10_init 579 rfl) ?_
  refine j_putRc (n := 126) hC hin flX10_66 (fun q hq _ => by cases hq; rfl) (show shp 107 = (10, 88) from rfl) (Nat.le_of_ble_eq_true rfl) (by decide) (by decide) (Or.inr ⟨_, rfl⟩) (dOk_at dt_X10_init 580 rfl) ?_
  refine j_aload_n hC 0 rfl rfl (dOk_at dt_X10_init 581 rfl) ?_
  refine j_bipush hC (v := (12 : Int32)) rfl (dOk_at dt_X10_init 582 rfl) ?_
  refine j_newaI (atype := .int) (n := 126) (t := 1) (ty := .int) (N := 12) hC aw_int rfl rfl (fun C q => by cases q) (show shp 126 = (20 + 1, 12) from rfl) rfl (by decide) (by decide +kernel) (by decide +kernel) (Nat.le_of_ble_eq_true rfl) (by omega) ⟨Nat.le_of_ble_eq_true rfl, Nat.le_of_ble_eq_true rfl⟩ (dOk_at dt_X10_init 583 rfl) ?_
  refine j_putRc (n := 127) hC hin flX10_69 (fun q hq _ => by cases hq; rfl) (show shp 107 = (10, 88) from rfl) (Nat.le_of_ble_eq_true rfl) (by decide) (by decide) (Or.inr ⟨_, rfl⟩) (dOk_at dt_X10_init 584 rfl) ?_
  refine j_aload_n hC 0 rfl rfl (dOk_at dt_X10_init 585 rfl) ?_
  refine j_bipush hC (v := (6 : Int32)) rfl (dOk_at dt_X10_init 586 rfl) ?_
  refine j_newaI (atype := .boolean) (n := 127) (t := 3) (ty := .boolean) (N := 6) hC aw_boolean rfl rfl (fun C q => by cases q) (show shp 127 = (20 + 3, 6) from rfl) rfl (by decide) (by decide +kernel) (by decide +kernel) (Nat.le_of_ble_eq_true rfl) (by omega) ⟨Nat.le_of_ble_eq_true rfl, Nat.le_of_ble_eq_true rfl⟩ (dOk_at dt_X10_init 587 rfl) ?_
  refine j_putRc (n := 128) hC hin flX10_72 (fun q hq _ => by cases hq; rfl) (show shp 107 = (10, 88) from rfl) (Nat.le_of_ble_eq_true rfl) (by decide) (by decide) (Or.inr ⟨_, rfl⟩) (dOk_at dt_X10_init 588 rfl) ?_
  refine j_aload_n hC 0 rfl rfl (dOk_at dt_X10_init 589 rfl) ?_
  refine j_bipush hC (v := (6 : Int32)) rfl (dOk_at dt_X10_init 590 rfl) ?_
  refine j_newaI (atype := .int) (n := 128) (t := 1) (ty := .int) (N := 6) hC aw_int rfl rfl (fun C q => by cases q) (show shp 128 = (20 + 1, 6) from rfl) rfl (by decide) (by decide +kernel) (by decide +kernel) (Nat.le_of_ble_eq_true rfl) (by omega) ⟨Nat.le_of_ble_eq_true rfl, Nat.le_of_ble_eq_true rfl⟩ (dOk_at dt_X10_init 591 rfl) ?_
  refine j_putRc (n := 129) hC hin flX10_75 (fun q hq _ => by cases hq; rfl) (show shp 107 = (10, 88) from rfl) (Nat.le_of_ble_eq_true rfl) (by decide) (by decide) (Or.inr ⟨_, rfl⟩) (dOk_at dt_X10_init 592 rfl) ?_
  refine j_aload_n hC 0 rfl rfl (dOk_at dt_X10_init 593 rfl) ?_
  refine j_bipush hC (v := (6 : Int32)) rfl (dOk_at dt_X10_init 594 rfl) ?_
  refine j_newaI (atype := .int) (n := 129) (t := 1) (ty := .int) (N := 6) hC aw_int rfl rfl (fun C q => by cases q) (show shp 129 = (20 + 1, 6) from rfl) rfl (by decide) (by decide +kernel) (by decide +kernel) (Nat.le_of_ble_eq_true rfl) (by omega) ⟨Nat.le_of_ble_eq_true rfl, Nat.le_of_ble_eq_true rfl⟩ (dOk_at dt_X10_init 595 rfl) ?_
  refine j_putRc (n := 130) hC hin flX10_78 (fun q hq _ => by cases hq; rfl) (show shp 107 = (10, 88) from rfl) (Nat.le_of_ble_eq_true rfl) (by decide) (by decide) (Or.inr ⟨_, rfl⟩) (dOk_at dt_X10_init 596 rfl) ?_
  refine j_aload_n hC 0 rfl rfl (dOk_at dt_X10_init 597 rfl) ?_
  refine j_sipush hC (v := (128 : Int32)) rfl (dOk_at dt_X10_init 598 rfl) ?_
  refine j_newaI (atype := .int) (n := 130) (t := 1) (ty := .int) (N := 128) hC aw_int rfl rfl (fun C q => by cases q) (show shp 130 = (20 + 1, 128) from rfl) rfl (by decide) (by decide +kernel) (by decide +kernel) (Nat.le_of_ble_eq_true rfl) (by omega) ⟨Nat.le_of_ble_eq_true rfl, Nat.le_of_ble_eq_true rfl⟩ (dOk_at dt_X10_init 599 rfl) ?_
  refine j_putRc (n := 131) hC hin flX10_81 (fun q hq _ => by cases hq; rfl) (show shp 107 = (10, 88) from rfl) (Nat.le_of_ble_eq_true rfl) (by decide) (by decide) (Or.inr ⟨_, rfl⟩) (dOk_at dt_X10_init 600 rfl) ?_
  refine j_aload_n hC 0 rfl rfl (dOk_at dt_X10_init 601 rfl) ?_
  refine j_sipush hC (v := (128 : Int32)) rfl (dOk_at dt_X10_init 602 rfl) ?_
  refine j_newaI (atype := .int) (n := 131) (t := 1) (ty := .int) (N := 128) hC aw_int rfl rfl (fun C q => by cases q) (show shp 131 = (20 + 1, 128) from rfl) rfl (by decide) (by decide +kernel) (by decide +kernel) (Nat.le_of_ble_eq_true rfl) (by omega) ⟨Nat.le_of_ble_eq_true rfl, Nat.le_of_ble_eq_true rfl⟩ (dOk_at dt_X10_init 603 rfl) ?_
  refine j_putRc (n := 132) hC hin flX10_84 (fun q hq _ => by cases hq; rfl) (show shp 107 = (10, 88) from rfl) (Nat.le_of_ble_eq_true rfl) (by decide) (by decide) (Or.inr ⟨_, rfl⟩) (dOk_at dt_X10_init 604 rfl) ?_
  refine j_aload_n hC 0 rfl rfl (dOk_at dt_X10_init 605 rfl) ?_
  refine j_sipush hC (v := (128 : Int32)) rfl (dOk_at dt_X10_init 606 rfl) ?_
  refine j_newaI (atype := .int) (n := 132) (t := 1) (ty := .int) (N := 128) hC aw_int rfl rfl (fun C q => by cases q) (show shp 132 = (20 + 1, 128) from rfl) rfl (by decide) (by decide +kernel) (by decide +kernel) (Nat.le_of_ble_eq_true rfl) (by omega) ⟨Nat.le_of_ble_eq_true rfl, Nat.le_of_ble_eq_true rfl⟩ (dOk_at dt_X10_init 607 rfl) ?_
  refine j_putRc (n := 133) hC hin flX10_87 (fun q hq _ => by cases hq; rfl) (show shp 107 = (10, 88) from rfl) (Nat.le_of_ble_eq_true rfl) (by decide) (by decide) (Or.inr ⟨_, rfl⟩) (dOk_at dt_X10_init 608 rfl) ?_
  refine j_aload_n hC 0 rfl rfl (dOk_at dt_X10_init 609 rfl) ?_
  refine j_bipush hC (v := (96 : Int32)) rfl (dOk_at dt_X10_init 610 rfl) ?_
  refine j_newaI (atype := .int) (n := 133) (t := 1) (ty := .int) (N := 96) hC aw_int rfl rfl (fun C q => by cases q) (show shp 133 = (20 + 1, 96) from rfl) rfl (by decide) (by decide +kernel) (by decide +kernel) (Nat.le_of_ble_eq_true rfl) (by omega) ⟨Nat.le_of_ble_eq_true rfl, Nat.le_of_ble_eq_true rfl⟩ (dOk_at dt_X10_init 611 rfl) ?_
  refine j_putRc (n := 134) hC hin flX10_90 (fun q hq _ => by cases hq; rfl) (show shp 107 = (10, 88) from rfl) (Nat.le_of_ble_eq_true rfl) (by decide) (by decide) (Or.inr ⟨_, rfl⟩) (dOk_at dt_X10_init 612 rfl) ?_
  refine j_aload_n hC 0 rfl rfl (dOk_at dt_X10_init 613 rfl) ?_
  refine j_bipush hC (v := (96 : Int32)) rfl (dOk_at dt_X10_init 614 rfl) ?_
  refine j_newaI (atype := .int) (n := 134) (t := 1) (ty := .int) (N := 96) hC aw_int rfl rfl (fun C q => by cases q) (show shp 134 = (20 + 1, 96) from rfl) rfl (by decide) (by decide +kernel) (by decide +kernel) (Nat.le_of_ble_eq_true rfl) (by omega) ⟨Nat.le_of_ble_eq_true rfl, Nat.le_of_ble_eq_true rfl⟩ (dOk_at dt_X10_init 615 rfl) ?_
  refine j_putRc (n := 135) hC hin flX10_93 (fun q hq _ => by cases hq; rfl) (show shp 107 = (10, 88) from rfl) (Nat.le_of_ble_eq_true rfl) (by decide) (by decide) (Or.inr ⟨_, rfl⟩) (dOk_at dt_X10_init 616 rfl) ?_
  refine j_aload_n hC 0 rfl rfl (dOk_at dt_X10_init 617 rfl) ?_
  refine j_bipush hC (v := (7 : Int32)) rfl (dOk_at dt_X10_init 618 rfl) ?_
  refine j_newaJ (n := 135) (N := 7) hC aw_long (show shp 135 = (22, 7) from rfl) (by decide +kernel) (by decide +kernel) (Nat.le_of_ble_eq_true rfl) (by omega) ⟨Nat.le_of_ble_eq_true rfl, Nat.le_of_ble_eq_true rfl⟩ (dOk_at dt_X10_init 619 rfl) ?_
  refine j_putRc (n := 136) hC hin flX10_96 (fun q hq _ => by cases hq; rfl) (show shp 107 = (10, 88) from rfl) (Nat.le_of_ble_eq_true rfl) (by decide) (by decide) (Or.inr ⟨_, rfl⟩) (dOk_at dt_X10_init 620 rfl) ?_
  refine j_aload_n hC 0 rfl rfl (dOk_at dt_X10_init 621 rfl) ?_
  refine j_bipush hC (v := (64 : Int32)) rfl (dOk_at dt_X10_init 622 rfl) ?_
  refine j_newaJ (n := 136) (N := 64) hC aw_long (show shp 136 = (22, 64) from rfl) (by decide +kernel) (by decide +kernel) (Nat.le_of_ble_eq_true rfl) (by omega) ⟨Nat.le_of_ble_eq_true rfl, Nat.le_of_ble_eq_true rfl⟩ (dOk_at dt_X10_init 623 rfl) ?_
  refine j_putRc (n := 137) hC hin flX10_100 (fun q hq _ => by cases hq; rfl) (show shp 107 = (10, 88) from rfl) (Nat.le_of_ble_eq_true rfl) (by decide) (by decide) (Or.inr ⟨_, rfl⟩) (dOk_at dt_X10_init 624 rfl) ?_
  refine j_aload_n hC 0 rfl rfl (dOk_at dt_X10_init 625 rfl) ?_
  refine j_bipush hC (v := (10 : Int32)) rfl (dOk_at dt_X10_init 626 rfl) ?_
  refine j_newaI (atype := .int) (n := 137) (t := 1) (ty := .int) (N := 10) hC aw_int rfl rfl (fun C q => by cases q) (show shp 137 = (20 + 1, 10) from rfl) rfl (by decide) (by decide +kernel) (by decide +kernel) (Nat.le_of_ble_eq_true rfl) (by omega) ⟨Nat.le_of_ble_eq_true rfl, Nat.le_of_ble_eq_true rfl⟩ (dOk_at dt_X10_init 627 rfl) ?_
  refine j_putRc (n := 138) hC hin flX10_103 (fun q hq _ => by cases hq; rfl) (show shp 107 = (10, 88) from rfl) (Nat.le_of_ble_eq_true rfl) (by decide) (by decide) (Or.inr ⟨_, rfl⟩) (dOk_at dt_X10_init 628 rfl) ?_
  refine j_aload_n hC 0 rfl rfl (dOk_at dt_X10_init 629 rfl) ?_
  refine j_bipush hC (v := (10 : Int32)) rfl (dOk_at dt_X10_init 630 rfl) ?_
  refine j_newaI (atype := .boolean) (n := 138) (t := 3) (ty := .boolean) (N := 10) hC aw_boolean rfl rfl (fun C q => by cases q) (show shp 138 = (20 + 3, 10) from rfl) rfl (by decide) (by decide +kernel) (by decide +kernel) (Nat.le_of_ble_eq_true rfl) (by omega) ⟨Nat.le_of_ble_eq_true rfl, Nat.le_of_ble_eq_true rfl⟩ (dOk_at dt_X10_init 631 rfl) ?_
  refine j_putRc (n := 139) hC hin flX10_106 (fun q hq _ => by cases hq; rfl) (show shp 107 = (10, 88) from rfl) (Nat.le_of_ble_eq_true rfl) (by decide) (by decide) (Or.inr ⟨_, rfl⟩) (dOk_at dt_X10_init 632 rfl) ?_
  refine j_aload_n hC 0 rfl rfl (dOk_at dt_X10_init 633 rfl) ?_
  refine j_bipush hC (v := (10 : Int32)) rfl (dOk_at dt_X10_init 634 rfl) ?_
  refine j_newaI (atype := .int) (n := 139) (t := 1) (ty := .int) (N := 10) hC aw_int rfl rfl (fun C q => by cases q) (show shp 139 = (20 + 1, 10) from rfl) rfl (by decide) (by decide +kernel) (by decide +kernel) (Nat.le_of_ble_eq_true rfl) (by omega) ⟨Nat.le_of_ble_eq_true rfl, Nat.le_of_ble_eq_true rfl⟩ (dOk_at dt_X10_init 635 rfl) ?_
  refine j_putRc (n := 140) hC hin flX10_109 (fun q hq _ => by cases hq; rfl) (show shp 107 = (10, 88) from rfl) (Nat.le_of_ble_eq_true rfl) (by decide) (by decide) (Or.inr ⟨_, rfl⟩) (dOk_at dt_X10_init 636 rfl) ?_
  refine j_aload_n hC 0 rfl rfl (dOk_at dt_X10_init 637 rfl) ?_
  refine j_bipush hC (v := (10 : Int32)) rfl (dOk_at dt_X10_init 638 rfl) ?_
  refine j_newaI (atype := .int) (n := 140) (t := 1) (ty := .int) (N := 10) hC aw_int rfl rfl (fun C q => by cases q) (show shp 140 = (20 + 1, 10) from rfl) rfl (by decide) (by decide +kernel) (by decide +kernel) (Nat.le_of_ble_eq_true rfl) (by omega) ⟨Nat.le_of_ble_eq_true rfl, Nat.le_of_ble_eq_true rfl⟩ (dOk_at dt_X10_init 639 rfl) ?_
  refine j_putRc (n := 141) hC hin flX10_112 (fun q hq _ => by cases hq; rfl) (show shp 107 = (10, 88) from rfl) (Nat.le_of_ble_eq_true rfl) (by decide) (by decide) (Or.inr ⟨_, rfl⟩) (dOk_at dt_X10_init 640 rfl) ?_
  refine j_aload_n hC 0 rfl rfl (dOk_at dt_X10_init 641 rfl) ?_
  refine j_bipush hC (v := (10 : Int32)) rfl (dOk_at dt_X10_init 642 rfl) ?_
  refine j_newaI (atype := .int) (n := 141) (t := 1) (ty := .int) (N := 10) hC aw_int rfl rfl (fun C q => by cases q) (show shp 141 = (20 + 1, 10) from rfl) rfl (by decide) (by decide +kernel) (by decide +kernel) (Nat.le_of_ble_eq_true rfl) (by omega) ⟨Nat.le_of_ble_eq_true rfl, Nat.le_of_ble_eq_true rfl⟩ (dOk_at dt_X10_init 643 rfl) ?_
  refine j_putRc (n := 142) hC hin flX10_115 (fun q hq _ => by cases hq; rfl) (show shp 107 = (10, 88) from rfl) (Nat.le_of_ble_eq_true rfl) (by decide) (by decide) (Or.inr ⟨_, rfl⟩) (dOk_at dt_X10_init 644 rfl) ?_
  refine j_aload_n hC 0 rfl rfl (dOk_at dt_X10_init 645 rfl) ?_
  refine j_iconst hC (v := (2 : Int32)) rfl (dOk_at dt_X10_init 646 rfl) ?_
  refine j_newaI (atype := .int) (n := 142) (t := 1) (ty := .int) (N := 2) hC aw_int rfl rfl (fun C q => by cases q) (show shp 142 = (20 + 1, 2) from rfl) rfl (by decide) (by decide +kernel) (by decide +kernel) (Nat.le_of_ble_eq_true rfl) (by omega) ⟨Nat.le_of_ble_eq_true rfl, Nat.le_of_ble_eq_true rfl⟩ (dOk_at dt_X10_init 647 rfl) ?_
  refine j_putRc (n := 143) hC hin flX10_118 (fun q hq _ => by cases hq; rfl) (show shp 107 = (10, 88) from rfl) (Nat.le_of_ble_eq_true rfl) (by decide) (by decide) (Or.inr ⟨_, rfl⟩) (dOk_at dt_X10_init 648 rfl) ?_
  refine j_aload_n hC 0 rfl rfl (dOk_at dt_X10_init 649 rfl) ?_
  refine j_iconst hC (v := (2 : Int32)) rfl (dOk_at dt_X10_init 650 rfl) ?_
  refine j_newaI (atype := .int) (n := 143) (t := 1) (ty := .int) (N := 2) hC aw_int rfl rfl (fun C q => by cases q) (show shp 143 = (20 + 1, 2) from rfl) rfl (by decide) (by decide +kernel) (by decide +kernel) (Nat.le_of_ble_eq_true rfl) (by omega) ⟨Nat.le_of_ble_eq_true rfl, Nat.le_of_ble_eq_true rfl⟩ (dOk_at dt_X10_init 651 rfl) ?_
  refine j_putRc (n := 144) hC hin flX10_121 (fun q hq _ => by cases hq; rfl) (show shp 107 = (10, 88) from rfl) (Nat.le_of_ble_eq_true rfl) (by decide) (by decide) (Or.inr ⟨_, rfl⟩) (dOk_at dt_X10_init 652 rfl) ?_
  refine j_aload_n hC 0 rfl rfl (dOk_at dt_X10_init 653 rfl) ?_
  refine j_sipush hC (v := (2048 : Int32)) rfl (dOk_at dt_X10_init 654 rfl) ?_
  refine j_newaI (atype := .boolean) (n := 144) (t := 3) (ty := .boolean) (N := 2048) hC aw_boolean rfl rfl (fun C q => by cases q) (show shp 144 = (20 + 3, 2048) from rfl) rfl (by decide) (by decide +kernel) (by decide +kernel) (Nat.le_of_ble_eq_true rfl) (by omega) ⟨Nat.le_of_ble_eq_true rfl, Nat.le_of_ble_eq_true rfl⟩ (dOk_at dt_X10_init 655 rfl) ?_
  refine j_putRc (n := 145) hC hin flX10_124 (fun q hq _ => by cases hq; rfl) (show shp 107 = (10, 88) from rfl) (Nat.le_of_ble_eq_true rfl) (by decide) (by decide) (Or.inr ⟨_, rfl⟩) (dOk_at dt_X10_init 656 rfl) ?_
  refine j_aload_n hC 0 rfl rfl (dOk_at dt_X10_init 657 rfl) ?_
  refine j_iconst hC (v := (2 : Int32)) rfl (dOk_at dt_X10_init 658 rfl) ?_
  refine j_newaI (atype := .int) (n := 145) (t := 1) (ty := .int) (N := 2) hC aw_int rfl rfl (fun C q => by cases q) (show shp 145 = (20 + 1, 2) from rfl) rfl (by decide) (by decide +kernel) (by decide +kernel) (Nat.le_of_ble_eq_true rfl) (by omega) ⟨Nat.le_of_ble_eq_true rfl, Nat.le_of_ble_eq_true rfl⟩ (dOk_at dt_X10_init 659 rfl) ?_
  refine j_putRc (n := 146) hC hin flX10_127 (fun q hq _ => by cases hq; rfl) (show shp 107 = (10, 88) from rfl) (Nat.le_of_ble_eq_true rfl) (by decide) (by decide) (Or.inr ⟨_, rfl⟩) (dOk_at dt_X10_init 660 rfl) ?_
  refine j_aload_n hC 0 rfl rfl (dOk_at dt_X10_init 661 rfl) ?_
  refine j_iconst hC (v := (5 : Int32)) rfl (dOk_at dt_X10_init 662 rfl) ?_
  refine j_newaI (atype := .int) (n := 146) (t := 1) (ty := .int) (N := 5) hC aw_int rfl rfl (fun C q => by cases q) (show shp 146 = (20 + 1, 5) from rfl) rfl (by decide) (by decide +kernel) (by decide +kernel) (Nat.le_of_ble_eq_true rfl) (by omega) ⟨Nat.le_of_ble_eq_true rfl, Nat.le_of_ble_eq_true rfl⟩ (dOk_at dt_X10_init 663 rfl) ?_
  refine j_putRc (n := 147) hC hin flX10_130 (fun q hq _ => by cases hq; rfl) (show shp 107 = (10, 88) from rfl) (Nat.le_of_ble_eq_true rfl) (by decide) (by decide) (Or.inr ⟨_, rfl⟩) (dOk_at dt_X10_init 664 rfl) ?_
  refine j_aload_n hC 0 rfl rfl (dOk_at dt_X10_init 665 rfl) ?_
  refine j_iconst hC (v := (-1 : Int32)) rfl (dOk_at dt_X10_init 666 rfl) ?_
  refine j_putIc (n := 147) hC hin flX10_133 (fun q hq _ => by cases hq; rfl) (show shp 107 = (10, 88) from rfl) (Nat.le_of_ble_eq_true rfl) (by decide) (by decide) rfl (dOk_at dt_X10_init 667 rfl) ?_
  refine j_aload_n hC 0 rfl rfl (dOk_at dt_X10_init 668 rfl) ?_
  refine j_bipush hC (v := (96 : Int32)) rfl (dOk_at dt_X10_init 669 rfl) ?_
  refine j_newaI (atype := .int) (n := 147) (t := 1) (ty := .int) (N := 96) hC aw_int rfl rfl (fun C q => by cases q) (show shp 147 = (20 + 1, 96) from rfl) rfl (by decide) (by decide +kernel) (by decide +kernel) (Nat.le_of_ble_eq_true rfl) (by omega) ⟨Nat.le_of_ble_eq_true rfl, Nat.le_of_ble_eq_true rfl⟩ (dOk_at dt_X10_init 670 rfl) ?_
  refine j_putRc (n := 148) hC hin flX10_136 (fun q hq _ => by cases hq; rfl) (show shp 107 = (10, 88) from rfl) (Nat.le_of_ble_eq_true rfl) (by decide) (by decide) (Or.inr ⟨_, rfl⟩) (dOk_at dt_X10_init 671 rfl) ?_
  refine j_aload_n hC 0 rfl rfl (dOk_at dt_X10_init 672 rfl) ?_
  refine j_bipush hC (v := (24 : Int32)) rfl (dOk_at dt_X10_init 673 rfl) ?_
  refine j_newaI (atype := .boolean) (n := 148) (t := 3) (ty := .boolean) (N := 24) hC aw_boolean rfl rfl (fun C q => by cases q) (show shp 148 = (20 + 3, 24) from rfl) rfl (by decide) (by decide +kernel) (by decide +kernel) (Nat.le_of_ble_eq_true rfl) (by omega) ⟨Nat.le_of_ble_eq_true rfl, Nat.le_of_ble_eq_true rfl⟩ (dOk_at dt_X10_init 674 rfl) ?_
  refine j_putRc (n := 149) hC hin flX10_139 (fun q hq _ => by cases hq; rfl) (show shp 107 = (10, 88) from rfl) (Nat.le_of_ble_eq_true rfl) (by decide) (by decide) (Or.inr ⟨_, rfl⟩) (dOk_at dt_X10_init 675 rfl) ?_
  refine j_aload_n hC 0 rfl rfl (dOk_at dt_X10_init 676 rfl) ?_
  refine j_sipush hC (v := (400 : Int32)) rfl (dOk_at dt_X10_init 677 rfl) ?_
  refine j_newaI (atype := .int) (n := 149) (t := 1) (ty := .int) (N := 400) hC aw_int rfl rfl (fun C q => by cases q) (show shp 149 = (20 + 1, 400) from rfl) rfl (by decide) (by decide +kernel) (by decide +kernel) (Nat.le_of_ble_eq_true rfl) (by omega) ⟨Nat.le_of_ble_eq_true rfl, Nat.le_of_ble_eq_true rfl⟩ (dOk_at dt_X10_init 678 rfl) ?_
  refine j_putRc (n := 150) hC hin flX10_142 (fun q hq _ => by cases hq; rfl) (show shp 107 = (10, 88) from rfl) (Nat.le_of_ble_eq_true rfl) (by decide) (by decide) (Or.inr ⟨_, rfl⟩) (dOk_at dt_X10_init 679 rfl) ?_
  refine j_aload_n hC 0 rfl rfl (dOk_at dt_X10_init 680 rfl) ?_
  refine j_bipush hC (v := (20 : Int32)) rfl (dOk_at dt_X10_init 681 rfl) ?_
  refine j_newaI (atype := .int) (n := 150) (t := 1) (ty := .int) (N := 20) hC aw_int rfl rfl (fun C q => by cases q) (show shp 150 = (20 + 1, 20) from rfl) rfl (by decide) (by decide +kernel) (by decide +kernel) (Nat.le_of_ble_eq_true rfl) (by omega) ⟨Nat.le_of_ble_eq_true rfl, Nat.le_of_ble_eq_true rfl⟩ (dOk_at dt_X10_init 682 rfl) ?_
  refine j_putRc (n := 151) hC hin flX10_145 (fun q hq _ => by cases hq; rfl) (show shp 107 = (10, 88) from rfl) (Nat.le_of_ble_eq_true rfl) (by decide) (by decide) (Or.inr ⟨_, rfl⟩) (dOk_at dt_X10_init 683 rfl) ?_
  refine j_aload_n hC 0 rfl rfl (dOk_at dt_X10_init 684 rfl) ?_
  refine j_iconst hC (v := (5 : Int32)) rfl (dOk_at dt_X10_init 685 rfl) ?_
  refine j_newaI (atype := .boolean) (n := 151) (t := 3) (ty := .boolean) (N := 5) hC aw_boolean rfl rfl (fun C q => by cases q) (show shp 151 = (20 + 3, 5) from rfl) rfl (by decide) (by decide +kernel) (by decide +kernel) (Nat.le_of_ble_eq_true rfl) (by omega) ⟨Nat.le_of_ble_eq_true rfl, Nat.le_of_ble_eq_true rfl⟩ (dOk_at dt_X10_init 686 rfl) ?_
  refine j_putRc (n := 152) hC hin flX10_148 (fun q hq _ => by cases hq; rfl) (show shp 107 = (10, 88) from rfl) (Nat.le_of_ble_eq_true rfl) (by decide) (by decide) (Or.inr ⟨_, rfl⟩) (dOk_at dt_X10_init 687 rfl) ?_
  refine j_aload_n hC 0 rfl rfl (dOk_at dt_X10_init 688 rfl) ?_
  refine j_toSt ?_
  refine j_callVv (n := 152) hC clX10_151 (fun r0 hr0 => c_X10_plain (Nat.le_refl 152) _ r0 hr0) (show shp 107 = (10, 88) from rfl) (Nat.le_of_ble_eq_true rfl) (by decide) rfl rfl ⟨Nat.le_of_ble_eq_true rfl, Nat.le_of_ble_eq_true rfl⟩ ⟨Nat.le_of_ble_eq_true rfl, Nat.le_of_ble_eq_true rfl⟩ (As := []) (st := []) rfl (Nat.le_of_ble_eq_true rfl) (dOk_at dt_X10_init 689 rfl) (fun h_1 _ => ?_)
  refine j_aload_n hC 0 rfl rfl (dOk_at dt_X10_init 690 rfl) ?_
  refine j_callVv (n := 152) hC clX10_154 (fun r0 hr0 => c_X10_keepText (Nat.le_refl 152) _ r0 hr0) (show shp 107 = (10, 88) from rfl) (Nat.le_of_ble_eq_true rfl) (by decide) rfl rfl ⟨Nat.le_of_ble_eq_true rfl, Nat.le_of_ble_eq_true rfl⟩ ⟨Nat.le_of_ble_eq_true rfl, Nat.le_of_ble_eq_true rfl⟩ (As := []) (st := []) rfl (Nat.le_of_ble_eq_true rfl) (dOk_at dt_X10_init 691 rfl) (fun h_2 _ => ?_)
  exact j_vret hC hret (dOk_at dt_X10_init 692 rfl)
