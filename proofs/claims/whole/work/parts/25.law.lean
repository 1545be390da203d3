/-! ===== BatchShareLaw.law([I)Z ===== -/
abbrev M_Law_law : AMt := (x, code, 4, (some .boolean))
def T_Law_law : List (Nat × Instr × Nat) := [(0, .new 7, 3), (3, .dup, 1), (4, .invokespecial 9, 3), (7, .astore_n 1, 1), (8, .new 10, 3), (11, .dup, 1), (12, .invokespecial 12, 3), (15, .astore_n 2, 1), (16, .iconst 0, 1), (17, .istore_n 3, 1), (18, .iload_n 3, 1), (19, .aload_n 0, 1), (20, .arraylength, 1), (21, .bipush 6, 2), (23, .isub, 1), (24, .if_icmp .gt 1172, 3), (27, .aload_n 0, 1), (28, .iload_n 3, 1), (29, .iaload, 1), (30, .bipush 63, 2), (32, .iand, 1), (33, .tableswitch 1157 0 35 #[159, 222, 245, 258, 271, 314, 347, 370, 393, 436, 459, 472, 505, 528, 551, 574, 627, 660, 713, 736, 759, 782, 805, 818, 831, 864, 877, 900, 933, 966, 979, 1012, 1065, 1088, 1111, 1134], 159), (192, .aload_n 1, 1), (193, .aload_n 0, 1), (194, .iload_n 3, 1), (195, .iconst 1, 1), (196, .iadd, 1), (197, .iaload, 1), (198, .aload_n 0, 1), (199, .iload_n 3, 1), (200, .iconst 2, 1), (201, .iadd, 1), (202, .iaload, 1), (203, .aload_n 0, 1), (204, .iload_n 3, 1), (205, .iconst 3, 1), (206, .iadd, 1), (207, .iaload, 1), (208, .aload_n 0, 1), (209, .iload_n 3, 1), (210, .iconst 4, 1), (211, .iadd, 1), (212, .iaload, 1), (213, .aload_n 0, 1), (214, .iload_n 3, 1), (215, .iconst 5, 1), (216, .iadd, 1), (217, .iaload, 1), (218, .invokevirtual 13, 3), (221, .aload_n 2, 1), (222, .aload_n 0, 1), (223, .iload_n 3, 1), (224, .iconst 1, 1), (225, .iadd, 1), (226, .iaload, 1), (227, .aload_n 0, 1), (228, .iload_n 3, 1), (229, .iconst 2, 1), (230, .iadd, 1), (231, .iaload, 1), (232, .aload_n 0, 1), (233, .iload_n 3, 1), (234, .iconst 3, 1), (235, .iadd, 1), (236, .iaload, 1), (237, .aload_n 0, 1), (238, .iload_n 3, 1), (239, .iconst 4, 1), (240, .iadd, 1), (241, .iaload, 1), (242, .aload_n 0, 1), (243, .iload_n 3, 1), (244, .iconst 5, 1), (245, .iadd, 1), (246, .iaload, 1), (247, .invokevirtual 17, 3), (250, .if_icmp .eq 940, 3), (253, .iconst 0, 1), (254, .ireturn, 1), (255, .aload_n 1, 1), (256, .aload_n 0, 1), (257, .iload_n 3, 1), (258, .iconst 1, 1), (259, .iadd, 1), (260, .iaload, 1), (261, .invokevirtual 18, 3), (264, .aload_n 2, 1), (265, .aload_n 0, 1), (266, .iload_n 3, 1), (267, .iconst 1, 1), (268, .iadd, 1), (269, .iaload, 1), (270, .invokevirtual 22, 3), (273, .if_icmp .eq 917, 3), (276, .iconst 0, 1), (277, .ireturn, 1), (278, .aload_n 1, 1), (279, .invokevirtual 23, 3), (282, .aload_n 2, 1), (283, .invokevirtual 27, 3), (286, .if_icmp .eq 904, 3), (289, .iconst 0, 1), (290, .ireturn, 1), (291, .aload_n 1, 1), (292, .invokevirtual 28, 3), (295, .aload_n 2, 1), (296, .invokevirtual 31, 3), (299, .if_icmp .eq 891, 3), (302, .iconst 0, 1), (303, .ireturn, 1), (304, .aload_n 1, 1), (305, .aload_n 0, 1), (306, .iload_n 3, 1), (307, .iconst 1, 1), (308, .iadd, 1), (309, .iaload, 1), (310, .aload_n 0, 1), (311, .iload_n 3, 1), (312, .iconst 2, 1), (313, .iadd, 1), (314, .iaload, 1), (315, .aload_n 0, 1), (316, .iload_n 3, 1), (317, .iconst 3, 1), (318, .iadd, 1), (319, .iaload, 1), (320, .invokevirtual 32, 3), (323, .aload_n 2, 1), (324, .aload_n 0, 1), (325, .iload_n 3, 1), (326, .iconst 1, 1), (327, .iadd, 1), (328, .iaload, 1), (329, .aload_n 0, 1), (330, .iload_n 3, 1), (331, .iconst 2, 1), (332, .iadd, 1), (333, .iaload, 1), (334, .aload_n 0, 1), (335, .iload_n 3, 1), (336, .iconst 3, 1), (337, .iadd, 1), (338, .iaload, 1), (339, .invokevirtual 36, 3), (342, .if_icmp .eq 848, 3), (345, .iconst 0, 1), (346, .ireturn, 1), (347, .aload_n 1, 1), (348, .aload_n 0, 1), (349, .iload_n 3, 1), (350, .iconst 1, 1), (351, .iadd, 1), (352, .iaload, 1), (353, .aload_n 0, 1), (354, .iload_n 3, 1), (355, .iconst 2, 1), (356, .iadd, 1), (357, .iaload, 1), (358, .invokevirtual 37, 3), (361, .aload_n 2, 1), (362, .aload_n 0, 1), (363, .iload_n 3, 1), (364, .iconst 1, 1), (365, .iadd, 1), (366, .iaload, 1), (367, .aload_n 0, 1), (368, .iload_n 3, 1), (369, .iconst 2, 1), (370, .iadd, 1), (371, .iaload, 1), (372, .invokevirtual 41, 3), (375, .if_icmp .eq 815, 3), (378, .iconst 0, 1), (379, .ireturn, 1), (380, .aload_n 1, 1), (381, .aload_n 0, 1), (382, .iload_n 3, 1), (383, .iconst 1, 1), (384, .iadd, 1), (385, .iaload, 1), (386, .invokevirtual 42, 3), (389, .aload_n 2, 1), (390, .aload_n 0, 1), (391, .iload_n 3, 1), (392, .iconst 1, 1), (393, .iadd, 1), (394, .iaload, 1), (395, .invokevirtual 45, 3), (398, .if_icmp .eq 792, 3), (401, .iconst 0, 1), (402, .ireturn, 1), (403, .aload_n 1, 1), (404, .aload_n 0, 1), (405, .iload_n 3, 1), (406, .iconst 1, 1), (407, .iadd, 1), (408, .iaload, 1), (409, .invokevirtual 46, 3), (412, .aload_n 2, 1), (413, .aload_n 0, 1), (414, .iload_n 3, 1), (415, .iconst 1, 1), (416, .iadd, 1), (417, .iaload, 1), (418, .invokevirtual 49, 3), (421, .if_icmp .eq 769, 3), (424, .iconst 0, 1), (425, .ireturn, 1), (426, .aload_n 1, 1), (427, .aload_n 0, 1), (428, .iload_n 3, 1), (429, .iconst 1, 1), (430, .iadd, 1), (431, .iaload, 1), (432, .aload_n 0, 1), (433, .iload_n 3, 1), (434, .iconst 2, 1), (435, .iadd, 1), (436, .iaload, 1), (437, .aload_n 0, 1), (438, .iload_n 3, 1), (439, .iconst 3, 1), (440, .iadd, 1), (441, .iaload, 1), (442, .invokevirtual 50, 3), (445, .aload_n 2, 1), (446, .aload_n 0, 1), (447, .iload_n 3, 1), (448, .iconst 1, 1), (449, .iadd, 1), (450, .iaload, 1), (451, .aload_n 0, 1), (452, .iload_n 3, 1), (453, .iconst 2, 1), (454, .iadd, 1), (455, .iaload, 1), (456, .aload_n 0, 1), (457, .iload_n 3, 1), (458, .iconst 3, 1), (459, .iadd, 1), (460, .iaload, 1), (461, .invokevirtual 53, 3), (464, .if_icmp .eq 726, 3), (467, .iconst 0, 1), (468, .ireturn, 1), (469, .aload_n 1, 1), (470, .aload_n 0, 1), (471, .iload_n 3, 1), (472, .iconst 1, 1), (473, .iadd, 1), (474, .iaload, 1), (475, .invokevirtual 54, 3), (478, .aload_n 2, 1), (479, .aload_n 0, 1), (480, .iload_n 3, 1), (481, .iconst 1, 1), (482, .iadd, 1), (483, .iaload, 1), (484, .invokevirtual 57, 3), (487, .if_icmp .eq 703, 3), (490, .iconst 0, 1), (491, .ireturn, 1), (492, .aload_n 1, 1), (493, .invokevirtual 58, 3), (496, .aload_n 2, 1), (497, .invokevirtual 61, 3), (500, .if_icmp .eq 690, 3), (503, .iconst 0, 1), (504, .ireturn, 1), (505, .aload_n 1, 1), (506, .aload_n 0, 1), (507, .iload_n 3, 1), (508, .iconst 1, 1), (509, .iadd, 1), (510, .iaload, 1), (511, .aload_n 0, 1), (512, .iload_n 3, 1), (513, .iconst 2, 1), (514, .iadd, 1), (515, .iaload, 1), (516, .invokevirtual 62, 3), (519, .aload_n 2, 1), (520, .aload_n 0, 1), (521, .iload_n 3, 1), (522, .iconst 1, 1), (523, .iadd, 1), (524, .iaload, 1), (525, .aload_n 0, 1), (526, .iload_n 3, 1), (527, .iconst 2, 1), (528, .iadd, 1), (529, .iaload, 1), (530, .invokevirtual 65, 3), (533, .if_icmp .eq 657, 3), (536, .iconst 0, 1), (537, .ireturn, 1), (538, .aload_n 1, 1), (539, .aload_n 0, 1), (540, .iload_n 3, 1), (541, .iconst 1, 1), (542, .iadd, 1), (543, .iaload, 1), (544, .invokevirtual 66, 3), (547, .aload_n 2, 1), (548, .aload_n 0, 1), (549, .iload_n 3, 1), (550, .iconst 1, 1), (551, .iadd, 1), (552, .iaload, 1), (553, .invokevirtual 69, 3), (556, .if_icmp .eq 634, 3), (559, .iconst 0, 1), (560, .ireturn, 1), (561, .aload_n 1, 1), (562, .aload_n 0, 1), (563, .iload_n 3, 1), (564, .iconst 1, 1), (565, .iadd, 1), (566, .iaload, 1), (567, .invokevirtual 70, 3), (570, .aload_n 2, 1), (571, .aload_n 0, 1), (572, .iload_n 3, 1), (573, .iconst 1, 1), (574, .iadd, 1), (575, .iaload, 1), (576, .invokevirtual 73, 3), (579, .if_icmp .eq 611, 3), (582, .iconst 0, 1), (583, .ireturn, 1), (584, .aload_n 1, 1), (585, .aload_n 0, 1), (586, .iload_n 3, 1), (587, .iconst 1, 1), (588, .iadd, 1), (589, .iaload, 1), (590, .invokevirtual 74, 3), (593, .aload_n 2, 1), (594, .aload_n 0, 1), (595, .iload_n 3, 1), (596, .iconst 1, 1), (597, .iadd, 1), (598, .iaload, 1), (599, .invokevirtual 77, 3), (602, .if_icmp .eq 588, 3), (605, .iconst 0, 1), (606, .ireturn, 1), (607, .aload_n 1, 1), (608, .aload_n 0, 1), (609, .iload_n 3, 1), (610, .iconst 1, 1), (611, .iadd, 1), (612, .iaload, 1), (613, .aload_n 0, 1), (614, .iload_n 3, 1), (615, .iconst 2, 1), (616, .iadd, 1), (617, .iaload, 1), (618, .aload_n 0, 1), (619, .iload_n 3, 1), (620, .iconst 3, 1), (621, .iadd, 1), (622, .iaload, 1), (623, .aload_n 0, 1), (624, .iload_n 3, 1), (625, .iconst 4, 1), (626, .iadd, 1), (627, .iaload, 1), (628, .invokevirtual 78, 3), (631, .aload_n 2, 1), (632, .aload_n 0, 1), (633, .iload_n 3, 1), (634, .iconst 1, 1), (635, .iadd, 1), (636, .iaload, 1), (637, .aload_n 0, 1), (638, .iload_n 3, 1), (639, .iconst 2, 1), (640, .iadd, 1), (641, .iaload, 1), (642, .aload_n 0, 1), (643, .iload_n 3, 1), (644, .iconst 3, 1), (645, .iadd, 1), (646, .iaload, 1), (647, .aload_n 0, 1), (648, .iload_n 3, 1), (649, .iconst 4, 1), (650, .iadd, 1), (651, .iaload, 1), (652, .invokevirtual 82, 3), (655, .if_icmp .eq 535, 3), (658, .iconst 0, 1), (659, .ireturn, 1), (660, .aload_n 1, 1), (661, .aload_n 0, 1), (662, .iload_n 3, 1), (663, .iconst 1, 1), (664, .iadd, 1), (665, .iaload, 1), (666, .aload_n 0, 1), (667, .iload_n 3, 1), (668, .iconst 2, 1), (669, .iadd, 1), (670, .iaload, 1), (671, .invokevirtual 83, 3), (674, .aload_n 2, 1), (675, .aload_n 0, 1), (676, .iload_n 3, 1), (677, .iconst 1, 1), (678, .iadd, 1), (679, .iaload, 1), (680, .aload_n 0, 1), (681, .iload_n 3, 1), (682, .iconst 2, 1), (683, .iadd, 1), (684, .iaload, 1), (685, .invokevirtual 86, 3), (688, .if_icmp .eq 502, 3), (691, .iconst 0, 1), (692, .ireturn, 1), (693, .aload_n 1, 1), (694, .aload_n 0, 1), (695, .iload_n 3, 1), (696, .iconst 1, 1), (697, .iadd, 1), (698, .iaload, 1), (699, .aload_n 0, 1), (700, .iload_n 3, 1), (701, .iconst 2, 1), (702, .iadd, 1), (703, .iaload, 1), (704, .aload_n 0, 1), (705, .iload_n 3, 1), (706, .iconst 3, 1), (707, .iadd, 1), (708, .iaload, 1), (709, .aload_n 0, 1), (710, .iload_n 3, 1), (711, .iconst 4, 1), (712, .iadd, 1), (713, .iaload, 1), (714, .invokevirtual 87, 3), (717, .aload_n 2, 1), (718, .aload_n 0, 1), (719, .iload_n 3, 1), (720, .iconst 1, 1), (721, .iadd, 1), (722, .iaload, 1), (723, .aload_n 0, 1), (724, .iload_n 3, 1), (725, .iconst 2, 1), (726, .iadd, 1), (727, .iaload, 1), (728, .aload_n 0, 1), (729, .iload_n 3, 1), (730, .iconst 3, 1), (731, .iadd, 1), (732, .iaload, 1), (733, .aload_n 0, 1), (734, .iload_n 3, 1), (735, .iconst 4, 1), (736, .iadd, 1), (737, .iaload, 1), (738, .invokevirtual 90, 3), (741, .if_icmp .eq 449, 3), (744, .iconst 0, 1), (745, .ireturn, 1), (746, .aload_n 1, 1), (747, .aload_n 0, 1), (748, .iload_n 3, 1), (749, .iconst 1, 1), (750, .iadd, 1), (751, .iaload, 1), (752, .invokevirtual 91, 3), (755, .aload_n 2, 1), (756, .aload_n 0, 1), (757, .iload_n 3, 1), (758, .iconst 1, 1), (759, .iadd, 1), (760, .iaload, 1), (761, .invokevirtual 94, 3), (764, .if_icmp .eq 426, 3), (767, .iconst 0, 1), (768, .ireturn, 1), (769, .aload_n 1, 1), (770, .aload_n 0, 1), (771, .iload_n 3, 1), (772, .iconst 1, 1), (773, .iadd, 1), (774, .iaload, 1), (775, .invokevirtual 95, 3), (778, .aload_n 2, 1), (779, .aload_n 0, 1), (780, .iload_n 3, 1), (781, .iconst 1, 1), (782, .iadd, 1), (783, .iaload, 1), (784, .invokevirtual 98, 3), (787, .if_icmp .eq 403, 3), (790, .iconst 0, 1), (791, .ireturn, 1), (792, .aload_n 1, 1), (793, .aload_n 0, 1), (794, .iload_n 3, 1), (795, .iconst 1, 1), (796, .iadd, 1), (797, .iaload, 1), (798, .invokevirtual 99, 3), (801, .aload_n 2, 1), (802, .aload_n 0, 1), (803, .iload_n 3, 1), (804, .iconst 1, 1), (805, .iadd, 1), (806, .iaload, 1), (807, .invokevirtual 102, 3), (810, .if_icmp .eq 380, 3), (813, .iconst 0, 1), (814, .ireturn, 1), (815, .aload_n 1, 1), (816, .aload_n 0, 1), (817, .iload_n 3, 1), (818, .iconst 1, 1), (819, .iadd, 1), (820, .iaload, 1), (821, .invokevirtual 103, 3), (824, .aload_n 2, 1), (825, .aload_n 0, 1), (826, .iload_n 3, 1), (827, .iconst 1, 1), (828, .iadd, 1), (829, .iaload, 1), (830, .invokevirtual 106, 3), (833, .if_icmp .eq 357, 3), (836, .iconst 0, 1), (837, .ireturn, 1), (838, .aload_n 1, 1), (839, .invokevirtual 107, 3), (842, .aload_n 2, 1), (843, .invokevirtual 110, 3), (846, .if_icmp .eq 344, 3), (849, .iconst 0, 1), (850, .ireturn, 1), (851, .aload_n 1, 1), (852, .invokevirtual 111, 3), (855, .aload_n 2, 1), (856, .invokevirtual 114, 3), (859, .if_icmp .eq 331, 3), (862, .iconst 0, 1), (863, .ireturn, 1), (864, .aload_n 1, 1), (865, .aload_n 0, 1), (866, .iload_n 3, 1), (867, .iconst 1, 1), (868, .iadd, 1), (869, .iaload, 1), (870, .aload_n 0, 1), (871, .iload_n 3, 1), (872, .iconst 2, 1), (873, .iadd, 1), (874, .iaload, 1), (875, .invokevirtual 115, 3), (878, .aload_n 2, 1), (879, .aload_n 0, 1), (880, .iload_n 3, 1), (881, .iconst 1, 1), (882, .iadd, 1), (883, .iaload, 1), (884, .aload_n 0, 1), (885, .iload_n 3, 1), (886, .iconst 2, 1), (887, .iadd, 1), (888, .iaload, 1), (889, .invokevirtual 118, 3), (892, .if_icmp .eq 298, 3), (895, .iconst 0, 1), (896, .ireturn, 1), (897, .aload_n 1, 1), (898, .invokevirtual 119, 3), (901, .aload_n 2, 1), (902, .invokevirtual 122, 3), (905, .if_icmp .eq 285, 3), (908, .iconst 0, 1), (909, .ireturn, 1), (910, .aload_n 1, 1), (911, .aload_n 0, 1), (912, .iload_n 3, 1), (913, .iconst 1, 1), (914, .iadd, 1), (915, .iaload, 1), (916, .invokevirtual 123, 3), (919, .aload_n 2, 1), (920, .aload_n 0, 1), (921, .iload_n 3, 1), (922, .iconst 1, 1), (923, .iadd, 1), (924, .iaload, 1), (925, .invokevirtual 126, 3), (928, .if_icmp .eq 262, 3), (931, .iconst 0, 1), (932, .ireturn, 1), (933, .aload_n 1, 1), (934, .aload_n 0, 1), (935, .iload_n 3, 1), (936, .iconst 1, 1), (937, .iadd, 1), (938, .iaload, 1), (939, .aload_n 0, 1), (940, .iload_n 3, 1), (941, .iconst 2, 1), (942, .iadd, 1), (943, .iaload, 1), (944, .invokevirtual 127, 3), (947, .aload_n 2, 1), (948, .aload_n 0, 1), (949, .iload_n 3, 1), (950, .iconst 1, 1), (951, .iadd, 1), (952, .iaload, 1), (953, .aload_n 0, 1), (954, .iload_n 3, 1), (955, .iconst 2, 1), (956, .iadd, 1), (957, .iaload, 1), (958, .invokevirtual 130, 3), (961, .if_icmp .eq 229, 3), (964, .iconst 0, 1), (965, .ireturn, 1), (966, .aload_n 1, 1), (967, .aload_n 0, 1), (968, .iload_n 3, 1), (969, .iconst 1, 1), (970, .iadd, 1), (971, .iaload, 1), (972, .aload_n 0, 1), (973, .iload_n 3, 1), (974, .iconst 2, 1), (975, .iadd, 1), (976, .iaload, 1), (977, .invokevirtual 131, 3), (980, .aload_n 2, 1), (981, .aload_n 0, 1), (982, .iload_n 3, 1), (983, .iconst 1, 1), (984, .iadd, 1), (985, .iaload, 1), (986, .aload_n 0, 1), (987, .iload_n 3, 1), (988, .iconst 2, 1), (989, .iadd, 1), (990, .iaload, 1), (991, .invokevirtual 134, 3), (994, .if_icmp .eq 196, 3), (997, .iconst 0, 1), (998, .ireturn, 1), (999, .aload_n 1, 1), (1000, .invokevirtual 135, 3), (1003, .aload_n 2, 1), (1004, .invokevirtual 138, 3), (1007, .if_icmp .eq 183, 3), (1010, .iconst 0, 1), (1011, .ireturn, 1), (1012, .aload_n 1, 1), (1013, .aload_n 0, 1), (1014, .iload_n 3, 1), (1015, .iconst 1, 1), (1016, .iadd, 1), (1017, .iaload, 1), (1018, .aload_n 0, 1), (1019, .iload_n 3, 1), (1020, .iconst 2, 1), (1021, .iadd, 1), (1022, .iaload, 1), (1023, .invokevirtual 139, 3), (1026, .aload_n 2, 1), (1027, .aload_n 0, 1), (1028, .iload_n 3, 1), (1029, .iconst 1, 1), (1030, .iadd, 1), (1031, .iaload, 1), (1032, .aload_n 0, 1), (1033, .iload_n 3, 1), (1034, .iconst 2, 1), (1035, .iadd, 1), (1036, .iaload, 1), (1037, .invokevirtual 142, 3), (1040, .if_icmp .eq 150, 3), (1043, .iconst 0, 1), (1044, .ireturn, 1), (1045, .aload_n 1, 1), (1046, .aload_n 0, 1), (1047, .iload_n 3, 1), (1048, .iconst 1, 1), (1049, .iadd, 1), (1050, .iaload, 1), (1051, .aload_n 0, 1), (1052, .iload_n 3, 1), (1053, .iconst 2, 1), (1054, .iadd, 1), (1055, .iaload, 1), (1056, .aload_n 0, 1), (1057, .iload_n 3, 1), (1058, .iconst 3, 1), (1059, .iadd, 1), (1060, .iaload, 1), (1061, .aload_n 0, 1), (1062, .iload_n 3, 1), (1063, .iconst 4, 1), (1064, .iadd, 1), (1065, .iaload, 1), (1066, .invokevirtual 143, 3), (1069, .aload_n 2, 1), (1070, .aload_n 0, 1), (1071, .iload_n 3, 1), (1072, .iconst 1, 1), (1073, .iadd, 1), (1074, .iaload, 1), (1075, .aload_n 0, 1), (1076, .iload_n 3, 1), (1077, .iconst 2, 1), (1078, .iadd, 1), (1079, .iaload, 1), (1080, .aload_n 0, 1), (1081, .iload_n 3, 1), (1082, .iconst 3, 1), (1083, .iadd, 1), (1084, .iaload, 1), (1085, .aload_n 0, 1), (1086, .iload_n 3, 1), (1087, .iconst 4, 1), (1088, .iadd, 1), (1089, .iaload, 1), (1090, .invokevirtual 146, 3), (1093, .if_icmp .eq 97, 3), (1096, .iconst 0, 1), (1097, .ireturn, 1), (1098, .aload_n 1, 1), (1099, .aload_n 0, 1), (1100, .iload_n 3, 1), (1101, .iconst 1, 1), (1102, .iadd, 1), (1103, .iaload, 1), (1104, .invokevirtual 147, 3), (1107, .aload_n 2, 1), (1108, .aload_n 0, 1), (1109, .iload_n 3, 1), (1110, .iconst 1, 1), (1111, .iadd, 1), (1112, .iaload, 1), (1113, .invokevirtual 150, 3), (1116, .if_icmp .eq 74, 3), (1119, .iconst 0, 1), (1120, .ireturn, 1), (1121, .aload_n 1, 1), (1122, .aload_n 0, 1), (1123, .iload_n 3, 1), (1124, .iconst 1, 1), (1125, .iadd, 1), (1126, .iaload, 1), (1127, .invokevirtual 151, 3), (1130, .aload_n 2, 1), (1131, .aload_n 0, 1), (1132, .iload_n 3, 1), (1133, .iconst 1, 1), (1134, .iadd, 1), (1135, .iaload, 1), (1136, .invokevirtual 154, 3), (1139, .if_icmp .eq 51, 3), (1142, .iconst 0, 1), (1143, .ireturn, 1), (1144, .aload_n 1, 1), (1145, .aload_n 0, 1), (1146, .iload_n 3, 1), (1147, .iconst 1, 1), (1148, .iadd, 1), (1149, .iaload, 1), (1150, .invokevirtual 155, 3), (1153, .aload_n 2, 1), (1154, .aload_n 0, 1), (1155, .iload_n 3, 1), (1156, .iconst 1, 1), (1157, .iadd, 1), (1158, .iaload, 1), (1159, .invokevirtual 158, 3), (1162, .if_icmp .eq 28, 3), (1165, .iconst 0, 1), (1166, .ireturn, 1), (1167, .aload_n 1, 1), (1168, .aload_n 0, 1), (1169, .iload_n 3, 1), (1170, .iconst 1, 1), (1171, .iadd, 1), (1172, .iaload, 1), (1173, .invokevirtual 159, 3), (1176, .aload_n 2, 1), (1177, .aload_n 0, 1), (1178, .iload_n 3, 1), (1179, .iconst 1, 1), (1180, .iadd, 1), (1181, .iaload, 1), (1182, .invokevirtual 162, 3), (1185, .if_icmp .eq 5, 3), (1188, .iconst 0, 1), (1189, .ireturn, 1), (1190, .iinc 3 6, 3), (1193, .goto (-1175), 3), (1196, .iconst 1, 1), (1197, .ireturn, 1)]
set_option maxRecDepth 20000 in
theorem D_Law_law : (T_Law_law.all fun q => decide (decode M_Law_law.2.1 q.1 = .ok q.2)) = true := by decide +kernel
def Law_law_L18 : Nat → Nat → Nat → Nat → Int → AH → Option (Int × AH)
  | 0, _, _, _, _, _ => none
  | n + 1, v0, v1, v2, v3, h => aN h 24 v0 fun x1 => if ((wr (x1 - 6)) : Int) < v3 then (some (1, h)) else (aI h 24 v0 v3 fun x2 => if ((iAnd x2 63) : Int) = 0 then (aI h 24 v0 (wr (v3 + 1)) fun x3 => aI h 24 v0 (wr (v3 + 2)) fun x4 => aI h 24 v0 (wr (v3 + 3)) fun x5 => aI h 24 v0 (wr (v3 + 4)) fun x6 => aI h 24 v0 (wr (v3 + 5)) fun x7 => rc h 12 v1 <| bnd (Bat_feed v1 x3 x4 x5 x6 x7 h) fun x9 h8 => aI h8 24 v0 (wr (v3 + 1)) fun x11 => aI h8 24 v0 (wr (v3 + 2)) fun x12 => aI h8 24 v0 (wr (v3 + 3)) fun x13 => aI h8 24 v0 (wr (v3 + 4)) fun x14 => aI h8 24 v0 (wr (v3 + 5)) fun x15 => rc h8 13 v2 <| bnd (Mod_feed v2 x11 x12 x13 x14 x15 h8) fun x17 h16 => if (x9 : Int) = x17 then (Law_law_L18 n v0 v1 v2 ((wr (v3 + 6))) h16) else (some (0, h16))) else (if ((iAnd x2 63) : Int) = 1 then (aI h 24 v0 (wr (v3 + 1)) fun x19 => rc h 12 v1 <| bnd (Bat_end v1 x19 h) fun x21 h20 => aI h20 24 v0 (wr (v3 + 1)) fun x23 => rc h20 13 v2 <| bnd (Mod_end v2 x23 h20) fun x25 h24 => if (x21 : Int) = x25 then (Law_law_L18 n v0 v1 v2 ((wr (v3 + 6))) h24) else (some (0, h24))) else (if ((iAnd x2 63) : Int) = 2 then (rc h 12 v1 <| bnd (Bat_base v1 h) fun x28 h27 => rc h27 13 v2 <| bnd (Mod_base v2 h27) fun x31 h30 => if (x28 : Int) = x31 then (Law_law_L18 n v0 v1 v2 ((wr (v3 + 6))) h30) else (some (0, h30))) else (if ((iAnd x2 63) : Int) = 3 then (rc h 12 v1 <| bnd (Bat_query v1 h) fun x34 h33 => rc h33 13 v2 <| bnd (Mod_query v2 h33) fun x37 h36 => if (x34 : Int) = x37 then (Law_law_L18 n v0 v1 v2 ((wr (v3 + 6))) h36) else (some (0, h36))) else (if ((iAnd x2 63) : Int) = 4 then (aI h 24 v0 (wr (v3 + 1)) fun x39 => aI h 24 v0 (wr (v3 + 2)) fun x40 => aI h 24 v0 (wr (v3 + 3)) fun x41 => rc h 12 v1 <| bnd (Bat_cell v1 x39 x40 x41 h) fun x43 h42 => aI h42 24 v0 (wr (v3 + 1)) fun x45 => aI h42 24 v0 (wr (v3 + 2)) fun x46 => aI h42 24 v0 (wr (v3 + 3)) fun x47 => rc h42 13 v2 <| bnd (Mod_cell v2 x45 x46 x47 h42) fun x49 h48 => if (x43 : Int) = x49 then (Law_law_L18 n v0 v1 v2 ((wr (v3 + 6))) h48) else (some (0, h48))) else (if ((iAnd x2 63) : Int) = 5 then (aI h 24 v0 (wr (v3 + 1)) fun x51 => aI h 24 v0 (wr (v3 + 2)) fun x52 => rc h 12 v1 <| bnd (Bat_form v1 x51 x52 h) fun x54 h53 => aI h53 24 v0 (wr (v3 + 1)) fun x56 => aI h53 24 v0 (wr (v3 + 2)) fun x57 => rc h53 13 v2 <| bnd (Mod_form v2 x56 x57 h53) fun x59 h58 => if (x54 : Int) = x59 then (Law_law_L18 n v0 v1 v2 ((wr (v3 + 6))) h58) else (some (0, h58))) else (if ((iAnd x2 63) : Int) = 6 then (aI h 24 v0 (wr (v3 + 1)) fun x61 => rc h 12 v1 <| bnd (Bat_digest v1 x61 h) fun x63 h62 => aI h62 24 v0 (wr (v3 + 1)) fun x65 => rc h62 13 v2 <| bnd (Mod_digest v2 x65 h62) fun x67 h66 => if (x63 : Int) = x67 then (Law_law_L18 n v0 v1 v2 ((wr (v3 + 6))) h66) else (some (0, h66))) else (if ((iAnd x2 63) : Int) = 7 then (aI h 24 v0 (wr (v3 + 1)) fun x69 => rc h 12 v1 <| bnd (Bat_alike v1 x69 h) fun x71 h70 => aI h70 24 v0 (wr (v3 + 1)) fun x73 => rc h70 13 v2 <| bnd (Mod_alike v2 x73 h70) fun x75 h74 => if (x71 : Int) = x75 then (Law_law_L18 n v0 v1 v2 ((wr (v3 + 6))) h74) else (some (0, h74))) else (if ((iAnd x2 63) : Int) = 8 then (aI h 24 v0 (wr (v3 + 1)) fun x77 => aI h 24 v0 (wr (v3 + 2)) fun x78 => aI h 24 v0 (wr (v3 + 3)) fun x79 => rc h 12 v1 <| bnd (Bat_answer v1 x77 x78 x79 h) fun x81 h80 => aI h80 24 v0 (wr (v3 + 1)) fun x83 => aI h80 24 v0 (wr (v3 + 2)) fun x84 => aI h80 24 v0 (wr (v3 + 3)) fun x85 => rc h80 13 v2 <| bnd (Mod_answer v2 x83 x84 x85 h80) fun x87 h86 => if (x81 : Int) = x87 then (Law_law_L18 n v0 v1 v2 ((wr (v3 + 6))) h86) else (some (0, h86))) else (if ((iAnd x2 63) : Int) = 9 then (aI h 24 v0 (wr (v3 + 1)) fun x89 => rc h 12 v1 <| bnd (Bat_alone v1 x89 h) fun x91 h90 => aI h90 24 v0 (wr (v3 + 1)) fun x93 => rc h90 13 v2 <| bnd (Mod_alone v2 x93 h90) fun x95 h94 => if (x91 : Int) = x95 then (Law_law_L18 n v0 v1 v2 ((wr (v3 + 6))) h94) else (some (0, h94))) else (if ((iAnd x2 63) : Int) = 10 then (rc h 12 v1 <| bnd (Bat_candidates v1 h) fun x98 h97 => rc h97 13 v2 <| bnd (Mod_candidates v2 h97) fun x101 h100 => if (x98 : Int) = x101 then (Law_law_L18 n v0 v1 v2 ((wr (v3 + 6))) h100) else (some (0, h100))) else (if ((iAnd x2 63) : Int) = 11 then (aI h 24 v0 (wr (v3 + 1)) fun x103 => aI h 24 v0 (wr (v3 + 2)) fun x104 => rc h 12 v1 <| bnd (Bat_candidate v1 x103 x104 h) fun x106 h105 => aI h105 24 v0 (wr (v3 + 1)) fun x108 => aI h105 24 v0 (wr (v3 + 2)) fun x109 => rc h105 13 v2 <| bnd (Mod_candidate v2 x108 x109 h105) fun x111 h110 => if (x106 : Int) = x111 then (Law_law_L18 n v0 v1 v2 ((wr (v3 + 6))) h110) else (some (0, h110))) else (if ((iAnd x2 63) : Int) = 12 then (aI h 24 v0 (wr (v3 + 1)) fun x113 => rc h 12 v1 <| bnd (Bat_gain v1 x113 h) fun x115 h114 => aI h114 24 v0 (wr (v3 + 1)) fun x117 => rc h114 13 v2 <| bnd (Mod_gain v2 x117 h114) fun x119 h118 => if (x115 : Int) = x119 then (Law_law_L18 n v0 v1 v2 ((wr (v3 + 6))) h118) else (some (0, h118))) else (if ((iAnd x2 63) : Int) = 13 then (aI h 24 v0 (wr (v3 + 1)) fun x121 => rc h 12 v1 <| bnd (Bat_greedy v1 x121 h) fun x123 h122 => aI h122 24 v0 (wr (v3 + 1)) fun x125 => rc h122 13 v2 <| bnd (Mod_greedy v2 x125 h122) fun x127 h126 => if (x123 : Int) = x127 then (Law_law_L18 n v0 v1 v2 ((wr (v3 + 6))) h126) else (some (0, h126))) else (if ((iAnd x2 63) : Int) = 14 then (aI h 24 v0 (wr (v3 + 1)) fun x129 => rc h 12 v1 <| bnd (Bat_best v1 x129 h) fun x131 h130 => aI h130 24 v0 (wr (v3 + 1)) fun x133 => rc h130 13 v2 <| bnd (Mod_best v2 x133 h130) fun x135 h134 => if (x131 : Int) = x135 then (Law_law_L18 n v0 v1 v2 ((wr (v3 + 6))) h134) else (some (0, h134))) else (if ((iAnd x2 63) : Int) = 15 then (aI h 24 v0 (wr (v3 + 1)) fun x137 => aI h 24 v0 (wr (v3 + 2)) fun x138 => aI h 24 v0 (wr (v3 + 3)) fun x139 => aI h 24 v0 (wr (v3 + 4)) fun x140 => rc h 12 v1 <| bnd (Bat_put v1 x137 x138 x139 x140 h) fun x142 h141 => aI h141 24 v0 (wr (v3 + 1)) fun x144 => aI h141 24 v0 (wr (v3 + 2)) fun x145 => aI h141 24 v0 (wr (v3 + 3)) fun x146 => aI h141 24 v0 (wr (v3 + 4)) fun x147 => rc h141 13 v2 <| bnd (Mod_put v2 x144 x145 x146 x147 h141) fun x149 h148 => if (x142 : Int) = x149 then (Law_law_L18 n v0 v1 v2 ((wr (v3 + 6))) h148) else (some (0, h148))) else (if ((iAnd x2 63) : Int) = 16 then (aI h 24 v0 (wr (v3 + 1)) fun x151 => aI h 24 v0 (wr (v3 + 2)) fun x152 => rc h 12 v1 <| bnd (Bat_remove v1 x151 x152 h) fun x154 h153 => aI h153 24 v0 (wr (v3 + 1)) fun x156 => aI h153 24 v0 (wr (v3 + 2)) fun x157 => rc h153 13 v2 <| bnd (Mod_remove v2 x156 x157 h153) fun x159 h158 => if (x154 : Int) = x159 then (Law_law_L18 n v0 v1 v2 ((wr (v3 + 6))) h158) else (some (0, h158))) else (if ((iAnd x2 63) : Int) = 17 then (aI h 24 v0 (wr (v3 + 1)) fun x161 => aI h 24 v0 (wr (v3 + 2)) fun x162 => aI h 24 v0 (wr (v3 + 3)) fun x163 => aI h 24 v0 (wr (v3 + 4)) fun x164 => rc h 12 v1 <| bnd (Bat_change v1 x161 x162 x163 x164 h) fun x166 h165 => aI h165 24 v0 (wr (v3 + 1)) fun x168 => aI h165 24 v0 (wr (v3 + 2)) fun x169 => aI h165 24 v0 (wr (v3 + 3)) fun x170 => aI h165 24 v0 (wr (v3 + 4)) fun x171 => rc h165 13 v2 <| bnd (Mod_change v2 x168 x169 x170 x171 h165) fun x173 h172 => if (x166 : Int) = x173 then (Law_law_L18 n v0 v1 v2 ((wr (v3 + 6))) h172) else (some (0, h172))) else (if ((iAnd x2 63) : Int) = 18 then (aI h 24 v0 (wr (v3 + 1)) fun x175 => rc h 12 v1 <| bnd (Bat_strike v1 x175 h) fun x177 h176 => aI h176 24 v0 (wr (v3 + 1)) fun x179 => rc h176 13 v2 <| bnd (Mod_strike v2 x179 h176) fun x181 h180 => if (x177 : Int) = x181 then (Law_law_L18 n v0 v1 v2 ((wr (v3 + 6))) h180) else (some (0, h180))) else (if ((iAnd x2 63) : Int) = 19 then (aI h 24 v0 (wr (v3 + 1)) fun x183 => rc h 12 v1 <| bnd (Bat_keep v1 x183 h) fun x185 h184 => aI h184 24 v0 (wr (v3 + 1)) fun x187 => rc h184 13 v2 <| bnd (Mod_keep v2 x187 h184) fun x189 h188 => if (x185 : Int) = x189 then (Law_law_L18 n v0 v1 v2 ((wr (v3 + 6))) h188) else (some (0, h188))) else (if ((iAnd x2 63) : Int) = 20 then (aI h 24 v0 (wr (v3 + 1)) fun x191 => rc h 12 v1 <| bnd (Bat_forget v1 x191 h) fun x193 h192 => aI h192 24 v0 (wr (v3 + 1)) fun x195 => rc h192 13 v2 <| bnd (Mod_forget v2 x195 h192) fun x197 h196 => if (x193 : Int) = x197 then (Law_law_L18 n v0 v1 v2 ((wr (v3 + 6))) h196) else (some (0, h196))) else (if ((iAnd x2 63) : Int) = 21 then (aI h 24 v0 (wr (v3 + 1)) fun x199 => rc h 12 v1 <| bnd (Bat_refresh v1 x199 h) fun x201 h200 => aI h200 24 v0 (wr (v3 + 1)) fun x203 => rc h200 13 v2 <| bnd (Mod_refresh v2 x203 h200) fun x205 h204 => if (x201 : Int) = x205 then (Law_law_L18 n v0 v1 v2 ((wr (v3 + 6))) h204) else (some (0, h204))) else (if ((iAnd x2 63) : Int) = 22 then (rc h 12 v1 <| bnd (Bat_run v1 h) fun x208 h207 => rc h207 13 v2 <| bnd (Mod_run v2 h207) fun x211 h210 => if (x208 : Int) = x211 then (Law_law_L18 n v0 v1 v2 ((wr (v3 + 6))) h210) else (some (0, h210))) else (if ((iAnd x2 63) : Int) = 23 then (rc h 12 v1 <| bnd (Bat_undo v1 h) fun x214 h213 => rc h213 13 v2 <| bnd (Mod_undo v2 h213) fun x217 h216 => if (x214 : Int) = x217 then (Law_law_L18 n v0 v1 v2 ((wr (v3 + 6))) h216) else (some (0, h216))) else (if ((iAnd x2 63) : Int) = 24 then (aI h 24 v0 (wr (v3 + 1)) fun x219 => aI h 24 v0 (wr (v3 + 2)) fun x220 => rc h 12 v1 <| bnd (Bat_kept v1 x219 x220 h) fun x222 h221 => aI h221 24 v0 (wr (v3 + 1)) fun x224 => aI h221 24 v0 (wr (v3 + 2)) fun x225 => rc h221 13 v2 <| bnd (Mod_kept v2 x224 x225 h221) fun x227 h226 => if (x222 : Int) = x227 then (Law_law_L18 n v0 v1 v2 ((wr (v3 + 6))) h226) else (some (0, h226))) else (if ((iAnd x2 63) : Int) = 25 then (rc h 12 v1 <| bnd (Bat_batch v1 h) fun x230 h229 => rc h229 13 v2 <| bnd (Mod_batch v2 h229) fun x233 h232 => if (x230 : Int) = x233 then (Law_law_L18 n v0 v1 v2 ((wr (v3 + 6))) h232) else (some (0, h232))) else (if ((iAnd x2 63) : Int) = 26 then (aI h 24 v0 (wr (v3 + 1)) fun x235 => rc h 12 v1 <| bnd (Bat_costs v1 x235 h) fun x237 h236 => aI h236 24 v0 (wr (v3 + 1)) fun x239 => rc h236 13 v2 <| bnd (Mod_costs v2 x239 h236) fun x241 h240 => if (x237 : Int) = x241 then (Law_law_L18 n v0 v1 v2 ((wr (v3 + 6))) h240) else (some (0, h240))) else (if ((iAnd x2 63) : Int) = 27 then (aI h 24 v0 (wr (v3 + 1)) fun x243 => aI h 24 v0 (wr (v3 + 2)) fun x244 => rc h 12 v1 <| bnd (Bat_serves v1 x243 x244 h) fun x246 h245 => aI h245 24 v0 (wr (v3 + 1)) fun x248 => aI h245 24 v0 (wr (v3 + 2)) fun x249 => rc h245 13 v2 <| bnd (Mod_serves v2 x248 x249 h245) fun x251 h250 => if (x246 : Int) = x251 then (Law_law_L18 n v0 v1 v2 ((wr (v3 + 6))) h250) else (some (0, h250))) else (if ((iAnd x2 63) : Int) = 28 then (aI h 24 v0 (wr (v3 + 1)) fun x253 => aI h 24 v0 (wr (v3 + 2)) fun x254 => rc h 12 v1 <| bnd (Bat_marks v1 x253 x254 h) fun x256 h255 => aI h255 24 v0 (wr (v3 + 1)) fun x258 => aI h255 24 v0 (wr (v3 + 2)) fun x259 => rc h255 13 v2 <| bnd (Mod_marks v2 x258 x259 h255) fun x261 h260 => if (x256 : Int) = x261 then (Law_law_L18 n v0 v1 v2 ((wr (v3 + 6))) h260) else (some (0, h260))) else (if ((iAnd x2 63) : Int) = 29 then (rc h 12 v1 <| bnd (Bat_shared v1 h) fun x264 h263 => rc h263 13 v2 <| bnd (Mod_shared v2 h263) fun x267 h266 => if (x264 : Int) = x267 then (Law_law_L18 n v0 v1 v2 ((wr (v3 + 6))) h266) else (some (0, h266))) else (if ((iAnd x2 63) : Int) = 30 then (aI h 24 v0 (wr (v3 + 1)) fun x269 => aI h 24 v0 (wr (v3 + 2)) fun x270 => rc h 12 v1 <| bnd (Bat_residue v1 x269 x270 h) fun x272 h271 => aI h271 24 v0 (wr (v3 + 1)) fun x274 => aI h271 24 v0 (wr (v3 + 2)) fun x275 => rc h271 13 v2 <| bnd (Mod_residue v2 x274 x275 h271) fun x277 h276 => if (x272 : Int) = x277 then (Law_law_L18 n v0 v1 v2 ((wr (v3 + 6))) h276) else (some (0, h276))) else (if ((iAnd x2 63) : Int) = 31 then (aI h 24 v0 (wr (v3 + 1)) fun x279 => aI h 24 v0 (wr (v3 + 2)) fun x280 => aI h 24 v0 (wr (v3 + 3)) fun x281 => aI h 24 v0 (wr (v3 + 4)) fun x282 => rc h 12 v1 <| bnd (Bat_drift v1 x279 x280 x281 x282 h) fun x284 h283 => aI h283 24 v0 (wr (v3 + 1)) fun x286 => aI h283 24 v0 (wr (v3 + 2)) fun x287 => aI h283 24 v0 (wr (v3 + 3)) fun x288 => aI h283 24 v0 (wr (v3 + 4)) fun x289 => rc h283 13 v2 <| bnd (Mod_drift v2 x286 x287 x288 x289 h283) fun x291 h290 => if (x284 : Int) = x291 then (Law_law_L18 n v0 v1 v2 ((wr (v3 + 6))) h290) else (some (0, h290))) else (if ((iAnd x2 63) : Int) = 32 then (aI h 24 v0 (wr (v3 + 1)) fun x293 => rc h 12 v1 <| bnd (Bat_seed v1 x293 h) fun x295 h294 => aI h294 24 v0 (wr (v3 + 1)) fun x297 => rc h294 13 v2 <| bnd (Mod_seed v2 x297 h294) fun x299 h298 => if (x295 : Int) = x299 then (Law_law_L18 n v0 v1 v2 ((wr (v3 + 6))) h298) else (some (0, h298))) else (if ((iAnd x2 63) : Int) = 33 then (aI h 24 v0 (wr (v3 + 1)) fun x301 => rc h 12 v1 <| bnd (Bat_count v1 x301 h) fun x303 h302 => aI h302 24 v0 (wr (v3 + 1)) fun x305 => rc h302 13 v2 <| bnd (Mod_count v2 x305 h302) fun x307 h306 => if (x303 : Int) = x307 then (Law_law_L18 n v0 v1 v2 ((wr (v3 + 6))) h306) else (some (0, h306))) else (if ((iAnd x2 63) : Int) = 34 then (aI h 24 v0 (wr (v3 + 1)) fun x309 => rc h 12 v1 <| bnd (Bat_image v1 x309 h) fun x311 h310 => aI h310 24 v0 (wr (v3 + 1)) fun x313 => rc h310 13 v2 <| bnd (Mod_image v2 x313 h310) fun x315 h314 => if (x311 : Int) = x315 then (Law_law_L18 n v0 v1 v2 ((wr (v3 + 6))) h314) else (some (0, h314))) else (if ((iAnd x2 63) : Int) = 35 then (aI h 24 v0 (wr (v3 + 1)) fun x317 => rc h 12 v1 <| bnd (Bat_back v1 x317 h) fun x319 h318 => aI h318 24 v0 (wr (v3 + 1)) fun x321 => rc h318 13 v2 <| bnd (Mod_back v2 x321 h318) fun x323 h322 => if (x319 : Int) = x323 then (Law_law_L18 n v0 v1 v2 ((wr (v3 + 6))) h322) else (some (0, h322))) else (Law_law_L18 n v0 v1 v2 ((wr (v3 + 6))) h)))))))))))))))))))))))))))))))))))))
set_option maxHeartbeats 4000000 in
set_option maxRecDepth 20000 in
theorem s_Law_law_L18 : ∀ (n : Nat) (v0 : Nat) (v1 : Nat) (v2 : Nat) (v3 : Int) (h : AH), Sd M_Law_law 13 276 emI 18 [(0, vr v0), (1, vr v1), (2, vr v2), (3, vi v3)] [] h (Law_law_L18 n v0 v1 v2 v3 h)
  | 0, _, _, _, _, _ => Sd.none
  | n + 1, v0, v1, v2, v3, h => by
    rw [Law_law_L18]
    refine Sd_iload_n (pc' := 19) (dc D_Law_law 10 rfl) rfl 3 rfl rfl ?_
    refine Sd_aload_n (pc' := 20) (dc D_Law_law 11 rfl) rfl 0 rfl rfl ?_
    refine Sd_slen (pc' := 21) (dc D_Law_law 12 rfl) rfl ?_
    refine Sd_bipush (pc' := 23) (dc D_Law_law 13 rfl) rfl ⟨by decide, by decide⟩ (by decide) ?_
    refine Sd_isub (pc' := 24) (dc D_Law_law 14 rfl) rfl ?_
    refine Sd_icmp_gt (tgt := 1196) (pc' := 27) (dc D_Law_law 15 rfl) (by decide) rfl (fun _ => ?_) (fun _ => ?_)
    · refine Sd_iconst (pc' := 1197) (dc D_Law_law 806 rfl) rfl ⟨by decide, by decide⟩ ?_
      exact Sd_zret (dc D_Law_law 807 rfl) rfl (Or.inr rfl)
    · refine Sd_aload_n (pc' := 28) (dc D_Law_law 16 rfl) rfl 0 rfl rfl ?_
      refine Sd_iload_n (pc' := 29) (dc D_Law_law 17 rfl) rfl 3 rfl rfl ?_
      refine Sd_saload (pc' := 30) (dc D_Law_law 18 rfl) rfl ?_
      refine Sd_bipush (pc' := 32) (dc D_Law_law 19 rfl) rfl ⟨by decide, by decide⟩ (by decide) ?_
      refine Sd_iand (pc' := 33) (dc D_Law_law 20 rfl) rfl ?_
      refine Sd_tcase (i := 0) (tgt := 192) (dc D_Law_law 21 rfl) rfl (by decide) (by decide) (by decide) (fun _ => ?_) (fun hn0 => ?_)
      · refine Sd_aload_n (pc' := 193) (dc D_Law_law 22 rfl) rfl 1 rfl rfl ?_
        refine Sd_aload_n (pc' := 194) (dc D_Law_law 23 rfl) rfl 0 rfl rfl ?_
        refine Sd_iload_n (pc' := 195) (dc D_Law_law 24 rfl) rfl 3 rfl rfl ?_
        refine Sd_iconst (pc' := 196) (dc D_Law_law 25 rfl) rfl ⟨by decide, by decide⟩ ?_
        refine Sd_iadd (pc' := 197) (dc D_Law_law 26 rfl) rfl ?_
        refine Sd_saload (pc' := 198) (dc D_Law_law 27 rfl) rfl ?_
        refine Sd_aload_n (pc' := 199) (dc D_Law_law 28 rfl) rfl 0 rfl rfl ?_
        refine Sd_iload_n (pc' := 200) (dc D_Law_law 29 rfl) rfl 3 rfl rfl ?_
        refine Sd_iconst (pc' := 201) (dc D_Law_law 30 rfl) rfl ⟨by decide, by decide⟩ ?_
        refine Sd_iadd (pc' := 202) (dc D_Law_law 31 rfl) rfl ?_
        refine Sd_saload (pc' := 203) (dc D_Law_law 32 rfl) rfl ?_
        refine Sd_aload_n (pc' := 204) (dc D_Law_law 33 rfl) rfl 0 rfl rfl ?_
        refine Sd_iload_n (pc' := 205) (dc D_Law_law 34 rfl) rfl 3 rfl rfl ?_
        refine Sd_iconst (pc' := 206) (dc D_Law_law 35 rfl) rfl ⟨by decide, by decide⟩ ?_
        refine Sd_iadd (pc' := 207) (dc D_Law_law 36 rfl) rfl ?_
        refine Sd_saload (pc' := 208) (dc D_Law_law 37 rfl) rfl ?_
        refine Sd_aload_n (pc' := 209) (dc D_Law_law 38 rfl) rfl 0 rfl rfl ?_
        refine Sd_iload_n (pc' := 210) (dc D_Law_law 39 rfl) rfl 3 rfl rfl ?_
        refine Sd_iconst (pc' := 211) (dc D_Law_law 40 rfl) rfl ⟨by decide, by decide⟩ ?_
        refine Sd_iadd (pc' := 212) (dc D_Law_law 41 rfl) rfl ?_
        refine Sd_saload (pc' := 213) (dc D_Law_law 42 rfl) rfl ?_
        refine Sd_aload_n (pc' := 214) (dc D_Law_law 43 rfl) rfl 0 rfl rfl ?_
        refine Sd_iload_n (pc' := 215) (dc D_Law_law 44 rfl) rfl 3 rfl rfl ?_
        refine Sd_iconst (pc' := 216) (dc D_Law_law 45 rfl) rfl ⟨by decide, by decide⟩ ?_
        refine Sd_iadd (pc' := 217) (dc D_Law_law 46 rfl) rfl ?_
        refine Sd_saload (pc' := 218) (dc D_Law_law 47 rfl) rfl ?_
        refine Sd.callVI (ci := 11) (t := 12) (as := [_, _, _, _, _]) RX11 (pc' := 221) (dc D_Law_law 48 rfl) rfl rfl rfl rfl K_Bat_feed L_Law_13 Ks_Bat_feed Kv_Bat_feed ⟨by decide, by decide⟩ rfl rfl (Nat.le_of_ble_eq_true rfl) (s_Bat_feed _ _ _ _ _ _ _) (fun x9 h8 => ?_)
        refine Sd_aload_n (pc' := 222) (dc D_Law_law 49 rfl) rfl 2 rfl rfl ?_
        refine Sd_aload_n (pc' := 223) (dc D_Law_law 50 rfl) rfl 0 rfl rfl ?_
        refine Sd_iload_n (pc' := 224) (dc D_Law_law 51 rfl) rfl 3 rfl rfl ?_
        refine Sd_iconst (pc' := 225) (dc D_Law_law 52 rfl) rfl ⟨by decide, by decide⟩ ?_
        refine Sd_iadd (pc' := 226) (dc D_Law_law 53 rfl) rfl ?_
        refine Sd_saload (pc' := 227) (dc D_Law_law 54 rfl) rfl ?_
        refine Sd_aload_n (pc' := 228) (dc D_Law_law 55 rfl) rfl 0 rfl rfl ?_
        refine Sd_iload_n (pc' := 229) (dc D_Law_law 56 rfl) rfl 3 rfl rfl ?_
        refine Sd_iconst (pc' := 230) (dc D_Law_law 57 rfl) rfl ⟨by decide, by decide⟩ ?_
        refine Sd_iadd (pc' := 231) (dc D_Law_law 58 rfl) rfl ?_
        refine Sd_saload (pc' := 232) (dc D_Law_law 59 rfl) rfl ?_
        refine Sd_aload_n (pc' := 233) (dc D_Law_law 60 rfl) rfl 0 rfl rfl ?_
        refine Sd_iload_n (pc' := 234) (dc D_Law_law 61 rfl) rfl 3 rfl rfl ?_
        refine Sd_iconst (pc' := 235) (dc D_Law_law 62 rfl) rfl ⟨by decide, by decide⟩ ?_
        refine Sd_iadd (pc' := 236) (dc D_Law_law 63 rfl) rfl ?_
        refine Sd_saload (pc' := 237) (dc D_Law_law 64 rfl) rfl ?_
        refine Sd_aload_n (pc' := 238) (dc D_Law_law 65 rfl) rfl 0 rfl rfl ?_
        refine Sd_iload_n (pc' := 239) (dc D_Law_law 66 rfl) rfl 3 rfl rfl ?_
        refine Sd_iconst (pc' := 240) (dc D_Law_law 67 rfl) rfl ⟨by decide, by decide⟩ ?_
        refine Sd_iadd (pc' := 241) (dc D_Law_law 68 rfl) rfl ?_
        refine Sd_saload (pc' := 242) (dc D_Law_law 69 rfl) rfl ?_
        refine Sd_aload_n (pc' := 243) (dc D_Law_law 70 rfl) rfl 0 rfl rfl ?_
        refine Sd_iload_n (pc' := 244) (dc D_Law_law 71 rfl) rfl 3 rfl rfl ?_
        refine Sd_iconst (pc' := 245) (dc D_Law_law 72 rfl) rfl ⟨by decide, by decide⟩ ?_
        refine Sd_iadd (pc' := 246) (dc D_Law_law 73 rfl) rfl ?_
        refine Sd_saload (pc' := 247) (dc D_Law_law 74 rfl) rfl ?_
        refine Sd.callVI (ci := 12) (t := 13) (as := [_, _, _, _, _]) RX12 (pc' := 250) (dc D_Law_law 75 rfl) rfl rfl rfl rfl K_Mod_feed L_Law_17 Ks_Mod_feed Kv_Mod_feed ⟨by decide, by decide⟩ rfl rfl (Nat.le_of_ble_eq_true rfl) (s_Mod_feed _ _ _ _ _ _ _) (fun x17 h16 => ?_)
        refine Sd_icmp_eq (tgt := 1190) (pc' := 253) (dc D_Law_law 76 rfl) (by decide) rfl (fun _ => ?_) (fun _ => ?_)
        · refine Sd_iinc (pc' := 1193) (l' := [(3, _), (0, _), (1, _), (2, _)]) (dc D_Law_law 804 rfl) rfl 3 rfl (by decide) rfl ?_
          refine Sd_goto (tgt := 18) (dc D_Law_law 805 rfl) (by decide) ?_
          refine Sd.sub (l' := [(0, _), (1, _), (2, _), (3, _)]) [1, 2, 3, 0] rfl ?_
          exact s_Law_law_L18 n _ _ _ _ _
        · refine Sd_iconst (pc' := 254) (dc D_Law_law 77 rfl) rfl ⟨by decide, by decide⟩ ?_
          exact Sd_zret (dc D_Law_law 78 rfl) rfl (Or.inl rfl)
      refine Sd_tcase (i := 1) (tgt := 255) (dc D_Law_law 21 rfl) rfl (by decide) (by decide) (by decide) (fun _ => ?_) (fun hn1 => ?_)
      · refine Sd_aload_n (pc' := 256) (dc D_Law_law 79 rfl) rfl 1 rfl rfl ?_
        refine Sd_aload_n (pc' := 257) (dc D_Law_law 80 rfl) rfl 0 rfl rfl ?_
        refine Sd_iload_n (pc' := 258) (dc D_Law_law 81 rfl) rfl 3 rfl rfl ?_
        refine Sd_iconst (pc' := 259) (dc D_Law_law 82 rfl) rfl ⟨by decide, by decide⟩ ?_
        refine Sd_iadd (pc' := 260) (dc D_Law_law 83 rfl) rfl ?_
        refine Sd_saload (pc' := 261) (dc D_Law_law 84 rfl) rfl ?_
        refine Sd.callVI (ci := 11) (t := 12) (as := [_]) RX11 (pc' := 264) (dc D_Law_law 85 rfl) rfl rfl rfl rfl K_Bat_end L_Law_18 Ks_Bat_end Kv_Bat_end ⟨by decide, by decide⟩ rfl rfl (Nat.le_of_ble_eq_true rfl) (s_Bat_end _ _ _) (fun x21 h20 => ?_)
        refine Sd_aload_n (pc' := 265) (dc D_Law_law 86 rfl) rfl 2 rfl rfl ?_
        refine Sd_aload_n (pc' := 266) (dc D_Law_law 87 rfl) rfl 0 rfl rfl ?_
        refine Sd_iload_n (pc' := 267) (dc D_Law_law 88 rfl) rfl 3 rfl rfl ?_
        refine Sd_iconst (pc' := 268) (dc D_Law_law 89 rfl) rfl ⟨by decide, by decide⟩ ?_
        refine Sd_iadd (pc' := 269) (dc D_Law_law 90 rfl) rfl ?_
        refine Sd_saload (pc' := 270) (dc D_Law_law 91 rfl) rfl ?_
        refine Sd.callVI (ci := 12) (t := 13) (as := [_]) RX12 (pc' := 273) (dc D_Law_law 92 rfl) rfl rfl rfl rfl K_Mod_end L_Law_22 Ks_Mod_end Kv_Mod_end ⟨by decide, by decide⟩ rfl rfl (Nat.le_of_ble_eq_true rfl) (s_Mod_end _ _ _) (fun x25 h24 => ?_)
        refine Sd_icmp_eq (tgt := 1190) (pc' := 276) (dc D_Law_law 93 rfl) (by decide) rfl (fun _ => ?_) (fun _ => ?_)
        · refine Sd_iinc (pc' := 1193) (l' := [(3, _), (0, _), (1, _), (2, _)]) (dc D_Law_law 804 rfl) rfl 3 rfl (by decide) rfl ?_
          refine Sd_goto (tgt := 18) (dc D_Law_law 805 rfl) (by decide) ?_
          refine Sd.sub (l' := [(0, _), (1, _), (2, _), (3, _)]) [1, 2, 3, 0] rfl ?_
          exact s_Law_law_L18 n _ _ _ _ _
        · refine Sd_iconst (pc' := 277) (dc D_Law_law 94 rfl) rfl ⟨by decide, by decide⟩ ?_
          exact Sd_zret (dc D_Law_law 95 rfl) rfl (Or.inl rfl)
      refine Sd_tcase (i := 2) (tgt := 278) (dc D_Law_law 21 rfl) rfl (by decide) (by decide) (by decide) (fun _ => ?_) (fun hn2 => ?_)
      · refine Sd_aload_n (pc' := 279) (dc D_Law_law 96 rfl) rfl 1 rfl rfl ?_
        refine Sd.callVI (ci := 11) (t := 12) (as := []) RX11 (pc' := 282) (dc D_Law_law 97 rfl) rfl rfl rfl rfl K_Bat_base L_Law_23 Ks_Bat_base Kv_Bat_base ⟨by decide, by decide⟩ rfl rfl (Nat.le_of_ble_eq_true rfl) (s_Bat_base _ _) (fun x28 h27 => ?_)
        refine Sd_aload_n (pc' := 283) (dc D_Law_law 98 rfl) rfl 2 rfl rfl ?_
        refine Sd.callVI (ci := 12) (t := 13) (as := []) RX12 (pc' := 286) (dc D_Law_law 99 rfl) rfl rfl rfl rfl K_Mod_base L_Law_27 Ks_Mod_base Kv_Mod_base ⟨by decide, by decide⟩ rfl rfl (Nat.le_of_ble_eq_true rfl) (s_Mod_base _ _) (fun x31 h30 => ?_)
        refine Sd_icmp_eq (tgt := 1190) (pc' := 289) (dc D_Law_law 100 rfl) (by decide) rfl (fun _ => ?_) (fun _ => ?_)
        · refine Sd_iinc (pc' := 1193) (l' := [(3, _), (0, _), (1, _), (2, _)]) (dc D_Law_law 804 rfl) rfl 3 rfl (by decide) rfl ?_
          refine Sd_goto (tgt := 18) (dc D_Law_law 805 rfl) (by decide) ?_
          refine Sd.sub (l' := [(0, _), (1, _), (2, _), (3, _)]) [1, 2, 3, 0] rfl ?_
          exact s_Law_law_L18 n _ _ _ _ _
        · refine Sd_iconst (pc' := 290) (dc D_Law_law 101 rfl) rfl ⟨by decide, by decide⟩ ?_
          exact Sd_zret (dc D_Law_law 102 rfl) rfl (Or.inl rfl)
      refine Sd_tcase (i := 3) (tgt := 291) (dc D_Law_law 21 rfl) rfl (by decide) (by decide) (by decide) (fun _ => ?_) (fun hn3 => ?_)
      · refine Sd_aload_n (pc' := 292) (dc D_Law_law 103 rfl) rfl 1 rfl rfl ?_
        refine Sd.callVI (ci := 11) (t := 12) (as := []) RX11 (pc' := 295) (dc D_Law_law 104 rfl) rfl rfl rfl rfl K_Bat_query L_Law_28 Ks_Bat_query Kv_Bat_query ⟨by decide, by decide⟩ rfl rfl (Nat.le_of_ble_eq_true rfl) (s_Bat_query _ _) (fun x34 h33 => ?_)
        refine Sd_aload_n (pc' := 296) (dc D_Law_law 105 rfl) rfl 2 rfl rfl ?_
        refine Sd.callVI (ci := 12) (t := 13) (as := []) RX12 (pc' := 299) (dc D_Law_law 106 rfl) rfl rfl rfl rfl K_Mod_query L_Law_31 Ks_Mod_query Kv_Mod_query ⟨by decide, by decide⟩ rfl rfl (Nat.le_of_ble_eq_true rfl) (s_Mod_query _ _) (fun x37 h36 => ?_)
        refine Sd_icmp_eq (tgt := 1190) (pc' := 302) (dc D_Law_law 107 rfl) (by decide) rfl (fun _ => ?_) (fun _ => ?_)
        · refine Sd_iinc (pc' := 1193) (l' := [(3, _), (0, _), (1, _), (2, _)]) (dc D_Law_law 804 rfl) rfl 3 rfl (by decide) rfl ?_
          refine Sd_goto (tgt := 18) (dc D_Law_law 805 rfl) (by decide) ?_
          refine Sd.sub (l' := [(0, _), (1, _), (2, _), (3, _)]) [1, 2, 3, 0] rfl ?_
          exact s_Law_law_L18 n _ _ _ _ _
        · refine Sd_iconst (pc' := 303) (dc D_Law_law 108 rfl) rfl ⟨by decide, by decide⟩ ?_
          exact Sd_zret (dc D_Law_law 109 rfl) rfl (Or.inl rfl)
      refine Sd_tcase (i := 4) (tgt := 304) (dc D_Law_law 21 rfl) rfl (by decide) (by decide) (by decide) (fun _ => ?_) (fun hn4 => ?_)
      · refine Sd_aload_n (pc' := 305) (dc D_Law_law 110 rfl) rfl 1 rfl rfl ?_
        refine Sd_aload_n (pc' := 306) (dc D_Law_law 111 rfl) rfl 0 rfl rfl ?_
        refine Sd_iload_n (pc' := 307) (dc D_Law_law 112 rfl) rfl 3 rfl rfl ?_
        refine Sd_iconst (pc' := 308) (dc D_Law_law 113 rfl) rfl ⟨by decide, by decide⟩ ?_
        refine Sd_iadd (pc' := 309) (dc D_Law_law 114 rfl) rfl ?_
        refine Sd_saload (pc' := 310) (dc D_Law_law 115 rfl) rfl ?_
        refine Sd_aload_n (pc' := 311) (dc D_Law_law 116 rfl) rfl 0 rfl rfl ?_
        refine Sd_iload_n (pc' := 312) (dc D_Law_law 117 rfl) rfl 3 rfl rfl ?_
        refine Sd_iconst (pc' := 313) (dc D_Law_law 118 rfl) rfl ⟨by decide, by decide⟩ ?_
        refine Sd_iadd (pc' := 314) (dc D_Law_law 119 rfl) rfl ?_
        refine Sd_saload (pc' := 315) (dc D_Law_law 120 rfl) rfl ?_
        refine Sd_aload_n (pc' := 316) (dc D_Law_law 121 rfl) rfl 0 rfl rfl ?_
        refine Sd_iload_n (pc' := 317) (dc D_Law_law 122 rfl) rfl 3 rfl rfl ?_
        refine Sd_iconst (pc' := 318) (dc D_Law_law 123 rfl) rfl ⟨by decide, by decide⟩ ?_
        refine Sd_iadd (pc' := 319) (dc D_Law_law 124 rfl) rfl ?_
        refine Sd_saload (pc' := 320) (dc D_Law_law 125 rfl) rfl ?_
        refine Sd.callVI (ci := 11) (t := 12) (as := [_, _, _]) RX11 (pc' := 323) (dc D_Law_law 126 rfl) rfl rfl rfl rfl K_Bat_cell L_Law_32 Ks_Bat_cell Kv_Bat_cell ⟨by decide, by decide⟩ rfl rfl (Nat.le_of_ble_eq_true rfl) (s_Bat_cell _ _ _ _ _) (fun x43 h42 => ?_)
        refine Sd_aload_n (pc' := 324) (dc D_Law_law 127 rfl) rfl 2 rfl rfl ?_
        refine Sd_aload_n (pc' := 325) (dc D_Law_law 128 rfl) rfl 0 rfl rfl ?_
        refine Sd_iload_n (pc' := 326) (dc D_Law_law 129 rfl) rfl 3 rfl rfl ?_
        refine Sd_iconst (pc' := 327) (dc D_Law_law 130 rfl) rfl ⟨by decide, by decide⟩ ?_
        refine Sd_iadd (pc' := 328) (dc D_Law_law 131 rfl) rfl ?_
        refine Sd_saload (pc' := 329) (dc D_Law_law 132 rfl) rfl ?_
        refine Sd_aload_n (pc' := 330) (dc D_Law_law 133 rfl) rfl 0 rfl rfl ?_
        refine Sd_iload_n (pc' := 331) (dc D_Law_law 134 rfl) rfl 3 rfl rfl ?_
        refine Sd_iconst (pc' := 332) (dc D_Law_law 135 rfl) rfl ⟨by decide, by decide⟩ ?_
        refine Sd_iadd (pc' := 333) (dc D_Law_law 136 rfl) rfl ?_
        refine Sd_saload (pc' := 334) (dc D_Law_law 137 rfl) rfl ?_
        refine Sd_aload_n (pc' := 335) (dc D_Law_law 138 rfl) rfl 0 rfl rfl ?_
        refine Sd_iload_n (pc' := 336) (dc D_Law_law 139 rfl) rfl 3 rfl rfl ?_
        refine Sd_iconst (pc' := 337) (dc D_Law_law 140 rfl) rfl ⟨by decide, by decide⟩ ?_
        refine Sd_iadd (pc' := 338) (dc D_Law_law 141 rfl) rfl ?_
        refine Sd_saload (pc' := 339) (dc D_Law_law 142 rfl) rfl ?_
        refine Sd.callVI (ci := 12) (t := 13) (as := [_, _, _]) RX12 (pc' := 342) (dc D_Law_law 143 rfl) rfl rfl rfl rfl K_Mod_cell L_Law_36 Ks_Mod_cell Kv_Mod_cell ⟨by decide, by decide⟩ rfl rfl (Nat.le_of_ble_eq_true rfl) (s_Mod_cell _ _ _ _ _) (fun x49 h48 => ?_)
        refine Sd_icmp_eq (tgt := 1190) (pc' := 345) (dc D_Law_law 144 rfl) (by decide) rfl (fun _ => ?_) (fun _ => ?_)
        · refine Sd_iinc (pc' := 1193) (l' := [(3, _), (0, _), (1, _), (2, _)]) (dc D_Law_law 804 rfl) rfl 3 rfl (by decide) rfl ?_
          refine Sd_goto (tgt := 18) (dc D_Law_law 805 rfl) (by decide) ?_
          refine Sd.sub (l' := [(0, _), (1, _), (2, _), (3, _)]) [1, 2, 3, 0] rfl ?_
          exact s_Law_law_L18 n _ _ _ _ _
        · refine Sd_iconst (pc' := 346) (dc D_Law_law 145 rfl) rfl ⟨by decide, by decide⟩ ?_
          exact Sd_zret (dc D_Law_law 146 rfl) rfl (Or.inl rfl)
      refine Sd_tcase (i := 5) (tgt := 347) (dc D_Law_law 21 rfl) rfl (by decide) (by decide) (by decide) (fun _ => ?_) (fun hn5 => ?_)
      · refine Sd_aload_n (pc' := 348) (dc D_Law_law 147 rfl) rfl 1 rfl rfl ?_
        refine Sd_aload_n (pc' := 349) (dc D_Law_law 148 rfl) rfl 0 rfl rfl ?_
        refine Sd_iload_n (pc' := 350) (dc D_Law_law 149 rfl) rfl 3 rfl rfl ?_
        refine Sd_iconst (pc' := 351) (dc D_Law_law 150 rfl) rfl ⟨by decide, by decide⟩ ?_
        refine Sd_iadd (pc' := 352) (dc D_Law_law 151 rfl) rfl ?_
        refine Sd_saload (pc' := 353) (dc D_Law_law 152 rfl) rfl ?_
        refine Sd_aload_n (pc' := 354) (dc D_Law_law 153 rfl) rfl 0 rfl rfl ?_
        refine Sd_iload_n (pc' := 355) (dc D_Law_law 154 rfl) rfl 3 rfl rfl ?_
        refine Sd_iconst (pc' := 356) (dc D_Law_law 155 rfl) rfl ⟨by decide, by decide⟩ ?_
        refine Sd_iadd (pc' := 357) (dc D_Law_law 156 rfl) rfl ?_
        refine Sd_saload (pc' := 358) (dc D_Law_law 157 rfl) rfl ?_
        refine Sd.callVI (ci := 11) (t := 12) (as := [_, _]) RX11 (pc' := 361) (dc D_Law_law 158 rfl) rfl rfl rfl rfl K_Bat_form L_Law_37 Ks_Bat_form Kv_Bat_form ⟨by decide, by decide⟩ rfl rfl (Nat.le_of_ble_eq_true rfl) (s_Bat_form _ _ _ _) (fun x54 h53 => ?_)
        refine Sd_aload_n (pc' := 362) (dc D_Law_law 159 rfl) rfl 2 rfl rfl ?_
        refine Sd_aload_n (pc' := 363) (dc D_Law_law 160 rfl) rfl 0 rfl rfl ?_
        refine Sd_iload_n (pc' := 364) (dc D_Law_law 161 rfl) rfl 3 rfl rfl ?_
        refine Sd_iconst (pc' := 365) (dc D_Law_law 162 rfl) rfl ⟨by decide, by decide⟩ ?_
        refine Sd_iadd (pc' := 366) (dc D_Law_law 163 rfl) rfl ?_
        refine Sd_saload (pc' := 367) (dc D_Law_law 164 rfl) rfl ?_
        refine Sd_aload_n (pc' := 368) (dc D_Law_law 165 rfl) rfl 0 rfl rfl ?_
        refine Sd_iload_n (pc' := 369) (dc D_Law_law 166 rfl) rfl 3 rfl rfl ?_
        refine Sd_iconst (pc' := 370) (dc D_Law_law 167 rfl) rfl ⟨by decide, by decide⟩ ?_
        refine Sd_iadd (pc' := 371) (dc D_Law_law 168 rfl) rfl ?_
        refine Sd_saload (pc' := 372) (dc D_Law_law 169 rfl) rfl ?_
        refine Sd.callVI (ci := 12) (t := 13) (as := [_, _]) RX12 (pc' := 375) (dc D_Law_law 170 rfl) rfl rfl rfl rfl K_Mod_form L_Law_41 Ks_Mod_form Kv_Mod_form ⟨by decide, by decide⟩ rfl rfl (Nat.le_of_ble_eq_true rfl) (s_Mod_form _ _ _ _) (fun x59 h58 => ?_)
        refine Sd_icmp_eq (tgt := 1190) (pc' := 378) (dc D_Law_law 171 rfl) (by decide) rfl (fun _ => ?_) (fun _ => ?_)
        · refine Sd_iinc (pc' := 1193) (l' := [(3, _), (0, _), (1, _), (2, _)]) (dc D_Law_law 804 rfl) rfl 3 rfl (by decide) rfl ?_
          refine Sd_goto (tgt := 18) (dc D_Law_law 805 rfl) (by decide) ?_
          refine Sd.sub (l' := [(0, _), (1, _), (2, _), (3, _)]) [1, 2, 3, 0] rfl ?_
          exact s_Law_law_L18 n _ _ _ _ _
        · refine Sd_iconst (pc' := 379) (dc D_Law_law 172 rfl) rfl ⟨by decide, by decide⟩ ?_
          exact Sd_zret (dc D_Law_law 173 rfl) rfl (Or.inl rfl)
      refine Sd_tcase (i := 6) (tgt := 380) (dc D_Law_law 21 rfl) rfl (by decide) (by decide) (by decide) (fun _ => ?_) (fun hn6 => ?_)
      · refine Sd_aload_n (pc' := 381) (dc D_Law_law 174 rfl) rfl 1 rfl rfl ?_
        refine Sd_aload_n (pc' := 382) (dc D_Law_law 175 rfl) rfl 0 rfl rfl ?_
        refine Sd_iload_n (pc' := 383) (dc D_Law_law 176 rfl) rfl 3 rfl rfl ?_
        refine Sd_iconst (pc' := 384) (dc D_Law_law 177 rfl) rfl ⟨by decide, by decide⟩ ?_
        refine Sd_iadd (pc' := 385) (dc D_Law_law 178 rfl) rfl ?_
        refine Sd_saload (pc' := 386) (dc D_Law_law 179 rfl) rfl ?_
        refine Sd.callVI (ci := 11) (t := 12) (as := [_]) RX11 (pc' := 389) (dc D_Law_law 180 rfl) rfl rfl rfl rfl K_Bat_digest L_Law_42 Ks_Bat_digest Kv_Bat_digest ⟨by decide, by decide⟩ rfl rfl (Nat.le_of_ble_eq_true rfl) (s_Bat_digest _ _ _) (fun x63 h62 => ?_)
        refine Sd_aload_n (pc' := 390) (dc D_Law_law 181 rfl) rfl 2 rfl rfl ?_
        refine Sd_aload_n (pc' := 391) (dc D_Law_law 182 rfl) rfl 0 rfl rfl ?_
        refine Sd_iload_n (pc' := 392) (dc D_Law_law 183 rfl) rfl 3 rfl rfl ?_
        refine Sd_iconst (pc' := 393) (dc D_Law_law 184 rfl) rfl ⟨by decide, by decide⟩ ?_
        refine Sd_iadd (pc' := 394) (dc D_Law_law 185 rfl) rfl ?_
        refine Sd_saload (pc' := 395) (dc D_Law_law 186 rfl) rfl ?_
        refine Sd.callVI (ci := 12) (t := 13) (as := [_]) RX12 (pc' := 398) (dc D_Law_law 187 rfl) rfl rfl rfl rfl K_Mod_digest L_Law_45 Ks_Mod_digest Kv_Mod_digest ⟨by decide, by decide⟩ rfl rfl (Nat.le_of_ble_eq_true rfl) (s_Mod_digest _ _ _) (fun x67 h66 => ?_)
        refine Sd_icmp_eq (tgt := 1190) (pc' := 401) (dc D_Law_law 188 rfl) (by decide) rfl (fun _ => ?_) (fun _ => ?_)
        · refine Sd_iinc (pc' := 1193) (l' := [(3, _), (0, _), (1, _), (2, _)]) (dc D_Law_law 804 rfl) rfl 3 rfl (by decide) rfl ?_
          refine Sd_goto (tgt := 18) (dc D_Law_law 805 rfl) (by decide) ?_
          refine Sd.sub (l' := [(0, _), (1, _), (2, _), (3, _)]) [1, 2, 3, 0] rfl ?_
          exact s_Law_law_L18 n _ _ _ _ _
        · refine Sd_iconst (pc' := 402) (dc D_Law_law 189 rfl) rfl ⟨by decide, by decide⟩ ?_
          exact Sd_zret (dc D_Law_law 190 rfl) rfl (Or.inl rfl)
      refine Sd_tcase (i := 7) (tgt := 403) (dc D_Law_law 21 rfl) rfl (by decide) (by decide) (by decide) (fun _ => ?_) (fun hn7 => ?_)
      · refine Sd_aload_n (pc' := 404) (dc D_Law_law 191 rfl) rfl 1 rfl rfl ?_
        refine Sd_aload_n (pc' := 405) (dc D_Law_law 192 rfl) rfl 0 rfl rfl ?_
        refine Sd_iload_n (pc' := 406) (dc D_Law_law 193 rfl) rfl 3 rfl rfl ?_
        refine Sd_iconst (pc' := 407) (dc D_Law_law 194 rfl) rfl ⟨by decide, by decide⟩ ?_
        refine Sd_iadd (pc' := 408) (dc D_Law_law 195 rfl) rfl ?_
        refine Sd_saload (pc' := 409) (dc D_Law_law 196 rfl) rfl ?_
        refine Sd.callVI (ci := 11) (t := 12) (as := [_]) RX11 (pc' := 412) (dc D_Law_law 197 rfl) rfl rfl rfl rfl K_Bat_alike L_Law_46 Ks_Bat_alike Kv_Bat_alike ⟨by decide, by decide⟩ rfl rfl (Nat.le_of_ble_eq_true rfl) (s_Bat_alike _ _ _) (fun x71 h70 => ?_)
        refine Sd_aload_n (pc' := 413) (dc D_Law_law 198 rfl) rfl 2 rfl rfl ?_
        refine Sd_aload_n (pc' := 414) (dc D_Law_law 199 rfl) rfl 0 rfl rfl ?_
        refine Sd_iload_n (pc' := 415) (dc D_Law_law 200 rfl) rfl 3 rfl rfl ?_
        refine Sd_iconst (pc' := 416) (dc D_Law_law 201 rfl) rfl ⟨by decide, by decide⟩ ?_
        refine Sd_iadd (pc' := 417) (dc D_Law_law 202 rfl) rfl ?_
        refine Sd_saload (pc' := 418) (dc D_Law_law 203 rfl) rfl ?_
        refine Sd.callVI (ci := 12) (t := 13) (as := [_]) RX12 (pc' := 421) (dc D_Law_law 204 rfl) rfl rfl rfl rfl K_Mod_alike L_Law_49 Ks_Mod_alike Kv_Mod_alike ⟨by decide, by decide⟩ rfl rfl (Nat.le_of_ble_eq_true rfl) (s_Mod_alike _ _ _) (fun x75 h74 => ?_)
        refine Sd_icmp_eq (tgt := 1190) (pc' := 424) (dc D_Law_law 205 rfl) (by decide) rfl (fun _ => ?_) (fun _ => ?_)
        · refine Sd_iinc (pc' := 1193) (l' := [(3, _), (0, _), (1, _), (2, _)]) (dc D_Law_law 804 rfl) rfl 3 rfl (by decide) rfl ?_
          refine Sd_goto (tgt := 18) (dc D_Law_law 805 rfl) (by decide) ?_
          refine Sd.sub (l' := [(0, _), (1, _), (2, _), (3, _)]) [1, 2, 3, 0] rfl ?_
          exact s_Law_law_L18 n _ _ _ _ _
        · refine Sd_iconst (pc' := 425) (dc D_Law_law 206 rfl) rfl ⟨by decide, by decide⟩ ?_
          exact Sd_zret (dc D_Law_law 207 rfl) rfl (Or.inl rfl)
      refine Sd_tcase (i := 8) (tgt := 426) (dc D_Law_law 21 rfl) rfl (by decide) (by decide) (by decide) (fun _ => ?_) (fun hn8 => ?_)
      · refine Sd_aload_n (pc' := 427) (dc D_Law_law 208 rfl) rfl 1 rfl rfl ?_
        refine Sd_aload_n (pc' := 428) (dc D_Law_law 209 rfl) rfl 0 rfl rfl ?_
        refine Sd_iload_n (pc' := 429) (dc D_Law_law 210 rfl) rfl 3 rfl rfl ?_
        refine Sd_iconst (pc' := 430) (dc D_Law_law 211 rfl) rfl ⟨by decide, by decide⟩ ?_
        refine Sd_iadd (pc' := 431) (dc D_Law_law 212 rfl) rfl ?_
        refine Sd_saload (pc' := 432) (dc D_Law_law 213 rfl) rfl ?_
        refine Sd_aload_n (pc' := 433) (dc D_Law_law 214 rfl) rfl 0 rfl rfl ?_
        refine Sd_iload_n (pc' := 434) (dc D_Law_law 215 rfl) rfl 3 rfl rfl ?_
        refine Sd_iconst (pc' := 435) (dc D_Law_law 216 rfl) rfl ⟨by decide, by decide⟩ ?_
        refine Sd_iadd (pc' := 436) (dc D_Law_law 217 rfl) rfl ?_
        refine Sd_saload (pc' := 437) (dc D_Law_law 218 rfl) rfl ?_
        refine Sd_aload_n (pc' := 438) (dc D_Law_law 219 rfl) rfl 0 rfl rfl ?_
        refine Sd_iload_n (pc' := 439) (dc D_Law_law 220 rfl) rfl 3 rfl rfl ?_
        refine Sd_iconst (pc' := 440) (dc D_Law_law 221 rfl) rfl ⟨by decide, by decide⟩ ?_
        refine Sd_iadd (pc' := 441) (dc D_Law_law 222 rfl) rfl ?_
        refine Sd_saload (pc' := 442) (dc D_Law_law 223 rfl) rfl ?_
        refine Sd.callVI (ci := 11) (t := 12) (as := [_, _, _]) RX11 (pc' := 445) (dc D_Law_law 224 rfl) rfl rfl rfl rfl K_Bat_answer L_Law_50 Ks_Bat_answer Kv_Bat_answer ⟨by decide, by decide⟩ rfl rfl (Nat.le_of_ble_eq_true rfl) (s_Bat_answer _ _ _ _ _) (fun x81 h80 => ?_)
        refine Sd_aload_n (pc' := 446) (dc D_Law_law 225 rfl) rfl 2 rfl rfl ?_
        refine Sd_aload_n (pc' := 447) (dc D_Law_law 226 rfl) rfl 0 rfl rfl ?_
        refine Sd_iload_n (pc' := 448) (dc D_Law_law 227 rfl) rfl 3 rfl rfl ?_
        refine Sd_iconst (pc' := 449) (dc D_Law_law 228 rfl) rfl ⟨by decide, by decide⟩ ?_
        refine Sd_iadd (pc' := 450) (dc D_Law_law 229 rfl) rfl ?_
        refine Sd_saload (pc' := 451) (dc D_Law_law 230 rfl) rfl ?_
        refine Sd_aload_n (pc' := 452) (dc D_Law_law 231 rfl) rfl 0 rfl rfl ?_
        refine Sd_iload_n (pc' := 453) (dc D_Law_law 232 rfl) rfl 3 rfl rfl ?_
        refine Sd_iconst (pc' := 454) (dc D_Law_law 233 rfl) rfl ⟨by decide, by decide⟩ ?_
        refine Sd_iadd (pc' := 455) (dc D_Law_law 234 rfl) rfl ?_
        refine Sd_saload (pc' := 456) (dc D_Law_law 235 rfl) rfl ?_
        refine Sd_aload_n (pc' := 457) (dc D_Law_law 236 rfl) rfl 0 rfl rfl ?_
        refine Sd_iload_n (pc' := 458) (dc D_Law_law 237 rfl) rfl 3 rfl rfl ?_
        refine Sd_iconst (pc' := 459) (dc D_Law_law 238 rfl) rfl ⟨by decide, by decide⟩ ?_
        refine Sd_iadd (pc' := 460) (dc D_Law_law 239 rfl) rfl ?_
        refine Sd_saload (pc' := 461) (dc D_Law_law 240 rfl) rfl ?_
        refine Sd.callVI (ci := 12) (t := 13) (as := [_, _, _]) RX12 (pc' := 464) (dc D_Law_law 241 rfl) rfl rfl rfl rfl K_Mod_answer L_Law_53 Ks_Mod_answer Kv_Mod_answer ⟨by decide, by decide⟩ rfl rfl (Nat.le_of_ble_eq_true rfl) (s_Mod_answer _ _ _ _ _) (fun x87 h86 => ?_)
        refine Sd_icmp_eq (tgt := 1190) (pc' := 467) (dc D_Law_law 242 rfl) (by decide) rfl (fun _ => ?_) (fun _ => ?_)
        · refine Sd_iinc (pc' := 1193) (l' := [(3, _), (0, _), (1, _), (2, _)]) (dc D_Law_law 804 rfl) rfl 3 rfl (by decide) rfl ?_
          refine Sd_goto (tgt := 18) (dc D_Law_law 805 rfl) (by decide) ?_
          refine Sd.sub (l' := [(0, _), (1, _), (2, _), (3, _)]) [1, 2, 3, 0] rfl ?_
          exact s_Law_law_L18 n _ _ _ _ _
        · refine Sd_iconst (pc' := 468) (dc D_Law_law 243 rfl) rfl ⟨by decide, by decide⟩ ?_
          exact Sd_zret (dc D_Law_law 244 rfl) rfl (Or.inl rfl)
      refine Sd_tcase (i := 9) (tgt := 469) (dc D_Law_law 21 rfl) rfl (by decide) (by decide) (by decide) (fun _ => ?_) (fun hn9 => ?_)
      · refine Sd_aload_n (pc' := 470) (dc D_Law_law 245 rfl) rfl 1 rfl rfl ?_
        refine Sd_aload_n (pc' := 471) (dc D_Law_law 246 rfl) rfl 0 rfl rfl ?_
        refine Sd_iload_n (pc' := 472) (dc D_Law_law 247 rfl) rfl 3 rfl rfl ?_
        refine Sd_iconst (pc' := 473) (dc D_Law_law 248 rfl) rfl ⟨by decide, by decide⟩ ?_
        refine Sd_iadd (pc' := 474) (dc D_Law_law 249 rfl) rfl ?_
        refine Sd_saload (pc' := 475) (dc D_Law_law 250 rfl) rfl ?_
        refine Sd.callVI (ci := 11) (t := 12) (as := [_]) RX11 (pc' := 478) (dc D_Law_law 251 rfl) rfl rfl rfl rfl K_Bat_alone L_Law_54 Ks_Bat_alone Kv_Bat_alone ⟨by decide, by decide⟩ rfl rfl (Nat.le_of_ble_eq_true rfl) (s_Bat_alone _ _ _) (fun x91 h90 => ?_)
        refine Sd_aload_n (pc' := 479) (dc D_Law_law 252 rfl) rfl 2 rfl rfl ?_
        refine Sd_aload_n (pc' := 480) (dc D_Law_law 253 rfl) rfl 0 rfl rfl ?_
        refine Sd_iload_n (pc' := 481) (dc D_Law_law 254 rfl) rfl 3 rfl rfl ?_
        refine Sd_iconst (pc' := 482) (dc D_Law_law 255 rfl) rfl ⟨by decide, by decide⟩ ?_
        refine Sd_iadd (pc' := 483) (dc D_Law_law 256 rfl) rfl ?_
        refine Sd_saload (pc' := 484) (dc D_Law_law 257 rfl) rfl ?_
        refine Sd.callVI (ci := 12) (t := 13) (as := [_]) RX12 (pc' := 487) (dc D_Law_law 258 rfl) rfl rfl rfl rfl K_Mod_alone L_Law_57 Ks_Mod_alone Kv_Mod_alone ⟨by decide, by decide⟩ rfl rfl (Nat.le_of_ble_eq_true rfl) (s_Mod_alone _ _ _) (fun x95 h94 => ?_)
        refine Sd_icmp_eq (tgt := 1190) (pc' := 490) (dc D_Law_law 259 rfl) (by decide) rfl (fun _ => ?_) (fun _ => ?_)
        · refine Sd_iinc (pc' := 1193) (l' := [(3, _), (0, _), (1, _), (2, _)]) (dc D_Law_law 804 rfl) rfl 3 rfl (by decide) rfl ?_
          refine Sd_goto (tgt := 18) (dc D_Law_law 805 rfl) (by decide) ?_
          refine Sd.sub (l' := [(0, _), (1, _), (2, _), (3, _)]) [1, 2, 3, 0] rfl ?_
          exact s_Law_law_L18 n _ _ _ _ _
        · refine Sd_iconst (pc' := 491) (dc D_Law_law 260 rfl) rfl ⟨by decide, by decide⟩ ?_
          exact Sd_zret (dc D_Law_law 261 rfl) rfl (Or.inl rfl)
      refine Sd_tcase (i := 10) (tgt := 492) (dc D_Law_law 21 rfl) rfl (by decide) (by decide) (by decide) (fun _ => ?_) (fun hn10 => ?_)
      · refine Sd_aload_n (pc' := 493) (dc D_Law_law 262 rfl) rfl 1 rfl rfl ?_
        refine Sd.callVI (ci := 11) (t := 12) (as := []) RX11 (pc' := 496) (dc D_Law_law 263 rfl) rfl rfl rfl rfl K_Bat_candidates L_Law_58 Ks_Bat_candidates Kv_Bat_candidates ⟨by decide, by decide⟩ rfl rfl (Nat.le_of_ble_eq_true rfl) (s_Bat_candidates _ _) (fun x98 h97 => ?_)
        refine Sd_aload_n (pc' := 497) (dc D_Law_law 264 rfl) rfl 2 rfl rfl ?_
        refine Sd.callVI (ci := 12) (t := 13) (as := []) RX12 (pc' := 500) (dc D_Law_law 265 rfl) rfl rfl rfl rfl K_Mod_candidates L_Law_61 Ks_Mod_candidates Kv_Mod_candidates ⟨by decide, by decide⟩ rfl rfl (Nat.le_of_ble_eq_true rfl) (s_Mod_candidates _ _) (fun x101 h100 => ?_)
        refine Sd_icmp_eq (tgt := 1190) (pc' := 503) (dc D_Law_law 266 rfl) (by decide) rfl (fun _ => ?_) (fun _ => ?_)
        · refine Sd_iinc (pc' := 1193) (l' := [(3, _), (0, _), (1, _), (2, _)]) (dc D_Law_law 804 rfl) rfl 3 rfl (by decide) rfl ?_
          refine Sd_goto (tgt := 18) (dc D_Law_law 805 rfl) (by decide) ?_
          refine Sd.sub (l' := [(0, _), (1, _), (2, _), (3, _)]) [1, 2, 3, 0] rfl ?_
          exact s_Law_law_L18 n _ _ _ _ _
        · refine Sd_iconst (pc' := 504) (dc D_Law_law 267 rfl) rfl ⟨by decide, by decide⟩ ?_
          exact Sd_zret (dc D_Law_law 268 rfl) rfl (Or.inl rfl)
      refine Sd_tcase (i := 11) (tgt := 505) (dc D_Law_law 21 rfl) rfl (by decide) (by decide) (by decide) (fun _ => ?_) (fun hn11 => ?_)
      · refine Sd_aload_n (pc' := 506) (dc D_Law_law 269 rfl) rfl 1 rfl rfl ?_
        refine Sd_aload_n (pc' := 507) (dc D_Law_law 270 rfl) rfl 0 rfl rfl ?_
        refine Sd_iload_n (pc' := 508) (dc D_Law_law 271 rfl) rfl 3 rfl rfl ?_
        refine Sd_iconst (pc' := 509) (dc D_Law_law 272 rfl) rfl ⟨by decide, by decide⟩ ?_
        refine Sd_iadd (pc' := 510) (dc D_Law_law 273 rfl) rfl ?_
        refine Sd_saload (pc' := 511) (dc D_Law_law 274 rfl) rfl ?_
        refine Sd_aload_n (pc' := 512) (dc D_Law_law 275 rfl) rfl 0 rfl rfl ?_
        refine Sd_iload_n (pc' := 513) (dc D_Law_law 276 rfl) rfl 3 rfl rfl ?_
        refine Sd_iconst (pc' := 514) (dc D_Law_law 277 rfl) rfl ⟨by decide, by decide⟩ ?_
        refine Sd_iadd (pc' := 515) (dc D_Law_law 278 rfl) rfl ?_
        refine Sd_saload (pc' := 516) (dc D_Law_law 279 rfl) rfl ?_
        refine Sd.callVI (ci := 11) (t := 12) (as := [_, _]) RX11 (pc' := 519) (dc D_Law_law 280 rfl) rfl rfl rfl rfl K_Bat_candidate L_Law_62 Ks_Bat_candidate Kv_Bat_candidate ⟨by decide, by decide⟩ rfl rfl (Nat.le_of_ble_eq_true rfl) (s_Bat_candidate _ _ _ _) (fun x106 h105 => ?_)
        refine Sd_aload_n (pc' := 520) (dc D_Law_law 281 rfl) rfl 2 rfl rfl ?_
        refine Sd_aload_n (pc' := 521) (dc D_Law_law 282 rfl) rfl 0 rfl rfl ?_
        refine Sd_iload_n (pc' := 522) (dc D_Law_law 283 rfl) rfl 3 rfl rfl ?_
        refine Sd_iconst (pc' := 523) (dc D_Law_law 284 rfl) rfl ⟨by decide, by decide⟩ ?_
        refine Sd_iadd (pc' := 524) (dc D_Law_law 285 rfl) rfl ?_
        refine Sd_saload (pc' := 525) (dc D_Law_law 286 rfl) rfl ?_
        refine Sd_aload_n (pc' := 526) (dc D_Law_law 287 rfl) rfl 0 rfl rfl ?_
        refine Sd_iload_n (pc' := 527) (dc D_Law_law 288 rfl) rfl 3 rfl rfl ?_
        refine Sd_iconst (pc' := 528) (dc D_Law_law 289 rfl) rfl ⟨by decide, by decide⟩ ?_
        refine Sd_iadd (pc' := 529) (dc D_Law_law 290 rfl) rfl ?_
        refine Sd_saload (pc' := 530) (dc D_Law_law 291 rfl) rfl ?_
        refine Sd.callVI (ci := 12) (t := 13) (as := [_, _]) RX12 (pc' := 533) (dc D_Law_law 292 rfl) rfl rfl rfl rfl K_Mod_candidate L_Law_65 Ks_Mod_candidate Kv_Mod_candidate ⟨by decide, by decide⟩ rfl rfl (Nat.le_of_ble_eq_true rfl) (s_Mod_candidate _ _ _ _) (fun x111 h110 => ?_)
        refine Sd_icmp_eq (tgt := 1190) (pc' := 536) (dc D_Law_law 293 rfl) (by decide) rfl (fun _ => ?_) (fun _ => ?_)
        · refine Sd_iinc (pc' := 1193) (l' := [(3, _), (0, _), (1, _), (2, _)]) (dc D_Law_law 804 rfl) rfl 3 rfl (by decide) rfl ?_
          refine Sd_goto (tgt := 18) (dc D_Law_law 805 rfl) (by decide) ?_
          refine Sd.sub (l' := [(0, _), (1, _), (2, _), (3, _)]) [1, 2, 3, 0] rfl ?_
          exact s_Law_law_L18 n _ _ _ _ _
        · refine Sd_iconst (pc' := 537) (dc D_Law_law 294 rfl) rfl ⟨by decide, by decide⟩ ?_
          exact Sd_zret (dc D_Law_law 295 rfl) rfl (Or.inl rfl)
      refine Sd_tcase (i := 12) (tgt := 538) (dc D_Law_law 21 rfl) rfl (by decide) (by decide) (by decide) (fun _ => ?_) (fun hn12 => ?_)
      · refine Sd_aload_n (pc' := 539) (dc D_Law_law 296 rfl) rfl 1 rfl rfl ?_
        refine Sd_aload_n (pc' := 540) (dc D_Law_law 297 rfl) rfl 0 rfl rfl ?_
        refine Sd_iload_n (pc' := 541) (dc D_Law_law 298 rfl) rfl 3 rfl rfl ?_
        refine Sd_iconst (pc' := 542) (dc D_Law_law 299 rfl) rfl ⟨by decide, by decide⟩ ?_
        refine Sd_iadd (pc' := 543) (dc D_Law_law 300 rfl) rfl ?_
        refine Sd_saload (pc' := 544) (dc D_Law_law 301 rfl) rfl ?_
        refine Sd.callVI (ci := 11) (t := 12) (as := [_]) RX11 (pc' := 547) (dc D_Law_law 302 rfl) rfl rfl rfl rfl K_Bat_gain L_Law_66 Ks_Bat_gain Kv_Bat_gain ⟨by decide, by decide⟩ rfl rfl (Nat.le_of_ble_eq_true rfl) (s_Bat_gain _ _ _) (fun x115 h114 => ?_)
        refine Sd_aload_n (pc' := 548) (dc D_Law_law 303 rfl) rfl 2 rfl rfl ?_
        refine Sd_aload_n (pc' := 549) (dc D_Law_law 304 rfl) rfl 0 rfl rfl ?_
        refine Sd_iload_n (pc' := 550) (dc D_Law_law 305 rfl) rfl 3 rfl rfl ?_
        refine Sd_iconst (pc' := 551) (dc D_Law_law 306 rfl) rfl ⟨by decide, by decide⟩ ?_
        refine Sd_iadd (pc' := 552) (dc D_Law_law 307 rfl) rfl ?_
        refine Sd_saload (pc' := 553) (dc D_Law_law 308 rfl) rfl ?_
        refine Sd.callVI (ci := 12) (t := 13) (as := [_]) RX12 (pc' := 556) (dc D_Law_law 309 rfl) rfl rfl rfl rfl K_Mod_gain L_Law_69 Ks_Mod_gain Kv_Mod_gain ⟨by decide, by decide⟩ rfl rfl (Nat.le_of_ble_eq_true rfl) (s_Mod_gain _ _ _) (fun x119 h118 => ?_)
        refine Sd_icmp_eq (tgt := 1190) (pc' := 559) (dc D_Law_law 310 rfl) (by decide) rfl (fun _ => ?_) (fun _ => ?_)
        · refine Sd_iinc (pc' := 1193) (l' := [(3, _), (0, _), (1, _), (2, _)]) (dc D_Law_law 804 rfl) rfl 3 rfl (by decide) rfl ?_
          refine Sd_goto (tgt := 18) (dc D_Law_law 805 rfl) (by decide) ?_
          refine Sd.sub (l' := [(0, _), (1, _), (2, _), (3, _)]) [1, 2, 3, 0] rfl ?_
          exact s_Law_law_L18 n _ _ _ _ _
        · refine Sd_iconst (pc' := 560) (dc D_Law_law 311 rfl) rfl ⟨by decide, by decide⟩ ?_
          exact Sd_zret (dc D_Law_law 312 rfl) rfl (Or.inl rfl)
      refine Sd_tcase (i := 13) (tgt := 561) (dc D_Law_law 21 rfl) rfl (by decide) (by decide) (by decide) (fun _ => ?_) (fun hn13 => ?_)
      · refine Sd_aload_n (pc' := 562) (dc D_Law_law 313 rfl) rfl 1 rfl rfl ?_
        refine Sd_aload_n (pc' := 563) (dc D_Law_law 314 rfl) rfl 0 rfl rfl ?_
        refine Sd_iload_n (pc' := 564) (dc D_Law_law 315 rfl) rfl 3 rfl rfl ?_
        refine Sd_iconst (pc' := 565) (dc D_Law_law 316 rfl) rfl ⟨by decide, by decide⟩ ?_
        refine Sd_iadd (pc' := 566) (dc D_Law_law 317 rfl) rfl ?_
        refine Sd_saload (pc' := 567) (dc D_Law_law 318 rfl) rfl ?_
        refine Sd.callVI (ci := 11) (t := 12) (as := [_]) RX11 (pc' := 570) (dc D_Law_law 319 rfl) rfl rfl rfl rfl K_Bat_greedy L_Law_70 Ks_Bat_greedy Kv_Bat_greedy ⟨by decide, by decide⟩ rfl rfl (Nat.le_of_ble_eq_true rfl) (s_Bat_greedy _ _ _) (fun x123 h122 => ?_)
        refine Sd_aload_n (pc' := 571) (dc D_Law_law 320 rfl) rfl 2 rfl rfl ?_
        refine Sd_aload_n (pc' := 572) (dc D_Law_law 321 rfl) rfl 0 rfl rfl ?_
        refine Sd_iload_n (pc' := 573) (dc D_Law_law 322 rfl) rfl 3 rfl rfl ?_
        refine Sd_iconst (pc' := 574) (dc D_Law_law 323 rfl) rfl ⟨by decide, by decide⟩ ?_
        refine Sd_iadd (pc' := 575) (dc D_Law_law 324 rfl) rfl ?_
        refine Sd_saload (pc' := 576) (dc D_Law_law 325 rfl) rfl ?_
        refine Sd.callVI (ci := 12) (t := 13) (as := [_]) RX12 (pc' := 579) (dc D_Law_law 326 rfl) rfl rfl rfl rfl K_Mod_greedy L_Law_73 Ks_Mod_greedy Kv_Mod_greedy ⟨by decide, by decide⟩ rfl rfl (Nat.le_of_ble_eq_true rfl) (s_Mod_greedy _ _ _) (fun x127 h126 => ?_)
        refine Sd_icmp_eq (tgt := 1190) (pc' := 582) (dc D_Law_law 327 rfl) (by decide) rfl (fun _ => ?_) (fun _ => ?_)
        · refine Sd_iinc (pc' := 1193) (l' := [(3, _), (0, _), (1, _), (2, _)]) (dc D_Law_law 804 rfl) rfl 3 rfl (by decide) rfl ?_
          refine Sd_goto (tgt := 18) (dc D_Law_law 805 rfl) (by decide) ?_
          refine Sd.sub (l' := [(0, _), (1, _), (2, _), (3, _)]) [1, 2, 3, 0] rfl ?_
          exact s_Law_law_L18 n _ _ _ _ _
        · refine Sd_iconst (pc' := 583) (dc D_Law_law 328 rfl) rfl ⟨by decide, by decide⟩ ?_
          exact Sd_zret (dc D_Law_law 329 rfl) rfl (Or.inl rfl)
      refine Sd_tcase (i := 14) (tgt := 584) (dc D_Law_law 21 rfl) rfl (by decide) (by decide) (by decide) (fun _ => ?_) (fun hn14 => ?_)
      · refine Sd_aload_n (pc' := 585) (dc D_Law_law 330 rfl) rfl 1 rfl rfl ?_
        refine Sd_aload_n (pc' := 586) (dc D_Law_law 331 rfl) rfl 0 rfl rfl ?_
        refine Sd_iload_n (pc' := 587) (dc D_Law_law 332 rfl) rfl 3 rfl rfl ?_
        refine Sd_iconst (pc' := 588) (dc D_Law_law 333 rfl) rfl ⟨by decide, by decide⟩ ?_
        refine Sd_iadd (pc' := 589) (dc D_Law_law 334 rfl) rfl ?_
        refine Sd_saload (pc' := 590) (dc D_Law_law 335 rfl) rfl ?_
        refine Sd.callVI (ci := 11) (t := 12) (as := [_]) RX11 (pc' := 593) (dc D_Law_law 336 rfl) rfl rfl rfl rfl K_Bat_best L_Law_74 Ks_Bat_best Kv_Bat_best ⟨by decide, by decide⟩ rfl rfl (Nat.le_of_ble_eq_true rfl) (s_Bat_best _ _ _) (fun x131 h130 => ?_)
        refine Sd_aload_n (pc' := 594) (dc D_Law_law 337 rfl) rfl 2 rfl rfl ?_
        refine Sd_aload_n (pc' := 595) (dc D_Law_law 338 rfl) rfl 0 rfl rfl ?_
        refine Sd_iload_n (pc' := 596) (dc D_Law_law 339 rfl) rfl 3 rfl rfl ?_
        refine Sd_iconst (pc' := 597) (dc D_Law_law 340 rfl) rfl ⟨by decide, by decide⟩ ?_
        refine Sd_iadd (pc' := 598) (dc D_Law_law 341 rfl) rfl ?_
        refine Sd_saload (pc' := 599) (dc D_Law_law 342 rfl) rfl ?_
        refine Sd.callVI (ci := 12) (t := 13) (as := [_]) RX12 (pc' := 602) (dc D_Law_law 343 rfl) rfl rfl rfl rfl K_Mod_best L_Law_77 Ks_Mod_best Kv_Mod_best ⟨by decide, by decide⟩ rfl rfl (Nat.le_of_ble_eq_true rfl) (s_Mod_best _ _ _) (fun x135 h134 => ?_)
        refine Sd_icmp_eq (tgt := 1190) (pc' := 605) (dc D_Law_law 344 rfl) (by decide) rfl (fun _ => ?_) (fun _ => ?_)
        · refine Sd_iinc (pc' := 1193) (l' := [(3, _), (0, _), (1, _), (2, _)]) (dc D_Law_law 804 rfl) rfl 3 rfl (by decide) rfl ?_
          refine Sd_goto (tgt := 18) (dc D_Law_law 805 rfl) (by decide) ?_
          refine Sd.sub (l' := [(0, _), (1, _), (2, _), (3, _)]) [1, 2, 3, 0] rfl ?_
          exact s_Law_law_L18 n _ _ _ _ _
        · refine Sd_iconst (pc' := 606) (dc D_Law_law 345 rfl) rfl ⟨by decide, by decide⟩ ?_
          exact Sd_zret (dc D_Law_law 346 rfl) rfl (Or.inl rfl)
      refine Sd_tcase (i := 15) (tgt := 607) (dc D_Law_law 21 rfl) rfl (by decide) (by decide) (by decide) (fun _ => ?_) (fun hn15 => ?_)
      · refine Sd_aload_n (pc' := 608) (dc D_Law_law 347 rfl) rfl 1 rfl rfl ?_
        refine Sd_aload_n (pc' := 609) (dc D_Law_law 348 rfl) rfl 0 rfl rfl ?_
        refine Sd_iload_n (pc' := 610) (dc D_Law_law 349 rfl) rfl 3 rfl rfl ?_
        refine Sd_iconst (pc' := 611) (dc D_Law_law 350 rfl) rfl ⟨by decide, by decide⟩ ?_
        refine Sd_iadd (pc' := 612) (dc D_Law_law 351 rfl) rfl ?_
        refine Sd_saload (pc' := 613) (dc D_Law_law 352 rfl) rfl ?_
        refine Sd_aload_n (pc' := 614) (dc D_Law_law 353 rfl) rfl 0 rfl rfl ?_
        refine Sd_iload_n (pc' := 615) (dc D_Law_law 354 rfl) rfl 3 rfl rfl ?_
        refine Sd_iconst (pc' := 616) (dc D_Law_law 355 rfl) rfl ⟨by decide, by decide⟩ ?_
        refine Sd_iadd (pc' := 617) (dc D_Law_law 356 rfl) rfl ?_
        refine Sd_saload (pc' := 618) (dc D_Law_law 357 rfl) rfl ?_
        refine Sd_aload_n (pc' := 619) (dc D_Law_law 358 rfl) rfl 0 rfl rfl ?_
        refine Sd_iload_n (pc' := 620) (dc D_Law_law 359 rfl) rfl 3 rfl rfl ?_
        refine Sd_iconst (pc' := 621) (dc D_Law_law 360 rfl) rfl ⟨by decide, by decide⟩ ?_
        refine Sd_iadd (pc' := 622) (dc D_Law_law 361 rfl) rfl ?_
        refine Sd_saload (pc' := 623) (dc D_Law_law 362 rfl) rfl ?_
        refine Sd_aload_n (pc' := 624) (dc D_Law_law 363 rfl) rfl 0 rfl rfl ?_
        refine Sd_iload_n (pc' := 625) (dc D_Law_law 364 rfl) rfl 3 rfl rfl ?_
        refine Sd_iconst (pc' := 626) (dc D_Law_law 365 rfl) rfl ⟨by decide, by decide⟩ ?_
        refine Sd_iadd (pc' := 627) (dc D_Law_law 366 rfl) rfl ?_
        refine Sd_saload (pc' := 628) (dc D_Law_law 367 rfl) rfl ?_
        refine Sd.callVI (ci := 11) (t := 12) (as := [_, _, _, _]) RX11 (pc' := 631) (dc D_Law_law 368 rfl) rfl rfl rfl rfl K_Bat_put L_Law_78 Ks_Bat_put Kv_Bat_put ⟨by decide, by decide⟩ rfl rfl (Nat.le_of_ble_eq_true rfl) (s_Bat_put _ _ _ _ _ _) (fun x142 h141 => ?_)
        refine Sd_aload_n (pc' := 632) (dc D_Law_law 369 rfl) rfl 2 rfl rfl ?_
        refine Sd_aload_n (pc' := 633) (dc D_Law_law 370 rfl) rfl 0 rfl rfl ?_
        refine Sd_iload_n (pc' := 634) (dc D_Law_law 371 rfl) rfl 3 rfl rfl ?_
        refine Sd_iconst (pc' := 635) (dc D_Law_law 372 rfl) rfl ⟨by decide, by decide⟩ ?_
        refine Sd_iadd (pc' := 636) (dc D_Law_law 373 rfl) rfl ?_
        refine Sd_saload (pc' := 637) (dc D_Law_law 374 rfl) rfl ?_
        refine Sd_aload_n (pc' := 638) (dc D_Law_law 375 rfl) rfl 0 rfl rfl ?_
        refine Sd_iload_n (pc' := 639) (dc D_Law_law 376 rfl) rfl 3 rfl rfl ?_
        refine Sd_iconst (pc' := 640) (dc D_Law_law 377 rfl) rfl ⟨by decide, by decide⟩ ?_
        refine Sd_iadd (pc' := 641) (dc D_Law_law 378 rfl) rfl ?_
        refine Sd_saload (pc' := 642) (dc D_Law_law 379 rfl) rfl ?_
        refine Sd_aload_n (pc' := 643) (dc D_Law_law 380 rfl) rfl 0 rfl rfl ?_
        refine Sd_iload_n (pc' := 644) (dc D_Law_law 381 rfl) rfl 3 rfl rfl ?_
        refine Sd_iconst (pc' := 645) (dc D_Law_law 382 rfl) rfl ⟨by decide, by decide⟩ ?_
        refine Sd_iadd (pc' := 646) (dc D_Law_law 383 rfl) rfl ?_
        refine Sd_saload (pc' := 647) (dc D_Law_law 384 rfl) rfl ?_
        refine Sd_aload_n (pc' := 648) (dc D_Law_law 385 rfl) rfl 0 rfl rfl ?_
        refine Sd_iload_n (pc' := 649) (dc D_Law_law 386 rfl) rfl 3 rfl rfl ?_
        refine Sd_iconst (pc' := 650) (dc D_Law_law 387 rfl) rfl ⟨by decide, by decide⟩ ?_
        refine Sd_iadd (pc' := 651) (dc D_Law_law 388 rfl) rfl ?_
        refine Sd_saload (pc' := 652) (dc D_Law_law 389 rfl) rfl ?_
        refine Sd.callVI (ci := 12) (t := 13) (as := [_, _, _, _]) RX12 (pc' := 655) (dc D_Law_law 390 rfl) rfl rfl rfl rfl K_Mod_put L_Law_82 Ks_Mod_put Kv_Mod_put ⟨by decide, by decide⟩ rfl rfl (Nat.le_of_ble_eq_true rfl) (s_Mod_put _ _ _ _ _ _) (fun x149 h148 => ?_)
        refine Sd_icmp_eq (tgt := 1190) (pc' := 658) (dc D_Law_law 391 rfl) (by decide) rfl (fun _ => ?_) (fun _ => ?_)
        · refine Sd_iinc (pc' := 1193) (l' := [(3, _), (0, _), (1, _), (2, _)]) (dc D_Law_law 804 rfl) rfl 3 rfl (by decide) rfl ?_
          refine Sd_goto (tgt := 18) (dc D_Law_law 805 rfl) (by decide) ?_
          refine Sd.sub (l' := [(0, _), (1, _), (2, _), (3, _)]) [1, 2, 3, 0] rfl ?_
          exact s_Law_law_L18 n _ _ _ _ _
        · refine Sd_iconst (pc' := 659) (dc D_Law_law 392 rfl) rfl ⟨by decide, by decide⟩ ?_
          exact Sd_zret (dc D_Law_law 393 rfl) rfl (Or.inl rfl)
      refine Sd_tcase (i := 16) (tgt := 660) (dc D_Law_law 21 rfl) rfl (by decide) (by decide) (by decide) (fun _ => ?_) (fun hn16 => ?_)
      · refine Sd_aload_n (pc' := 661) (dc D_Law_law 394 rfl) rfl 1 rfl rfl ?_
        refine Sd_aload_n (pc' := 662) (dc D_Law_law 395 rfl) rfl 0 rfl rfl ?_
        refine Sd_iload_n (pc' := 663) (dc D_Law_law 396 rfl) rfl 3 rfl rfl ?_
        refine Sd_iconst (pc' := 664) (dc D_Law_law 397 rfl) rfl ⟨by decide, by decide⟩ ?_
        refine Sd_iadd (pc' := 665) (dc D_Law_law 398 rfl) rfl ?_
        refine Sd_saload (pc' := 666) (dc D_Law_law 399 rfl) rfl ?_
        refine Sd_aload_n (pc' := 667) (dc D_Law_law 400 rfl) rfl 0 rfl rfl ?_
        refine Sd_iload_n (pc' := 668) (dc D_Law_law 401 rfl) rfl 3 rfl rfl ?_
        refine Sd_iconst (pc' := 669) (dc D_Law_law 402 rfl) rfl ⟨by decide, by decide⟩ ?_
        refine Sd_iadd (pc' := 670) (dc D_Law_law 403 rfl) rfl ?_
        refine Sd_saload (pc' := 671) (dc D_Law_law 404 rfl) rfl ?_
        refine Sd.callVI (ci := 11) (t := 12) (as := [_, _]) RX11 (pc' := 674) (dc D_Law_law 405 rfl) rfl rfl rfl rfl K_Bat_remove L_Law_83 Ks_Bat_remove Kv_Bat_remove ⟨by decide, by decide⟩ rfl rfl (Nat.le_of_ble_eq_true rfl) (s_Bat_remove _ _ _ _) (fun x154 h153 => ?_)
        refine Sd_aload_n (pc' := 675) (dc D_Law_law 406 rfl) rfl 2 rfl rfl ?_
        refine Sd_aload_n (pc' := 676) (dc D_Law_law 407 rfl) rfl 0 rfl rfl ?_
        refine Sd_iload_n (pc' := 677) (dc D_Law_law 408 rfl) rfl 3 rfl rfl ?_
        refine Sd_iconst (pc' := 678) (dc D_Law_law 409 rfl) rfl ⟨by decide, by decide⟩ ?_
        refine Sd_iadd (pc' := 679) (dc D_Law_law 410 rfl) rfl ?_
        refine Sd_saload (pc' := 680) (dc D_Law_law 411 rfl) rfl ?_
        refine Sd_aload_n (pc' := 681) (dc D_Law_law 412 rfl) rfl 0 rfl rfl ?_
        refine Sd_iload_n (pc' := 682) (dc D_Law_law 413 rfl) rfl 3 rfl rfl ?_
        refine Sd_iconst (pc' := 683) (dc D_Law_law 414 rfl) rfl ⟨by decide, by decide⟩ ?_
        refine Sd_iadd (pc' := 684) (dc D_Law_law 415 rfl) rfl ?_
        refine Sd_saload (pc' := 685) (dc D_Law_law 416 rfl) rfl ?_
        refine Sd.callVI (ci := 12) (t := 13) (as := [_, _]) RX12 (pc' := 688) (dc D_Law_law 417 rfl) rfl rfl rfl rfl K_Mod_remove L_Law_86 Ks_Mod_remove Kv_Mod_remove ⟨by decide, by decide⟩ rfl rfl (Nat.le_of_ble_eq_true rfl) (s_Mod_remove _ _ _ _) (fun x159 h158 => ?_)
        refine Sd_icmp_eq (tgt := 1190) (pc' := 691) (dc D_Law_law 418 rfl) (by decide) rfl (fun _ => ?_) (fun _ => ?_)
        · refine Sd_iinc (pc' := 1193) (l' := [(3, _), (0, _), (1, _), (2, _)]) (dc D_Law_law 804 rfl) rfl 3 rfl (by decide) rfl ?_
          refine Sd_goto (tgt := 18) (dc D_Law_law 805 rfl) (by decide) ?_
          refine Sd.sub (l' := [(0, _), (1, _), (2, _), (3, _)]) [1, 2, 3, 0] rfl ?_
          exact s_Law_law_L18 n _ _ _ _ _
        · refine Sd_iconst (pc' := 692) (dc D_Law_law 419 rfl) rfl ⟨by decide, by decide⟩ ?_
          exact Sd_zret (dc D_Law_law 420 rfl) rfl (Or.inl rfl)
      refine Sd_tcase (i := 17) (tgt := 693) (dc D_Law_law 21 rfl) rfl (by decide) (by decide) (by decide) (fun _ => ?_) (fun hn17 => ?_)
      · refine Sd_aload_n (pc' := 694) (dc D_Law_law 421 rfl) rfl 1 rfl rfl ?_
        refine Sd_aload_n (pc' := 695) (dc D_Law_law 422 rfl) rfl 0 rfl rfl ?_
        refine Sd_iload_n (pc' := 696) (dc D_Law_law 423 rfl) rfl 3 rfl rfl ?_
        refine Sd_iconst (pc' := 697) (dc D_Law_law 424 rfl) rfl ⟨by decide, by decide⟩ ?_
        refine Sd_iadd (pc' := 698) (dc D_Law_law 425 rfl) rfl ?_
        refine Sd_saload (pc' := 699) (dc D_Law_law 426 rfl) rfl ?_
        refine Sd_aload_n (pc' := 700) (dc D_Law_law 427 rfl) rfl 0 rfl rfl ?_
        refine Sd_iload_n (pc' := 701) (dc D_Law_law 428 rfl) rfl 3 rfl rfl ?_
        refine Sd_iconst (pc' := 702) (dc D_Law_law 429 rfl) rfl ⟨by decide, by decide⟩ ?_
        refine Sd_iadd (pc' := 703) (dc D_Law_law 430 rfl) rfl ?_
        refine Sd_saload (pc' := 704) (dc D_Law_law 431 rfl) rfl ?_
        refine Sd_aload_n (pc' := 705) (dc D_Law_law 432 rfl) rfl 0 rfl rfl ?_
        refine Sd_iload_n (pc' := 706) (dc D_Law_law 433 rfl) rfl 3 rfl rfl ?_
        refine Sd_iconst (pc' := 707) (dc D_Law_law 434 rfl) rfl ⟨by decide, by decide⟩ ?_
        refine Sd_iadd (pc' := 708) (dc D_Law_law 435 rfl) rfl ?_
        refine Sd_saload (pc' := 709) (dc D_Law_law 436 rfl) rfl ?_
        refine Sd_aload_n (pc' := 710) (dc D_Law_law 437 rfl) rfl 0 rfl rfl ?_
        refine Sd_iload_n (pc' := 711) (dc D_Law_law 438 rfl) rfl 3 rfl rfl ?_
        refine Sd_iconst (pc' := 712) (dc D_Law_law 439 rfl) rfl ⟨by decide, by decide⟩ ?_
        refine Sd_iadd (pc' := 713) (dc D_Law_law 440 rfl) rfl ?_
        refine Sd_saload (pc' := 714) (dc D_Law_law 441 rfl) rfl ?_
        refine Sd.callVI (ci := 11) (t := 12) (as := [_, _, _, _]) RX11 (pc' := 717) (dc D_Law_law 442 rfl) rfl rfl rfl rfl K_Bat_change L_Law_87 Ks_Bat_change Kv_Bat_change ⟨by decide, by decide⟩ rfl rfl (Nat.le_of_ble_eq_true rfl) (s_Bat_change _ _ _ _ _ _) (fun x166 h165 => ?_)
        refine Sd_aload_n (pc' := 718) (dc D_Law_law 443 rfl) rfl 2 rfl rfl ?_
        refine Sd_aload_n (pc' := 719) (dc D_Law_law 444 rfl) rfl 0 rfl rfl ?_
        refine Sd_iload_n (pc' := 720) (dc D_Law_law 445 rfl) rfl 3 rfl rfl ?_
        refine Sd_iconst (pc' := 721) (dc D_Law_law 446 rfl) rfl ⟨by decide, by decide⟩ ?_
        refine Sd_iadd (pc' := 722) (dc D_Law_law 447 rfl) rfl ?_
        refine Sd_saload (pc' := 723) (dc D_Law_law 448 rfl) rfl ?_
        refine Sd_aload_n (pc' := 724) (dc D_Law_law 449 rfl) rfl 0 rfl rfl ?_
        refine Sd_iload_n (pc' := 725) (dc D_Law_law 450 rfl) rfl 3 rfl rfl ?_
        refine Sd_iconst (pc' := 726) (dc D_Law_law 451 rfl) rfl ⟨by decide, by decide⟩ ?_
        refine Sd_iadd (pc' := 727) (dc D_Law_law 452 rfl) rfl ?_
        refine Sd_saload (pc' := 728) (dc D_Law_law 453 rfl) rfl ?_
        refine Sd_aload_n (pc' := 729) (dc D_Law_law 454 rfl) rfl 0 rfl rfl ?_
        refine Sd_iload_n (pc' := 730) (dc D_Law_law 455 rfl) rfl 3 rfl rfl ?_
        refine Sd_iconst (pc' := 731) (dc D_Law_law 456 rfl) rfl ⟨by decide, by decide⟩ ?_
        refine Sd_iadd (pc' := 732) (dc D_Law_law 457 rfl) rfl ?_
        refine Sd_saload (pc' := 733) (dc D_Law_law 458 rfl) rfl ?_
        refine Sd_aload_n (pc' := 734) (dc D_Law_law 459 rfl) rfl 0 rfl rfl ?_
        refine Sd_iload_n (pc' := 735) (dc D_Law_law 460 rfl) rfl 3 rfl rfl ?_
        refine Sd_iconst (pc' := 736) (dc D_Law_law 461 rfl) rfl ⟨by decide, by decide⟩ ?_
        refine Sd_iadd (pc' := 737) (dc D_Law_law 462 rfl) rfl ?_
        refine Sd_saload (pc' := 738) (dc D_Law_law 463 rfl) rfl ?_
        refine Sd.callVI (ci := 12) (t := 13) (as := [_, _, _, _]) RX12 (pc' := 741) (dc D_Law_law 464 rfl) rfl rfl rfl rfl K_Mod_change L_Law_90 Ks_Mod_change Kv_Mod_change ⟨by decide, by decide⟩ rfl rfl (Nat.le_of_ble_eq_true rfl) (s_Mod_change _ _ _ _ _ _) (fun x173 h172 => ?_)
        refine Sd_icmp_eq (tgt := 1190) (pc' := 744) (dc D_Law_law 465 rfl) (by decide) rfl (fun _ => ?_) (fun _ => ?_)
        · refine Sd_iinc (pc' := 1193) (l' := [(3, _), (0, _), (1, _), (2, _)]) (dc D_Law_law 804 rfl) rfl 3 rfl (by decide) rfl ?_
          refine Sd_goto (tgt := 18) (dc D_Law_law 805 rfl) (by decide) ?_
          refine Sd.sub (l' := [(0, _), (1, _), (2, _), (3, _)]) [1, 2, 3, 0] rfl ?_
          exact s_Law_law_L18 n _ _ _ _ _
        · refine Sd_iconst (pc' := 745) (dc D_Law_law 466 rfl) rfl ⟨by decide, by decide⟩ ?_
          exact Sd_zret (dc D_Law_law 467 rfl) rfl (Or.inl rfl)
      refine Sd_tcase (i := 18) (tgt := 746) (dc D_Law_law 21 rfl) rfl (by decide) (by decide) (by decide) (fun _ => ?_) (fun hn18 => ?_)
      · refine Sd_aload_n (pc' := 747) (dc D_Law_law 468 rfl) rfl 1 rfl rfl ?_
        refine Sd_aload_n (pc' := 748) (dc D_Law_law 469 rfl) rfl 0 rfl rfl ?_
        refine Sd_iload_n (pc' := 749) (dc D_Law_law 470 rfl) rfl 3 rfl rfl ?_
        refine Sd_iconst (pc' := 750) (dc D_Law_law 471 rfl) rfl ⟨by decide, by decide⟩ ?_
        refine Sd_iadd (pc' := 751) (dc D_Law_law 472 rfl) rfl ?_
        refine Sd_saload (pc' := 752) (dc D_Law_law 473 rfl) rfl ?_
        refine Sd.callVI (ci := 11) (t := 12) (as := [_]) RX11 (pc' := 755) (dc D_Law_law 474 rfl) rfl rfl rfl rfl K_Bat_strike L_Law_91 Ks_Bat_strike Kv_Bat_strike ⟨by decide, by decide⟩ rfl rfl (Nat.le_of_ble_eq_true rfl) (s_Bat_strike _ _ _) (fun x177 h176 => ?_)
        refine Sd_aload_n (pc' := 756) (dc D_Law_law 475 rfl) rfl 2 rfl rfl ?_
        refine Sd_aload_n (pc' := 757) (dc D_Law_law 476 rfl) rfl 0 rfl rfl ?_
        refine Sd_iload_n (pc' := 758) (dc D_Law_law 477 rfl) rfl 3 rfl rfl ?_
        refine Sd_iconst (pc' := 759) (dc D_Law_law 478 rfl) rfl ⟨by decide, by decide⟩ ?_
        refine Sd_iadd (pc' := 760) (dc D_Law_law 479 rfl) rfl ?_
        refine Sd_saload (pc' := 761) (dc D_Law_law 480 rfl) rfl ?_
        refine Sd.callVI (ci := 12) (t := 13) (as := [_]) RX12 (pc' := 764) (dc D_Law_law 481 rfl) rfl rfl rfl rfl K_Mod_strike L_Law_94 Ks_Mod_strike Kv_Mod_strike ⟨by decide, by decide⟩ rfl rfl (Nat.le_of_ble_eq_true rfl) (s_Mod_strike _ _ _) (fun x181 h180 => ?_)
        refine Sd_icmp_eq (tgt := 1190) (pc' := 767) (dc D_Law_law 482 rfl) (by decide) rfl (fun _ => ?_) (fun _ => ?_)
        · refine Sd_iinc (pc' := 1193) (l' := [(3, _), (0, _), (1, _), (2, _)]) (dc D_Law_law 804 rfl) rfl 3 rfl (by decide) rfl ?_
          refine Sd_goto (tgt := 18) (dc D_Law_law 805 rfl) (by decide) ?_
          refine Sd.sub (l' := [(0, _), (1, _), (2, _), (3, _)]) [1, 2, 3, 0] rfl ?_
          exact s_Law_law_L18 n _ _ _ _ _
        · refine Sd_iconst (pc' := 768) (dc D_Law_law 483 rfl) rfl ⟨by decide, by decide⟩ ?_
          exact Sd_zret (dc D_Law_law 484 rfl) rfl (Or.inl rfl)
      refine Sd_tcase (i := 19) (tgt := 769) (dc D_Law_law 21 rfl) rfl (by decide) (by decide) (by decide) (fun _ => ?_) (fun hn19 => ?_)
      · refine Sd_aload_n (pc' := 770) (dc D_Law_law 485 rfl) rfl 1 rfl rfl ?_
        refine Sd_aload_n (pc' := 771) (dc D_Law_law 486 rfl) rfl 0 rfl rfl ?_
        refine Sd_iload_n (pc' := 772) (dc D_Law_law 487 rfl) rfl 3 rfl rfl ?_
        refine Sd_iconst (pc' := 773) (dc D_Law_law 488 rfl) rfl ⟨by decide, by decide⟩ ?_
        refine Sd_iadd (pc' := 774) (dc D_Law_law 489 rfl) rfl ?_
        refine Sd_saload (pc' := 775) (dc D_Law_law 490 rfl) rfl ?_
        refine Sd.callVI (ci := 11) (t := 12) (as := [_]) RX11 (pc' := 778) (dc D_Law_law 491 rfl) rfl rfl rfl rfl K_Bat_keep L_Law_95 Ks_Bat_keep Kv_Bat_keep ⟨by decide, by decide⟩ rfl rfl (Nat.le_of_ble_eq_true rfl) (s_Bat_keep _ _ _) (fun x185 h184 => ?_)
        refine Sd_aload_n (pc' := 779) (dc D_Law_law 492 rfl) rfl 2 rfl rfl ?_
        refine Sd_aload_n (pc' := 780) (dc D_Law_law 493 rfl) rfl 0 rfl rfl ?_
        refine Sd_iload_n (pc' := 781) (dc D_Law_law 494 rfl) rfl 3 rfl rfl ?_
        refine Sd_iconst (pc' := 782) (dc D_Law_law 495 rfl) rfl ⟨by decide, by decide⟩ ?_
        refine Sd_iadd (pc' := 783) (dc D_Law_law 496 rfl) rfl ?_
        refine Sd_saload (pc' := 784) (dc D_Law_law 497 rfl) rfl ?_
        refine Sd.callVI (ci := 12) (t := 13) (as := [_]) RX12 (pc' := 787) (dc D_Law_law 498 rfl) rfl rfl rfl rfl K_Mod_keep L_Law_98 Ks_Mod_keep Kv_Mod_keep ⟨by decide, by decide⟩ rfl rfl (Nat.le_of_ble_eq_true rfl) (s_Mod_keep _ _ _) (fun x189 h188 => ?_)
        refine Sd_icmp_eq (tgt := 1190) (pc' := 790) (dc D_Law_law 499 rfl) (by decide) rfl (fun _ => ?_) (fun _ => ?_)
        · refine Sd_iinc (pc' := 1193) (l' := [(3, _), (0, _), (1, _), (2, _)]) (dc D_Law_law 804 rfl) rfl 3 rfl (by decide) rfl ?_
          refine Sd_goto (tgt := 18) (dc D_Law_law 805 rfl) (by decide) ?_
          refine Sd.sub (l' := [(0, _), (1, _), (2, _), (3, _)]) [1, 2, 3, 0] rfl ?_
          exact s_Law_law_L18 n _ _ _ _ _
        · refine Sd_iconst (pc' := 791) (dc D_Law_law 500 rfl) rfl ⟨by decide, by decide⟩ ?_
          exact Sd_zret (dc D_Law_law 501 rfl) rfl (Or.inl rfl)
      refine Sd_tcase (i := 20) (tgt := 792) (dc D_Law_law 21 rfl) rfl (by decide) (by decide) (by decide) (fun _ => ?_) (fun hn20 => ?_)
      · refine Sd_aload_n (pc' := 793) (dc D_Law_law 502 rfl) rfl 1 rfl rfl ?_
        refine Sd_aload_n (pc' := 794) (dc D_Law_law 503 rfl) rfl 0 rfl rfl ?_
        refine Sd_iload_n (pc' := 795) (dc D_Law_law 504 rfl) rfl 3 rfl rfl ?_
        refine Sd_iconst (pc' := 796) (dc D_Law_law 505 rfl) rfl ⟨by decide, by decide⟩ ?_
        refine Sd_iadd (pc' := 797) (dc D_Law_law 506 rfl) rfl ?_
        refine Sd_saload (pc' := 798) (dc D_Law_law 507 rfl) rfl ?_
        refine Sd.callVI (ci := 11) (t := 12) (as := [_]) RX11 (pc' := 801) (dc D_Law_law 508 rfl) rfl rfl rfl rfl K_Bat_forget L_Law_99 Ks_Bat_forget Kv_Bat_forget ⟨by decide, by decide⟩ rfl rfl (Nat.le_of_ble_eq_true rfl) (s_Bat_forget _ _ _) (fun x193 h192 => ?_)
        refine Sd_aload_n (pc' := 802) (dc D_Law_law 509 rfl) rfl 2 rfl rfl ?_
        refine Sd_aload_n (pc' := 803) (dc D_Law_law 510 rfl) rfl 0 rfl rfl ?_
        refine Sd_iload_n (pc' := 804) (dc D_Law_law 511 rfl) rfl 3 rfl rfl ?_
        refine Sd_iconst (pc' := 805) (dc D_Law_law 512 rfl) rfl ⟨by decide, by decide⟩ ?_
        refine Sd_iadd (pc' := 806) (dc D_Law_law 513 rfl) rfl ?_
        refine Sd_saload (pc' := 807) (dc D_Law_law 514 rfl) rfl ?_
        refine Sd.callVI (ci := 12) (t := 13) (as := [_]) RX12 (pc' := 810) (dc D_Law_law 515 rfl) rfl rfl rfl rfl K_Mod_forget L_Law_102 Ks_Mod_forget Kv_Mod_forget ⟨by decide, by decide⟩ rfl rfl (Nat.le_of_ble_eq_true rfl) (s_Mod_forget _ _ _) (fun x197 h196 => ?_)
        refine Sd_icmp_eq (tgt := 1190) (pc' := 813) (dc D_Law_law 516 rfl) (by decide) rfl (fun _ => ?_) (fun _ => ?_)
        · refine Sd_iinc (pc' := 1193) (l' := [(3, _), (0, _), (1, _), (2, _)]) (dc D_Law_law 804 rfl) rfl 3 rfl (by decide) rfl ?_
          refine Sd_goto (tgt := 18) (dc D_Law_law 805 rfl) (by decide) ?_
          refine Sd.sub (l' := [(0, _), (1, _), (2, _), (3, _)]) [1, 2, 3, 0] rfl ?_
          exact s_Law_law_L18 n _ _ _ _ _
        · refine Sd_iconst (pc' := 814) (dc D_Law_law 517 rfl) rfl ⟨by decide, by decide⟩ ?_
          exact Sd_zret (dc D_Law_law 518 rfl) rfl (Or.inl rfl)
      refine Sd_tcase (i := 21) (tgt := 815) (dc D_Law_law 21 rfl) rfl (by decide) (by decide) (by decide) (fun _ => ?_) (fun hn21 => ?_)
      · refine Sd_aload_n (pc' := 816) (dc D_Law_law 519 rfl) rfl 1 rfl rfl ?_
        refine Sd_aload_n (pc' := 817) (dc D_Law_law 520 rfl) rfl 0 rfl rfl ?_
        refine Sd_iload_n (pc' := 818) (dc D_Law_law 521 rfl) rfl 3 rfl rfl ?_
        refine Sd_iconst (pc' := 819) (dc D_Law_law 522 rfl) rfl ⟨by decide, by decide⟩ ?_
        refine Sd_iadd (pc' := 820) (dc D_Law_law 523 rfl) rfl ?_
        refine Sd_saload (pc' := 821) (dc D_Law_law 524 rfl) rfl ?_
        refine Sd.callVI (ci := 11) (t := 12) (as := [_]) RX11 (pc' := 824) (dc D_Law_law 525 rfl) rfl rfl rfl rfl K_Bat_refresh L_Law_103 Ks_Bat_refresh Kv_Bat_refresh ⟨by decide, by decide⟩ rfl rfl (Nat.le_of_ble_eq_true rfl) (s_Bat_refresh _ _ _) (fun x201 h200 => ?_)
        refine Sd_aload_n (pc' := 825) (dc D_Law_law 526 rfl) rfl 2 rfl rfl ?_
        refine Sd_aload_n (pc' := 826) (dc D_Law_law 527 rfl) rfl 0 rfl rfl ?_
        refine Sd_iload_n (pc' := 827) (dc D_Law_law 528 rfl) rfl 3 rfl rfl ?_
        refine Sd_iconst (pc' := 828) (dc D_Law_law 529 rfl) rfl ⟨by decide, by decide⟩ ?_
        refine Sd_iadd (pc' := 829) (dc D_Law_law 530 rfl) rfl ?_
        refine Sd_saload (pc' := 830) (dc D_Law_law 531 rfl) rfl ?_
        refine Sd.callVI (ci := 12) (t := 13) (as := [_]) RX12 (pc' := 833) (dc D_Law_law 532 rfl) rfl rfl rfl rfl K_Mod_refresh L_Law_106 Ks_Mod_refresh Kv_Mod_refresh ⟨by decide, by decide⟩ rfl rfl (Nat.le_of_ble_eq_true rfl) (s_Mod_refresh _ _ _) (fun x205 h204 => ?_)
        refine Sd_icmp_eq (tgt := 1190) (pc' := 836) (dc D_Law_law 533 rfl) (by decide) rfl (fun _ => ?_) (fun _ => ?_)
        · refine Sd_iinc (pc' := 1193) (l' := [(3, _), (0, _), (1, _), (2, _)]) (dc D_Law_law 804 rfl) rfl 3 rfl (by decide) rfl ?_
          refine Sd_goto (tgt := 18) (dc D_Law_law 805 rfl) (by decide) ?_
          refine Sd.sub (l' := [(0, _), (1, _), (2, _), (3, _)]) [1, 2, 3, 0] rfl ?_
          exact s_Law_law_L18 n _ _ _ _ _
        · refine Sd_iconst (pc' := 837) (dc D_Law_law 534 rfl) rfl ⟨by decide, by decide⟩ ?_
          exact Sd_zret (dc D_Law_law 535 rfl) rfl (Or.inl rfl)
      refine Sd_tcase (i := 22) (tgt := 838) (dc D_Law_law 21 rfl) rfl (by decide) (by decide) (by decide) (fun _ => ?_) (fun hn22 => ?_)
      · refine Sd_aload_n (pc' := 839) (dc D_Law_law 536 rfl) rfl 1 rfl rfl ?_
        refine Sd.callVI (ci := 11) (t := 12) (as := []) RX11 (pc' := 842) (dc D_Law_law 537 rfl) rfl rfl rfl rfl K_Bat_run L_Law_107 Ks_Bat_run Kv_Bat_run ⟨by decide, by decide⟩ rfl rfl (Nat.le_of_ble_eq_true rfl) (s_Bat_run _ _) (fun x208 h207 => ?_)
        refine Sd_aload_n (pc' := 843) (dc D_Law_law 538 rfl) rfl 2 rfl rfl ?_
        refine Sd.callVI (ci := 12) (t := 13) (as := []) RX12 (pc' := 846) (dc D_Law_law 539 rfl) rfl rfl rfl rfl K_Mod_run L_Law_110 Ks_Mod_run Kv_Mod_run ⟨by decide, by decide⟩ rfl rfl (Nat.le_of_ble_eq_true rfl) (s_Mod_run _ _) (fun x211 h210 => ?_)
        refine Sd_icmp_eq (tgt := 1190) (pc' := 849) (dc D_Law_law 540 rfl) (by decide) rfl (fun _ => ?_) (fun _ => ?_)
        · refine Sd_iinc (pc' := 1193) (l' := [(3, _), (0, _), (1, _), (2, _)]) (dc D_Law_law 804 rfl) rfl 3 rfl (by decide) rfl ?_
          refine Sd_goto (tgt := 18) (dc D_Law_law 805 rfl) (by decide) ?_
          refine Sd.sub (l' := [(0, _), (1, _), (2, _), (3, _)]) [1, 2, 3, 0] rfl ?_
          exact s_Law_law_L18 n _ _ _ _ _
        · refine Sd_iconst (pc' := 850) (dc D_Law_law 541 rfl) rfl ⟨by decide, by decide⟩ ?_
          exact Sd_zret (dc D_Law_law 542 rfl) rfl (Or.inl rfl)
      refine Sd_tcase (i := 23) (tgt := 851) (dc D_Law_law 21 rfl) rfl (by decide) (by decide) (by decide) (fun _ => ?_) (fun hn23 => ?_)
      · refine Sd_aload_n (pc' := 852) (dc D_Law_law 543 rfl) rfl 1 rfl rfl ?_
        refine Sd.callVI (ci := 11) (t := 12) (as := []) RX11 (pc' := 855) (dc D_Law_law 544 rfl) rfl rfl rfl rfl K_Bat_undo L_Law_111 Ks_Bat_undo Kv_Bat_undo ⟨by decide, by decide⟩ rfl rfl (Nat.le_of_ble_eq_true rfl) (s_Bat_undo _ _) (fun x214 h213 => ?_)
        refine Sd_aload_n (pc' := 856) (dc D_Law_law 545 rfl) rfl 2 rfl rfl ?_
        refine Sd.callVI (ci := 12) (t := 13) (as := []) RX12 (pc' := 859) (dc D_Law_law 546 rfl) rfl rfl rfl rfl K_Mod_undo L_Law_114 Ks_Mod_undo Kv_Mod_undo ⟨by decide, by decide⟩ rfl rfl (Nat.le_of_ble_eq_true rfl) (s_Mod_undo _ _) (fun x217 h216 => ?_)
        refine Sd_icmp_eq (tgt := 1190) (pc' := 862) (dc D_Law_law 547 rfl) (by decide) rfl (fun _ => ?_) (fun _ => ?_)
        · refine Sd_iinc (pc' := 1193) (l' := [(3, _), (0, _), (1, _), (2, _)]) (dc D_Law_law 804 rfl) rfl 3 rfl (by decide) rfl ?_
          refine Sd_goto (tgt := 18) (dc D_Law_law 805 rfl) (by decide) ?_
          refine Sd.sub (l' := [(0, _), (1, _), (2, _), (3, _)]) [1, 2, 3, 0] rfl ?_
          exact s_Law_law_L18 n _ _ _ _ _
        · refine Sd_iconst (pc' := 863) (dc D_Law_law 548 rfl) rfl ⟨by decide, by decide⟩ ?_
          exact Sd_zret (dc D_Law_law 549 rfl) rfl (Or.inl rfl)
      refine Sd_tcase (i := 24) (tgt := 864) (dc D_Law_law 21 rfl) rfl (by decide) (by decide) (by decide) (fun _ => ?_) (fun hn24 => ?_)
      · refine Sd_aload_n (pc' := 865) (dc D_Law_law 550 rfl) rfl 1 rfl rfl ?_
        refine Sd_aload_n (pc' := 866) (dc D_Law_law 551 rfl) rfl 0 rfl rfl ?_
        refine Sd_iload_n (pc' := 867) (dc D_Law_law 552 rfl) rfl 3 rfl rfl ?_
        refine Sd_iconst (pc' := 868) (dc D_Law_law 553 rfl) rfl ⟨by decide, by decide⟩ ?_
        refine Sd_iadd (pc' := 869) (dc D_Law_law 554 rfl) rfl ?_
        refine Sd_saload (pc' := 870) (dc D_Law_law 555 rfl) rfl ?_
        refine Sd_aload_n (pc' := 871) (dc D_Law_law 556 rfl) rfl 0 rfl rfl ?_
        refine Sd_iload_n (pc' := 872) (dc D_Law_law 557 rfl) rfl 3 rfl rfl ?_
        refine Sd_iconst (pc' := 873) (dc D_Law_law 558 rfl) rfl ⟨by decide, by decide⟩ ?_
        refine Sd_iadd (pc' := 874) (dc D_Law_law 559 rfl) rfl ?_
        refine Sd_saload (pc' := 875) (dc D_Law_law 560 rfl) rfl ?_
        refine Sd.callVI (ci := 11) (t := 12) (as := [_, _]) RX11 (pc' := 878) (dc D_Law_law 561 rfl) rfl rfl rfl rfl K_Bat_kept L_Law_115 Ks_Bat_kept Kv_Bat_kept ⟨by decide, by decide⟩ rfl rfl (Nat.le_of_ble_eq_true rfl) (s_Bat_kept _ _ _ _) (fun x222 h221 => ?_)
        refine Sd_aload_n (pc' := 879) (dc D_Law_law 562 rfl) rfl 2 rfl rfl ?_
        refine Sd_aload_n (pc' := 880) (dc D_Law_law 563 rfl) rfl 0 rfl rfl ?_
        refine Sd_iload_n (pc' := 881) (dc D_Law_law 564 rfl) rfl 3 rfl rfl ?_
        refine Sd_iconst (pc' := 882) (dc D_Law_law 565 rfl) rfl ⟨by decide, by decide⟩ ?_
        refine Sd_iadd (pc' := 883) (dc D_Law_law 566 rfl) rfl ?_
        refine Sd_saload (pc' := 884) (dc D_Law_law 567 rfl) rfl ?_
        refine Sd_aload_n (pc' := 885) (dc D_Law_law 568 rfl) rfl 0 rfl rfl ?_
        refine Sd_iload_n (pc' := 886) (dc D_Law_law 569 rfl) rfl 3 rfl rfl ?_
        refine Sd_iconst (pc' := 887) (dc D_Law_law 570 rfl) rfl ⟨by decide, by decide⟩ ?_
        refine Sd_iadd (pc' := 888) (dc D_Law_law 571 rfl) rfl ?_
        refine Sd_saload (pc' := 889) (dc D_Law_law 572 rfl) rfl ?_
        refine Sd.callVI (ci := 12) (t := 13) (as := [_, _]) RX12 (pc' := 892) (dc D_Law_law 573 rfl) rfl rfl rfl rfl K_Mod_kept L_Law_118 Ks_Mod_kept Kv_Mod_kept ⟨by decide, by decide⟩ rfl rfl (Nat.le_of_ble_eq_true rfl) (s_Mod_kept _ _ _ _) (fun x227 h226 => ?_)
        refine Sd_icmp_eq (tgt := 1190) (pc' := 895) (dc D_Law_law 574 rfl) (by decide) rfl (fun _ => ?_) (fun _ => ?_)
        · refine Sd_iinc (pc' := 1193) (l' := [(3, _), (0, _), (1, _), (2, _)]) (dc D_Law_law 804 rfl) rfl 3 rfl (by decide) rfl ?_
          refine Sd_goto (tgt := 18) (dc D_Law_law 805 rfl) (by decide) ?_
          refine Sd.sub (l' := [(0, _), (1, _), (2, _), (3, _)]) [1, 2, 3, 0] rfl ?_
          exact s_Law_law_L18 n _ _ _ _ _
        · refine Sd_iconst (pc' := 896) (dc D_Law_law 575 rfl) rfl ⟨by decide, by decide⟩ ?_
          exact Sd_zret (dc D_Law_law 576 rfl) rfl (Or.inl rfl)
      refine Sd_tcase (i := 25) (tgt := 897) (dc D_Law_law 21 rfl) rfl (by decide) (by decide) (by decide) (fun _ => ?_) (fun hn25 => ?_)
      · refine Sd_aload_n (pc' := 898) (dc D_Law_law 577 rfl) rfl 1 rfl rfl ?_
        refine Sd.callVI (ci := 11) (t := 12) (as := []) RX11 (pc' := 901) (dc D_Law_law 578 rfl) rfl rfl rfl rfl K_Bat_batch L_Law_119 Ks_Bat_batch Kv_Bat_batch ⟨by decide, by decide⟩ rfl rfl (Nat.le_of_ble_eq_true rfl) (s_Bat_batch _ _) (fun x230 h229 => ?_)
        refine Sd_aload_n (pc' := 902) (dc D_Law_law 579 rfl) rfl 2 rfl rfl ?_
        refine Sd.callVI (ci := 12) (t := 13) (as := []) RX12 (pc' := 905) (dc D_Law_law 580 rfl) rfl rfl rfl rfl K_Mod_batch L_Law_122 Ks_Mod_batch Kv_Mod_batch ⟨by decide, by decide⟩ rfl rfl (Nat.le_of_ble_eq_true rfl) (s_Mod_batch _ _) (fun x233 h232 => ?_)
        refine Sd_icmp_eq (tgt := 1190) (pc' := 908) (dc D_Law_law 581 rfl) (by decide) rfl (fun _ => ?_) (fun _ => ?_)
        · refine Sd_iinc (pc' := 1193) (l' := [(3, _), (0, _), (1, _), (2, _)]) (dc D_Law_law 804 rfl) rfl 3 rfl (by decide) rfl ?_
          refine Sd_goto (tgt := 18) (dc D_Law_law 805 rfl) (by decide) ?_
          refine Sd.sub (l' := [(0, _), (1, _), (2, _), (3, _)]) [1, 2, 3, 0] rfl ?_
          exact s_Law_law_L18 n _ _ _ _ _
        · refine Sd_iconst (pc' := 909) (dc D_Law_law 582 rfl) rfl ⟨by decide, by decide⟩ ?_
          exact Sd_zret (dc D_Law_law 583 rfl) rfl (Or.inl rfl)
      refine Sd_tcase (i := 26) (tgt := 910) (dc D_Law_law 21 rfl) rfl (by decide) (by decide) (by decide) (fun _ => ?_) (fun hn26 => ?_)
      · refine Sd_aload_n (pc' := 911) (dc D_Law_law 584 rfl) rfl 1 rfl rfl ?_
        refine Sd_aload_n (pc' := 912) (dc D_Law_law 585 rfl) rfl 0 rfl rfl ?_
        refine Sd_iload_n (pc' := 913) (dc D_Law_law 586 rfl) rfl 3 rfl rfl ?_
        refine Sd_iconst (pc' := 914) (dc D_Law_law 587 rfl) rfl ⟨by decide, by decide⟩ ?_
        refine Sd_iadd (pc' := 915) (dc D_Law_law 588 rfl) rfl ?_
        refine Sd_saload (pc' := 916) (dc D_Law_law 589 rfl) rfl ?_
        refine Sd.callVI (ci := 11) (t := 12) (as := [_]) RX11 (pc' := 919) (dc D_Law_law 590 rfl) rfl rfl rfl rfl K_Bat_costs L_Law_123 Ks_Bat_costs Kv_Bat_costs ⟨by decide, by decide⟩ rfl rfl (Nat.le_of_ble_eq_true rfl) (s_Bat_costs _ _ _) (fun x237 h236 => ?_)
        refine Sd_aload_n (pc' := 920) (dc D_Law_law 591 rfl) rfl 2 rfl rfl ?_
        refine Sd_aload_n (pc' := 921) (dc D_Law_law 592 rfl) rfl 0 rfl rfl ?_
        refine Sd_iload_n (pc' := 922) (dc D_Law_law 593 rfl) rfl 3 rfl rfl ?_
        refine Sd_iconst (pc' := 923) (dc D_Law_law 594 rfl) rfl ⟨by decide, by decide⟩ ?_
        refine Sd_iadd (pc' := 924) (dc D_Law_law 595 rfl) rfl ?_
        refine Sd_saload (pc' := 925) (dc D_Law_law 596 rfl) rfl ?_
        refine Sd.callVI (ci := 12) (t := 13) (as := [_]) RX12 (pc' := 928) (dc D_Law_law 597 rfl) rfl rfl rfl rfl K_Mod_costs L_Law_126 Ks_Mod_costs Kv_Mod_costs ⟨by decide, by decide⟩ rfl rfl (Nat.le_of_ble_eq_true rfl) (s_Mod_costs _ _ _) (fun x241 h240 => ?_)
        refine Sd_icmp_eq (tgt := 1190) (pc' := 931) (dc D_Law_law 598 rfl) (by decide) rfl (fun _ => ?_) (fun _ => ?_)
        · refine Sd_iinc (pc' := 1193) (l' := [(3, _), (0, _), (1, _), (2, _)]) (dc D_Law_law 804 rfl) rfl 3 rfl (by decide) rfl ?_
          refine Sd_goto (tgt := 18) (dc D_Law_law 805 rfl) (by decide) ?_
          refine Sd.sub (l' := [(0, _), (1, _), (2, _), (3, _)]) [1, 2, 3, 0] rfl ?_
          exact s_Law_law_L18 n _ _ _ _ _
        · refine Sd_iconst (pc' := 932) (dc D_Law_law 599 rfl) rfl ⟨by decide, by decide⟩ ?_
          exact Sd_zret (dc D_Law_law 600 rfl) rfl (Or.inl rfl)
      refine Sd_tcase (i := 27) (tgt := 933) (dc D_Law_law 21 rfl) rfl (by decide) (by decide) (by decide) (fun _ => ?_) (fun hn27 => ?_)
      · refine Sd_aload_n (pc' := 934) (dc D_Law_law 601 rfl) rfl 1 rfl rfl ?_
        refine Sd_aload_n (pc' := 935) (dc D_Law_law 602 rfl) rfl 0 rfl rfl ?_
        refine Sd_iload_n (pc' := 936) (dc D_Law_law 603 rfl) rfl 3 rfl rfl ?_
        refine Sd_iconst (pc' := 937) (dc D_Law_law 604 rfl) rfl ⟨by decide, by decide⟩ ?_
        refine Sd_iadd (pc' := 938) (dc D_Law_law 605 rfl) rfl ?_
        refine Sd_saload (pc' := 939) (dc D_Law_law 606 rfl) rfl ?_
        refine Sd_aload_n (pc' := 940) (dc D_Law_law 607 rfl) rfl 0 rfl rfl ?_
        refine Sd_iload_n (pc' := 941) (dc D_Law_law 608 rfl) rfl 3 rfl rfl ?_
        refine Sd_iconst (pc' := 942) (dc D_Law_law 609 rfl) rfl ⟨by decide, by decide⟩ ?_
        refine Sd_iadd (pc' := 943) (dc D_Law_law 610 rfl) rfl ?_
        refine Sd_saload (pc' := 944) (dc D_Law_law 611 rfl) rfl ?_
        refine Sd.callVI (ci := 11) (t := 12) (as := [_, _]) RX11 (pc' := 947) (dc D_Law_law 612 rfl) rfl rfl rfl rfl K_Bat_serves L_Law_127 Ks_Bat_serves Kv_Bat_serves ⟨by decide, by decide⟩ rfl rfl (Nat.le_of_ble_eq_true rfl) (s_Bat_serves _ _ _ _) (fun x246 h245 => ?_)
        refine Sd_aload_n (pc' := 948) (dc D_Law_law 613 rfl) rfl 2 rfl rfl ?_
        refine Sd_aload_n (pc' := 949) (dc D_Law_law 614 rfl) rfl 0 rfl rfl ?_
        refine Sd_iload_n (pc' := 950) (dc D_Law_law 615 rfl) rfl 3 rfl rfl ?_
        refine Sd_iconst (pc' := 951) (dc D_Law_law 616 rfl) rfl ⟨by decide, by decide⟩ ?_
        refine Sd_iadd (pc' := 952) (dc D_Law_law 617 rfl) rfl ?_
        refine Sd_saload (pc' := 953) (dc D_Law_law 618 rfl) rfl ?_
        refine Sd_aload_n (pc' := 954) (dc D_Law_law 619 rfl) rfl 0 rfl rfl ?_
        refine Sd_iload_n (pc' := 955) (dc D_Law_law 620 rfl) rfl 3 rfl rfl ?_
        refine Sd_iconst (pc' := 956) (dc D_Law_law 621 rfl) rfl ⟨by decide, by decide⟩ ?_
        refine Sd_iadd (pc' := 957) (dc D_Law_law 622 rfl) rfl ?_
        refine Sd_saload (pc' := 958) (dc D_Law_law 623 rfl) rfl ?_
        refine Sd.callVI (ci := 12) (t := 13) (as := [_, _]) RX12 (pc' := 961) (dc D_Law_law 624 rfl) rfl rfl rfl rfl K_Mod_serves L_Law_130 Ks_Mod_serves Kv_Mod_serves ⟨by decide, by decide⟩ rfl rfl (Nat.le_of_ble_eq_true rfl) (s_Mod_serves _ _ _ _) (fun x251 h250 => ?_)
        refine Sd_icmp_eq (tgt := 1190) (pc' := 964) (dc D_Law_law 625 rfl) (by decide) rfl (fun _ => ?_) (fun _ => ?_)
        · refine Sd_iinc (pc' := 1193) (l' := [(3, _), (0, _), (1, _), (2, _)]) (dc D_Law_law 804 rfl) rfl 3 rfl (by decide) rfl ?_
          refine Sd_goto (tgt := 18) (dc D_Law_law 805 rfl) (by decide) ?_
          refine Sd.sub (l' := [(0, _), (1, _), (2, _), (3, _)]) [1, 2, 3, 0] rfl ?_
          exact s_Law_law_L18 n _ _ _ _ _
        · refine Sd_iconst (pc' := 965) (dc D_Law_law 626 rfl) rfl ⟨by decide, by decide⟩ ?_
          exact Sd_zret (dc D_Law_law 627 rfl) rfl (Or.inl rfl)
      refine Sd_tcase (i := 28) (tgt := 966) (dc D_Law_law 21 rfl) rfl (by decide) (by decide) (by decide) (fun _ => ?_) (fun hn28 => ?_)
      · refine Sd_aload_n (pc' := 967) (dc D_Law_law 628 rfl) rfl 1 rfl rfl ?_
        refine Sd_aload_n (pc' := 968) (dc D_Law_law 629 rfl) rfl 0 rfl rfl ?_
        refine Sd_iload_n (pc' := 969) (dc D_Law_law 630 rfl) rfl 3 rfl rfl ?_
        refine Sd_iconst (pc' := 970) (dc D_Law_law 631 rfl) rfl ⟨by decide, by decide⟩ ?_
        refine Sd_iadd (pc' := 971) (dc D_Law_law 632 rfl) rfl ?_
        refine Sd_saload (pc' := 972) (dc D_Law_law 633 rfl) rfl ?_
        refine Sd_aload_n (pc' := 973) (dc D_Law_law 634 rfl) rfl 0 rfl rfl ?_
        refine Sd_iload_n (pc' := 974) (dc D_Law_law 635 rfl) rfl 3 rfl rfl ?_
        refine Sd_iconst (pc' := 975) (dc D_Law_law 636 rfl) rfl ⟨by decide, by decide⟩ ?_
        refine Sd_iadd (pc' := 976) (dc D_Law_law 637 rfl) rfl ?_
        refine Sd_saload (pc' := 977) (dc D_Law_law 638 rfl) rfl ?_
        refine Sd.callVI (ci := 11) (t := 12) (as := [_, _]) RX11 (pc' := 980) (dc D_Law_law 639 rfl) rfl rfl rfl rfl K_Bat_marks L_Law_131 Ks_Bat_marks Kv_Bat_marks ⟨by decide, by decide⟩ rfl rfl (Nat.le_of_ble_eq_true rfl) (s_Bat_marks _ _ _ _) (fun x256 h255 => ?_)
        refine Sd_aload_n (pc' := 981) (dc D_Law_law 640 rfl) rfl 2 rfl rfl ?_
        refine Sd_aload_n (pc' := 982) (dc D_Law_law 641 rfl) rfl 0 rfl rfl ?_
        refine Sd_iload_n (pc' := 983) (dc D_Law_law 642 rfl) rfl 3 rfl rfl ?_
        refine Sd_iconst (pc' := 984) (dc D_Law_law 643 rfl) rfl ⟨by decide, by decide⟩ ?_
        refine Sd_iadd (pc' := 985) (dc D_Law_law 644 rfl) rfl ?_
        refine Sd_saload (pc' := 986) (dc D_Law_law 645 rfl) rfl ?_
        refine Sd_aload_n (pc' := 987) (dc D_Law_law 646 rfl) rfl 0 rfl rfl ?_
        refine Sd_iload_n (pc' := 988) (dc D_Law_law 647 rfl) rfl 3 rfl rfl ?_
        refine Sd_iconst (pc' := 989) (dc D_Law_law 648 rfl) rfl ⟨by decide, by decide⟩ ?_
        refine Sd_iadd (pc' := 990) (dc D_Law_law 649 rfl) rfl ?_
        refine Sd_saload (pc' := 991) (dc D_Law_law 650 rfl) rfl ?_
        refine Sd.callVI (ci := 12) (t := 13) (as := [_, _]) RX12 (pc' := 994) (dc D_Law_law 651 rfl) rfl rfl rfl rfl K_Mod_marks L_Law_134 Ks_Mod_marks Kv_Mod_marks ⟨by decide, by decide⟩ rfl rfl (Nat.le_of_ble_eq_true rfl) (s_Mod_marks _ _ _ _) (fun x261 h260 => ?_)
        refine Sd_icmp_eq (tgt := 1190) (pc' := 997) (dc D_Law_law 652 rfl) (by decide) rfl (fun _ => ?_) (fun _ => ?_)
        · refine Sd_iinc (pc' := 1193) (l' := [(3, _), (0, _), (1, _), (2, _)]) (dc D_Law_law 804 rfl) rfl 3 rfl (by decide) rfl ?_
          refine Sd_goto (tgt := 18) (dc D_Law_law 805 rfl) (by decide) ?_
          refine Sd.sub (l' := [(0, _), (1, _), (2, _), (3, _)]) [1, 2, 3, 0] rfl ?_
          exact s_Law_law_L18 n _ _ _ _ _
        · refine Sd_iconst (pc' := 998) (dc D_Law_law 653 rfl) rfl ⟨by decide, by decide⟩ ?_
          exact Sd_zret (dc D_Law_law 654 rfl) rfl (Or.inl rfl)
      refine Sd_tcase (i := 29) (tgt := 999) (dc D_Law_law 21 rfl) rfl (by decide) (by decide) (by decide) (fun _ => ?_) (fun hn29 => ?_)
      · refine Sd_aload_n (pc' := 1000) (dc D_Law_law 655 rfl) rfl 1 rfl rfl ?_
        refine Sd.callVI (ci := 11) (t := 12) (as := []) RX11 (pc' := 1003) (dc D_Law_law 656 rfl) rfl rfl rfl rfl K_Bat_shared L_Law_135 Ks_Bat_shared Kv_Bat_shared ⟨by decide, by decide⟩ rfl rfl (Nat.le_of_ble_eq_true rfl) (s_Bat_shared _ _) (fun x264 h263 => ?_)
        refine Sd_aload_n (pc' := 1004) (dc D_Law_law 657 rfl) rfl 2 rfl rfl ?_
        refine Sd.callVI (ci := 12) (t := 13) (as := []) RX12 (pc' := 1007) (dc D_Law_law 658 rfl) rfl rfl rfl rfl K_Mod_shared L_Law_138 Ks_Mod_shared Kv_Mod_shared ⟨by decide, by decide⟩ rfl rfl (Nat.le_of_ble_eq_true rfl) (s_Mod_shared _ _) (fun x267 h266 => ?_)
        refine Sd_icmp_eq (tgt := 1190) (pc' := 1010) (dc D_Law_law 659 rfl) (by decide) rfl (fun _ => ?_) (fun _ => ?_)
        · refine Sd_iinc (pc' := 1193) (l' := [(3, _), (0, _), (1, _), (2, _)]) (dc D_Law_law 804 rfl) rfl 3 rfl (by decide) rfl ?_
          refine Sd_goto (tgt := 18) (dc D_Law_law 805 rfl) (by decide) ?_
          refine Sd.sub (l' := [(0, _), (1, _), (2, _), (3, _)]) [1, 2, 3, 0] rfl ?_
          exact s_Law_law_L18 n _ _ _ _ _
        · refine Sd_iconst (pc' := 1011) (dc D_Law_law 660 rfl) rfl ⟨by decide, by decide⟩ ?_
          exact Sd_zret (dc D_Law_law 661 rfl) rfl (Or.inl rfl)
      refine Sd_tcase (i := 30) (tgt := 1012) (dc D_Law_law 21 rfl) rfl (by decide) (by decide) (by decide) (fun _ => ?_) (fun hn30 => ?_)
      · refine Sd_aload_n (pc' := 1013) (dc D_Law_law 662 rfl) rfl 1 rfl rfl ?_
        refine Sd_aload_n (pc' := 1014) (dc D_Law_law 663 rfl) rfl 0 rfl rfl ?_
        refine Sd_iload_n (pc' := 1015) (dc D_Law_law 664 rfl) rfl 3 rfl rfl ?_
        refine Sd_iconst (pc' := 1016) (dc D_Law_law 665 rfl) rfl ⟨by decide, by decide⟩ ?_
        refine Sd_iadd (pc' := 1017) (dc D_Law_law 666 rfl) rfl ?_
        refine Sd_saload (pc' := 1018) (dc D_Law_law 667 rfl) rfl ?_
        refine Sd_aload_n (pc' := 1019) (dc D_Law_law 668 rfl) rfl 0 rfl rfl ?_
        refine Sd_iload_n (pc' := 1020) (dc D_Law_law 669 rfl) rfl 3 rfl rfl ?_
        refine Sd_iconst (pc' := 1021) (dc D_Law_law 670 rfl) rfl ⟨by decide, by decide⟩ ?_
        refine Sd_iadd (pc' := 1022) (dc D_Law_law 671 rfl) rfl ?_
        refine Sd_saload (pc' := 1023) (dc D_Law_law 672 rfl) rfl ?_
        refine Sd.callVI (ci := 11) (t := 12) (as := [_, _]) RX11 (pc' := 1026) (dc D_Law_law 673 rfl) rfl rfl rfl rfl K_Bat_residue L_Law_139 Ks_Bat_residue Kv_Bat_residue ⟨by decide, by decide⟩ rfl rfl (Nat.le_of_ble_eq_true rfl) (s_Bat_residue _ _ _ _) (fun x272 h271 => ?_)
        refine Sd_aload_n (pc' := 1027) (dc D_Law_law 674 rfl) rfl 2 rfl rfl ?_
        refine Sd_aload_n (pc' := 1028) (dc D_Law_law 675 rfl) rfl 0 rfl rfl ?_
        refine Sd_iload_n (pc' := 1029) (dc D_Law_law 676 rfl) rfl 3 rfl rfl ?_
        refine Sd_iconst (pc' := 1030) (dc D_Law_law 677 rfl) rfl ⟨by decide, by decide⟩ ?_
        refine Sd_iadd (pc' := 1031) (dc D_Law_law 678 rfl) rfl ?_
        refine Sd_saload (pc' := 1032) (dc D_Law_law 679 rfl) rfl ?_
        refine Sd_aload_n (pc' := 1033) (dc D_Law_law 680 rfl) rfl 0 rfl rfl ?_
        refine Sd_iload_n (pc' := 1034) (dc D_Law_law 681 rfl) rfl 3 rfl rfl ?_
        refine Sd_iconst (pc' := 1035) (dc D_Law_law 682 rfl) rfl ⟨by decide, by decide⟩ ?_
        refine Sd_iadd (pc' := 1036) (dc D_Law_law 683 rfl) rfl ?_
        refine Sd_saload (pc' := 1037) (dc D_Law_law 684 rfl) rfl ?_
        refine Sd.callVI (ci := 12) (t := 13) (as := [_, _]) RX12 (pc' := 1040) (dc D_Law_law 685 rfl) rfl rfl rfl rfl K_Mod_residue L_Law_142 Ks_Mod_residue Kv_Mod_residue ⟨by decide, by decide⟩ rfl rfl (Nat.le_of_ble_eq_true rfl) (s_Mod_residue _ _ _ _) (fun x277 h276 => ?_)
        refine Sd_icmp_eq (tgt := 1190) (pc' := 1043) (dc D_Law_law 686 rfl) (by decide) rfl (fun _ => ?_) (fun _ => ?_)
        · refine Sd_iinc (pc' := 1193) (l' := [(3, _), (0, _), (1, _), (2, _)]) (dc D_Law_law 804 rfl) rfl 3 rfl (by decide) rfl ?_
          refine Sd_goto (tgt := 18) (dc D_Law_law 805 rfl) (by decide) ?_
          refine Sd.sub (l' := [(0, _), (1, _), (2, _), (3, _)]) [1, 2, 3, 0] rfl ?_
          exact s_Law_law_L18 n _ _ _ _ _
        · refine Sd_iconst (pc' := 1044) (dc D_Law_law 687 rfl) rfl ⟨by decide, by decide⟩ ?_
          exact Sd_zret (dc D_Law_law 688 rfl) rfl (Or.inl rfl)
      refine Sd_tcase (i := 31) (tgt := 1045) (dc D_Law_law 21 rfl) rfl (by decide) (by decide) (by decide) (fun _ => ?_) (fun hn31 => ?_)
      · refine Sd_aload_n (pc' := 1046) (dc D_Law_law 689 rfl) rfl 1 rfl rfl ?_
        refine Sd_aload_n (pc' := 1047) (dc D_Law_law 690 rfl) rfl 0 rfl rfl ?_
        refine Sd_iload_n (pc' := 1048) (dc D_Law_law 691 rfl) rfl 3 rfl rfl ?_
        refine Sd_iconst (pc' := 1049) (dc D_Law_law 692 rfl) rfl ⟨by decide, by decide⟩ ?_
        refine Sd_iadd (pc' := 1050) (dc D_Law_law 693 rfl) rfl ?_
        refine Sd_saload (pc' := 1051) (dc D_Law_law 694 rfl) rfl ?_
        refine Sd_aload_n (pc' := 1052) (dc D_Law_law 695 rfl) rfl 0 rfl rfl ?_
        refine Sd_iload_n (pc' := 1053) (dc D_Law_law 696 rfl) rfl 3 rfl rfl ?_
        refine Sd_iconst (pc' := 1054) (dc D_Law_law 697 rfl) rfl ⟨by decide, by decide⟩ ?_
        refine Sd_iadd (pc' := 1055) (dc D_Law_law 698 rfl) rfl ?_
        refine Sd_saload (pc' := 1056) (dc D_Law_law 699 rfl) rfl ?_
        refine Sd_aload_n (pc' := 1057) (dc D_Law_law 700 rfl) rfl 0 rfl rfl ?_
        refine Sd_iload_n (pc' := 1058) (dc D_Law_law 701 rfl) rfl 3 rfl rfl ?_
        refine Sd_iconst (pc' := 1059) (dc D_Law_law 702 rfl) rfl ⟨by decide, by decide⟩ ?_
        refine Sd_iadd (pc' := 1060) (dc D_Law_law 703 rfl) rfl ?_
        refine Sd_saload (pc' := 1061) (dc D_Law_law 704 rfl) rfl ?_
        refine Sd_aload_n (pc' := 1062) (dc D_Law_law 705 rfl) rfl 0 rfl rfl ?_
        refine Sd_iload_n (pc' := 1063) (dc D_Law_law 706 rfl) rfl 3 rfl rfl ?_
        refine Sd_iconst (pc' := 1064) (dc D_Law_law 707 rfl) rfl ⟨by decide, by decide⟩ ?_
        refine Sd_iadd (pc' := 1065) (dc D_Law_law 708 rfl) rfl ?_
        refine Sd_saload (pc' := 1066) (dc D_Law_law 709 rfl) rfl ?_
        refine Sd.callVI (ci := 11) (t := 12) (as := [_, _, _, _]) RX11 (pc' := 1069) (dc D_Law_law 710 rfl) rfl rfl rfl rfl K_Bat_drift L_Law_143 Ks_Bat_drift Kv_Bat_drift ⟨by decide, by decide⟩ rfl rfl (Nat.le_of_ble_eq_true rfl) (s_Bat_drift _ _ _ _ _ _) (fun x284 h283 => ?_)
        refine Sd_aload_n (pc' := 1070) (dc D_Law_law 711 rfl) rfl 2 rfl rfl ?_
        refine Sd_aload_n (pc' := 1071) (dc D_Law_law 712 rfl) rfl 0 rfl rfl ?_
        refine Sd_iload_n (pc' := 1072) (dc D_Law_law 713 rfl) rfl 3 rfl rfl ?_
        refine Sd_iconst (pc' := 1073) (dc D_Law_law 714 rfl) rfl ⟨by decide, by decide⟩ ?_
        refine Sd_iadd (pc' := 1074) (dc D_Law_law 715 rfl) rfl ?_
        refine Sd_saload (pc' := 1075) (dc D_Law_law 716 rfl) rfl ?_
        refine Sd_aload_n (pc' := 1076) (dc D_Law_law 717 rfl) rfl 0 rfl rfl ?_
        refine Sd_iload_n (pc' := 1077) (dc D_Law_law 718 rfl) rfl 3 rfl rfl ?_
        refine Sd_iconst (pc' := 1078) (dc D_Law_law 719 rfl) rfl ⟨by decide, by decide⟩ ?_
        refine Sd_iadd (pc' := 1079) (dc D_Law_law 720 rfl) rfl ?_
        refine Sd_saload (pc' := 1080) (dc D_Law_law 721 rfl) rfl ?_
        refine Sd_aload_n (pc' := 1081) (dc D_Law_law 722 rfl) rfl 0 rfl rfl ?_
        refine Sd_iload_n (pc' := 1082) (dc D_Law_law 723 rfl) rfl 3 rfl rfl ?_
        refine Sd_iconst (pc' := 1083) (dc D_Law_law 724 rfl) rfl ⟨by decide, by decide⟩ ?_
        refine Sd_iadd (pc' := 1084) (dc D_Law_law 725 rfl) rfl ?_
        refine Sd_saload (pc' := 1085) (dc D_Law_law 726 rfl) rfl ?_
        refine Sd_aload_n (pc' := 1086) (dc D_Law_law 727 rfl) rfl 0 rfl rfl ?_
        refine Sd_iload_n (pc' := 1087) (dc D_Law_law 728 rfl) rfl 3 rfl rfl ?_
        refine Sd_iconst (pc' := 1088) (dc D_Law_law 729 rfl) rfl ⟨by decide, by decide⟩ ?_
        refine Sd_iadd (pc' := 1089) (dc D_Law_law 730 rfl) rfl ?_
        refine Sd_saload (pc' := 1090) (dc D_Law_law 731 rfl) rfl ?_
        refine Sd.callVI (ci := 12) (t := 13) (as := [_, _, _, _]) RX12 (pc' := 1093) (dc D_Law_law 732 rfl) rfl rfl rfl rfl K_Mod_drift L_Law_146 Ks_Mod_drift Kv_Mod_drift ⟨by decide, by decide⟩ rfl rfl (Nat.le_of_ble_eq_true rfl) (s_Mod_drift _ _ _ _ _ _) (fun x291 h290 => ?_)
        refine Sd_icmp_eq (tgt := 1190) (pc' := 1096) (dc D_Law_law 733 rfl) (by decide) rfl (fun _ => ?_) (fun _ => ?_)
        · refine Sd_iinc (pc' := 1193) (l' := [(3, _), (0, _), (1, _), (2, _)]) (dc D_Law_law 804 rfl) rfl 3 rfl (by decide) rfl ?_
          refine Sd_goto (tgt := 18) (dc D_Law_law 805 rfl) (by decide) ?_
          refine Sd.sub (l' := [(0, _), (1, _), (2, _), (3, _)]) [1, 2, 3, 0] rfl ?_
          exact s_Law_law_L18 n _ _ _ _ _
        · refine Sd_iconst (pc' := 1097) (dc D_Law_law 734 rfl) rfl ⟨by decide, by decide⟩ ?_
          exact Sd_zret (dc D_Law_law 735 rfl) rfl (Or.inl rfl)
      refine Sd_tcase (i := 32) (tgt := 1098) (dc D_Law_law 21 rfl) rfl (by decide) (by decide) (by decide) (fun _ => ?_) (fun hn32 => ?_)
      · refine Sd_aload_n (pc' := 1099) (dc D_Law_law 736 rfl) rfl 1 rfl rfl ?_
        refine Sd_aload_n (pc' := 1100) (dc D_Law_law 737 rfl) rfl 0 rfl rfl ?_
        refine Sd_iload_n (pc' := 1101) (dc D_Law_law 738 rfl) rfl 3 rfl rfl ?_
        refine Sd_iconst (pc' := 1102) (dc D_Law_law 739 rfl) rfl ⟨by decide, by decide⟩ ?_
        refine Sd_iadd (pc' := 1103) (dc D_Law_law 740 rfl) rfl ?_
        refine Sd_saload (pc' := 1104) (dc D_Law_law 741 rfl) rfl ?_
        refine Sd.callVI (ci := 11) (t := 12) (as := [_]) RX11 (pc' := 1107) (dc D_Law_law 742 rfl) rfl rfl rfl rfl K_Bat_seed L_Law_147 Ks_Bat_seed Kv_Bat_seed ⟨by decide, by decide⟩ rfl rfl (Nat.le_of_ble_eq_true rfl) (s_Bat_seed _ _ _) (fun x295 h294 => ?_)
        refine Sd_aload_n (pc' := 1108) (dc D_Law_law 743 rfl) rfl 2 rfl rfl ?_
        refine Sd_aload_n (pc' := 1109) (dc D_Law_law 744 rfl) rfl 0 rfl rfl ?_
        refine Sd_iload_n (pc' := 1110) (dc D_Law_law 745 rfl) rfl 3 rfl rfl ?_
        refine Sd_iconst (pc' := 1111) (dc D_Law_law 746 rfl) rfl ⟨by decide, by decide⟩ ?_
        refine Sd_iadd (pc' := 1112) (dc D_Law_law 747 rfl) rfl ?_
        refine Sd_saload (pc' := 1113) (dc D_Law_law 748 rfl) rfl ?_
        refine Sd.callVI (ci := 12) (t := 13) (as := [_]) RX12 (pc' := 1116) (dc D_Law_law 749 rfl) rfl rfl rfl rfl K_Mod_seed L_Law_150 Ks_Mod_seed Kv_Mod_seed ⟨by decide, by decide⟩ rfl rfl (Nat.le_of_ble_eq_true rfl) (s_Mod_seed _ _ _) (fun x299 h298 => ?_)
        refine Sd_icmp_eq (tgt := 1190) (pc' := 1119) (dc D_Law_law 750 rfl) (by decide) rfl (fun _ => ?_) (fun _ => ?_)
        · refine Sd_iinc (pc' := 1193) (l' := [(3, _), (0, _), (1, _), (2, _)]) (dc D_Law_law 804 rfl) rfl 3 rfl (by decide) rfl ?_
          refine Sd_goto (tgt := 18) (dc D_Law_law 805 rfl) (by decide) ?_
          refine Sd.sub (l' := [(0, _), (1, _), (2, _), (3, _)]) [1, 2, 3, 0] rfl ?_
          exact s_Law_law_L18 n _ _ _ _ _
        · refine Sd_iconst (pc' := 1120) (dc D_Law_law 751 rfl) rfl ⟨by decide, by decide⟩ ?_
          exact Sd_zret (dc D_Law_law 752 rfl) rfl (Or.inl rfl)
      refine Sd_tcase (i := 33) (tgt := 1121) (dc D_Law_law 21 rfl) rfl (by decide) (by decide) (by decide) (fun _ => ?_) (fun hn33 => ?_)
      · refine Sd_aload_n (pc' := 1122) (dc D_Law_law 753 rfl) rfl 1 rfl rfl ?_
        refine Sd_aload_n (pc' := 1123) (dc D_Law_law 754 rfl) rfl 0 rfl rfl ?_
        refine Sd_iload_n (pc' := 1124) (dc D_Law_law 755 rfl) rfl 3 rfl rfl ?_
        refine Sd_iconst (pc' := 1125) (dc D_Law_law 756 rfl) rfl ⟨by decide, by decide⟩ ?_
        refine Sd_iadd (pc' := 1126) (dc D_Law_law 757 rfl) rfl ?_
        refine Sd_saload (pc' := 1127) (dc D_Law_law 758 rfl) rfl ?_
        refine Sd.callVI (ci := 11) (t := 12) (as := [_]) RX11 (pc' := 1130) (dc D_Law_law 759 rfl) rfl rfl rfl rfl K_Bat_count L_Law_151 Ks_Bat_count Kv_Bat_count ⟨by decide, by decide⟩ rfl rfl (Nat.le_of_ble_eq_true rfl) (s_Bat_count _ _ _) (fun x303 h302 => ?_)
        refine Sd_aload_n (pc' := 1131) (dc D_Law_law 760 rfl) rfl 2 rfl rfl ?_
        refine Sd_aload_n (pc' := 1132) (dc D_Law_law 761 rfl) rfl 0 rfl rfl ?_
        refine Sd_iload_n (pc' := 1133) (dc D_Law_law 762 rfl) rfl 3 rfl rfl ?_
        refine Sd_iconst (pc' := 1134) (dc D_Law_law 763 rfl) rfl ⟨by decide, by decide⟩ ?_
        refine Sd_iadd (pc' := 1135) (dc D_Law_law 764 rfl) rfl ?_
        refine Sd_saload (pc' := 1136) (dc D_Law_law 765 rfl) rfl ?_
        refine Sd.callVI (ci := 12) (t := 13) (as := [_]) RX12 (pc' := 1139) (dc D_Law_law 766 rfl) rfl rfl rfl rfl K_Mod_count L_Law_154 Ks_Mod_count Kv_Mod_count ⟨by decide, by decide⟩ rfl rfl (Nat.le_of_ble_eq_true rfl) (s_Mod_count _ _ _) (fun x307 h306 => ?_)
        refine Sd_icmp_eq (tgt := 1190) (pc' := 1142) (dc D_Law_law 767 rfl) (by decide) rfl (fun _ => ?_) (fun _ => ?_)
        · refine Sd_iinc (pc' := 1193) (l' := [(3, _), (0, _), (1, _), (2, _)]) (dc D_Law_law 804 rfl) rfl 3 rfl (by decide) rfl ?_
          refine Sd_goto (tgt := 18) (dc D_Law_law 805 rfl) (by decide) ?_
          refine Sd.sub (l' := [(0, _), (1, _), (2, _), (3, _)]) [1, 2, 3, 0] rfl ?_
          exact s_Law_law_L18 n _ _ _ _ _
        · refine Sd_iconst (pc' := 1143) (dc D_Law_law 768 rfl) rfl ⟨by decide, by decide⟩ ?_
          exact Sd_zret (dc D_Law_law 769 rfl) rfl (Or.inl rfl)
      refine Sd_tcase (i := 34) (tgt := 1144) (dc D_Law_law 21 rfl) rfl (by decide) (by decide) (by decide) (fun _ => ?_) (fun hn34 => ?_)
      · refine Sd_aload_n (pc' := 1145) (dc D_Law_law 770 rfl) rfl 1 rfl rfl ?_
        refine Sd_aload_n (pc' := 1146) (dc D_Law_law 771 rfl) rfl 0 rfl rfl ?_
        refine Sd_iload_n (pc' := 1147) (dc D_Law_law 772 rfl) rfl 3 rfl rfl ?_
        refine Sd_iconst (pc' := 1148) (dc D_Law_law 773 rfl) rfl ⟨by decide, by decide⟩ ?_
        refine Sd_iadd (pc' := 1149) (dc D_Law_law 774 rfl) rfl ?_
        refine Sd_saload (pc' := 1150) (dc D_Law_law 775 rfl) rfl ?_
        refine Sd.callVI (ci := 11) (t := 12) (as := [_]) RX11 (pc' := 1153) (dc D_Law_law 776 rfl) rfl rfl rfl rfl K_Bat_image L_Law_155 Ks_Bat_image Kv_Bat_image ⟨by decide, by decide⟩ rfl rfl (Nat.le_of_ble_eq_true rfl) (s_Bat_image _ _ _) (fun x311 h310 => ?_)
        refine Sd_aload_n (pc' := 1154) (dc D_Law_law 777 rfl) rfl 2 rfl rfl ?_
        refine Sd_aload_n (pc' := 1155) (dc D_Law_law 778 rfl) rfl 0 rfl rfl ?_
        refine Sd_iload_n (pc' := 1156) (dc D_Law_law 779 rfl) rfl 3 rfl rfl ?_
        refine Sd_iconst (pc' := 1157) (dc D_Law_law 780 rfl) rfl ⟨by decide, by decide⟩ ?_
        refine Sd_iadd (pc' := 1158) (dc D_Law_law 781 rfl) rfl ?_
        refine Sd_saload (pc' := 1159) (dc D_Law_law 782 rfl) rfl ?_
        refine Sd.callVI (ci := 12) (t := 13) (as := [_]) RX12 (pc' := 1162) (dc D_Law_law 783 rfl) rfl rfl rfl rfl K_Mod_image L_Law_158 Ks_Mod_image Kv_Mod_image ⟨by decide, by decide⟩ rfl rfl (Nat.le_of_ble_eq_true rfl) (s_Mod_image _ _ _) (fun x315 h314 => ?_)
        refine Sd_icmp_eq (tgt := 1190) (pc' := 1165) (dc D_Law_law 784 rfl) (by decide) rfl (fun _ => ?_) (fun _ => ?_)
        · refine Sd_iinc (pc' := 1193) (l' := [(3, _), (0, _), (1, _), (2, _)]) (dc D_Law_law 804 rfl) rfl 3 rfl (by decide) rfl ?_
          refine Sd_goto (tgt := 18) (dc D_Law_law 805 rfl) (by decide) ?_
          refine Sd.sub (l' := [(0, _), (1, _), (2, _), (3, _)]) [1, 2, 3, 0] rfl ?_
          exact s_Law_law_L18 n _ _ _ _ _
        · refine Sd_iconst (pc' := 1166) (dc D_Law_law 785 rfl) rfl ⟨by decide, by decide⟩ ?_
          exact Sd_zret (dc D_Law_law 786 rfl) rfl (Or.inl rfl)
      refine Sd_tcase (i := 35) (tgt := 1167) (dc D_Law_law 21 rfl) rfl (by decide) (by decide) (by decide) (fun _ => ?_) (fun hn35 => ?_)
      · refine Sd_aload_n (pc' := 1168) (dc D_Law_law 787 rfl) rfl 1 rfl rfl ?_
        refine Sd_aload_n (pc' := 1169) (dc D_Law_law 788 rfl) rfl 0 rfl rfl ?_
        refine Sd_iload_n (pc' := 1170) (dc D_Law_law 789 rfl) rfl 3 rfl rfl ?_
        refine Sd_iconst (pc' := 1171) (dc D_Law_law 790 rfl) rfl ⟨by decide, by decide⟩ ?_
        refine Sd_iadd (pc' := 1172) (dc D_Law_law 791 rfl) rfl ?_
        refine Sd_saload (pc' := 1173) (dc D_Law_law 792 rfl) rfl ?_
        refine Sd.callVI (ci := 11) (t := 12) (as := [_]) RX11 (pc' := 1176) (dc D_Law_law 793 rfl) rfl rfl rfl rfl K_Bat_back L_Law_159 Ks_Bat_back Kv_Bat_back ⟨by decide, by decide⟩ rfl rfl (Nat.le_of_ble_eq_true rfl) (s_Bat_back _ _ _) (fun x319 h318 => ?_)
        refine Sd_aload_n (pc' := 1177) (dc D_Law_law 794 rfl) rfl 2 rfl rfl ?_
        refine Sd_aload_n (pc' := 1178) (dc D_Law_law 795 rfl) rfl 0 rfl rfl ?_
        refine Sd_iload_n (pc' := 1179) (dc D_Law_law 796 rfl) rfl 3 rfl rfl ?_
        refine Sd_iconst (pc' := 1180) (dc D_Law_law 797 rfl) rfl ⟨by decide, by decide⟩ ?_
        refine Sd_iadd (pc' := 1181) (dc D_Law_law 798 rfl) rfl ?_
        refine Sd_saload (pc' := 1182) (dc D_Law_law 799 rfl) rfl ?_
        refine Sd.callVI (ci := 12) (t := 13) (as := [_]) RX12 (pc' := 1185) (dc D_Law_law 800 rfl) rfl rfl rfl rfl K_Mod_back L_Law_162 Ks_Mod_back Kv_Mod_back ⟨by decide, by decide⟩ rfl rfl (Nat.le_of_ble_eq_true rfl) (s_Mod_back _ _ _) (fun x323 h322 => ?_)
        refine Sd_icmp_eq (tgt := 1190) (pc' := 1188) (dc D_Law_law 801 rfl) (by decide) rfl (fun _ => ?_) (fun _ => ?_)
        · refine Sd_iinc (pc' := 1193) (l' := [(3, _), (0, _), (1, _), (2, _)]) (dc D_Law_law 804 rfl) rfl 3 rfl (by decide) rfl ?_
          refine Sd_goto (tgt := 18) (dc D_Law_law 805 rfl) (by decide) ?_
          refine Sd.sub (l' := [(0, _), (1, _), (2, _), (3, _)]) [1, 2, 3, 0] rfl ?_
          exact s_Law_law_L18 n _ _ _ _ _
        · refine Sd_iconst (pc' := 1189) (dc D_Law_law 802 rfl) rfl ⟨by decide, by decide⟩ ?_
          exact Sd_zret (dc D_Law_law 803 rfl) rfl (Or.inl rfl)
      refine Sd_tdef (tgt := 1190) (dc D_Law_law 21 rfl) (by omega) (by decide) ?_
      refine Sd_iinc (pc' := 1193) (l' := [(3, _), (0, _), (1, _), (2, _)]) (dc D_Law_law 804 rfl) rfl 3 rfl (by decide) rfl ?_
      refine Sd_goto (tgt := 18) (dc D_Law_law 805 rfl) (by decide) ?_
      refine Sd.sub (l' := [(0, _), (1, _), (2, _), (3, _)]) [1, 2, 3, 0] rfl ?_
      exact s_Law_law_L18 n _ _ _ _ _
def Law_law (v0 : Nat) (h : AH) : Option (Int × AH) := nO h 12 12 fun r1 h2 => bnd (Bat_init r1 h2) fun _ h3 => if r1 = 0 then none else nO h3 13 50 fun r6 h7 => bnd (Mod_init r6 h7) fun _ h8 => if r6 = 0 then none else Law_law_L18 FU v0 r1 r6 0 h8
set_option maxHeartbeats 4000000 in
set_option maxRecDepth 20000 in
theorem s_Law_law (v0 : Nat) (h : AH) : CS M_Law_law 13 276 emI [vr v0] h (Law_law v0 h) := by
  refine CS.of (by decide) (Nat.le_of_ble_eq_true rfl) ?_
  show Sd M_Law_law 13 276 emI 0 [(0, vr v0)] [] h _
  unfold Law_law
  refine Sd_new (ci := 11) (t := 12) (sl := 12) RX11 (pc' := 3) (dc D_Law_law 0 rfl) rfl rfl rfl C_Law_7 Ni_Bat Nz_Bat ?_
  refine Sd_dup (pc' := 4) (dc D_Law_law 1 rfl) rfl (cat_r _) ?_
  refine Sd.callIV (as := []) (pc' := 7) (dc D_Law_law 2 rfl) rfl (Nat.le_add_right 16 _) K_Bat_init L_Law_9 Ks_Bat_init rfl rfl ⟨by decide, by decide⟩ rfl rfl (Nat.le_of_ble_eq_true rfl) (s_Bat_init _ _) (fun _ h3 => ?_)
  refine Sd_astore_n (pc' := 8) (l' := [(1, _), (0, _)]) (dc D_Law_law 3 rfl) rfl rfl (by decide) rfl (fun _ => ?_)
  refine Sd_new (ci := 12) (t := 13) (sl := 50) RX12 (pc' := 11) (dc D_Law_law 4 rfl) rfl rfl rfl C_Law_10 Ni_Mod Nz_Mod ?_
  refine Sd_dup (pc' := 12) (dc D_Law_law 5 rfl) rfl (cat_r _) ?_
  refine Sd.callIV (as := []) (pc' := 15) (dc D_Law_law 6 rfl) rfl (Nat.le_add_right 16 _) K_Mod_init L_Law_12 Ks_Mod_init rfl rfl ⟨by decide, by decide⟩ rfl rfl (Nat.le_of_ble_eq_true rfl) (s_Mod_init _ _) (fun _ h8 => ?_)
  refine Sd_astore_n (pc' := 16) (l' := [(2, _), (1, _), (0, _)]) (dc D_Law_law 7 rfl) rfl rfl (by decide) rfl (fun _ => ?_)
  refine Sd_iconst (pc' := 17) (dc D_Law_law 8 rfl) rfl ⟨by decide, by decide⟩ ?_
  refine Sd_istore_n (pc' := 18) (l' := [(3, _), (2, _), (1, _), (0, _)]) (dc D_Law_law 9 rfl) rfl rfl (by decide) rfl ?_
  refine Sd.sub (l' := [(0, _), (1, _), (2, _), (3, _)]) [3, 2, 1, 0] rfl ?_
  exact s_Law_law_L18 FU _ _ _ _ _
