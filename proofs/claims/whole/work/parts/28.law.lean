abbrev SXT : Type := Nat × (Nat → Int32)
theorem cn_RL_7 : CN RL 7 9 12 := CN.of RX9 TX9 tyX9 rfl wsg9 tyX9_ok (gw1 21 rfl rfl) (gw1 22 rfl rfl) (gw1 1 rfl rfl) (by decide +kernel)
theorem mI_X9_init : MI yX9_init cX9_init 2 0 := ⟨⟨gw1 25 rfl rfl, gw1 1 rfl rfl, ⟨by decide +kernel, by decide +kernel⟩, by decide +kernel, by decide⟩, gw1 24 rfl rfl, rfl⟩
theorem mli_RL_9 : ML RL 9 yX9_init := gw1 23 rfl rfl
theorem cn_RL_10 : CN RL 10 10 29 := CN.of RX10 TX10 tyX10 rfl wsg10 tyX10_ok (gw4 170 rfl rfl) (gw4 171 rfl rfl) (gw1 12 rfl rfl) (by decide +kernel)
theorem mI_X10_init : MI yX10_init cX10_init 1 0 := ⟨⟨gw4 174 rfl rfl, gw1 12 rfl rfl, ⟨by decide +kernel, by decide +kernel⟩, by decide +kernel, by decide⟩, gw4 173 rfl rfl, rfl⟩
theorem mli_RL_12 : ML RL 12 yX10_init := gw4 172 rfl rfl
def tL_law_0 : List (Nat × Instr × Nat) := [(0, .new 7, 3), (3, .dup, 1), (4, .invokespecial 9, 3), (7, .astore_n 1, 1), (8, .new 10, 3), (11, .dup, 1), (12, .invokespecial 12, 3), (15, .astore_n 2, 1), (16, .iconst 0, 1), (17, .istore_n 3, 1), (18, .iload_n 3, 1), (19, .aload_n 0, 1), (20, .arraylength, 1), (21, .bipush 6, 2), (23, .isub, 1), (24, .if_icmp .gt 1463, 3), (27, .aload_n 0, 1), (28, .iload_n 3, 1), (29, .iaload, 1), (30, .bipush 63, 2), (32, .iand, 1), (33, .tableswitch 1448 0 38 #[171, 204, 237, 270, 303, 336, 369, 412, 445, 478, 511, 574, 597, 650, 673, 696, 739, 772, 785, 828, 871, 904, 927, 970, 1003, 1056, 1079, 1122, 1145, 1188, 1231, 1294, 1317, 1340, 1353, 1366, 1389, 1402, 1425], 171), (204, .aload_n 1, 1), (205, .aload_n 0, 1), (206, .iload_n 3, 1), (207, .iconst 1, 1), (208, .iadd, 1), (209, .iaload, 1), (210, .aload_n 0, 1), (211, .iload_n 3, 1), (212, .iconst 2, 1), (213, .iadd, 1), (214, .iaload, 1), (215, .invokevirtual 13, 3), (218, .aload_n 2, 1), (219, .aload_n 0, 1), (220, .iload_n 3, 1), (221, .iconst 1, 1), (222, .iadd, 1), (223, .iaload, 1), (224, .aload_n 0, 1), (225, .iload_n 3, 1), (226, .iconst 2, 1), (227, .iadd, 1), (228, .iaload, 1), (229, .invokevirtual 17, 3), (232, .if_icmp .eq 1249, 3), (235, .iconst 0, 1), (236, .ireturn, 1), (237, .aload_n 1, 1), (238, .aload_n 0, 1), (239, .iload_n 3, 1), (240, .iconst 1, 1), (241, .iadd, 1), (242, .iaload, 1), (243, .aload_n 0, 1), (244, .iload_n 3, 1), (245, .iconst 2, 1), (246, .iadd, 1), (247, .iaload, 1), (248, .invokevirtual 18, 3), (251, .aload_n 2, 1), (252, .aload_n 0, 1), (253, .iload_n 3, 1), (254, .iconst 1, 1), (255, .iadd, 1), (256, .iaload, 1), (257, .aload_n 0, 1), (258, .iload_n 3, 1), (259, .iconst 2, 1), (260, .iadd, 1), (261, .iaload, 1), (262, .invokevirtual 21, 3), (265, .if_icmp .eq 1216, 3), (268, .iconst 0, 1), (269, .ireturn, 1), (270, .aload_n 1, 1), (271, .aload_n 0, 1), (272, .iload_n 3, 1), (273, .iconst 1, 1), (274, .iadd, 1), (275, .iaload, 1), (276, .aload_n 0, 1), (277, .iload_n 3, 1), (278, .iconst 2, 1), (279, .iadd, 1), (280, .iaload, 1), (281, .invokevirtual 22, 3), (284, .aload_n 2, 1), (285, .aload_n 0, 1), (286, .iload_n 3, 1), (287, .iconst 1, 1), (288, .iadd, 1), (289, .iaload, 1), (290, .aload_n 0, 1), (291, .iload_n 3, 1), (292, .iconst 2, 1), (293, .iadd, 1), (294, .iaload, 1), (295, .invokevirtual 25, 3)]
theorem tL_law_0_ok : ∀ q ∈ tL_law_0, decode cL_law q.1 = .ok (q.2.1, q.2.2) := by decide +kernel
def tL_law_1 : List (Nat × Instr × Nat) := [(298, .if_icmp .eq 1183, 3), (301, .iconst 0, 1), (302, .ireturn, 1), (303, .aload_n 1, 1), (304, .aload_n 0, 1), (305, .iload_n 3, 1), (306, .iconst 1, 1), (307, .iadd, 1), (308, .iaload, 1), (309, .aload_n 0, 1), (310, .iload_n 3, 1), (311, .iconst 2, 1), (312, .iadd, 1), (313, .iaload, 1), (314, .invokevirtual 26, 3), (317, .aload_n 2, 1), (318, .aload_n 0, 1), (319, .iload_n 3, 1), (320, .iconst 1, 1), (321, .iadd, 1), (322, .iaload, 1), (323, .aload_n 0, 1), (324, .iload_n 3, 1), (325, .iconst 2, 1), (326, .iadd, 1), (327, .iaload, 1), (328, .invokevirtual 29, 3), (331, .if_icmp .eq 1150, 3), (334, .iconst 0, 1), (335, .ireturn, 1), (336, .aload_n 1, 1), (337, .aload_n 0, 1), (338, .iload_n 3, 1), (339, .iconst 1, 1), (340, .iadd, 1), (341, .iaload, 1), (342, .aload_n 0, 1), (343, .iload_n 3, 1), (344, .iconst 2, 1), (345, .iadd, 1), (346, .iaload, 1), (347, .invokevirtual 30, 3), (350, .aload_n 2, 1), (351, .aload_n 0, 1), (352, .iload_n 3, 1), (353, .iconst 1, 1), (354, .iadd, 1), (355, .iaload, 1), (356, .aload_n 0, 1), (357, .iload_n 3, 1), (358, .iconst 2, 1), (359, .iadd, 1), (360, .iaload, 1), (361, .invokevirtual 33, 3), (364, .if_icmp .eq 1117, 3), (367, .iconst 0, 1), (368, .ireturn, 1), (369, .aload_n 1, 1), (370, .aload_n 0, 1), (371, .iload_n 3, 1), (372, .iconst 1, 1), (373, .iadd, 1), (374, .iaload, 1), (375, .aload_n 0, 1), (376, .iload_n 3, 1), (377, .iconst 2, 1), (378, .iadd, 1), (379, .iaload, 1), (380, .invokevirtual 34, 3), (383, .aload_n 2, 1), (384, .aload_n 0, 1), (385, .iload_n 3, 1), (386, .iconst 1, 1), (387, .iadd, 1), (388, .iaload, 1), (389, .aload_n 0, 1), (390, .iload_n 3, 1), (391, .iconst 2, 1), (392, .iadd, 1), (393, .iaload, 1), (394, .invokevirtual 37, 3), (397, .if_icmp .eq 1084, 3), (400, .iconst 0, 1), (401, .ireturn, 1), (402, .aload_n 1, 1), (403, .aload_n 0, 1), (404, .iload_n 3, 1), (405, .iconst 1, 1), (406, .iadd, 1), (407, .iaload, 1), (408, .aload_n 0, 1), (409, .iload_n 3, 1), (410, .iconst 2, 1), (411, .iadd, 1), (412, .iaload, 1), (413, .aload_n 0, 1), (414, .iload_n 3, 1), (415, .iconst 3, 1), (416, .iadd, 1), (417, .iaload, 1)]
theorem tL_law_1_ok : ∀ q ∈ tL_law_1, decode cL_law q.1 = .ok (q.2.1, q.2.2) := by decide +kernel
def tL_law_2 : List (Nat × Instr × Nat) := [(418, .invokevirtual 38, 3), (421, .aload_n 2, 1), (422, .aload_n 0, 1), (423, .iload_n 3, 1), (424, .iconst 1, 1), (425, .iadd, 1), (426, .iaload, 1), (427, .aload_n 0, 1), (428, .iload_n 3, 1), (429, .iconst 2, 1), (430, .iadd, 1), (431, .iaload, 1), (432, .aload_n 0, 1), (433, .iload_n 3, 1), (434, .iconst 3, 1), (435, .iadd, 1), (436, .iaload, 1), (437, .invokevirtual 42, 3), (440, .if_icmp .eq 1041, 3), (443, .iconst 0, 1), (444, .ireturn, 1), (445, .aload_n 1, 1), (446, .aload_n 0, 1), (447, .iload_n 3, 1), (448, .iconst 1, 1), (449, .iadd, 1), (450, .iaload, 1), (451, .aload_n 0, 1), (452, .iload_n 3, 1), (453, .iconst 2, 1), (454, .iadd, 1), (455, .iaload, 1), (456, .invokevirtual 43, 3), (459, .aload_n 2, 1), (460, .aload_n 0, 1), (461, .iload_n 3, 1), (462, .iconst 1, 1), (463, .iadd, 1), (464, .iaload, 1), (465, .aload_n 0, 1), (466, .iload_n 3, 1), (467, .iconst 2, 1), (468, .iadd, 1), (469, .iaload, 1), (470, .invokevirtual 46, 3), (473, .if_icmp .eq 1008, 3), (476, .iconst 0, 1), (477, .ireturn, 1), (478, .aload_n 1, 1), (479, .aload_n 0, 1), (480, .iload_n 3, 1), (481, .iconst 1, 1), (482, .iadd, 1), (483, .iaload, 1), (484, .aload_n 0, 1), (485, .iload_n 3, 1), (486, .iconst 2, 1), (487, .iadd, 1), (488, .iaload, 1), (489, .invokevirtual 47, 3), (492, .aload_n 2, 1), (493, .aload_n 0, 1), (494, .iload_n 3, 1), (495, .iconst 1, 1), (496, .iadd, 1), (497, .iaload, 1), (498, .aload_n 0, 1), (499, .iload_n 3, 1), (500, .iconst 2, 1), (501, .iadd, 1), (502, .iaload, 1), (503, .invokevirtual 50, 3), (506, .if_icmp .eq 975, 3), (509, .iconst 0, 1), (510, .ireturn, 1), (511, .aload_n 1, 1), (512, .aload_n 0, 1), (513, .iload_n 3, 1), (514, .iconst 1, 1), (515, .iadd, 1), (516, .iaload, 1), (517, .aload_n 0, 1), (518, .iload_n 3, 1), (519, .iconst 2, 1), (520, .iadd, 1), (521, .iaload, 1), (522, .invokevirtual 51, 3), (525, .aload_n 2, 1), (526, .aload_n 0, 1), (527, .iload_n 3, 1), (528, .iconst 1, 1), (529, .iadd, 1), (530, .iaload, 1), (531, .aload_n 0, 1), (532, .iload_n 3, 1), (533, .iconst 2, 1), (534, .iadd, 1), (535, .iaload, 1), (536, .invokevirtual 54, 3), (539, .if_icmp .eq 942, 3)]
theorem tL_law_2_ok : ∀ q ∈ tL_law_2, decode cL_law q.1 = .ok (q.2.1, q.2.2) := by decide +kernel
def tL_law_3 : List (Nat × Instr × Nat) := [(542, .iconst 0, 1), (543, .ireturn, 1), (544, .aload_n 1, 1), (545, .aload_n 0, 1), (546, .iload_n 3, 1), (547, .iconst 1, 1), (548, .iadd, 1), (549, .iaload, 1), (550, .i2l, 1), (551, .bipush 32, 2), (553, .lshl, 1), (554, .aload_n 0, 1), (555, .iload_n 3, 1), (556, .iconst 2, 1), (557, .iadd, 1), (558, .iaload, 1), (559, .i2l, 1), (560, .ldc2_w 55, 3), (563, .land, 1), (564, .lor, 1), (565, .aload_n 0, 1), (566, .iload_n 3, 1), (567, .iconst 3, 1), (568, .iadd, 1), (569, .iaload, 1), (570, .invokevirtual 57, 3), (573, .aload_n 2, 1), (574, .aload_n 0, 1), (575, .iload_n 3, 1), (576, .iconst 1, 1), (577, .iadd, 1), (578, .iaload, 1), (579, .i2l, 1), (580, .bipush 32, 2), (582, .lshl, 1), (583, .aload_n 0, 1), (584, .iload_n 3, 1), (585, .iconst 2, 1), (586, .iadd, 1), (587, .iaload, 1), (588, .i2l, 1), (589, .ldc2_w 55, 3), (592, .land, 1), (593, .lor, 1), (594, .aload_n 0, 1), (595, .iload_n 3, 1), (596, .iconst 3, 1), (597, .iadd, 1), (598, .iaload, 1), (599, .invokevirtual 61, 3), (602, .if_icmp .eq 879, 3), (605, .iconst 0, 1), (606, .ireturn, 1), (607, .aload_n 1, 1), (608, .aload_n 0, 1), (609, .iload_n 3, 1), (610, .iconst 1, 1), (611, .iadd, 1), (612, .iaload, 1), (613, .invokevirtual 62, 3), (616, .aload_n 2, 1), (617, .aload_n 0, 1), (618, .iload_n 3, 1), (619, .iconst 1, 1), (620, .iadd, 1), (621, .iaload, 1), (622, .invokevirtual 66, 3), (625, .if_icmp .eq 856, 3), (628, .iconst 0, 1), (629, .ireturn, 1), (630, .aload_n 1, 1), (631, .aload_n 0, 1), (632, .iload_n 3, 1), (633, .iconst 1, 1), (634, .iadd, 1), (635, .iaload, 1), (636, .aload_n 0, 1), (637, .iload_n 3, 1), (638, .iconst 2, 1), (639, .iadd, 1), (640, .iaload, 1), (641, .aload_n 0, 1), (642, .iload_n 3, 1), (643, .iconst 3, 1), (644, .iadd, 1), (645, .iaload, 1), (646, .aload_n 0, 1), (647, .iload_n 3, 1), (648, .iconst 4, 1), (649, .iadd, 1), (650, .iaload, 1), (651, .invokevirtual 67, 3), (654, .aload_n 2, 1), (655, .aload_n 0, 1), (656, .iload_n 3, 1), (657, .iconst 1, 1), (658, .iadd, 1), (659, .iaload, 1), (660, .aload_n 0, 1), (661, .iload_n 3, 1)]
theorem tL_law_3_ok : ∀ q ∈ tL_law_3, decode cL_law q.1 = .ok (q.2.1, q.2.2) := by decide +kernel
def tL_law_4 : List (Nat × Instr × Nat) := [(662, .iconst 2, 1), (663, .iadd, 1), (664, .iaload, 1), (665, .aload_n 0, 1), (666, .iload_n 3, 1), (667, .iconst 3, 1), (668, .iadd, 1), (669, .iaload, 1), (670, .aload_n 0, 1), (671, .iload_n 3, 1), (672, .iconst 4, 1), (673, .iadd, 1), (674, .iaload, 1), (675, .invokevirtual 71, 3), (678, .if_icmp .eq 803, 3), (681, .iconst 0, 1), (682, .ireturn, 1), (683, .aload_n 1, 1), (684, .aload_n 0, 1), (685, .iload_n 3, 1), (686, .iconst 1, 1), (687, .iadd, 1), (688, .iaload, 1), (689, .invokevirtual 72, 3), (692, .aload_n 2, 1), (693, .aload_n 0, 1), (694, .iload_n 3, 1), (695, .iconst 1, 1), (696, .iadd, 1), (697, .iaload, 1), (698, .invokevirtual 75, 3), (701, .if_icmp .eq 780, 3), (704, .iconst 0, 1), (705, .ireturn, 1), (706, .aload_n 1, 1), (707, .aload_n 0, 1), (708, .iload_n 3, 1), (709, .iconst 1, 1), (710, .iadd, 1), (711, .iaload, 1), (712, .invokevirtual 76, 3), (715, .aload_n 2, 1), (716, .aload_n 0, 1), (717, .iload_n 3, 1), (718, .iconst 1, 1), (719, .iadd, 1), (720, .iaload, 1), (721, .invokevirtual 79, 3), (724, .if_icmp .eq 757, 3), (727, .iconst 0, 1), (728, .ireturn, 1), (729, .aload_n 1, 1), (730, .aload_n 0, 1), (731, .iload_n 3, 1), (732, .iconst 1, 1), (733, .iadd, 1), (734, .iaload, 1), (735, .aload_n 0, 1), (736, .iload_n 3, 1), (737, .iconst 2, 1), (738, .iadd, 1), (739, .iaload, 1), (740, .aload_n 0, 1), (741, .iload_n 3, 1), (742, .iconst 3, 1), (743, .iadd, 1), (744, .iaload, 1), (745, .invokevirtual 80, 3), (748, .aload_n 2, 1), (749, .aload_n 0, 1), (750, .iload_n 3, 1), (751, .iconst 1, 1), (752, .iadd, 1), (753, .iaload, 1), (754, .aload_n 0, 1), (755, .iload_n 3, 1), (756, .iconst 2, 1), (757, .iadd, 1), (758, .iaload, 1), (759, .aload_n 0, 1), (760, .iload_n 3, 1), (761, .iconst 3, 1), (762, .iadd, 1), (763, .iaload, 1), (764, .invokevirtual 83, 3), (767, .if_icmp .eq 714, 3), (770, .iconst 0, 1), (771, .ireturn, 1), (772, .aload_n 1, 1), (773, .aload_n 0, 1), (774, .iload_n 3, 1), (775, .iconst 1, 1), (776, .iadd, 1), (777, .iaload, 1), (778, .aload_n 0, 1), (779, .iload_n 3, 1), (780, .iconst 2, 1), (781, .iadd, 1), (782, .iaload, 1), (783, .invokevirtual 84, 3)]
theorem tL_law_4_ok : ∀ q ∈ tL_law_4, decode cL_law q.1 = .ok (q.2.1, q.2.2) := by decide +kernel
def tL_law_5 : List (Nat × Instr × Nat) := [(786, .aload_n 2, 1), (787, .aload_n 0, 1), (788, .iload_n 3, 1), (789, .iconst 1, 1), (790, .iadd, 1), (791, .iaload, 1), (792, .aload_n 0, 1), (793, .iload_n 3, 1), (794, .iconst 2, 1), (795, .iadd, 1), (796, .iaload, 1), (797, .invokevirtual 87, 3), (800, .if_icmp .eq 681, 3), (803, .iconst 0, 1), (804, .ireturn, 1), (805, .aload_n 1, 1), (806, .invokevirtual 88, 3), (809, .aload_n 2, 1), (810, .invokevirtual 92, 3), (813, .if_icmp .eq 668, 3), (816, .iconst 0, 1), (817, .ireturn, 1), (818, .aload_n 1, 1), (819, .aload_n 0, 1), (820, .iload_n 3, 1), (821, .iconst 1, 1), (822, .iadd, 1), (823, .iaload, 1), (824, .aload_n 0, 1), (825, .iload_n 3, 1), (826, .iconst 2, 1), (827, .iadd, 1), (828, .iaload, 1), (829, .aload_n 0, 1), (830, .iload_n 3, 1), (831, .iconst 3, 1), (832, .iadd, 1), (833, .iaload, 1), (834, .invokevirtual 93, 3), (837, .aload_n 2, 1), (838, .aload_n 0, 1), (839, .iload_n 3, 1), (840, .iconst 1, 1), (841, .iadd, 1), (842, .iaload, 1), (843, .aload_n 0, 1), (844, .iload_n 3, 1), (845, .iconst 2, 1), (846, .iadd, 1), (847, .iaload, 1), (848, .aload_n 0, 1), (849, .iload_n 3, 1), (850, .iconst 3, 1), (851, .iadd, 1), (852, .iaload, 1), (853, .invokevirtual 96, 3), (856, .if_icmp .eq 625, 3), (859, .iconst 0, 1), (860, .ireturn, 1), (861, .aload_n 1, 1), (862, .aload_n 0, 1), (863, .iload_n 3, 1), (864, .iconst 1, 1), (865, .iadd, 1), (866, .iaload, 1), (867, .aload_n 0, 1), (868, .iload_n 3, 1), (869, .iconst 2, 1), (870, .iadd, 1), (871, .iaload, 1), (872, .aload_n 0, 1), (873, .iload_n 3, 1), (874, .iconst 3, 1), (875, .iadd, 1), (876, .iaload, 1), (877, .invokevirtual 97, 3), (880, .aload_n 2, 1), (881, .aload_n 0, 1), (882, .iload_n 3, 1), (883, .iconst 1, 1), (884, .iadd, 1), (885, .iaload, 1), (886, .aload_n 0, 1), (887, .iload_n 3, 1), (888, .iconst 2, 1), (889, .iadd, 1), (890, .iaload, 1), (891, .aload_n 0, 1), (892, .iload_n 3, 1), (893, .iconst 3, 1), (894, .iadd, 1), (895, .iaload, 1), (896, .invokevirtual 100, 3), (899, .if_icmp .eq 582, 3), (902, .iconst 0, 1), (903, .ireturn, 1), (904, .aload_n 1, 1), (905, .aload_n 0, 1), (906, .iload_n 3, 1), (907, .iconst 1, 1)]
theorem tL_law_5_ok : ∀ q ∈ tL_law_5, decode cL_law q.1 = .ok (q.2.1, q.2.2) := by decide +kernel
def tL_law_6 : List (Nat × Instr × Nat) := [(908, .iadd, 1), (909, .iaload, 1), (910, .aload_n 0, 1), (911, .iload_n 3, 1), (912, .iconst 2, 1), (913, .iadd, 1), (914, .iaload, 1), (915, .invokevirtual 101, 3), (918, .aload_n 2, 1), (919, .aload_n 0, 1), (920, .iload_n 3, 1), (921, .iconst 1, 1), (922, .iadd, 1), (923, .iaload, 1), (924, .aload_n 0, 1), (925, .iload_n 3, 1), (926, .iconst 2, 1), (927, .iadd, 1), (928, .iaload, 1), (929, .invokevirtual 104, 3), (932, .if_icmp .eq 549, 3), (935, .iconst 0, 1), (936, .ireturn, 1), (937, .aload_n 1, 1), (938, .aload_n 0, 1), (939, .iload_n 3, 1), (940, .iconst 1, 1), (941, .iadd, 1), (942, .iaload, 1), (943, .invokevirtual 105, 3), (946, .aload_n 2, 1), (947, .aload_n 0, 1), (948, .iload_n 3, 1), (949, .iconst 1, 1), (950, .iadd, 1), (951, .iaload, 1), (952, .invokevirtual 108, 3), (955, .if_icmp .eq 526, 3), (958, .iconst 0, 1), (959, .ireturn, 1), (960, .aload_n 1, 1), (961, .aload_n 0, 1), (962, .iload_n 3, 1), (963, .iconst 1, 1), (964, .iadd, 1), (965, .iaload, 1), (966, .aload_n 0, 1), (967, .iload_n 3, 1), (968, .iconst 2, 1), (969, .iadd, 1), (970, .iaload, 1), (971, .aload_n 0, 1), (972, .iload_n 3, 1), (973, .iconst 3, 1), (974, .iadd, 1), (975, .iaload, 1), (976, .invokevirtual 109, 3), (979, .aload_n 2, 1), (980, .aload_n 0, 1), (981, .iload_n 3, 1), (982, .iconst 1, 1), (983, .iadd, 1), (984, .iaload, 1), (985, .aload_n 0, 1), (986, .iload_n 3, 1), (987, .iconst 2, 1), (988, .iadd, 1), (989, .iaload, 1), (990, .aload_n 0, 1), (991, .iload_n 3, 1), (992, .iconst 3, 1), (993, .iadd, 1), (994, .iaload, 1), (995, .invokevirtual 112, 3), (998, .if_icmp .eq 483, 3), (1001, .iconst 0, 1), (1002, .ireturn, 1), (1003, .aload_n 1, 1), (1004, .aload_n 0, 1), (1005, .iload_n 3, 1), (1006, .iconst 1, 1), (1007, .iadd, 1), (1008, .iaload, 1), (1009, .aload_n 0, 1), (1010, .iload_n 3, 1), (1011, .iconst 2, 1), (1012, .iadd, 1), (1013, .iaload, 1), (1014, .invokevirtual 113, 3), (1017, .aload_n 2, 1), (1018, .aload_n 0, 1), (1019, .iload_n 3, 1), (1020, .iconst 1, 1), (1021, .iadd, 1), (1022, .iaload, 1), (1023, .aload_n 0, 1), (1024, .iload_n 3, 1), (1025, .iconst 2, 1), (1026, .iadd, 1), (1027, .iaload, 1)]
theorem tL_law_6_ok : ∀ q ∈ tL_law_6, decode cL_law q.1 = .ok (q.2.1, q.2.2) := by decide +kernel
def tL_law_7 : List (Nat × Instr × Nat) := [(1028, .invokevirtual 116, 3), (1031, .if_icmp .eq 450, 3), (1034, .iconst 0, 1), (1035, .ireturn, 1), (1036, .aload_n 1, 1), (1037, .aload_n 0, 1), (1038, .iload_n 3, 1), (1039, .iconst 1, 1), (1040, .iadd, 1), (1041, .iaload, 1), (1042, .aload_n 0, 1), (1043, .iload_n 3, 1), (1044, .iconst 2, 1), (1045, .iadd, 1), (1046, .iaload, 1), (1047, .aload_n 0, 1), (1048, .iload_n 3, 1), (1049, .iconst 3, 1), (1050, .iadd, 1), (1051, .iaload, 1), (1052, .aload_n 0, 1), (1053, .iload_n 3, 1), (1054, .iconst 4, 1), (1055, .iadd, 1), (1056, .iaload, 1), (1057, .invokevirtual 117, 3), (1060, .aload_n 2, 1), (1061, .aload_n 0, 1), (1062, .iload_n 3, 1), (1063, .iconst 1, 1), (1064, .iadd, 1), (1065, .iaload, 1), (1066, .aload_n 0, 1), (1067, .iload_n 3, 1), (1068, .iconst 2, 1), (1069, .iadd, 1), (1070, .iaload, 1), (1071, .aload_n 0, 1), (1072, .iload_n 3, 1), (1073, .iconst 3, 1), (1074, .iadd, 1), (1075, .iaload, 1), (1076, .aload_n 0, 1), (1077, .iload_n 3, 1), (1078, .iconst 4, 1), (1079, .iadd, 1), (1080, .iaload, 1), (1081, .invokevirtual 120, 3), (1084, .if_icmp .eq 397, 3), (1087, .iconst 0, 1), (1088, .ireturn, 1), (1089, .aload_n 1, 1), (1090, .aload_n 0, 1), (1091, .iload_n 3, 1), (1092, .iconst 1, 1), (1093, .iadd, 1), (1094, .iaload, 1), (1095, .invokevirtual 121, 3), (1098, .aload_n 2, 1), (1099, .aload_n 0, 1), (1100, .iload_n 3, 1), (1101, .iconst 1, 1), (1102, .iadd, 1), (1103, .iaload, 1), (1104, .invokevirtual 124, 3), (1107, .if_icmp .eq 374, 3), (1110, .iconst 0, 1), (1111, .ireturn, 1), (1112, .aload_n 1, 1), (1113, .aload_n 0, 1), (1114, .iload_n 3, 1), (1115, .iconst 1, 1), (1116, .iadd, 1), (1117, .iaload, 1), (1118, .aload_n 0, 1), (1119, .iload_n 3, 1), (1120, .iconst 2, 1), (1121, .iadd, 1), (1122, .iaload, 1), (1123, .aload_n 0, 1), (1124, .iload_n 3, 1), (1125, .iconst 3, 1), (1126, .iadd, 1), (1127, .iaload, 1), (1128, .invokevirtual 125, 3), (1131, .aload_n 2, 1), (1132, .aload_n 0, 1), (1133, .iload_n 3, 1), (1134, .iconst 1, 1), (1135, .iadd, 1), (1136, .iaload, 1), (1137, .aload_n 0, 1), (1138, .iload_n 3, 1), (1139, .iconst 2, 1), (1140, .iadd, 1), (1141, .iaload, 1), (1142, .aload_n 0, 1), (1143, .iload_n 3, 1), (1144, .iconst 3, 1), (1145, .iadd, 1)]
theorem tL_law_7_ok : ∀ q ∈ tL_law_7, decode cL_law q.1 = .ok (q.2.1, q.2.2) := by decide +kernel
def tL_law_8 : List (Nat × Instr × Nat) := [(1146, .iaload, 1), (1147, .invokevirtual 128, 3), (1150, .if_icmp .eq 331, 3), (1153, .iconst 0, 1), (1154, .ireturn, 1), (1155, .aload_n 1, 1), (1156, .aload_n 0, 1), (1157, .iload_n 3, 1), (1158, .iconst 1, 1), (1159, .iadd, 1), (1160, .iaload, 1), (1161, .invokevirtual 129, 3), (1164, .aload_n 2, 1), (1165, .aload_n 0, 1), (1166, .iload_n 3, 1), (1167, .iconst 1, 1), (1168, .iadd, 1), (1169, .iaload, 1), (1170, .invokevirtual 132, 3), (1173, .if_icmp .eq 308, 3), (1176, .iconst 0, 1), (1177, .ireturn, 1), (1178, .aload_n 1, 1), (1179, .aload_n 0, 1), (1180, .iload_n 3, 1), (1181, .iconst 1, 1), (1182, .iadd, 1), (1183, .iaload, 1), (1184, .aload_n 0, 1), (1185, .iload_n 3, 1), (1186, .iconst 2, 1), (1187, .iadd, 1), (1188, .iaload, 1), (1189, .aload_n 0, 1), (1190, .iload_n 3, 1), (1191, .iconst 3, 1), (1192, .iadd, 1), (1193, .iaload, 1), (1194, .invokevirtual 133, 3), (1197, .aload_n 2, 1), (1198, .aload_n 0, 1), (1199, .iload_n 3, 1), (1200, .iconst 1, 1), (1201, .iadd, 1), (1202, .iaload, 1), (1203, .aload_n 0, 1), (1204, .iload_n 3, 1), (1205, .iconst 2, 1), (1206, .iadd, 1), (1207, .iaload, 1), (1208, .aload_n 0, 1), (1209, .iload_n 3, 1), (1210, .iconst 3, 1), (1211, .iadd, 1), (1212, .iaload, 1), (1213, .invokevirtual 136, 3), (1216, .if_icmp .eq 265, 3), (1219, .iconst 0, 1), (1220, .ireturn, 1), (1221, .aload_n 1, 1), (1222, .aload_n 0, 1), (1223, .iload_n 3, 1), (1224, .iconst 1, 1), (1225, .iadd, 1), (1226, .iaload, 1), (1227, .aload_n 0, 1), (1228, .iload_n 3, 1), (1229, .iconst 2, 1), (1230, .iadd, 1), (1231, .iaload, 1), (1232, .aload_n 0, 1), (1233, .iload_n 3, 1), (1234, .iconst 3, 1), (1235, .iadd, 1), (1236, .iaload, 1), (1237, .invokevirtual 137, 3), (1240, .aload_n 2, 1), (1241, .aload_n 0, 1), (1242, .iload_n 3, 1), (1243, .iconst 1, 1), (1244, .iadd, 1), (1245, .iaload, 1), (1246, .aload_n 0, 1), (1247, .iload_n 3, 1), (1248, .iconst 2, 1), (1249, .iadd, 1), (1250, .iaload, 1), (1251, .aload_n 0, 1), (1252, .iload_n 3, 1), (1253, .iconst 3, 1), (1254, .iadd, 1), (1255, .iaload, 1), (1256, .invokevirtual 140, 3), (1259, .if_icmp .eq 222, 3), (1262, .iconst 0, 1), (1263, .ireturn, 1), (1264, .aload_n 1, 1), (1265, .aload_n 0, 1), (1266, .iload_n 3, 1), (1267, .iconst 1, 1)]
theorem tL_law_8_ok : ∀ q ∈ tL_law_8, decode cL_law q.1 = .ok (q.2.1, q.2.2) := by decide +kernel
def tL_law_9 : List (Nat × Instr × Nat) := [(1268, .iadd, 1), (1269, .iaload, 1), (1270, .aload_n 0, 1), (1271, .iload_n 3, 1), (1272, .iconst 2, 1), (1273, .iadd, 1), (1274, .iaload, 1), (1275, .aload_n 0, 1), (1276, .iload_n 3, 1), (1277, .iconst 3, 1), (1278, .iadd, 1), (1279, .iaload, 1), (1280, .aload_n 0, 1), (1281, .iload_n 3, 1), (1282, .iconst 4, 1), (1283, .iadd, 1), (1284, .iaload, 1), (1285, .aload_n 0, 1), (1286, .iload_n 3, 1), (1287, .iconst 5, 1), (1288, .iadd, 1), (1289, .iaload, 1), (1290, .invokevirtual 141, 3), (1293, .aload_n 2, 1), (1294, .aload_n 0, 1), (1295, .iload_n 3, 1), (1296, .iconst 1, 1), (1297, .iadd, 1), (1298, .iaload, 1), (1299, .aload_n 0, 1), (1300, .iload_n 3, 1), (1301, .iconst 2, 1), (1302, .iadd, 1), (1303, .iaload, 1), (1304, .aload_n 0, 1), (1305, .iload_n 3, 1), (1306, .iconst 3, 1), (1307, .iadd, 1), (1308, .iaload, 1), (1309, .aload_n 0, 1), (1310, .iload_n 3, 1), (1311, .iconst 4, 1), (1312, .iadd, 1), (1313, .iaload, 1), (1314, .aload_n 0, 1), (1315, .iload_n 3, 1), (1316, .iconst 5, 1), (1317, .iadd, 1), (1318, .iaload, 1), (1319, .invokevirtual 145, 3), (1322, .if_icmp .eq 159, 3), (1325, .iconst 0, 1), (1326, .ireturn, 1), (1327, .aload_n 1, 1), (1328, .aload_n 0, 1), (1329, .iload_n 3, 1), (1330, .iconst 1, 1), (1331, .iadd, 1), (1332, .iaload, 1), (1333, .invokevirtual 146, 3), (1336, .aload_n 2, 1), (1337, .aload_n 0, 1), (1338, .iload_n 3, 1), (1339, .iconst 1, 1), (1340, .iadd, 1), (1341, .iaload, 1), (1342, .invokevirtual 149, 3), (1345, .if_icmp .eq 136, 3), (1348, .iconst 0, 1), (1349, .ireturn, 1), (1350, .aload_n 1, 1), (1351, .aload_n 0, 1), (1352, .iload_n 3, 1), (1353, .iconst 1, 1), (1354, .iadd, 1), (1355, .iaload, 1), (1356, .invokevirtual 150, 3), (1359, .aload_n 2, 1), (1360, .aload_n 0, 1), (1361, .iload_n 3, 1), (1362, .iconst 1, 1), (1363, .iadd, 1), (1364, .iaload, 1), (1365, .invokevirtual 153, 3), (1368, .if_icmp .eq 113, 3), (1371, .iconst 0, 1), (1372, .ireturn, 1), (1373, .aload_n 1, 1), (1374, .invokevirtual 154, 3), (1377, .aload_n 2, 1), (1378, .invokevirtual 157, 3), (1381, .if_icmp .eq 100, 3), (1384, .iconst 0, 1), (1385, .ireturn, 1), (1386, .aload_n 1, 1), (1387, .invokevirtual 158, 3), (1390, .aload_n 2, 1), (1391, .invokevirtual 161, 3), (1394, .if_icmp .eq 87, 3), (1397, .iconst 0, 1)]
theorem tL_law_9_ok : ∀ q ∈ tL_law_9, decode cL_law q.1 = .ok (q.2.1, q.2.2) := by decide +kernel
def tL_law_10 : List (Nat × Instr × Nat) := [(1398, .ireturn, 1), (1399, .aload_n 1, 1), (1400, .aload_n 0, 1), (1401, .iload_n 3, 1), (1402, .iconst 1, 1), (1403, .iadd, 1), (1404, .iaload, 1), (1405, .invokevirtual 162, 3), (1408, .aload_n 2, 1), (1409, .aload_n 0, 1), (1410, .iload_n 3, 1), (1411, .iconst 1, 1), (1412, .iadd, 1), (1413, .iaload, 1), (1414, .invokevirtual 165, 3), (1417, .if_icmp .eq 64, 3), (1420, .iconst 0, 1), (1421, .ireturn, 1), (1422, .aload_n 1, 1), (1423, .invokevirtual 166, 3), (1426, .aload_n 2, 1), (1427, .invokevirtual 169, 3), (1430, .if_icmp .eq 51, 3), (1433, .iconst 0, 1), (1434, .ireturn, 1), (1435, .aload_n 1, 1), (1436, .aload_n 0, 1), (1437, .iload_n 3, 1), (1438, .iconst 1, 1), (1439, .iadd, 1), (1440, .iaload, 1), (1441, .invokevirtual 170, 3), (1444, .aload_n 2, 1), (1445, .aload_n 0, 1), (1446, .iload_n 3, 1), (1447, .iconst 1, 1), (1448, .iadd, 1), (1449, .iaload, 1), (1450, .invokevirtual 173, 3), (1453, .if_icmp .eq 28, 3), (1456, .iconst 0, 1), (1457, .ireturn, 1), (1458, .aload_n 1, 1), (1459, .aload_n 0, 1), (1460, .iload_n 3, 1), (1461, .iconst 1, 1), (1462, .iadd, 1), (1463, .iaload, 1), (1464, .invokevirtual 174, 3), (1467, .aload_n 2, 1), (1468, .aload_n 0, 1), (1469, .iload_n 3, 1), (1470, .iconst 1, 1), (1471, .iadd, 1), (1472, .iaload, 1), (1473, .invokevirtual 177, 3), (1476, .if_icmp .eq 5, 3), (1479, .iconst 0, 1), (1480, .ireturn, 1), (1481, .iinc 3 6, 3), (1484, .goto (-1466), 3), (1487, .iconst 1, 1), (1488, .ireturn, 1)]
theorem tL_law_10_ok : ∀ q ∈ tL_law_10, decode cL_law q.1 = .ok (q.2.1, q.2.2) := by decide +kernel
theorem pL_law_0 : At cL_law 0 (.new 7) 3 3 := ⟨tL_law_0_ok (0, .new 7, 3) (List.mem_of_getElem? (i := 0) rfl), rfl⟩
theorem pL_law_3 : At cL_law 3 (.dup) 1 4 := ⟨tL_law_0_ok (3, .dup, 1) (List.mem_of_getElem? (i := 1) rfl), rfl⟩
theorem pL_law_4 : At cL_law 4 (.invokespecial 9) 3 7 := ⟨tL_law_0_ok (4, .invokespecial 9, 3) (List.mem_of_getElem? (i := 2) rfl), rfl⟩
theorem pL_law_7 : At cL_law 7 (.astore_n 1) 1 8 := ⟨tL_law_0_ok (7, .astore_n 1, 1) (List.mem_of_getElem? (i := 3) rfl), rfl⟩
theorem pL_law_8 : At cL_law 8 (.new 10) 3 11 := ⟨tL_law_0_ok (8, .new 10, 3) (List.mem_of_getElem? (i := 4) rfl), rfl⟩
theorem pL_law_11 : At cL_law 11 (.dup) 1 12 := ⟨tL_law_0_ok (11, .dup, 1) (List.mem_of_getElem? (i := 5) rfl), rfl⟩
theorem pL_law_12 : At cL_law 12 (.invokespecial 12) 3 15 := ⟨tL_law_0_ok (12, .invokespecial 12, 3) (List.mem_of_getElem? (i := 6) rfl), rfl⟩
theorem pL_law_15 : At cL_law 15 (.astore_n 2) 1 16 := ⟨tL_law_0_ok (15, .astore_n 2, 1) (List.mem_of_getElem? (i := 7) rfl), rfl⟩
theorem pL_law_16 : At cL_law 16 (.iconst 0) 1 17 := ⟨tL_law_0_ok (16, .iconst 0, 1) (List.mem_of_getElem? (i := 8) rfl), rfl⟩
theorem pL_law_17 : At cL_law 17 (.istore_n 3) 1 18 := ⟨tL_law_0_ok (17, .istore_n 3, 1) (List.mem_of_getElem? (i := 9) rfl), rfl⟩
theorem pL_law_18 : At cL_law 18 (.iload_n 3) 1 19 := ⟨tL_law_0_ok (18, .iload_n 3, 1) (List.mem_of_getElem? (i := 10) rfl), rfl⟩
theorem pL_law_19 : At cL_law 19 (.aload_n 0) 1 20 := ⟨tL_law_0_ok (19, .aload_n 0, 1) (List.mem_of_getElem? (i := 11) rfl), rfl⟩
theorem pL_law_20 : At cL_law 20 (.arraylength) 1 21 := ⟨tL_law_0_ok (20, .arraylength, 1) (List.mem_of_getElem? (i := 12) rfl), rfl⟩
theorem pL_law_21 : At cL_law 21 (.bipush 6) 2 23 := ⟨tL_law_0_ok (21, .bipush 6, 2) (List.mem_of_getElem? (i := 13) rfl), rfl⟩
theorem pL_law_23 : At cL_law 23 (.isub) 1 24 := ⟨tL_law_0_ok (23, .isub, 1) (List.mem_of_getElem? (i := 14) rfl), rfl⟩
theorem pL_law_24 : Bt cL_law 24 (.if_icmp .gt 1463) 1463 1487 27 := ⟨tL_law_0_ok (24, .if_icmp .gt 1463, 3) (List.mem_of_getElem? (i := 15) rfl), by decide, rfl⟩
theorem pL_law_27 : At cL_law 27 (.aload_n 0) 1 28 := ⟨tL_law_0_ok (27, .aload_n 0, 1) (List.mem_of_getElem? (i := 16) rfl), rfl⟩
theorem pL_law_28 : At cL_law 28 (.iload_n 3) 1 29 := ⟨tL_law_0_ok (28, .iload_n 3, 1) (List.mem_of_getElem? (i := 17) rfl), rfl⟩
theorem pL_law_29 : At cL_law 29 (.iaload) 1 30 := ⟨tL_law_0_ok (29, .iaload, 1) (List.mem_of_getElem? (i := 18) rfl), rfl⟩
theorem pL_law_30 : At cL_law 30 (.bipush 63) 2 32 := ⟨tL_law_0_ok (30, .bipush 63, 2) (List.mem_of_getElem? (i := 19) rfl), rfl⟩
theorem pL_law_32 : At cL_law 32 (.iand) 1 33 := ⟨tL_law_0_ok (32, .iand, 1) (List.mem_of_getElem? (i := 20) rfl), rfl⟩
theorem pL_law_33 : decode cL_law 33 = .ok (.tableswitch 1448 0 38 #[171, 204, 237, 270, 303, 336, 369, 412, 445, 478, 511, 574, 597, 650, 673, 696, 739, 772, 785, 828, 871, 904, 927, 970, 1003, 1056, 1079, 1122, 1145, 1188, 1231, 1294, 1317, 1340, 1353, 1366, 1389, 1402, 1425], 171) := tL_law_0_ok (33, .tableswitch 1448 0 38 #[171, 204, 237, 270, 303, 336, 369, 412, 445, 478, 511, 574, 597, 650, 673, 696, 739, 772, 785, 828, 871, 904, 927, 970, 1003, 1056, 1079, 1122, 1145, 1188, 1231, 1294, 1317, 1340, 1353, 1366, 1389, 1402, 1425], 171) (List.mem_of_getElem? (i := 21) rfl)
theorem pL_law_204 : At cL_law 204 (.aload_n 1) 1 205 := ⟨tL_law_0_ok (204, .aload_n 1, 1) (List.mem_of_getElem? (i := 22) rfl), rfl⟩
theorem pL_law_205 : At cL_law 205 (.aload_n 0) 1 206 := ⟨tL_law_0_ok (205, .aload_n 0, 1) (List.mem_of_getElem? (i := 23) rfl), rfl⟩
theorem pL_law_206 : At cL_law 206 (.iload_n 3) 1 207 := ⟨tL_law_0_ok (206, .iload_n 3, 1) (List.mem_of_getElem? (i := 24) rfl), rfl⟩
theorem pL_law_207 : At cL_law 207 (.iconst 1) 1 208 := ⟨tL_law_0_ok (207, .iconst 1, 1) (List.mem_of_getElem? (i := 25) rfl), rfl⟩
theorem pL_law_208 : At cL_law 208 (.iadd) 1 209 := ⟨tL_law_0_ok (208, .iadd, 1) (List.mem_of_getElem? (i := 26) rfl), rfl⟩
theorem pL_law_209 : At cL_law 209 (.iaload) 1 210 := ⟨tL_law_0_ok (209, .iaload, 1) (List.mem_of_getElem? (i := 27) rfl), rfl⟩
theorem pL_law_210 : At cL_law 210 (.aload_n 0) 1 211 := ⟨tL_law_0_ok (210, .aload_n 0, 1) (List.mem_of_getElem? (i := 28) rfl), rfl⟩
theorem pL_law_211 : At cL_law 211 (.iload_n 3) 1 212 := ⟨tL_law_0_ok (211, .iload_n 3, 1) (List.mem_of_getElem? (i := 29) rfl), rfl⟩
theorem pL_law_212 : At cL_law 212 (.iconst 2) 1 213 := ⟨tL_law_0_ok (212, .iconst 2, 1) (List.mem_of_getElem? (i := 30) rfl), rfl⟩
theorem pL_law_213 : At cL_law 213 (.iadd) 1 214 := ⟨tL_law_0_ok (213, .iadd, 1) (List.mem_of_getElem? (i := 31) rfl), rfl⟩
theorem pL_law_214 : At cL_law 214 (.iaload) 1 215 := ⟨tL_law_0_ok (214, .iaload, 1) (List.mem_of_getElem? (i := 32) rfl), rfl⟩
theorem pL_law_215 : At cL_law 215 (.invokevirtual 13) 3 218 := ⟨tL_law_0_ok (215, .invokevirtual 13, 3) (List.mem_of_getElem? (i := 33) rfl), rfl⟩
theorem pL_law_218 : At cL_law 218 (.aload_n 2) 1 219 := ⟨tL_law_0_ok (218, .aload_n 2, 1) (List.mem_of_getElem? (i := 34) rfl), rfl⟩
theorem pL_law_219 : At cL_law 219 (.aload_n 0) 1 220 := ⟨tL_law_0_ok (219, .aload_n 0, 1) (List.mem_of_getElem? (i := 35) rfl), rfl⟩
theorem pL_law_220 : At cL_law 220 (.iload_n 3) 1 221 := ⟨tL_law_0_ok (220, .iload_n 3, 1) (List.mem_of_getElem? (i := 36) rfl), rfl⟩
theorem pL_law_221 : At cL_law 221 (.iconst 1) 1 222 := ⟨tL_law_0_ok (221, .iconst 1, 1) (List.mem_of_getElem? (i := 37) rfl), rfl⟩
theorem pL_law_222 : At cL_law 222 (.iadd) 1 223 := ⟨tL_law_0_ok (222, .iadd, 1) (List.mem_of_getElem? (i := 38) rfl), rfl⟩
theorem pL_law_223 : At cL_law 223 (.iaload) 1 224 := ⟨tL_law_0_ok (223, .iaload, 1) (List.mem_of_getElem? (i := 39) rfl), rfl⟩
theorem pL_law_224 : At cL_law 224 (.aload_n 0) 1 225 := ⟨tL_law_0_ok (224, .aload_n 0, 1) (List.mem_of_getElem? (i := 40) rfl), rfl⟩
theorem pL_law_225 : At cL_law 225 (.iload_n 3) 1 226 := ⟨tL_law_0_ok (225, .iload_n 3, 1) (List.mem_of_getElem? (i := 41) rfl), rfl⟩
theorem pL_law_226 : At cL_law 226 (.iconst 2) 1 227 := ⟨tL_law_0_ok (226, .iconst 2, 1) (List.mem_of_getElem? (i := 42) rfl), rfl⟩
theorem pL_law_227 : At cL_law 227 (.iadd) 1 228 := ⟨tL_law_0_ok (227, .iadd, 1) (List.mem_of_getElem? (i := 43) rfl), rfl⟩
theorem pL_law_228 : At cL_law 228 (.iaload) 1 229 := ⟨tL_law_0_ok (228, .iaload, 1) (List.mem_of_getElem? (i := 44) rfl), rfl⟩
theorem pL_law_229 : At cL_law 229 (.invokevirtual 17) 3 232 := ⟨tL_law_0_ok (229, .invokevirtual 17, 3) (List.mem_of_getElem? (i := 45) rfl), rfl⟩
theorem pL_law_232 : Bt cL_law 232 (.if_icmp .eq 1249) 1249 1481 235 := ⟨tL_law_0_ok (232, .if_icmp .eq 1249, 3) (List.mem_of_getElem? (i := 46) rfl), by decide, rfl⟩
theorem pL_law_235 : At cL_law 235 (.iconst 0) 1 236 := ⟨tL_law_0_ok (235, .iconst 0, 1) (List.mem_of_getElem? (i := 47) rfl), rfl⟩
theorem pL_law_236 : At cL_law 236 (.ireturn) 1 237 := ⟨tL_law_0_ok (236, .ireturn, 1) (List.mem_of_getElem? (i := 48) rfl), rfl⟩
theorem pL_law_237 : At cL_law 237 (.aload_n 1) 1 238 := ⟨tL_law_0_ok (237, .aload_n 1, 1) (List.mem_of_getElem? (i := 49) rfl), rfl⟩
theorem pL_law_238 : At cL_law 238 (.aload_n 0) 1 239 := ⟨tL_law_0_ok (238, .aload_n 0, 1) (List.mem_of_getElem? (i := 50) rfl), rfl⟩
theorem pL_law_239 : At cL_law 239 (.iload_n 3) 1 240 := ⟨tL_law_0_ok (239, .iload_n 3, 1) (List.mem_of_getElem? (i := 51) rfl), rfl⟩
theorem pL_law_240 : At cL_law 240 (.iconst 1) 1 241 := ⟨tL_law_0_ok (240, .iconst 1, 1) (List.mem_of_getElem? (i := 52) rfl), rfl⟩
theorem pL_law_241 : At cL_law 241 (.iadd) 1 242 := ⟨tL_law_0_ok (241, .iadd, 1) (List.mem_of_getElem? (i := 53) rfl), rfl⟩
theorem pL_law_242 : At cL_law 242 (.iaload) 1 243 := ⟨tL_law_0_ok (242, .iaload, 1) (List.mem_of_getElem? (i := 54) rfl), rfl⟩
theorem pL_law_243 : At cL_law 243 (.aload_n 0) 1 244 := ⟨tL_law_0_ok (243, .aload_n 0, 1) (List.mem_of_getElem? (i := 55) rfl), rfl⟩
theorem pL_law_244 : At cL_law 244 (.iload_n 3) 1 245 := ⟨tL_law_0_ok (244, .iload_n 3, 1) (List.mem_of_getElem? (i := 56) rfl), rfl⟩
theorem pL_law_245 : At cL_law 245 (.iconst 2) 1 246 := ⟨tL_law_0_ok (245, .iconst 2, 1) (List.mem_of_getElem? (i := 57) rfl), rfl⟩
theorem pL_law_246 : At cL_law 246 (.iadd) 1 247 := ⟨tL_law_0_ok (246, .iadd, 1) (List.mem_of_getElem? (i := 58) rfl), rfl⟩
theorem pL_law_247 : At cL_law 247 (.iaload) 1 248 := ⟨tL_law_0_ok (247, .iaload, 1) (List.mem_of_getElem? (i := 59) rfl), rfl⟩
theorem pL_law_248 : At cL_law 248 (.invokevirtual 18) 3 251 := ⟨tL_law_0_ok (248, .invokevirtual 18, 3) (List.mem_of_getElem? (i := 60) rfl), rfl⟩
theorem pL_law_251 : At cL_law 251 (.aload_n 2) 1 252 := ⟨tL_law_0_ok (251, .aload_n 2, 1) (List.mem_of_getElem? (i := 61) rfl), rfl⟩
theorem pL_law_252 : At cL_law 252 (.aload_n 0) 1 253 := ⟨tL_law_0_ok (252, .aload_n 0, 1) (List.mem_of_getElem? (i := 62) rfl), rfl⟩
theorem pL_law_253 : At cL_law 253 (.iload_n 3) 1 254 := ⟨tL_law_0_ok (253, .iload_n 3, 1) (List.mem_of_getElem? (i := 63) rfl), rfl⟩
theorem pL_law_254 : At cL_law 254 (.iconst 1) 1 255 := ⟨tL_law_0_ok (254, .iconst 1, 1) (List.mem_of_getElem? (i := 64) rfl), rfl⟩
theorem pL_law_255 : At cL_law 255 (.iadd) 1 256 := ⟨tL_law_0_ok (255, .iadd, 1) (List.mem_of_getElem? (i := 65) rfl), rfl⟩
theorem pL_law_256 : At cL_law 256 (.iaload) 1 257 := ⟨tL_law_0_ok (256, .iaload, 1) (List.mem_of_getElem? (i := 66) rfl), rfl⟩
theorem pL_law_257 : At cL_law 257 (.aload_n 0) 1 258 := ⟨tL_law_0_ok (257, .aload_n 0, 1) (List.mem_of_getElem? (i := 67) rfl), rfl⟩
theorem pL_law_258 : At cL_law 258 (.iload_n 3) 1 259 := ⟨tL_law_0_ok (258, .iload_n 3, 1) (List.mem_of_getElem? (i := 68) rfl), rfl⟩
theorem pL_law_259 : At cL_law 259 (.iconst 2) 1 260 := ⟨tL_law_0_ok (259, .iconst 2, 1) (List.mem_of_getElem? (i := 69) rfl), rfl⟩
theorem pL_law_260 : At cL_law 260 (.iadd) 1 261 := ⟨tL_law_0_ok (260, .iadd, 1) (List.mem_of_getElem? (i := 70) rfl), rfl⟩
theorem pL_law_261 : At cL_law 261 (.iaload) 1 262 := ⟨tL_law_0_ok (261, .iaload, 1) (List.mem_of_getElem? (i := 71) rfl), rfl⟩
theorem pL_law_262 : At cL_law 262 (.invokevirtual 21) 3 265 := ⟨tL_law_0_ok (262, .invokevirtual 21, 3) (List.mem_of_getElem? (i := 72) rfl), rfl⟩
theorem pL_law_265 : Bt cL_law 265 (.if_icmp .eq 1216) 1216 1481 268 := ⟨tL_law_0_ok (265, .if_icmp .eq 1216, 3) (List.mem_of_getElem? (i := 73) rfl), by decide, rfl⟩
theorem pL_law_268 : At cL_law 268 (.iconst 0) 1 269 := ⟨tL_law_0_ok (268, .iconst 0, 1) (List.mem_of_getElem? (i := 74) rfl), rfl⟩
theorem pL_law_269 : At cL_law 269 (.ireturn) 1 270 := ⟨tL_law_0_ok (269, .ireturn, 1) (List.mem_of_getElem? (i := 75) rfl), rfl⟩
theorem pL_law_270 : At cL_law 270 (.aload_n 1) 1 271 := ⟨tL_law_0_ok (270, .aload_n 1, 1) (List.mem_of_getElem? (i := 76) rfl), rfl⟩
theorem pL_law_271 : At cL_law 271 (.aload_n 0) 1 272 := ⟨tL_law_0_ok (271, .aload_n 0, 1) (List.mem_of_getElem? (i := 77) rfl), rfl⟩
theorem pL_law_272 : At cL_law 272 (.iload_n 3) 1 273 := ⟨tL_law_0_ok (272, .iload_n 3, 1) (List.mem_of_getElem? (i := 78) rfl), rfl⟩
theorem pL_law_273 : At cL_law 273 (.iconst 1) 1 274 := ⟨tL_law_0_ok (273, .iconst 1, 1) (List.mem_of_getElem? (i := 79) rfl), rfl⟩
theorem pL_law_274 : At cL_law 274 (.iadd) 1 275 := ⟨tL_law_0_ok (274, .iadd, 1) (List.mem_of_getElem? (i := 80) rfl), rfl⟩
theorem pL_law_275 : At cL_law 275 (.iaload) 1 276 := ⟨tL_law_0_ok (275, .iaload, 1) (List.mem_of_getElem? (i := 81) rfl), rfl⟩
theorem pL_law_276 : At cL_law 276 (.aload_n 0) 1 277 := ⟨tL_law_0_ok (276, .aload_n 0, 1) (List.mem_of_getElem? (i := 82) rfl), rfl⟩
theorem pL_law_277 : At cL_law 277 (.iload_n 3) 1 278 := ⟨tL_law_0_ok (277, .iload_n 3, 1) (List.mem_of_getElem? (i := 83) rfl), rfl⟩
theorem pL_law_278 : At cL_law 278 (.iconst 2) 1 279 := ⟨tL_law_0_ok (278, .iconst 2, 1) (List.mem_of_getElem? (i := 84) rfl), rfl⟩
theorem pL_law_279 : At cL_law 279 (.iadd) 1 280 := ⟨tL_law_0_ok (279, .iadd, 1) (List.mem_of_getElem? (i := 85) rfl), rfl⟩
theorem pL_law_280 : At cL_law 280 (.iaload) 1 281 := ⟨tL_law_0_ok (280, .iaload, 1) (List.mem_of_getElem? (i := 86) rfl), rfl⟩
theorem pL_law_281 : At cL_law 281 (.invokevirtual 22) 3 284 := ⟨tL_law_0_ok (281, .invokevirtual 22, 3) (List.mem_of_getElem? (i := 87) rfl), rfl⟩
theorem pL_law_284 : At cL_law 284 (.aload_n 2) 1 285 := ⟨tL_law_0_ok (284, .aload_n 2, 1) (List.mem_of_getElem? (i := 88) rfl), rfl⟩
theorem pL_law_285 : At cL_law 285 (.aload_n 0) 1 286 := ⟨tL_law_0_ok (285, .aload_n 0, 1) (List.mem_of_getElem? (i := 89) rfl), rfl⟩
theorem pL_law_286 : At cL_law 286 (.iload_n 3) 1 287 := ⟨tL_law_0_ok (286, .iload_n 3, 1) (List.mem_of_getElem? (i := 90) rfl), rfl⟩
theorem pL_law_287 : At cL_law 287 (.iconst 1) 1 288 := ⟨tL_law_0_ok (287, .iconst 1, 1) (List.mem_of_getElem? (i := 91) rfl), rfl⟩
theorem pL_law_288 : At cL_law 288 (.iadd) 1 289 := ⟨tL_law_0_ok (288, .iadd, 1) (List.mem_of_getElem? (i := 92) rfl), rfl⟩
theorem pL_law_289 : At cL_law 289 (.iaload) 1 290 := ⟨tL_law_0_ok (289, .iaload, 1) (List.mem_of_getElem? (i := 93) rfl), rfl⟩
theorem pL_law_290 : At cL_law 290 (.aload_n 0) 1 291 := ⟨tL_law_0_ok (290, .aload_n 0, 1) (List.mem_of_getElem? (i := 94) rfl), rfl⟩
theorem pL_law_291 : At cL_law 291 (.iload_n 3) 1 292 := ⟨tL_law_0_ok (291, .iload_n 3, 1) (List.mem_of_getElem? (i := 95) rfl), rfl⟩
theorem pL_law_292 : At cL_law 292 (.iconst 2) 1 293 := ⟨tL_law_0_ok (292, .iconst 2, 1) (List.mem_of_getElem? (i := 96) rfl), rfl⟩
theorem pL_law_293 : At cL_law 293 (.iadd) 1 294 := ⟨tL_law_0_ok (293, .iadd, 1) (List.mem_of_getElem? (i := 97) rfl), rfl⟩
theorem pL_law_294 : At cL_law 294 (.iaload) 1 295 := ⟨tL_law_0_ok (294, .iaload, 1) (List.mem_of_getElem? (i := 98) rfl), rfl⟩
theorem pL_law_295 : At cL_law 295 (.invokevirtual 25) 3 298 := ⟨tL_law_0_ok (295, .invokevirtual 25, 3) (List.mem_of_getElem? (i := 99) rfl), rfl⟩
theorem pL_law_298 : Bt cL_law 298 (.if_icmp .eq 1183) 1183 1481 301 := ⟨tL_law_1_ok (298, .if_icmp .eq 1183, 3) (List.mem_of_getElem? (i := 0) rfl), by decide, rfl⟩
theorem pL_law_301 : At cL_law 301 (.iconst 0) 1 302 := ⟨tL_law_1_ok (301, .iconst 0, 1) (List.mem_of_getElem? (i := 1) rfl), rfl⟩
theorem pL_law_302 : At cL_law 302 (.ireturn) 1 303 := ⟨tL_law_1_ok (302, .ireturn, 1) (List.mem_of_getElem? (i := 2) rfl), rfl⟩
theorem pL_law_303 : At cL_law 303 (.aload_n 1) 1 304 := ⟨tL_law_1_ok (303, .aload_n 1, 1) (List.mem_of_getElem? (i := 3) rfl), rfl⟩
theorem pL_law_304 : At cL_law 304 (.aload_n 0) 1 305 := ⟨tL_law_1_ok (304, .aload_n 0, 1) (List.mem_of_getElem? (i := 4) rfl), rfl⟩
theorem pL_law_305 : At cL_law 305 (.iload_n 3) 1 306 := ⟨tL_law_1_ok (305, .iload_n 3, 1) (List.mem_of_getElem? (i := 5) rfl), rfl⟩
theorem pL_law_306 : At cL_law 306 (.iconst 1) 1 307 := ⟨tL_law_1_ok (306, .iconst 1, 1) (List.mem_of_getElem? (i := 6) rfl), rfl⟩
theorem pL_law_307 : At cL_law 307 (.iadd) 1 308 := ⟨tL_law_1_ok (307, .iadd, 1) (List.mem_of_getElem? (i := 7) rfl), rfl⟩
theorem pL_law_308 : At cL_law 308 (.iaload) 1 309 := ⟨tL_law_1_ok (308, .iaload, 1) (List.mem_of_getElem? (i := 8) rfl), rfl⟩
theorem pL_law_309 : At cL_law 309 (.aload_n 0) 1 310 := ⟨tL_law_1_ok (309, .aload_n 0, 1) (List.mem_of_getElem? (i := 9) rfl), rfl⟩
theorem pL_law_310 : At cL_law 310 (.iload_n 3) 1 311 := ⟨tL_law_1_ok (310, .iload_n 3, 1) (List.mem_of_getElem? (i := 10) rfl), rfl⟩
theorem pL_law_311 : At cL_law 311 (.iconst 2) 1 312 := ⟨tL_law_1_ok (311, .iconst 2, 1) (List.mem_of_getElem? (i := 11) rfl), rfl⟩
theorem pL_law_312 : At cL_law 312 (.iadd) 1 313 := ⟨tL_law_1_ok (312, .iadd, 1) (List.mem_of_getElem? (i := 12) rfl), rfl⟩
theorem pL_law_313 : At cL_law 313 (.iaload) 1 314 := ⟨tL_law_1_ok (313, .iaload, 1) (List.mem_of_getElem? (i := 13) rfl), rfl⟩
theorem pL_law_314 : At cL_law 314 (.invokevirtual 26) 3 317 := ⟨tL_law_1_ok (314, .invokevirtual 26, 3) (List.mem_of_getElem? (i := 14) rfl), rfl⟩
theorem pL_law_317 : At cL_law 317 (.aload_n 2) 1 318 := ⟨tL_law_1_ok (317, .aload_n 2, 1) (List.mem_of_getElem? (i := 15) rfl), rfl⟩
theorem pL_law_318 : At cL_law 318 (.aload_n 0) 1 319 := ⟨tL_law_1_ok (318, .aload_n 0, 1) (List.mem_of_getElem? (i := 16) rfl), rfl⟩
theorem pL_law_319 : At cL_law 319 (.iload_n 3) 1 320 := ⟨tL_law_1_ok (319, .iload_n 3, 1) (List.mem_of_getElem? (i := 17) rfl), rfl⟩
theorem pL_law_320 : At cL_law 320 (.iconst 1) 1 321 := ⟨tL_law_1_ok (320, .iconst 1, 1) (List.mem_of_getElem? (i := 18) rfl), rfl⟩
theorem pL_law_321 : At cL_law 321 (.iadd) 1 322 := ⟨tL_law_1_ok (321, .iadd, 1) (List.mem_of_getElem? (i := 19) rfl), rfl⟩
theorem pL_law_322 : At cL_law 322 (.iaload) 1 323 := ⟨tL_law_1_ok (322, .iaload, 1) (List.mem_of_getElem? (i := 20) rfl), rfl⟩
theorem pL_law_323 : At cL_law 323 (.aload_n 0) 1 324 := ⟨tL_law_1_ok (323, .aload_n 0, 1) (List.mem_of_getElem? (i := 21) rfl), rfl⟩
theorem pL_law_324 : At cL_law 324 (.iload_n 3) 1 325 := ⟨tL_law_1_ok (324, .iload_n 3, 1) (List.mem_of_getElem? (i := 22) rfl), rfl⟩
theorem pL_law_325 : At cL_law 325 (.iconst 2) 1 326 := ⟨tL_law_1_ok (325, .iconst 2, 1) (List.mem_of_getElem? (i := 23) rfl), rfl⟩
theorem pL_law_326 : At cL_law 326 (.iadd) 1 327 := ⟨tL_law_1_ok (326, .iadd, 1) (List.mem_of_getElem? (i := 24) rfl), rfl⟩
theorem pL_law_327 : At cL_law 327 (.iaload) 1 328 := ⟨tL_law_1_ok (327, .iaload, 1) (List.mem_of_getElem? (i := 25) rfl), rfl⟩
theorem pL_law_328 : At cL_law 328 (.invokevirtual 29) 3 331 := ⟨tL_law_1_ok (328, .invokevirtual 29, 3) (List.mem_of_getElem? (i := 26) rfl), rfl⟩
theorem pL_law_331 : Bt cL_law 331 (.if_icmp .eq 1150) 1150 1481 334 := ⟨tL_law_1_ok (331, .if_icmp .eq 1150, 3) (List.mem_of_getElem? (i := 27) rfl), by decide, rfl⟩
theorem pL_law_334 : At cL_law 334 (.iconst 0) 1 335 := ⟨tL_law_1_ok (334, .iconst 0, 1) (List.mem_of_getElem? (i := 28) rfl), rfl⟩
theorem pL_law_335 : At cL_law 335 (.ireturn) 1 336 := ⟨tL_law_1_ok (335, .ireturn, 1) (List.mem_of_getElem? (i := 29) rfl), rfl⟩
theorem pL_law_336 : At cL_law 336 (.aload_n 1) 1 337 := ⟨tL_law_1_ok (336, .aload_n 1, 1) (List.mem_of_getElem? (i := 30) rfl), rfl⟩
theorem pL_law_337 : At cL_law 337 (.aload_n 0) 1 338 := ⟨tL_law_1_ok (337, .aload_n 0, 1) (List.mem_of_getElem? (i := 31) rfl), rfl⟩
theorem pL_law_338 : At cL_law 338 (.iload_n 3) 1 339 := ⟨tL_law_1_ok (338, .iload_n 3, 1) (List.mem_of_getElem? (i := 32) rfl), rfl⟩
theorem pL_law_339 : At cL_law 339 (.iconst 1) 1 340 := ⟨tL_law_1_ok (339, .iconst 1, 1) (List.mem_of_getElem? (i := 33) rfl), rfl⟩
theorem pL_law_340 : At cL_law 340 (.iadd) 1 341 := ⟨tL_law_1_ok (340, .iadd, 1) (List.mem_of_getElem? (i := 34) rfl), rfl⟩
theorem pL_law_341 : At cL_law 341 (.iaload) 1 342 := ⟨tL_law_1_ok (341, .iaload, 1) (List.mem_of_getElem? (i := 35) rfl), rfl⟩
theorem pL_law_342 : At cL_law 342 (.aload_n 0) 1 343 := ⟨tL_law_1_ok (342, .aload_n 0, 1) (List.mem_of_getElem? (i := 36) rfl), rfl⟩
theorem pL_law_343 : At cL_law 343 (.iload_n 3) 1 344 := ⟨tL_law_1_ok (343, .iload_n 3, 1) (List.mem_of_getElem? (i := 37) rfl), rfl⟩
theorem pL_law_344 : At cL_law 344 (.iconst 2) 1 345 := ⟨tL_law_1_ok (344, .iconst 2, 1) (List.mem_of_getElem? (i := 38) rfl), rfl⟩
theorem pL_law_345 : At cL_law 345 (.iadd) 1 346 := ⟨tL_law_1_ok (345, .iadd, 1) (List.mem_of_getElem? (i := 39) rfl), rfl⟩
theorem pL_law_346 : At cL_law 346 (.iaload) 1 347 := ⟨tL_law_1_ok (346, .iaload, 1) (List.mem_of_getElem? (i := 40) rfl), rfl⟩
theorem pL_law_347 : At cL_law 347 (.invokevirtual 30) 3 350 := ⟨tL_law_1_ok (347, .invokevirtual 30, 3) (List.mem_of_getElem? (i := 41) rfl), rfl⟩
theorem pL_law_350 : At cL_law 350 (.aload_n 2) 1 351 := ⟨tL_law_1_ok (350, .aload_n 2, 1) (List.mem_of_getElem? (i := 42) rfl), rfl⟩
theorem pL_law_351 : At cL_law 351 (.aload_n 0) 1 352 := ⟨tL_law_1_ok (351, .aload_n 0, 1) (List.mem_of_getElem? (i := 43) rfl), rfl⟩
theorem pL_law_352 : At cL_law 352 (.iload_n 3) 1 353 := ⟨tL_law_1_ok (352, .iload_n 3, 1) (List.mem_of_getElem? (i := 44) rfl), rfl⟩
theorem pL_law_353 : At cL_law 353 (.iconst 1) 1 354 := ⟨tL_law_1_ok (353, .iconst 1, 1) (List.mem_of_getElem? (i := 45) rfl), rfl⟩
theorem pL_law_354 : At cL_law 354 (.iadd) 1 355 := ⟨tL_law_1_ok (354, .iadd, 1) (List.mem_of_getElem? (i := 46) rfl), rfl⟩
theorem pL_law_355 : At cL_law 355 (.iaload) 1 356 := ⟨tL_law_1_ok (355, .iaload, 1) (List.mem_of_getElem? (i := 47) rfl), rfl⟩
theorem pL_law_356 : At cL_law 356 (.aload_n 0) 1 357 := ⟨tL_law_1_ok (356, .aload_n 0, 1) (List.mem_of_getElem? (i := 48) rfl), rfl⟩
theorem pL_law_357 : At cL_law 357 (.iload_n 3) 1 358 := ⟨tL_law_1_ok (357, .iload_n 3, 1) (List.mem_of_getElem? (i := 49) rfl), rfl⟩
theorem pL_law_358 : At cL_law 358 (.iconst 2) 1 359 := ⟨tL_law_1_ok (358, .iconst 2, 1) (List.mem_of_getElem? (i := 50) rfl), rfl⟩
theorem pL_law_359 : At cL_law 359 (.iadd) 1 360 := ⟨tL_law_1_ok (359, .iadd, 1) (List.mem_of_getElem? (i := 51) rfl), rfl⟩
theorem pL_law_360 : At cL_law 360 (.iaload) 1 361 := ⟨tL_law_1_ok (360, .iaload, 1) (List.mem_of_getElem? (i := 52) rfl), rfl⟩
theorem pL_law_361 : At cL_law 361 (.invokevirtual 33) 3 364 := ⟨tL_law_1_ok (361, .invokevirtual 33, 3) (List.mem_of_getElem? (i := 53) rfl), rfl⟩
theorem pL_law_364 : Bt cL_law 364 (.if_icmp .eq 1117) 1117 1481 367 := ⟨tL_law_1_ok (364, .if_icmp .eq 1117, 3) (List.mem_of_getElem? (i := 54) rfl), by decide, rfl⟩
theorem pL_law_367 : At cL_law 367 (.iconst 0) 1 368 := ⟨tL_law_1_ok (367, .iconst 0, 1) (List.mem_of_getElem? (i := 55) rfl), rfl⟩
theorem pL_law_368 : At cL_law 368 (.ireturn) 1 369 := ⟨tL_law_1_ok (368, .ireturn, 1) (List.mem_of_getElem? (i := 56) rfl), rfl⟩
theorem pL_law_369 : At cL_law 369 (.aload_n 1) 1 370 := ⟨tL_law_1_ok (369, .aload_n 1, 1) (List.mem_of_getElem? (i := 57) rfl), rfl⟩
theorem pL_law_370 : At cL_law 370 (.aload_n 0) 1 371 := ⟨tL_law_1_ok (370, .aload_n 0, 1) (List.mem_of_getElem? (i := 58) rfl), rfl⟩
theorem pL_law_371 : At cL_law 371 (.iload_n 3) 1 372 := ⟨tL_law_1_ok (371, .iload_n 3, 1) (List.mem_of_getElem? (i := 59) rfl), rfl⟩
theorem pL_law_372 : At cL_law 372 (.iconst 1) 1 373 := ⟨tL_law_1_ok (372, .iconst 1, 1) (List.mem_of_getElem? (i := 60) rfl), rfl⟩
theorem pL_law_373 : At cL_law 373 (.iadd) 1 374 := ⟨tL_law_1_ok (373, .iadd, 1) (List.mem_of_getElem? (i := 61) rfl), rfl⟩
theorem pL_law_374 : At cL_law 374 (.iaload) 1 375 := ⟨tL_law_1_ok (374, .iaload, 1) (List.mem_of_getElem? (i := 62) rfl), rfl⟩
theorem pL_law_375 : At cL_law 375 (.aload_n 0) 1 376 := ⟨tL_law_1_ok (375, .aload_n 0, 1) (List.mem_of_getElem? (i := 63) rfl), rfl⟩
theorem pL_law_376 : At cL_law 376 (.iload_n 3) 1 377 := ⟨tL_law_1_ok (376, .iload_n 3, 1) (List.mem_of_getElem? (i := 64) rfl), rfl⟩
theorem pL_law_377 : At cL_law 377 (.iconst 2) 1 378 := ⟨tL_law_1_ok (377, .iconst 2, 1) (List.mem_of_getElem? (i := 65) rfl), rfl⟩
theorem pL_law_378 : At cL_law 378 (.iadd) 1 379 := ⟨tL_law_1_ok (378, .iadd, 1) (List.mem_of_getElem? (i := 66) rfl), rfl⟩
theorem pL_law_379 : At cL_law 379 (.iaload) 1 380 := ⟨tL_law_1_ok (379, .iaload, 1) (List.mem_of_getElem? (i := 67) rfl), rfl⟩
theorem pL_law_380 : At cL_law 380 (.invokevirtual 34) 3 383 := ⟨tL_law_1_ok (380, .invokevirtual 34, 3) (List.mem_of_getElem? (i := 68) rfl), rfl⟩
theorem pL_law_383 : At cL_law 383 (.aload_n 2) 1 384 := ⟨tL_law_1_ok (383, .aload_n 2, 1) (List.mem_of_getElem? (i := 69) rfl), rfl⟩
theorem pL_law_384 : At cL_law 384 (.aload_n 0) 1 385 := ⟨tL_law_1_ok (384, .aload_n 0, 1) (List.mem_of_getElem? (i := 70) rfl), rfl⟩
theorem pL_law_385 : At cL_law 385 (.iload_n 3) 1 386 := ⟨tL_law_1_ok (385, .iload_n 3, 1) (List.mem_of_getElem? (i := 71) rfl), rfl⟩
theorem pL_law_386 : At cL_law 386 (.iconst 1) 1 387 := ⟨tL_law_1_ok (386, .iconst 1, 1) (List.mem_of_getElem? (i := 72) rfl), rfl⟩
theorem pL_law_387 : At cL_law 387 (.iadd) 1 388 := ⟨tL_law_1_ok (387, .iadd, 1) (List.mem_of_getElem? (i := 73) rfl), rfl⟩
theorem pL_law_388 : At cL_law 388 (.iaload) 1 389 := ⟨tL_law_1_ok (388, .iaload, 1) (List.mem_of_getElem? (i := 74) rfl), rfl⟩
theorem pL_law_389 : At cL_law 389 (.aload_n 0) 1 390 := ⟨tL_law_1_ok (389, .aload_n 0, 1) (List.mem_of_getElem? (i := 75) rfl), rfl⟩
theorem pL_law_390 : At cL_law 390 (.iload_n 3) 1 391 := ⟨tL_law_1_ok (390, .iload_n 3, 1) (List.mem_of_getElem? (i := 76) rfl), rfl⟩
theorem pL_law_391 : At cL_law 391 (.iconst 2) 1 392 := ⟨tL_law_1_ok (391, .iconst 2, 1) (List.mem_of_getElem? (i := 77) rfl), rfl⟩
theorem pL_law_392 : At cL_law 392 (.iadd) 1 393 := ⟨tL_law_1_ok (392, .iadd, 1) (List.mem_of_getElem? (i := 78) rfl), rfl⟩
theorem pL_law_393 : At cL_law 393 (.iaload) 1 394 := ⟨tL_law_1_ok (393, .iaload, 1) (List.mem_of_getElem? (i := 79) rfl), rfl⟩
theorem pL_law_394 : At cL_law 394 (.invokevirtual 37) 3 397 := ⟨tL_law_1_ok (394, .invokevirtual 37, 3) (List.mem_of_getElem? (i := 80) rfl), rfl⟩
theorem pL_law_397 : Bt cL_law 397 (.if_icmp .eq 1084) 1084 1481 400 := ⟨tL_law_1_ok (397, .if_icmp .eq 1084, 3) (List.mem_of_getElem? (i := 81) rfl), by decide, rfl⟩
theorem pL_law_400 : At cL_law 400 (.iconst 0) 1 401 := ⟨tL_law_1_ok (400, .iconst 0, 1) (List.mem_of_getElem? (i := 82) rfl), rfl⟩
theorem pL_law_401 : At cL_law 401 (.ireturn) 1 402 := ⟨tL_law_1_ok (401, .ireturn, 1) (List.mem_of_getElem? (i := 83) rfl), rfl⟩
theorem pL_law_402 : At cL_law 402 (.aload_n 1) 1 403 := ⟨tL_law_1_ok (402, .aload_n 1, 1) (List.mem_of_getElem? (i := 84) rfl), rfl⟩
theorem pL_law_403 : At cL_law 403 (.aload_n 0) 1 404 := ⟨tL_law_1_ok (403, .aload_n 0, 1) (List.mem_of_getElem? (i := 85) rfl), rfl⟩
theorem pL_law_404 : At cL_law 404 (.iload_n 3) 1 405 := ⟨tL_law_1_ok (404, .iload_n 3, 1) (List.mem_of_getElem? (i := 86) rfl), rfl⟩
theorem pL_law_405 : At cL_law 405 (.iconst 1) 1 406 := ⟨tL_law_1_ok (405, .iconst 1, 1) (List.mem_of_getElem? (i := 87) rfl), rfl⟩
theorem pL_law_406 : At cL_law 406 (.iadd) 1 407 := ⟨tL_law_1_ok (406, .iadd, 1) (List.mem_of_getElem? (i := 88) rfl), rfl⟩
theorem pL_law_407 : At cL_law 407 (.iaload) 1 408 := ⟨tL_law_1_ok (407, .iaload, 1) (List.mem_of_getElem? (i := 89) rfl), rfl⟩
theorem pL_law_408 : At cL_law 408 (.aload_n 0) 1 409 := ⟨tL_law_1_ok (408, .aload_n 0, 1) (List.mem_of_getElem? (i := 90) rfl), rfl⟩
theorem pL_law_409 : At cL_law 409 (.iload_n 3) 1 410 := ⟨tL_law_1_ok (409, .iload_n 3, 1) (List.mem_of_getElem? (i := 91) rfl), rfl⟩
theorem pL_law_410 : At cL_law 410 (.iconst 2) 1 411 := ⟨tL_law_1_ok (410, .iconst 2, 1) (List.mem_of_getElem? (i := 92) rfl), rfl⟩
theorem pL_law_411 : At cL_law 411 (.iadd) 1 412 := ⟨tL_law_1_ok (411, .iadd, 1) (List.mem_of_getElem? (i := 93) rfl), rfl⟩
theorem pL_law_412 : At cL_law 412 (.iaload) 1 413 := ⟨tL_law_1_ok (412, .iaload, 1) (List.mem_of_getElem? (i := 94) rfl), rfl⟩
theorem pL_law_413 : At cL_law 413 (.aload_n 0) 1 414 := ⟨tL_law_1_ok (413, .aload_n 0, 1) (List.mem_of_getElem? (i := 95) rfl), rfl⟩
theorem pL_law_414 : At cL_law 414 (.iload_n 3) 1 415 := ⟨tL_law_1_ok (414, .iload_n 3, 1) (List.mem_of_getElem? (i := 96) rfl), rfl⟩
theorem pL_law_415 : At cL_law 415 (.iconst 3) 1 416 := ⟨tL_law_1_ok (415, .iconst 3, 1) (List.mem_of_getElem? (i := 97) rfl), rfl⟩
theorem pL_law_416 : At cL_law 416 (.iadd) 1 417 := ⟨tL_law_1_ok (416, .iadd, 1) (List.mem_of_getElem? (i := 98) rfl), rfl⟩
theorem pL_law_417 : At cL_law 417 (.iaload) 1 418 := ⟨tL_law_1_ok (417, .iaload, 1) (List.mem_of_getElem? (i := 99) rfl), rfl⟩
theorem pL_law_418 : At cL_law 418 (.invokevirtual 38) 3 421 := ⟨tL_law_2_ok (418, .invokevirtual 38, 3) (List.mem_of_getElem? (i := 0) rfl), rfl⟩
theorem pL_law_421 : At cL_law 421 (.aload_n 2) 1 422 := ⟨tL_law_2_ok (421, .aload_n 2, 1) (List.mem_of_getElem? (i := 1) rfl), rfl⟩
theorem pL_law_422 : At cL_law 422 (.aload_n 0) 1 423 := ⟨tL_law_2_ok (422, .aload_n 0, 1) (List.mem_of_getElem? (i := 2) rfl), rfl⟩
theorem pL_law_423 : At cL_law 423 (.iload_n 3) 1 424 := ⟨tL_law_2_ok (423, .iload_n 3, 1) (List.mem_of_getElem? (i := 3) rfl), rfl⟩
theorem pL_law_424 : At cL_law 424 (.iconst 1) 1 425 := ⟨tL_law_2_ok (424, .iconst 1, 1) (List.mem_of_getElem? (i := 4) rfl), rfl⟩
theorem pL_law_425 : At cL_law 425 (.iadd) 1 426 := ⟨tL_law_2_ok (425, .iadd, 1) (List.mem_of_getElem? (i := 5) rfl), rfl⟩
theorem pL_law_426 : At cL_law 426 (.iaload) 1 427 := ⟨tL_law_2_ok (426, .iaload, 1) (List.mem_of_getElem? (i := 6) rfl), rfl⟩
theorem pL_law_427 : At cL_law 427 (.aload_n 0) 1 428 := ⟨tL_law_2_ok (427, .aload_n 0, 1) (List.mem_of_getElem? (i := 7) rfl), rfl⟩
theorem pL_law_428 : At cL_law 428 (.iload_n 3) 1 429 := ⟨tL_law_2_ok (428, .iload_n 3, 1) (List.mem_of_getElem? (i := 8) rfl), rfl⟩
theorem pL_law_429 : At cL_law 429 (.iconst 2) 1 430 := ⟨tL_law_2_ok (429, .iconst 2, 1) (List.mem_of_getElem? (i := 9) rfl), rfl⟩
theorem pL_law_430 : At cL_law 430 (.iadd) 1 431 := ⟨tL_law_2_ok (430, .iadd, 1) (List.mem_of_getElem? (i := 10) rfl), rfl⟩
theorem pL_law_431 : At cL_law 431 (.iaload) 1 432 := ⟨tL_law_2_ok (431, .iaload, 1) (List.mem_of_getElem? (i := 11) rfl), rfl⟩
theorem pL_law_432 : At cL_law 432 (.aload_n 0) 1 433 := ⟨tL_law_2_ok (432, .aload_n 0, 1) (List.mem_of_getElem? (i := 12) rfl), rfl⟩
theorem pL_law_433 : At cL_law 433 (.iload_n 3) 1 434 := ⟨tL_law_2_ok (433, .iload_n 3, 1) (List.mem_of_getElem? (i := 13) rfl), rfl⟩
theorem pL_law_434 : At cL_law 434 (.iconst 3) 1 435 := ⟨tL_law_2_ok (434, .iconst 3, 1) (List.mem_of_getElem? (i := 14) rfl), rfl⟩
theorem pL_law_435 : At cL_law 435 (.iadd) 1 436 := ⟨tL_law_2_ok (435, .iadd, 1) (List.mem_of_getElem? (i := 15) rfl), rfl⟩
theorem pL_law_436 : At cL_law 436 (.iaload) 1 437 := ⟨tL_law_2_ok (436, .iaload, 1) (List.mem_of_getElem? (i := 16) rfl), rfl⟩
theorem pL_law_437 : At cL_law 437 (.invokevirtual 42) 3 440 := ⟨tL_law_2_ok (437, .invokevirtual 42, 3) (List.mem_of_getElem? (i := 17) rfl), rfl⟩
theorem pL_law_440 : Bt cL_law 440 (.if_icmp .eq 1041) 1041 1481 443 := ⟨tL_law_2_ok (440, .if_icmp .eq 1041, 3) (List.mem_of_getElem? (i := 18) rfl), by decide, rfl⟩
theorem pL_law_443 : At cL_law 443 (.iconst 0) 1 444 := ⟨tL_law_2_ok (443, .iconst 0, 1) (List.mem_of_getElem? (i := 19) rfl), rfl⟩
theorem pL_law_444 : At cL_law 444 (.ireturn) 1 445 := ⟨tL_law_2_ok (444, .ireturn, 1) (List.mem_of_getElem? (i := 20) rfl), rfl⟩
theorem pL_law_445 : At cL_law 445 (.aload_n 1) 1 446 := ⟨tL_law_2_ok (445, .aload_n 1, 1) (List.mem_of_getElem? (i := 21) rfl), rfl⟩
theorem pL_law_446 : At cL_law 446 (.aload_n 0) 1 447 := ⟨tL_law_2_ok (446, .aload_n 0, 1) (List.mem_of_getElem? (i := 22) rfl), rfl⟩
theorem pL_law_447 : At cL_law 447 (.iload_n 3) 1 448 := ⟨tL_law_2_ok (447, .iload_n 3, 1) (List.mem_of_getElem? (i := 23) rfl), rfl⟩
theorem pL_law_448 : At cL_law 448 (.iconst 1) 1 449 := ⟨tL_law_2_ok (448, .iconst 1, 1) (List.mem_of_getElem? (i := 24) rfl), rfl⟩
theorem pL_law_449 : At cL_law 449 (.iadd) 1 450 := ⟨tL_law_2_ok (449, .iadd, 1) (List.mem_of_getElem? (i := 25) rfl), rfl⟩
theorem pL_law_450 : At cL_law 450 (.iaload) 1 451 := ⟨tL_law_2_ok (450, .iaload, 1) (List.mem_of_getElem? (i := 26) rfl), rfl⟩
theorem pL_law_451 : At cL_law 451 (.aload_n 0) 1 452 := ⟨tL_law_2_ok (451, .aload_n 0, 1) (List.mem_of_getElem? (i := 27) rfl), rfl⟩
theorem pL_law_452 : At cL_law 452 (.iload_n 3) 1 453 := ⟨tL_law_2_ok (452, .iload_n 3, 1) (List.mem_of_getElem? (i := 28) rfl), rfl⟩
theorem pL_law_453 : At cL_law 453 (.iconst 2) 1 454 := ⟨tL_law_2_ok (453, .iconst 2, 1) (List.mem_of_getElem? (i := 29) rfl), rfl⟩
theorem pL_law_454 : At cL_law 454 (.iadd) 1 455 := ⟨tL_law_2_ok (454, .iadd, 1) (List.mem_of_getElem? (i := 30) rfl), rfl⟩
theorem pL_law_455 : At cL_law 455 (.iaload) 1 456 := ⟨tL_law_2_ok (455, .iaload, 1) (List.mem_of_getElem? (i := 31) rfl), rfl⟩
theorem pL_law_456 : At cL_law 456 (.invokevirtual 43) 3 459 := ⟨tL_law_2_ok (456, .invokevirtual 43, 3) (List.mem_of_getElem? (i := 32) rfl), rfl⟩
theorem pL_law_459 : At cL_law 459 (.aload_n 2) 1 460 := ⟨tL_law_2_ok (459, .aload_n 2, 1) (List.mem_of_getElem? (i := 33) rfl), rfl⟩
theorem pL_law_460 : At cL_law 460 (.aload_n 0) 1 461 := ⟨tL_law_2_ok (460, .aload_n 0, 1) (List.mem_of_getElem? (i := 34) rfl), rfl⟩
theorem pL_law_461 : At cL_law 461 (.iload_n 3) 1 462 := ⟨tL_law_2_ok (461, .iload_n 3, 1) (List.mem_of_getElem? (i := 35) rfl), rfl⟩
theorem pL_law_462 : At cL_law 462 (.iconst 1) 1 463 := ⟨tL_law_2_ok (462, .iconst 1, 1) (List.mem_of_getElem? (i := 36) rfl), rfl⟩
theorem pL_law_463 : At cL_law 463 (.iadd) 1 464 := ⟨tL_law_2_ok (463, .iadd, 1) (List.mem_of_getElem? (i := 37) rfl), rfl⟩
theorem pL_law_464 : At cL_law 464 (.iaload) 1 465 := ⟨tL_law_2_ok (464, .iaload, 1) (List.mem_of_getElem? (i := 38) rfl), rfl⟩
theorem pL_law_465 : At cL_law 465 (.aload_n 0) 1 466 := ⟨tL_law_2_ok (465, .aload_n 0, 1) (List.mem_of_getElem? (i := 39) rfl), rfl⟩
theorem pL_law_466 : At cL_law 466 (.iload_n 3) 1 467 := ⟨tL_law_2_ok (466, .iload_n 3, 1) (List.mem_of_getElem? (i := 40) rfl), rfl⟩
theorem pL_law_467 : At cL_law 467 (.iconst 2) 1 468 := ⟨tL_law_2_ok (467, .iconst 2, 1) (List.mem_of_getElem? (i := 41) rfl), rfl⟩
theorem pL_law_468 : At cL_law 468 (.iadd) 1 469 := ⟨tL_law_2_ok (468, .iadd, 1) (List.mem_of_getElem? (i := 42) rfl), rfl⟩
theorem pL_law_469 : At cL_law 469 (.iaload) 1 470 := ⟨tL_law_2_ok (469, .iaload, 1) (List.mem_of_getElem? (i := 43) rfl), rfl⟩
theorem pL_law_470 : At cL_law 470 (.invokevirtual 46) 3 473 := ⟨tL_law_2_ok (470, .invokevirtual 46, 3) (List.mem_of_getElem? (i := 44) rfl), rfl⟩
theorem pL_law_473 : Bt cL_law 473 (.if_icmp .eq 1008) 1008 1481 476 := ⟨tL_law_2_ok (473, .if_icmp .eq 1008, 3) (List.mem_of_getElem? (i := 45) rfl), by decide, rfl⟩
theorem pL_law_476 : At cL_law 476 (.iconst 0) 1 477 := ⟨tL_law_2_ok (476, .iconst 0, 1) (List.mem_of_getElem? (i := 46) rfl), rfl⟩
theorem pL_law_477 : At cL_law 477 (.ireturn) 1 478 := ⟨tL_law_2_ok (477, .ireturn, 1) (List.mem_of_getElem? (i := 47) rfl), rfl⟩
theorem pL_law_478 : At cL_law 478 (.aload_n 1) 1 479 := ⟨tL_law_2_ok (478, .aload_n 1, 1) (List.mem_of_getElem? (i := 48) rfl), rfl⟩
theorem pL_law_479 : At cL_law 479 (.aload_n 0) 1 480 := ⟨tL_law_2_ok (479, .aload_n 0, 1) (List.mem_of_getElem? (i := 49) rfl), rfl⟩
theorem pL_law_480 : At cL_law 480 (.iload_n 3) 1 481 := ⟨tL_law_2_ok (480, .iload_n 3, 1) (List.mem_of_getElem? (i := 50) rfl), rfl⟩
theorem pL_law_481 : At cL_law 481 (.iconst 1) 1 482 := ⟨tL_law_2_ok (481, .iconst 1, 1) (List.mem_of_getElem? (i := 51) rfl), rfl⟩
theorem pL_law_482 : At cL_law 482 (.iadd) 1 483 := ⟨tL_law_2_ok (482, .iadd, 1) (List.mem_of_getElem? (i := 52) rfl), rfl⟩
theorem pL_law_483 : At cL_law 483 (.iaload) 1 484 := ⟨tL_law_2_ok (483, .iaload, 1) (List.mem_of_getElem? (i := 53) rfl), rfl⟩
theorem pL_law_484 : At cL_law 484 (.aload_n 0) 1 485 := ⟨tL_law_2_ok (484, .aload_n 0, 1) (List.mem_of_getElem? (i := 54) rfl), rfl⟩
theorem pL_law_485 : At cL_law 485 (.iload_n 3) 1 486 := ⟨tL_law_2_ok (485, .iload_n 3, 1) (List.mem_of_getElem? (i := 55) rfl), rfl⟩
theorem pL_law_486 : At cL_law 486 (.iconst 2) 1 487 := ⟨tL_law_2_ok (486, .iconst 2, 1) (List.mem_of_getElem? (i := 56) rfl), rfl⟩
theorem pL_law_487 : At cL_law 487 (.iadd) 1 488 := ⟨tL_law_2_ok (487, .iadd, 1) (List.mem_of_getElem? (i := 57) rfl), rfl⟩
theorem pL_law_488 : At cL_law 488 (.iaload) 1 489 := ⟨tL_law_2_ok (488, .iaload, 1) (List.mem_of_getElem? (i := 58) rfl), rfl⟩
theorem pL_law_489 : At cL_law 489 (.invokevirtual 47) 3 492 := ⟨tL_law_2_ok (489, .invokevirtual 47, 3) (List.mem_of_getElem? (i := 59) rfl), rfl⟩
theorem pL_law_492 : At cL_law 492 (.aload_n 2) 1 493 := ⟨tL_law_2_ok (492, .aload_n 2, 1) (List.mem_of_getElem? (i := 60) rfl), rfl⟩
theorem pL_law_493 : At cL_law 493 (.aload_n 0) 1 494 := ⟨tL_law_2_ok (493, .aload_n 0, 1) (List.mem_of_getElem? (i := 61) rfl), rfl⟩
theorem pL_law_494 : At cL_law 494 (.iload_n 3) 1 495 := ⟨tL_law_2_ok (494, .iload_n 3, 1) (List.mem_of_getElem? (i := 62) rfl), rfl⟩
theorem pL_law_495 : At cL_law 495 (.iconst 1) 1 496 := ⟨tL_law_2_ok (495, .iconst 1, 1) (List.mem_of_getElem? (i := 63) rfl), rfl⟩
theorem pL_law_496 : At cL_law 496 (.iadd) 1 497 := ⟨tL_law_2_ok (496, .iadd, 1) (List.mem_of_getElem? (i := 64) rfl), rfl⟩
theorem pL_law_497 : At cL_law 497 (.iaload) 1 498 := ⟨tL_law_2_ok (497, .iaload, 1) (List.mem_of_getElem? (i := 65) rfl), rfl⟩
theorem pL_law_498 : At cL_law 498 (.aload_n 0) 1 499 := ⟨tL_law_2_ok (498, .aload_n 0, 1) (List.mem_of_getElem? (i := 66) rfl), rfl⟩
theorem pL_law_499 : At cL_law 499 (.iload_n 3) 1 500 := ⟨tL_law_2_ok (499, .iload_n 3, 1) (List.mem_of_getElem? (i := 67) rfl), rfl⟩
theorem pL_law_500 : At cL_law 500 (.iconst 2) 1 501 := ⟨tL_law_2_ok (500, .iconst 2, 1) (List.mem_of_getElem? (i := 68) rfl), rfl⟩
theorem pL_law_501 : At cL_law 501 (.iadd) 1 502 := ⟨tL_law_2_ok (501, .iadd, 1) (List.mem_of_getElem? (i := 69) rfl), rfl⟩
theorem pL_law_502 : At cL_law 502 (.iaload) 1 503 := ⟨tL_law_2_ok (502, .iaload, 1) (List.mem_of_getElem? (i := 70) rfl), rfl⟩
theorem pL_law_503 : At cL_law 503 (.invokevirtual 50) 3 506 := ⟨tL_law_2_ok (503, .invokevirtual 50, 3) (List.mem_of_getElem? (i := 71) rfl), rfl⟩
theorem pL_law_506 : Bt cL_law 506 (.if_icmp .eq 975) 975 1481 509 := ⟨tL_law_2_ok (506, .if_icmp .eq 975, 3) (List.mem_of_getElem? (i := 72) rfl), by decide, rfl⟩
theorem pL_law_509 : At cL_law 509 (.iconst 0) 1 510 := ⟨tL_law_2_ok (509, .iconst 0, 1) (List.mem_of_getElem? (i := 73) rfl), rfl⟩
theorem pL_law_510 : At cL_law 510 (.ireturn) 1 511 := ⟨tL_law_2_ok (510, .ireturn, 1) (List.mem_of_getElem? (i := 74) rfl), rfl⟩
theorem pL_law_511 : At cL_law 511 (.aload_n 1) 1 512 := ⟨tL_law_2_ok (511, .aload_n 1, 1) (List.mem_of_getElem? (i := 75) rfl), rfl⟩
theorem pL_law_512 : At cL_law 512 (.aload_n 0) 1 513 := ⟨tL_law_2_ok (512, .aload_n 0, 1) (List.mem_of_getElem? (i := 76) rfl), rfl⟩
theorem pL_law_513 : At cL_law 513 (.iload_n 3) 1 514 := ⟨tL_law_2_ok (513, .iload_n 3, 1) (List.mem_of_getElem? (i := 77) rfl), rfl⟩
theorem pL_law_514 : At cL_law 514 (.iconst 1) 1 515 := ⟨tL_law_2_ok (514, .iconst 1, 1) (List.mem_of_getElem? (i := 78) rfl), rfl⟩
theorem pL_law_515 : At cL_law 515 (.iadd) 1 516 := ⟨tL_law_2_ok (515, .iadd, 1) (List.mem_of_getElem? (i := 79) rfl), rfl⟩
theorem pL_law_516 : At cL_law 516 (.iaload) 1 517 := ⟨tL_law_2_ok (516, .iaload, 1) (List.mem_of_getElem? (i := 80) rfl), rfl⟩
theorem pL_law_517 : At cL_law 517 (.aload_n 0) 1 518 := ⟨tL_law_2_ok (517, .aload_n 0, 1) (List.mem_of_getElem? (i := 81) rfl), rfl⟩
theorem pL_law_518 : At cL_law 518 (.iload_n 3) 1 519 := ⟨tL_law_2_ok (518, .iload_n 3, 1) (List.mem_of_getElem? (i := 82) rfl), rfl⟩
theorem pL_law_519 : At cL_law 519 (.iconst 2) 1 520 := ⟨tL_law_2_ok (519, .iconst 2, 1) (List.mem_of_getElem? (i := 83) rfl), rfl⟩
theorem pL_law_520 : At cL_law 520 (.iadd) 1 521 := ⟨tL_law_2_ok (520, .iadd, 1) (List.mem_of_getElem? (i := 84) rfl), rfl⟩
theorem pL_law_521 : At cL_law 521 (.iaload) 1 522 := ⟨tL_law_2_ok (521, .iaload, 1) (List.mem_of_getElem? (i := 85) rfl), rfl⟩
theorem pL_law_522 : At cL_law 522 (.invokevirtual 51) 3 525 := ⟨tL_law_2_ok (522, .invokevirtual 51, 3) (List.mem_of_getElem? (i := 86) rfl), rfl⟩
theorem pL_law_525 : At cL_law 525 (.aload_n 2) 1 526 := ⟨tL_law_2_ok (525, .aload_n 2, 1) (List.mem_of_getElem? (i := 87) rfl), rfl⟩
theorem pL_law_526 : At cL_law 526 (.aload_n 0) 1 527 := ⟨tL_law_2_ok (526, .aload_n 0, 1) (List.mem_of_getElem? (i := 88) rfl), rfl⟩
theorem pL_law_527 : At cL_law 527 (.iload_n 3) 1 528 := ⟨tL_law_2_ok (527, .iload_n 3, 1) (List.mem_of_getElem? (i := 89) rfl), rfl⟩
theorem pL_law_528 : At cL_law 528 (.iconst 1) 1 529 := ⟨tL_law_2_ok (528, .iconst 1, 1) (List.mem_of_getElem? (i := 90) rfl), rfl⟩
theorem pL_law_529 : At cL_law 529 (.iadd) 1 530 := ⟨tL_law_2_ok (529, .iadd, 1) (List.mem_of_getElem? (i := 91) rfl), rfl⟩
theorem pL_law_530 : At cL_law 530 (.iaload) 1 531 := ⟨tL_law_2_ok (530, .iaload, 1) (List.mem_of_getElem? (i := 92) rfl), rfl⟩
theorem pL_law_531 : At cL_law 531 (.aload_n 0) 1 532 := ⟨tL_law_2_ok (531, .aload_n 0, 1) (List.mem_of_getElem? (i := 93) rfl), rfl⟩
theorem pL_law_532 : At cL_law 532 (.iload_n 3) 1 533 := ⟨tL_law_2_ok (532, .iload_n 3, 1) (List.mem_of_getElem? (i := 94) rfl), rfl⟩
theorem pL_law_533 : At cL_law 533 (.iconst 2) 1 534 := ⟨tL_law_2_ok (533, .iconst 2, 1) (List.mem_of_getElem? (i := 95) rfl), rfl⟩
theorem pL_law_534 : At cL_law 534 (.iadd) 1 535 := ⟨tL_law_2_ok (534, .iadd, 1) (List.mem_of_getElem? (i := 96) rfl), rfl⟩
theorem pL_law_535 : At cL_law 535 (.iaload) 1 536 := ⟨tL_law_2_ok (535, .iaload, 1) (List.mem_of_getElem? (i := 97) rfl), rfl⟩
theorem pL_law_536 : At cL_law 536 (.invokevirtual 54) 3 539 := ⟨tL_law_2_ok (536, .invokevirtual 54, 3) (List.mem_of_getElem? (i := 98) rfl), rfl⟩
theorem pL_law_539 : Bt cL_law 539 (.if_icmp .eq 942) 942 1481 542 := ⟨tL_law_2_ok (539, .if_icmp .eq 942, 3) (List.mem_of_getElem? (i := 99) rfl), by decide, rfl⟩
theorem pL_law_542 : At cL_law 542 (.iconst 0) 1 543 := ⟨tL_law_3_ok (542, .iconst 0, 1) (List.mem_of_getElem? (i := 0) rfl), rfl⟩
theorem pL_law_543 : At cL_law 543 (.ireturn) 1 544 := ⟨tL_law_3_ok (543, .ireturn, 1) (List.mem_of_getElem? (i := 1) rfl), rfl⟩
theorem pL_law_544 : At cL_law 544 (.aload_n 1) 1 545 := ⟨tL_law_3_ok (544, .aload_n 1, 1) (List.mem_of_getElem? (i := 2) rfl), rfl⟩
theorem pL_law_545 : At cL_law 545 (.aload_n 0) 1 546 := ⟨tL_law_3_ok (545, .aload_n 0, 1) (List.mem_of_getElem? (i := 3) rfl), rfl⟩
theorem pL_law_546 : At cL_law 546 (.iload_n 3) 1 547 := ⟨tL_law_3_ok (546, .iload_n 3, 1) (List.mem_of_getElem? (i := 4) rfl), rfl⟩
theorem pL_law_547 : At cL_law 547 (.iconst 1) 1 548 := ⟨tL_law_3_ok (547, .iconst 1, 1) (List.mem_of_getElem? (i := 5) rfl), rfl⟩
theorem pL_law_548 : At cL_law 548 (.iadd) 1 549 := ⟨tL_law_3_ok (548, .iadd, 1) (List.mem_of_getElem? (i := 6) rfl), rfl⟩
theorem pL_law_549 : At cL_law 549 (.iaload) 1 550 := ⟨tL_law_3_ok (549, .iaload, 1) (List.mem_of_getElem? (i := 7) rfl), rfl⟩
theorem pL_law_550 : At cL_law 550 (.i2l) 1 551 := ⟨tL_law_3_ok (550, .i2l, 1) (List.mem_of_getElem? (i := 8) rfl), rfl⟩
theorem pL_law_551 : At cL_law 551 (.bipush 32) 2 553 := ⟨tL_law_3_ok (551, .bipush 32, 2) (List.mem_of_getElem? (i := 9) rfl), rfl⟩
theorem pL_law_553 : At cL_law 553 (.lshl) 1 554 := ⟨tL_law_3_ok (553, .lshl, 1) (List.mem_of_getElem? (i := 10) rfl), rfl⟩
theorem pL_law_554 : At cL_law 554 (.aload_n 0) 1 555 := ⟨tL_law_3_ok (554, .aload_n 0, 1) (List.mem_of_getElem? (i := 11) rfl), rfl⟩
theorem pL_law_555 : At cL_law 555 (.iload_n 3) 1 556 := ⟨tL_law_3_ok (555, .iload_n 3, 1) (List.mem_of_getElem? (i := 12) rfl), rfl⟩
theorem pL_law_556 : At cL_law 556 (.iconst 2) 1 557 := ⟨tL_law_3_ok (556, .iconst 2, 1) (List.mem_of_getElem? (i := 13) rfl), rfl⟩
theorem pL_law_557 : At cL_law 557 (.iadd) 1 558 := ⟨tL_law_3_ok (557, .iadd, 1) (List.mem_of_getElem? (i := 14) rfl), rfl⟩
theorem pL_law_558 : At cL_law 558 (.iaload) 1 559 := ⟨tL_law_3_ok (558, .iaload, 1) (List.mem_of_getElem? (i := 15) rfl), rfl⟩
theorem pL_law_559 : At cL_law 559 (.i2l) 1 560 := ⟨tL_law_3_ok (559, .i2l, 1) (List.mem_of_getElem? (i := 16) rfl), rfl⟩
theorem pL_law_560 : At cL_law 560 (.ldc2_w 55) 3 563 := ⟨tL_law_3_ok (560, .ldc2_w 55, 3) (List.mem_of_getElem? (i := 17) rfl), rfl⟩
theorem pL_law_563 : At cL_law 563 (.land) 1 564 := ⟨tL_law_3_ok (563, .land, 1) (List.mem_of_getElem? (i := 18) rfl), rfl⟩
theorem pL_law_564 : At cL_law 564 (.lor) 1 565 := ⟨tL_law_3_ok (564, .lor, 1) (List.mem_of_getElem? (i := 19) rfl), rfl⟩
theorem pL_law_565 : At cL_law 565 (.aload_n 0) 1 566 := ⟨tL_law_3_ok (565, .aload_n 0, 1) (List.mem_of_getElem? (i := 20) rfl), rfl⟩
theorem pL_law_566 : At cL_law 566 (.iload_n 3) 1 567 := ⟨tL_law_3_ok (566, .iload_n 3, 1) (List.mem_of_getElem? (i := 21) rfl), rfl⟩
theorem pL_law_567 : At cL_law 567 (.iconst 3) 1 568 := ⟨tL_law_3_ok (567, .iconst 3, 1) (List.mem_of_getElem? (i := 22) rfl), rfl⟩
theorem pL_law_568 : At cL_law 568 (.iadd) 1 569 := ⟨tL_law_3_ok (568, .iadd, 1) (List.mem_of_getElem? (i := 23) rfl), rfl⟩
theorem pL_law_569 : At cL_law 569 (.iaload) 1 570 := ⟨tL_law_3_ok (569, .iaload, 1) (List.mem_of_getElem? (i := 24) rfl), rfl⟩
theorem pL_law_570 : At cL_law 570 (.invokevirtual 57) 3 573 := ⟨tL_law_3_ok (570, .invokevirtual 57, 3) (List.mem_of_getElem? (i := 25) rfl), rfl⟩
theorem pL_law_573 : At cL_law 573 (.aload_n 2) 1 574 := ⟨tL_law_3_ok (573, .aload_n 2, 1) (List.mem_of_getElem? (i := 26) rfl), rfl⟩
theorem pL_law_574 : At cL_law 574 (.aload_n 0) 1 575 := ⟨tL_law_3_ok (574, .aload_n 0, 1) (List.mem_of_getElem? (i := 27) rfl), rfl⟩
theorem pL_law_575 : At cL_law 575 (.iload_n 3) 1 576 := ⟨tL_law_3_ok (575, .iload_n 3, 1) (List.mem_of_getElem? (i := 28) rfl), rfl⟩
theorem pL_law_576 : At cL_law 576 (.iconst 1) 1 577 := ⟨tL_law_3_ok (576, .iconst 1, 1) (List.mem_of_getElem? (i := 29) rfl), rfl⟩
theorem pL_law_577 : At cL_law 577 (.iadd) 1 578 := ⟨tL_law_3_ok (577, .iadd, 1) (List.mem_of_getElem? (i := 30) rfl), rfl⟩
theorem pL_law_578 : At cL_law 578 (.iaload) 1 579 := ⟨tL_law_3_ok (578, .iaload, 1) (List.mem_of_getElem? (i := 31) rfl), rfl⟩
theorem pL_law_579 : At cL_law 579 (.i2l) 1 580 := ⟨tL_law_3_ok (579, .i2l, 1) (List.mem_of_getElem? (i := 32) rfl), rfl⟩
theorem pL_law_580 : At cL_law 580 (.bipush 32) 2 582 := ⟨tL_law_3_ok (580, .bipush 32, 2) (List.mem_of_getElem? (i := 33) rfl), rfl⟩
theorem pL_law_582 : At cL_law 582 (.lshl) 1 583 := ⟨tL_law_3_ok (582, .lshl, 1) (List.mem_of_getElem? (i := 34) rfl), rfl⟩
theorem pL_law_583 : At cL_law 583 (.aload_n 0) 1 584 := ⟨tL_law_3_ok (583, .aload_n 0, 1) (List.mem_of_getElem? (i := 35) rfl), rfl⟩
theorem pL_law_584 : At cL_law 584 (.iload_n 3) 1 585 := ⟨tL_law_3_ok (584, .iload_n 3, 1) (List.mem_of_getElem? (i := 36) rfl), rfl⟩
theorem pL_law_585 : At cL_law 585 (.iconst 2) 1 586 := ⟨tL_law_3_ok (585, .iconst 2, 1) (List.mem_of_getElem? (i := 37) rfl), rfl⟩
theorem pL_law_586 : At cL_law 586 (.iadd) 1 587 := ⟨tL_law_3_ok (586, .iadd, 1) (List.mem_of_getElem? (i := 38) rfl), rfl⟩
theorem pL_law_587 : At cL_law 587 (.iaload) 1 588 := ⟨tL_law_3_ok (587, .iaload, 1) (List.mem_of_getElem? (i := 39) rfl), rfl⟩
theorem pL_law_588 : At cL_law 588 (.i2l) 1 589 := ⟨tL_law_3_ok (588, .i2l, 1) (List.mem_of_getElem? (i := 40) rfl), rfl⟩
theorem pL_law_589 : At cL_law 589 (.ldc2_w 55) 3 592 := ⟨tL_law_3_ok (589, .ldc2_w 55, 3) (List.mem_of_getElem? (i := 41) rfl), rfl⟩
theorem pL_law_592 : At cL_law 592 (.land) 1 593 := ⟨tL_law_3_ok (592, .land, 1) (List.mem_of_getElem? (i := 42) rfl), rfl⟩
theorem pL_law_593 : At cL_law 593 (.lor) 1 594 := ⟨tL_law_3_ok (593, .lor, 1) (List.mem_of_getElem? (i := 43) rfl), rfl⟩
theorem pL_law_594 : At cL_law 594 (.aload_n 0) 1 595 := ⟨tL_law_3_ok (594, .aload_n 0, 1) (List.mem_of_getElem? (i := 44) rfl), rfl⟩
theorem pL_law_595 : At cL_law 595 (.iload_n 3) 1 596 := ⟨tL_law_3_ok (595, .iload_n 3, 1) (List.mem_of_getElem? (i := 45) rfl), rfl⟩
theorem pL_law_596 : At cL_law 596 (.iconst 3) 1 597 := ⟨tL_law_3_ok (596, .iconst 3, 1) (List.mem_of_getElem? (i := 46) rfl), rfl⟩
theorem pL_law_597 : At cL_law 597 (.iadd) 1 598 := ⟨tL_law_3_ok (597, .iadd, 1) (List.mem_of_getElem? (i := 47) rfl), rfl⟩
theorem pL_law_598 : At cL_law 598 (.iaload) 1 599 := ⟨tL_law_3_ok (598, .iaload, 1) (List.mem_of_getElem? (i := 48) rfl), rfl⟩
theorem pL_law_599 : At cL_law 599 (.invokevirtual 61) 3 602 := ⟨tL_law_3_ok (599, .invokevirtual 61, 3) (List.mem_of_getElem? (i := 49) rfl), rfl⟩
theorem pL_law_602 : Bt cL_law 602 (.if_icmp .eq 879) 879 1481 605 := ⟨tL_law_3_ok (602, .if_icmp .eq 879, 3) (List.mem_of_getElem? (i := 50) rfl), by decide, rfl⟩
theorem pL_law_605 : At cL_law 605 (.iconst 0) 1 606 := ⟨tL_law_3_ok (605, .iconst 0, 1) (List.mem_of_getElem? (i := 51) rfl), rfl⟩
theorem pL_law_606 : At cL_law 606 (.ireturn) 1 607 := ⟨tL_law_3_ok (606, .ireturn, 1) (List.mem_of_getElem? (i := 52) rfl), rfl⟩
theorem pL_law_607 : At cL_law 607 (.aload_n 1) 1 608 := ⟨tL_law_3_ok (607, .aload_n 1, 1) (List.mem_of_getElem? (i := 53) rfl), rfl⟩
theorem pL_law_608 : At cL_law 608 (.aload_n 0) 1 609 := ⟨tL_law_3_ok (608, .aload_n 0, 1) (List.mem_of_getElem? (i := 54) rfl), rfl⟩
theorem pL_law_609 : At cL_law 609 (.iload_n 3) 1 610 := ⟨tL_law_3_ok (609, .iload_n 3, 1) (List.mem_of_getElem? (i := 55) rfl), rfl⟩
theorem pL_law_610 : At cL_law 610 (.iconst 1) 1 611 := ⟨tL_law_3_ok (610, .iconst 1, 1) (List.mem_of_getElem? (i := 56) rfl), rfl⟩
theorem pL_law_611 : At cL_law 611 (.iadd) 1 612 := ⟨tL_law_3_ok (611, .iadd, 1) (List.mem_of_getElem? (i := 57) rfl), rfl⟩
theorem pL_law_612 : At cL_law 612 (.iaload) 1 613 := ⟨tL_law_3_ok (612, .iaload, 1) (List.mem_of_getElem? (i := 58) rfl), rfl⟩
theorem pL_law_613 : At cL_law 613 (.invokevirtual 62) 3 616 := ⟨tL_law_3_ok (613, .invokevirtual 62, 3) (List.mem_of_getElem? (i := 59) rfl), rfl⟩
theorem pL_law_616 : At cL_law 616 (.aload_n 2) 1 617 := ⟨tL_law_3_ok (616, .aload_n 2, 1) (List.mem_of_getElem? (i := 60) rfl), rfl⟩
theorem pL_law_617 : At cL_law 617 (.aload_n 0) 1 618 := ⟨tL_law_3_ok (617, .aload_n 0, 1) (List.mem_of_getElem? (i := 61) rfl), rfl⟩
theorem pL_law_618 : At cL_law 618 (.iload_n 3) 1 619 := ⟨tL_law_3_ok (618, .iload_n 3, 1) (List.mem_of_getElem? (i := 62) rfl), rfl⟩
theorem pL_law_619 : At cL_law 619 (.iconst 1) 1 620 := ⟨tL_law_3_ok (619, .iconst 1, 1) (List.mem_of_getElem? (i := 63) rfl), rfl⟩
theorem pL_law_620 : At cL_law 620 (.iadd) 1 621 := ⟨tL_law_3_ok (620, .iadd, 1) (List.mem_of_getElem? (i := 64) rfl), rfl⟩
theorem pL_law_621 : At cL_law 621 (.iaload) 1 622 := ⟨tL_law_3_ok (621, .iaload, 1) (List.mem_of_getElem? (i := 65) rfl), rfl⟩
theorem pL_law_622 : At cL_law 622 (.invokevirtual 66) 3 625 := ⟨tL_law_3_ok (622, .invokevirtual 66, 3) (List.mem_of_getElem? (i := 66) rfl), rfl⟩
theorem pL_law_625 : Bt cL_law 625 (.if_icmp .eq 856) 856 1481 628 := ⟨tL_law_3_ok (625, .if_icmp .eq 856, 3) (List.mem_of_getElem? (i := 67) rfl), by decide, rfl⟩
theorem pL_law_628 : At cL_law 628 (.iconst 0) 1 629 := ⟨tL_law_3_ok (628, .iconst 0, 1) (List.mem_of_getElem? (i := 68) rfl), rfl⟩
theorem pL_law_629 : At cL_law 629 (.ireturn) 1 630 := ⟨tL_law_3_ok (629, .ireturn, 1) (List.mem_of_getElem? (i := 69) rfl), rfl⟩
theorem pL_law_630 : At cL_law 630 (.aload_n 1) 1 631 := ⟨tL_law_3_ok (630, .aload_n 1, 1) (List.mem_of_getElem? (i := 70) rfl), rfl⟩
theorem pL_law_631 : At cL_law 631 (.aload_n 0) 1 632 := ⟨tL_law_3_ok (631, .aload_n 0, 1) (List.mem_of_getElem? (i := 71) rfl), rfl⟩
theorem pL_law_632 : At cL_law 632 (.iload_n 3) 1 633 := ⟨tL_law_3_ok (632, .iload_n 3, 1) (List.mem_of_getElem? (i := 72) rfl), rfl⟩
theorem pL_law_633 : At cL_law 633 (.iconst 1) 1 634 := ⟨tL_law_3_ok (633, .iconst 1, 1) (List.mem_of_getElem? (i := 73) rfl), rfl⟩
theorem pL_law_634 : At cL_law 634 (.iadd) 1 635 := ⟨tL_law_3_ok (634, .iadd, 1) (List.mem_of_getElem? (i := 74) rfl), rfl⟩
theorem pL_law_635 : At cL_law 635 (.iaload) 1 636 := ⟨tL_law_3_ok (635, .iaload, 1) (List.mem_of_getElem? (i := 75) rfl), rfl⟩
theorem pL_law_636 : At cL_law 636 (.aload_n 0) 1 637 := ⟨tL_law_3_ok (636, .aload_n 0, 1) (List.mem_of_getElem? (i := 76) rfl), rfl⟩
theorem pL_law_637 : At cL_law 637 (.iload_n 3) 1 638 := ⟨tL_law_3_ok (637, .iload_n 3, 1) (List.mem_of_getElem? (i := 77) rfl), rfl⟩
theorem pL_law_638 : At cL_law 638 (.iconst 2) 1 639 := ⟨tL_law_3_ok (638, .iconst 2, 1) (List.mem_of_getElem? (i := 78) rfl), rfl⟩
theorem pL_law_639 : At cL_law 639 (.iadd) 1 640 := ⟨tL_law_3_ok (639, .iadd, 1) (List.mem_of_getElem? (i := 79) rfl), rfl⟩
theorem pL_law_640 : At cL_law 640 (.iaload) 1 641 := ⟨tL_law_3_ok (640, .iaload, 1) (List.mem_of_getElem? (i := 80) rfl), rfl⟩
theorem pL_law_641 : At cL_law 641 (.aload_n 0) 1 642 := ⟨tL_law_3_ok (641, .aload_n 0, 1) (List.mem_of_getElem? (i := 81) rfl), rfl⟩
theorem pL_law_642 : At cL_law 642 (.iload_n 3) 1 643 := ⟨tL_law_3_ok (642, .iload_n 3, 1) (List.mem_of_getElem? (i := 82) rfl), rfl⟩
theorem pL_law_643 : At cL_law 643 (.iconst 3) 1 644 := ⟨tL_law_3_ok (643, .iconst 3, 1) (List.mem_of_getElem? (i := 83) rfl), rfl⟩
theorem pL_law_644 : At cL_law 644 (.iadd) 1 645 := ⟨tL_law_3_ok (644, .iadd, 1) (List.mem_of_getElem? (i := 84) rfl), rfl⟩
theorem pL_law_645 : At cL_law 645 (.iaload) 1 646 := ⟨tL_law_3_ok (645, .iaload, 1) (List.mem_of_getElem? (i := 85) rfl), rfl⟩
theorem pL_law_646 : At cL_law 646 (.aload_n 0) 1 647 := ⟨tL_law_3_ok (646, .aload_n 0, 1) (List.mem_of_getElem? (i := 86) rfl), rfl⟩
theorem pL_law_647 : At cL_law 647 (.iload_n 3) 1 648 := ⟨tL_law_3_ok (647, .iload_n 3, 1) (List.mem_of_getElem? (i := 87) rfl), rfl⟩
theorem pL_law_648 : At cL_law 648 (.iconst 4) 1 649 := ⟨tL_law_3_ok (648, .iconst 4, 1) (List.mem_of_getElem? (i := 88) rfl), rfl⟩
theorem pL_law_649 : At cL_law 649 (.iadd) 1 650 := ⟨tL_law_3_ok (649, .iadd, 1) (List.mem_of_getElem? (i := 89) rfl), rfl⟩
theorem pL_law_650 : At cL_law 650 (.iaload) 1 651 := ⟨tL_law_3_ok (650, .iaload, 1) (List.mem_of_getElem? (i := 90) rfl), rfl⟩
theorem pL_law_651 : At cL_law 651 (.invokevirtual 67) 3 654 := ⟨tL_law_3_ok (651, .invokevirtual 67, 3) (List.mem_of_getElem? (i := 91) rfl), rfl⟩
theorem pL_law_654 : At cL_law 654 (.aload_n 2) 1 655 := ⟨tL_law_3_ok (654, .aload_n 2, 1) (List.mem_of_getElem? (i := 92) rfl), rfl⟩
theorem pL_law_655 : At cL_law 655 (.aload_n 0) 1 656 := ⟨tL_law_3_ok (655, .aload_n 0, 1) (List.mem_of_getElem? (i := 93) rfl), rfl⟩
theorem pL_law_656 : At cL_law 656 (.iload_n 3) 1 657 := ⟨tL_law_3_ok (656, .iload_n 3, 1) (List.mem_of_getElem? (i := 94) rfl), rfl⟩
theorem pL_law_657 : At cL_law 657 (.iconst 1) 1 658 := ⟨tL_law_3_ok (657, .iconst 1, 1) (List.mem_of_getElem? (i := 95) rfl), rfl⟩
theorem pL_law_658 : At cL_law 658 (.iadd) 1 659 := ⟨tL_law_3_ok (658, .iadd, 1) (List.mem_of_getElem? (i := 96) rfl), rfl⟩
theorem pL_law_659 : At cL_law 659 (.iaload) 1 660 := ⟨tL_law_3_ok (659, .iaload, 1) (List.mem_of_getElem? (i := 97) rfl), rfl⟩
theorem pL_law_660 : At cL_law 660 (.aload_n 0) 1 661 := ⟨tL_law_3_ok (660, .aload_n 0, 1) (List.mem_of_getElem? (i := 98) rfl), rfl⟩
theorem pL_law_661 : At cL_law 661 (.iload_n 3) 1 662 := ⟨tL_law_3_ok (661, .iload_n 3, 1) (List.mem_of_getElem? (i := 99) rfl), rfl⟩
theorem pL_law_662 : At cL_law 662 (.iconst 2) 1 663 := ⟨tL_law_4_ok (662, .iconst 2, 1) (List.mem_of_getElem? (i := 0) rfl), rfl⟩
theorem pL_law_663 : At cL_law 663 (.iadd) 1 664 := ⟨tL_law_4_ok (663, .iadd, 1) (List.mem_of_getElem? (i := 1) rfl), rfl⟩
theorem pL_law_664 : At cL_law 664 (.iaload) 1 665 := ⟨tL_law_4_ok (664, .iaload, 1) (List.mem_of_getElem? (i := 2) rfl), rfl⟩
theorem pL_law_665 : At cL_law 665 (.aload_n 0) 1 666 := ⟨tL_law_4_ok (665, .aload_n 0, 1) (List.mem_of_getElem? (i := 3) rfl), rfl⟩
theorem pL_law_666 : At cL_law 666 (.iload_n 3) 1 667 := ⟨tL_law_4_ok (666, .iload_n 3, 1) (List.mem_of_getElem? (i := 4) rfl), rfl⟩
theorem pL_law_667 : At cL_law 667 (.iconst 3) 1 668 := ⟨tL_law_4_ok (667, .iconst 3, 1) (List.mem_of_getElem? (i := 5) rfl), rfl⟩
theorem pL_law_668 : At cL_law 668 (.iadd) 1 669 := ⟨tL_law_4_ok (668, .iadd, 1) (List.mem_of_getElem? (i := 6) rfl), rfl⟩
theorem pL_law_669 : At cL_law 669 (.iaload) 1 670 := ⟨tL_law_4_ok (669, .iaload, 1) (List.mem_of_getElem? (i := 7) rfl), rfl⟩
theorem pL_law_670 : At cL_law 670 (.aload_n 0) 1 671 := ⟨tL_law_4_ok (670, .aload_n 0, 1) (List.mem_of_getElem? (i := 8) rfl), rfl⟩
theorem pL_law_671 : At cL_law 671 (.iload_n 3) 1 672 := ⟨tL_law_4_ok (671, .iload_n 3, 1) (List.mem_of_getElem? (i := 9) rfl), rfl⟩
theorem pL_law_672 : At cL_law 672 (.iconst 4) 1 673 := ⟨tL_law_4_ok (672, .iconst 4, 1) (List.mem_of_getElem? (i := 10) rfl), rfl⟩
theorem pL_law_673 : At cL_law 673 (.iadd) 1 674 := ⟨tL_law_4_ok (673, .iadd, 1) (List.mem_of_getElem? (i := 11) rfl), rfl⟩
theorem pL_law_674 : At cL_law 674 (.iaload) 1 675 := ⟨tL_law_4_ok (674, .iaload, 1) (List.mem_of_getElem? (i := 12) rfl), rfl⟩
theorem pL_law_675 : At cL_law 675 (.invokevirtual 71) 3 678 := ⟨tL_law_4_ok (675, .invokevirtual 71, 3) (List.mem_of_getElem? (i := 13) rfl), rfl⟩
theorem pL_law_678 : Bt cL_law 678 (.if_icmp .eq 803) 803 1481 681 := ⟨tL_law_4_ok (678, .if_icmp .eq 803, 3) (List.mem_of_getElem? (i := 14) rfl), by decide, rfl⟩
theorem pL_law_681 : At cL_law 681 (.iconst 0) 1 682 := ⟨tL_law_4_ok (681, .iconst 0, 1) (List.mem_of_getElem? (i := 15) rfl), rfl⟩
theorem pL_law_682 : At cL_law 682 (.ireturn) 1 683 := ⟨tL_law_4_ok (682, .ireturn, 1) (List.mem_of_getElem? (i := 16) rfl), rfl⟩
theorem pL_law_683 : At cL_law 683 (.aload_n 1) 1 684 := ⟨tL_law_4_ok (683, .aload_n 1, 1) (List.mem_of_getElem? (i := 17) rfl), rfl⟩
theorem pL_law_684 : At cL_law 684 (.aload_n 0) 1 685 := ⟨tL_law_4_ok (684, .aload_n 0, 1) (List.mem_of_getElem? (i := 18) rfl), rfl⟩
theorem pL_law_685 : At cL_law 685 (.iload_n 3) 1 686 := ⟨tL_law_4_ok (685, .iload_n 3, 1) (List.mem_of_getElem? (i := 19) rfl), rfl⟩
theorem pL_law_686 : At cL_law 686 (.iconst 1) 1 687 := ⟨tL_law_4_ok (686, .iconst 1, 1) (List.mem_of_getElem? (i := 20) rfl), rfl⟩
theorem pL_law_687 : At cL_law 687 (.iadd) 1 688 := ⟨tL_law_4_ok (687, .iadd, 1) (List.mem_of_getElem? (i := 21) rfl), rfl⟩
theorem pL_law_688 : At cL_law 688 (.iaload) 1 689 := ⟨tL_law_4_ok (688, .iaload, 1) (List.mem_of_getElem? (i := 22) rfl), rfl⟩
theorem pL_law_689 : At cL_law 689 (.invokevirtual 72) 3 692 := ⟨tL_law_4_ok (689, .invokevirtual 72, 3) (List.mem_of_getElem? (i := 23) rfl), rfl⟩
theorem pL_law_692 : At cL_law 692 (.aload_n 2) 1 693 := ⟨tL_law_4_ok (692, .aload_n 2, 1) (List.mem_of_getElem? (i := 24) rfl), rfl⟩
theorem pL_law_693 : At cL_law 693 (.aload_n 0) 1 694 := ⟨tL_law_4_ok (693, .aload_n 0, 1) (List.mem_of_getElem? (i := 25) rfl), rfl⟩
theorem pL_law_694 : At cL_law 694 (.iload_n 3) 1 695 := ⟨tL_law_4_ok (694, .iload_n 3, 1) (List.mem_of_getElem? (i := 26) rfl), rfl⟩
theorem pL_law_695 : At cL_law 695 (.iconst 1) 1 696 := ⟨tL_law_4_ok (695, .iconst 1, 1) (List.mem_of_getElem? (i := 27) rfl), rfl⟩
theorem pL_law_696 : At cL_law 696 (.iadd) 1 697 := ⟨tL_law_4_ok (696, .iadd, 1) (List.mem_of_getElem? (i := 28) rfl), rfl⟩
theorem pL_law_697 : At cL_law 697 (.iaload) 1 698 := ⟨tL_law_4_ok (697, .iaload, 1) (List.mem_of_getElem? (i := 29) rfl), rfl⟩
theorem pL_law_698 : At cL_law 698 (.invokevirtual 75) 3 701 := ⟨tL_law_4_ok (698, .invokevirtual 75, 3) (List.mem_of_getElem? (i := 30) rfl), rfl⟩
theorem pL_law_701 : Bt cL_law 701 (.if_icmp .eq 780) 780 1481 704 := ⟨tL_law_4_ok (701, .if_icmp .eq 780, 3) (List.mem_of_getElem? (i := 31) rfl), by decide, rfl⟩
theorem pL_law_704 : At cL_law 704 (.iconst 0) 1 705 := ⟨tL_law_4_ok (704, .iconst 0, 1) (List.mem_of_getElem? (i := 32) rfl), rfl⟩
theorem pL_law_705 : At cL_law 705 (.ireturn) 1 706 := ⟨tL_law_4_ok (705, .ireturn, 1) (List.mem_of_getElem? (i := 33) rfl), rfl⟩
theorem pL_law_706 : At cL_law 706 (.aload_n 1) 1 707 := ⟨tL_law_4_ok (706, .aload_n 1, 1) (List.mem_of_getElem? (i := 34) rfl), rfl⟩
theorem pL_law_707 : At cL_law 707 (.aload_n 0) 1 708 := ⟨tL_law_4_ok (707, .aload_n 0, 1) (List.mem_of_getElem? (i := 35) rfl), rfl⟩
theorem pL_law_708 : At cL_law 708 (.iload_n 3) 1 709 := ⟨tL_law_4_ok (708, .iload_n 3, 1) (List.mem_of_getElem? (i := 36) rfl), rfl⟩
theorem pL_law_709 : At cL_law 709 (.iconst 1) 1 710 := ⟨tL_law_4_ok (709, .iconst 1, 1) (List.mem_of_getElem? (i := 37) rfl), rfl⟩
theorem pL_law_710 : At cL_law 710 (.iadd) 1 711 := ⟨tL_law_4_ok (710, .iadd, 1) (List.mem_of_getElem? (i := 38) rfl), rfl⟩
theorem pL_law_711 : At cL_law 711 (.iaload) 1 712 := ⟨tL_law_4_ok (711, .iaload, 1) (List.mem_of_getElem? (i := 39) rfl), rfl⟩
theorem pL_law_712 : At cL_law 712 (.invokevirtual 76) 3 715 := ⟨tL_law_4_ok (712, .invokevirtual 76, 3) (List.mem_of_getElem? (i := 40) rfl), rfl⟩
theorem pL_law_715 : At cL_law 715 (.aload_n 2) 1 716 := ⟨tL_law_4_ok (715, .aload_n 2, 1) (List.mem_of_getElem? (i := 41) rfl), rfl⟩
theorem pL_law_716 : At cL_law 716 (.aload_n 0) 1 717 := ⟨tL_law_4_ok (716, .aload_n 0, 1) (List.mem_of_getElem? (i := 42) rfl), rfl⟩
theorem pL_law_717 : At cL_law 717 (.iload_n 3) 1 718 := ⟨tL_law_4_ok (717, .iload_n 3, 1) (List.mem_of_getElem? (i := 43) rfl), rfl⟩
theorem pL_law_718 : At cL_law 718 (.iconst 1) 1 719 := ⟨tL_law_4_ok (718, .iconst 1, 1) (List.mem_of_getElem? (i := 44) rfl), rfl⟩
theorem pL_law_719 : At cL_law 719 (.iadd) 1 720 := ⟨tL_law_4_ok (719, .iadd, 1) (List.mem_of_getElem? (i := 45) rfl), rfl⟩
theorem pL_law_720 : At cL_law 720 (.iaload) 1 721 := ⟨tL_law_4_ok (720, .iaload, 1) (List.mem_of_getElem? (i := 46) rfl), rfl⟩
theorem pL_law_721 : At cL_law 721 (.invokevirtual 79) 3 724 := ⟨tL_law_4_ok (721, .invokevirtual 79, 3) (List.mem_of_getElem? (i := 47) rfl), rfl⟩
theorem pL_law_724 : Bt cL_law 724 (.if_icmp .eq 757) 757 1481 727 := ⟨tL_law_4_ok (724, .if_icmp .eq 757, 3) (List.mem_of_getElem? (i := 48) rfl), by decide, rfl⟩
theorem pL_law_727 : At cL_law 727 (.iconst 0) 1 728 := ⟨tL_law_4_ok (727, .iconst 0, 1) (List.mem_of_getElem? (i := 49) rfl), rfl⟩
theorem pL_law_728 : At cL_law 728 (.ireturn) 1 729 := ⟨tL_law_4_ok (728, .ireturn, 1) (List.mem_of_getElem? (i := 50) rfl), rfl⟩
theorem pL_law_729 : At cL_law 729 (.aload_n 1) 1 730 := ⟨tL_law_4_ok (729, .aload_n 1, 1) (List.mem_of_getElem? (i := 51) rfl), rfl⟩
theorem pL_law_730 : At cL_law 730 (.aload_n 0) 1 731 := ⟨tL_law_4_ok (730, .aload_n 0, 1) (List.mem_of_getElem? (i := 52) rfl), rfl⟩
theorem pL_law_731 : At cL_law 731 (.iload_n 3) 1 732 := ⟨tL_law_4_ok (731, .iload_n 3, 1) (List.mem_of_getElem? (i := 53) rfl), rfl⟩
theorem pL_law_732 : At cL_law 732 (.iconst 1) 1 733 := ⟨tL_law_4_ok (732, .iconst 1, 1) (List.mem_of_getElem? (i := 54) rfl), rfl⟩
theorem pL_law_733 : At cL_law 733 (.iadd) 1 734 := ⟨tL_law_4_ok (733, .iadd, 1) (List.mem_of_getElem? (i := 55) rfl), rfl⟩
theorem pL_law_734 : At cL_law 734 (.iaload) 1 735 := ⟨tL_law_4_ok (734, .iaload, 1) (List.mem_of_getElem? (i := 56) rfl), rfl⟩
theorem pL_law_735 : At cL_law 735 (.aload_n 0) 1 736 := ⟨tL_law_4_ok (735, .aload_n 0, 1) (List.mem_of_getElem? (i := 57) rfl), rfl⟩
theorem pL_law_736 : At cL_law 736 (.iload_n 3) 1 737 := ⟨tL_law_4_ok (736, .iload_n 3, 1) (List.mem_of_getElem? (i := 58) rfl), rfl⟩
theorem pL_law_737 : At cL_law 737 (.iconst 2) 1 738 := ⟨tL_law_4_ok (737, .iconst 2, 1) (List.mem_of_getElem? (i := 59) rfl), rfl⟩
theorem pL_law_738 : At cL_law 738 (.iadd) 1 739 := ⟨tL_law_4_ok (738, .iadd, 1) (List.mem_of_getElem? (i := 60) rfl), rfl⟩
theorem pL_law_739 : At cL_law 739 (.iaload) 1 740 := ⟨tL_law_4_ok (739, .iaload, 1) (List.mem_of_getElem? (i := 61) rfl), rfl⟩
theorem pL_law_740 : At cL_law 740 (.aload_n 0) 1 741 := ⟨tL_law_4_ok (740, .aload_n 0, 1) (List.mem_of_getElem? (i := 62) rfl), rfl⟩
theorem pL_law_741 : At cL_law 741 (.iload_n 3) 1 742 := ⟨tL_law_4_ok (741, .iload_n 3, 1) (List.mem_of_getElem? (i := 63) rfl), rfl⟩
theorem pL_law_742 : At cL_law 742 (.iconst 3) 1 743 := ⟨tL_law_4_ok (742, .iconst 3, 1) (List.mem_of_getElem? (i := 64) rfl), rfl⟩
theorem pL_law_743 : At cL_law 743 (.iadd) 1 744 := ⟨tL_law_4_ok (743, .iadd, 1) (List.mem_of_getElem? (i := 65) rfl), rfl⟩
theorem pL_law_744 : At cL_law 744 (.iaload) 1 745 := ⟨tL_law_4_ok (744, .iaload, 1) (List.mem_of_getElem? (i := 66) rfl), rfl⟩
theorem pL_law_745 : At cL_law 745 (.invokevirtual 80) 3 748 := ⟨tL_law_4_ok (745, .invokevirtual 80, 3) (List.mem_of_getElem? (i := 67) rfl), rfl⟩
theorem pL_law_748 : At cL_law 748 (.aload_n 2) 1 749 := ⟨tL_law_4_ok (748, .aload_n 2, 1) (List.mem_of_getElem? (i := 68) rfl), rfl⟩
theorem pL_law_749 : At cL_law 749 (.aload_n 0) 1 750 := ⟨tL_law_4_ok (749, .aload_n 0, 1) (List.mem_of_getElem? (i := 69) rfl), rfl⟩
theorem pL_law_750 : At cL_law 750 (.iload_n 3) 1 751 := ⟨tL_law_4_ok (750, .iload_n 3, 1) (List.mem_of_getElem? (i := 70) rfl), rfl⟩
theorem pL_law_751 : At cL_law 751 (.iconst 1) 1 752 := ⟨tL_law_4_ok (751, .iconst 1, 1) (List.mem_of_getElem? (i := 71) rfl), rfl⟩
theorem pL_law_752 : At cL_law 752 (.iadd) 1 753 := ⟨tL_law_4_ok (752, .iadd, 1) (List.mem_of_getElem? (i := 72) rfl), rfl⟩
theorem pL_law_753 : At cL_law 753 (.iaload) 1 754 := ⟨tL_law_4_ok (753, .iaload, 1) (List.mem_of_getElem? (i := 73) rfl), rfl⟩
theorem pL_law_754 : At cL_law 754 (.aload_n 0) 1 755 := ⟨tL_law_4_ok (754, .aload_n 0, 1) (List.mem_of_getElem? (i := 74) rfl), rfl⟩
theorem pL_law_755 : At cL_law 755 (.iload_n 3) 1 756 := ⟨tL_law_4_ok (755, .iload_n 3, 1) (List.mem_of_getElem? (i := 75) rfl), rfl⟩
theorem pL_law_756 : At cL_law 756 (.iconst 2) 1 757 := ⟨tL_law_4_ok (756, .iconst 2, 1) (List.mem_of_getElem? (i := 76) rfl), rfl⟩
theorem pL_law_757 : At cL_law 757 (.iadd) 1 758 := ⟨tL_law_4_ok (757, .iadd, 1) (List.mem_of_getElem? (i := 77) rfl), rfl⟩
theorem pL_law_758 : At cL_law 758 (.iaload) 1 759 := ⟨tL_law_4_ok (758, .iaload, 1) (List.mem_of_getElem? (i := 78) rfl), rfl⟩
theorem pL_law_759 : At cL_law 759 (.aload_n 0) 1 760 := ⟨tL_law_4_ok (759, .aload_n 0, 1) (List.mem_of_getElem? (i := 79) rfl), rfl⟩
theorem pL_law_760 : At cL_law 760 (.iload_n 3) 1 761 := ⟨tL_law_4_ok (760, .iload_n 3, 1) (List.mem_of_getElem? (i := 80) rfl), rfl⟩
theorem pL_law_761 : At cL_law 761 (.iconst 3) 1 762 := ⟨tL_law_4_ok (761, .iconst 3, 1) (List.mem_of_getElem? (i := 81) rfl), rfl⟩
theorem pL_law_762 : At cL_law 762 (.iadd) 1 763 := ⟨tL_law_4_ok (762, .iadd, 1) (List.mem_of_getElem? (i := 82) rfl), rfl⟩
theorem pL_law_763 : At cL_law 763 (.iaload) 1 764 := ⟨tL_law_4_ok (763, .iaload, 1) (List.mem_of_getElem? (i := 83) rfl), rfl⟩
theorem pL_law_764 : At cL_law 764 (.invokevirtual 83) 3 767 := ⟨tL_law_4_ok (764, .invokevirtual 83, 3) (List.mem_of_getElem? (i := 84) rfl), rfl⟩
theorem pL_law_767 : Bt cL_law 767 (.if_icmp .eq 714) 714 1481 770 := ⟨tL_law_4_ok (767, .if_icmp .eq 714, 3) (List.mem_of_getElem? (i := 85) rfl), by decide, rfl⟩
theorem pL_law_770 : At cL_law 770 (.iconst 0) 1 771 := ⟨tL_law_4_ok (770, .iconst 0, 1) (List.mem_of_getElem? (i := 86) rfl), rfl⟩
theorem pL_law_771 : At cL_law 771 (.ireturn) 1 772 := ⟨tL_law_4_ok (771, .ireturn, 1) (List.mem_of_getElem? (i := 87) rfl), rfl⟩
theorem pL_law_772 : At cL_law 772 (.aload_n 1) 1 773 := ⟨tL_law_4_ok (772, .aload_n 1, 1) (List.mem_of_getElem? (i := 88) rfl), rfl⟩
theorem pL_law_773 : At cL_law 773 (.aload_n 0) 1 774 := ⟨tL_law_4_ok (773, .aload_n 0, 1) (List.mem_of_getElem? (i := 89) rfl), rfl⟩
theorem pL_law_774 : At cL_law 774 (.iload_n 3) 1 775 := ⟨tL_law_4_ok (774, .iload_n 3, 1) (List.mem_of_getElem? (i := 90) rfl), rfl⟩
theorem pL_law_775 : At cL_law 775 (.iconst 1) 1 776 := ⟨tL_law_4_ok (775, .iconst 1, 1) (List.mem_of_getElem? (i := 91) rfl), rfl⟩
theorem pL_law_776 : At cL_law 776 (.iadd) 1 777 := ⟨tL_law_4_ok (776, .iadd, 1) (List.mem_of_getElem? (i := 92) rfl), rfl⟩
theorem pL_law_777 : At cL_law 777 (.iaload) 1 778 := ⟨tL_law_4_ok (777, .iaload, 1) (List.mem_of_getElem? (i := 93) rfl), rfl⟩
theorem pL_law_778 : At cL_law 778 (.aload_n 0) 1 779 := ⟨tL_law_4_ok (778, .aload_n 0, 1) (List.mem_of_getElem? (i := 94) rfl), rfl⟩
theorem pL_law_779 : At cL_law 779 (.iload_n 3) 1 780 := ⟨tL_law_4_ok (779, .iload_n 3, 1) (List.mem_of_getElem? (i := 95) rfl), rfl⟩
theorem pL_law_780 : At cL_law 780 (.iconst 2) 1 781 := ⟨tL_law_4_ok (780, .iconst 2, 1) (List.mem_of_getElem? (i := 96) rfl), rfl⟩
theorem pL_law_781 : At cL_law 781 (.iadd) 1 782 := ⟨tL_law_4_ok (781, .iadd, 1) (List.mem_of_getElem? (i := 97) rfl), rfl⟩
theorem pL_law_782 : At cL_law 782 (.iaload) 1 783 := ⟨tL_law_4_ok (782, .iaload, 1) (List.mem_of_getElem? (i := 98) rfl), rfl⟩
theorem pL_law_783 : At cL_law 783 (.invokevirtual 84) 3 786 := ⟨tL_law_4_ok (783, .invokevirtual 84, 3) (List.mem_of_getElem? (i := 99) rfl), rfl⟩
theorem pL_law_786 : At cL_law 786 (.aload_n 2) 1 787 := ⟨tL_law_5_ok (786, .aload_n 2, 1) (List.mem_of_getElem? (i := 0) rfl), rfl⟩
theorem pL_law_787 : At cL_law 787 (.aload_n 0) 1 788 := ⟨tL_law_5_ok (787, .aload_n 0, 1) (List.mem_of_getElem? (i := 1) rfl), rfl⟩
theorem pL_law_788 : At cL_law 788 (.iload_n 3) 1 789 := ⟨tL_law_5_ok (788, .iload_n 3, 1) (List.mem_of_getElem? (i := 2) rfl), rfl⟩
theorem pL_law_789 : At cL_law 789 (.iconst 1) 1 790 := ⟨tL_law_5_ok (789, .iconst 1, 1) (List.mem_of_getElem? (i := 3) rfl), rfl⟩
theorem pL_law_790 : At cL_law 790 (.iadd) 1 791 := ⟨tL_law_5_ok (790, .iadd, 1) (List.mem_of_getElem? (i := 4) rfl), rfl⟩
theorem pL_law_791 : At cL_law 791 (.iaload) 1 792 := ⟨tL_law_5_ok (791, .iaload, 1) (List.mem_of_getElem? (i := 5) rfl), rfl⟩
theorem pL_law_792 : At cL_law 792 (.aload_n 0) 1 793 := ⟨tL_law_5_ok (792, .aload_n 0, 1) (List.mem_of_getElem? (i := 6) rfl), rfl⟩
theorem pL_law_793 : At cL_law 793 (.iload_n 3) 1 794 := ⟨tL_law_5_ok (793, .iload_n 3, 1) (List.mem_of_getElem? (i := 7) rfl), rfl⟩
theorem pL_law_794 : At cL_law 794 (.iconst 2) 1 795 := ⟨tL_law_5_ok (794, .iconst 2, 1) (List.mem_of_getElem? (i := 8) rfl), rfl⟩
theorem pL_law_795 : At cL_law 795 (.iadd) 1 796 := ⟨tL_law_5_ok (795, .iadd, 1) (List.mem_of_getElem? (i := 9) rfl), rfl⟩
theorem pL_law_796 : At cL_law 796 (.iaload) 1 797 := ⟨tL_law_5_ok (796, .iaload, 1) (List.mem_of_getElem? (i := 10) rfl), rfl⟩
theorem pL_law_797 : At cL_law 797 (.invokevirtual 87) 3 800 := ⟨tL_law_5_ok (797, .invokevirtual 87, 3) (List.mem_of_getElem? (i := 11) rfl), rfl⟩
theorem pL_law_800 : Bt cL_law 800 (.if_icmp .eq 681) 681 1481 803 := ⟨tL_law_5_ok (800, .if_icmp .eq 681, 3) (List.mem_of_getElem? (i := 12) rfl), by decide, rfl⟩
theorem pL_law_803 : At cL_law 803 (.iconst 0) 1 804 := ⟨tL_law_5_ok (803, .iconst 0, 1) (List.mem_of_getElem? (i := 13) rfl), rfl⟩
theorem pL_law_804 : At cL_law 804 (.ireturn) 1 805 := ⟨tL_law_5_ok (804, .ireturn, 1) (List.mem_of_getElem? (i := 14) rfl), rfl⟩
theorem pL_law_805 : At cL_law 805 (.aload_n 1) 1 806 := ⟨tL_law_5_ok (805, .aload_n 1, 1) (List.mem_of_getElem? (i := 15) rfl), rfl⟩
theorem pL_law_806 : At cL_law 806 (.invokevirtual 88) 3 809 := ⟨tL_law_5_ok (806, .invokevirtual 88, 3) (List.mem_of_getElem? (i := 16) rfl), rfl⟩
theorem pL_law_809 : At cL_law 809 (.aload_n 2) 1 810 := ⟨tL_law_5_ok (809, .aload_n 2, 1) (List.mem_of_getElem? (i := 17) rfl), rfl⟩
theorem pL_law_810 : At cL_law 810 (.invokevirtual 92) 3 813 := ⟨tL_law_5_ok (810, .invokevirtual 92, 3) (List.mem_of_getElem? (i := 18) rfl), rfl⟩
theorem pL_law_813 : Bt cL_law 813 (.if_icmp .eq 668) 668 1481 816 := ⟨tL_law_5_ok (813, .if_icmp .eq 668, 3) (List.mem_of_getElem? (i := 19) rfl), by decide, rfl⟩
theorem pL_law_816 : At cL_law 816 (.iconst 0) 1 817 := ⟨tL_law_5_ok (816, .iconst 0, 1) (List.mem_of_getElem? (i := 20) rfl), rfl⟩
theorem pL_law_817 : At cL_law 817 (.ireturn) 1 818 := ⟨tL_law_5_ok (817, .ireturn, 1) (List.mem_of_getElem? (i := 21) rfl), rfl⟩
theorem pL_law_818 : At cL_law 818 (.aload_n 1) 1 819 := ⟨tL_law_5_ok (818, .aload_n 1, 1) (List.mem_of_getElem? (i := 22) rfl), rfl⟩
theorem pL_law_819 : At cL_law 819 (.aload_n 0) 1 820 := ⟨tL_law_5_ok (819, .aload_n 0, 1) (List.mem_of_getElem? (i := 23) rfl), rfl⟩
theorem pL_law_820 : At cL_law 820 (.iload_n 3) 1 821 := ⟨tL_law_5_ok (820, .iload_n 3, 1) (List.mem_of_getElem? (i := 24) rfl), rfl⟩
theorem pL_law_821 : At cL_law 821 (.iconst 1) 1 822 := ⟨tL_law_5_ok (821, .iconst 1, 1) (List.mem_of_getElem? (i := 25) rfl), rfl⟩
theorem pL_law_822 : At cL_law 822 (.iadd) 1 823 := ⟨tL_law_5_ok (822, .iadd, 1) (List.mem_of_getElem? (i := 26) rfl), rfl⟩
theorem pL_law_823 : At cL_law 823 (.iaload) 1 824 := ⟨tL_law_5_ok (823, .iaload, 1) (List.mem_of_getElem? (i := 27) rfl), rfl⟩
theorem pL_law_824 : At cL_law 824 (.aload_n 0) 1 825 := ⟨tL_law_5_ok (824, .aload_n 0, 1) (List.mem_of_getElem? (i := 28) rfl), rfl⟩
theorem pL_law_825 : At cL_law 825 (.iload_n 3) 1 826 := ⟨tL_law_5_ok (825, .iload_n 3, 1) (List.mem_of_getElem? (i := 29) rfl), rfl⟩
theorem pL_law_826 : At cL_law 826 (.iconst 2) 1 827 := ⟨tL_law_5_ok (826, .iconst 2, 1) (List.mem_of_getElem? (i := 30) rfl), rfl⟩
theorem pL_law_827 : At cL_law 827 (.iadd) 1 828 := ⟨tL_law_5_ok (827, .iadd, 1) (List.mem_of_getElem? (i := 31) rfl), rfl⟩
theorem pL_law_828 : At cL_law 828 (.iaload) 1 829 := ⟨tL_law_5_ok (828, .iaload, 1) (List.mem_of_getElem? (i := 32) rfl), rfl⟩
theorem pL_law_829 : At cL_law 829 (.aload_n 0) 1 830 := ⟨tL_law_5_ok (829, .aload_n 0, 1) (List.mem_of_getElem? (i := 33) rfl), rfl⟩
theorem pL_law_830 : At cL_law 830 (.iload_n 3) 1 831 := ⟨tL_law_5_ok (830, .iload_n 3, 1) (List.mem_of_getElem? (i := 34) rfl), rfl⟩
theorem pL_law_831 : At cL_law 831 (.iconst 3) 1 832 := ⟨tL_law_5_ok (831, .iconst 3, 1) (List.mem_of_getElem? (i := 35) rfl), rfl⟩
theorem pL_law_832 : At cL_law 832 (.iadd) 1 833 := ⟨tL_law_5_ok (832, .iadd, 1) (List.mem_of_getElem? (i := 36) rfl), rfl⟩
theorem pL_law_833 : At cL_law 833 (.iaload) 1 834 := ⟨tL_law_5_ok (833, .iaload, 1) (List.mem_of_getElem? (i := 37) rfl), rfl⟩
theorem pL_law_834 : At cL_law 834 (.invokevirtual 93) 3 837 := ⟨tL_law_5_ok (834, .invokevirtual 93, 3) (List.mem_of_getElem? (i := 38) rfl), rfl⟩
theorem pL_law_837 : At cL_law 837 (.aload_n 2) 1 838 := ⟨tL_law_5_ok (837, .aload_n 2, 1) (List.mem_of_getElem? (i := 39) rfl), rfl⟩
theorem pL_law_838 : At cL_law 838 (.aload_n 0) 1 839 := ⟨tL_law_5_ok (838, .aload_n 0, 1) (List.mem_of_getElem? (i := 40) rfl), rfl⟩
theorem pL_law_839 : At cL_law 839 (.iload_n 3) 1 840 := ⟨tL_law_5_ok (839, .iload_n 3, 1) (List.mem_of_getElem? (i := 41) rfl), rfl⟩
theorem pL_law_840 : At cL_law 840 (.iconst 1) 1 841 := ⟨tL_law_5_ok (840, .iconst 1, 1) (List.mem_of_getElem? (i := 42) rfl), rfl⟩
theorem pL_law_841 : At cL_law 841 (.iadd) 1 842 := ⟨tL_law_5_ok (841, .iadd, 1) (List.mem_of_getElem? (i := 43) rfl), rfl⟩
theorem pL_law_842 : At cL_law 842 (.iaload) 1 843 := ⟨tL_law_5_ok (842, .iaload, 1) (List.mem_of_getElem? (i := 44) rfl), rfl⟩
theorem pL_law_843 : At cL_law 843 (.aload_n 0) 1 844 := ⟨tL_law_5_ok (843, .aload_n 0, 1) (List.mem_of_getElem? (i := 45) rfl), rfl⟩
theorem pL_law_844 : At cL_law 844 (.iload_n 3) 1 845 := ⟨tL_law_5_ok (844, .iload_n 3, 1) (List.mem_of_getElem? (i := 46) rfl), rfl⟩
theorem pL_law_845 : At cL_law 845 (.iconst 2) 1 846 := ⟨tL_law_5_ok (845, .iconst 2, 1) (List.mem_of_getElem? (i := 47) rfl), rfl⟩
theorem pL_law_846 : At cL_law 846 (.iadd) 1 847 := ⟨tL_law_5_ok (846, .iadd, 1) (List.mem_of_getElem? (i := 48) rfl), rfl⟩
theorem pL_law_847 : At cL_law 847 (.iaload) 1 848 := ⟨tL_law_5_ok (847, .iaload, 1) (List.mem_of_getElem? (i := 49) rfl), rfl⟩
theorem pL_law_848 : At cL_law 848 (.aload_n 0) 1 849 := ⟨tL_law_5_ok (848, .aload_n 0, 1) (List.mem_of_getElem? (i := 50) rfl), rfl⟩
theorem pL_law_849 : At cL_law 849 (.iload_n 3) 1 850 := ⟨tL_law_5_ok (849, .iload_n 3, 1) (List.mem_of_getElem? (i := 51) rfl), rfl⟩
theorem pL_law_850 : At cL_law 850 (.iconst 3) 1 851 := ⟨tL_law_5_ok (850, .iconst 3, 1) (List.mem_of_getElem? (i := 52) rfl), rfl⟩
theorem pL_law_851 : At cL_law 851 (.iadd) 1 852 := ⟨tL_law_5_ok (851, .iadd, 1) (List.mem_of_getElem? (i := 53) rfl), rfl⟩
theorem pL_law_852 : At cL_law 852 (.iaload) 1 853 := ⟨tL_law_5_ok (852, .iaload, 1) (List.mem_of_getElem? (i := 54) rfl), rfl⟩
theorem pL_law_853 : At cL_law 853 (.invokevirtual 96) 3 856 := ⟨tL_law_5_ok (853, .invokevirtual 96, 3) (List.mem_of_getElem? (i := 55) rfl), rfl⟩
theorem pL_law_856 : Bt cL_law 856 (.if_icmp .eq 625) 625 1481 859 := ⟨tL_law_5_ok (856, .if_icmp .eq 625, 3) (List.mem_of_getElem? (i := 56) rfl), by decide, rfl⟩
theorem pL_law_859 : At cL_law 859 (.iconst 0) 1 860 := ⟨tL_law_5_ok (859, .iconst 0, 1) (List.mem_of_getElem? (i := 57) rfl), rfl⟩
theorem pL_law_860 : At cL_law 860 (.ireturn) 1 861 := ⟨tL_law_5_ok (860, .ireturn, 1) (List.mem_of_getElem? (i := 58) rfl), rfl⟩
theorem pL_law_861 : At cL_law 861 (.aload_n 1) 1 862 := ⟨tL_law_5_ok (861, .aload_n 1, 1) (List.mem_of_getElem? (i := 59) rfl), rfl⟩
theorem pL_law_862 : At cL_law 862 (.aload_n 0) 1 863 := ⟨tL_law_5_ok (862, .aload_n 0, 1) (List.mem_of_getElem? (i := 60) rfl), rfl⟩
theorem pL_law_863 : At cL_law 863 (.iload_n 3) 1 864 := ⟨tL_law_5_ok (863, .iload_n 3, 1) (List.mem_of_getElem? (i := 61) rfl), rfl⟩
theorem pL_law_864 : At cL_law 864 (.iconst 1) 1 865 := ⟨tL_law_5_ok (864, .iconst 1, 1) (List.mem_of_getElem? (i := 62) rfl), rfl⟩
theorem pL_law_865 : At cL_law 865 (.iadd) 1 866 := ⟨tL_law_5_ok (865, .iadd, 1) (List.mem_of_getElem? (i := 63) rfl), rfl⟩
theorem pL_law_866 : At cL_law 866 (.iaload) 1 867 := ⟨tL_law_5_ok (866, .iaload, 1) (List.mem_of_getElem? (i := 64) rfl), rfl⟩
theorem pL_law_867 : At cL_law 867 (.aload_n 0) 1 868 := ⟨tL_law_5_ok (867, .aload_n 0, 1) (List.mem_of_getElem? (i := 65) rfl), rfl⟩
theorem pL_law_868 : At cL_law 868 (.iload_n 3) 1 869 := ⟨tL_law_5_ok (868, .iload_n 3, 1) (List.mem_of_getElem? (i := 66) rfl), rfl⟩
theorem pL_law_869 : At cL_law 869 (.iconst 2) 1 870 := ⟨tL_law_5_ok (869, .iconst 2, 1) (List.mem_of_getElem? (i := 67) rfl), rfl⟩
theorem pL_law_870 : At cL_law 870 (.iadd) 1 871 := ⟨tL_law_5_ok (870, .iadd, 1) (List.mem_of_getElem? (i := 68) rfl), rfl⟩
theorem pL_law_871 : At cL_law 871 (.iaload) 1 872 := ⟨tL_law_5_ok (871, .iaload, 1) (List.mem_of_getElem? (i := 69) rfl), rfl⟩
theorem pL_law_872 : At cL_law 872 (.aload_n 0) 1 873 := ⟨tL_law_5_ok (872, .aload_n 0, 1) (List.mem_of_getElem? (i := 70) rfl), rfl⟩
theorem pL_law_873 : At cL_law 873 (.iload_n 3) 1 874 := ⟨tL_law_5_ok (873, .iload_n 3, 1) (List.mem_of_getElem? (i := 71) rfl), rfl⟩
theorem pL_law_874 : At cL_law 874 (.iconst 3) 1 875 := ⟨tL_law_5_ok (874, .iconst 3, 1) (List.mem_of_getElem? (i := 72) rfl), rfl⟩
theorem pL_law_875 : At cL_law 875 (.iadd) 1 876 := ⟨tL_law_5_ok (875, .iadd, 1) (List.mem_of_getElem? (i := 73) rfl), rfl⟩
theorem pL_law_876 : At cL_law 876 (.iaload) 1 877 := ⟨tL_law_5_ok (876, .iaload, 1) (List.mem_of_getElem? (i := 74) rfl), rfl⟩
theorem pL_law_877 : At cL_law 877 (.invokevirtual 97) 3 880 := ⟨tL_law_5_ok (877, .invokevirtual 97, 3) (List.mem_of_getElem? (i := 75) rfl), rfl⟩
theorem pL_law_880 : At cL_law 880 (.aload_n 2) 1 881 := ⟨tL_law_5_ok (880, .aload_n 2, 1) (List.mem_of_getElem? (i := 76) rfl), rfl⟩
theorem pL_law_881 : At cL_law 881 (.aload_n 0) 1 882 := ⟨tL_law_5_ok (881, .aload_n 0, 1) (List.mem_of_getElem? (i := 77) rfl), rfl⟩
theorem pL_law_882 : At cL_law 882 (.iload_n 3) 1 883 := ⟨tL_law_5_ok (882, .iload_n 3, 1) (List.mem_of_getElem? (i := 78) rfl), rfl⟩
theorem pL_law_883 : At cL_law 883 (.iconst 1) 1 884 := ⟨tL_law_5_ok (883, .iconst 1, 1) (List.mem_of_getElem? (i := 79) rfl), rfl⟩
theorem pL_law_884 : At cL_law 884 (.iadd) 1 885 := ⟨tL_law_5_ok (884, .iadd, 1) (List.mem_of_getElem? (i := 80) rfl), rfl⟩
theorem pL_law_885 : At cL_law 885 (.iaload) 1 886 := ⟨tL_law_5_ok (885, .iaload, 1) (List.mem_of_getElem? (i := 81) rfl), rfl⟩
theorem pL_law_886 : At cL_law 886 (.aload_n 0) 1 887 := ⟨tL_law_5_ok (886, .aload_n 0, 1) (List.mem_of_getElem? (i := 82) rfl), rfl⟩
theorem pL_law_887 : At cL_law 887 (.iload_n 3) 1 888 := ⟨tL_law_5_ok (887, .iload_n 3, 1) (List.mem_of_getElem? (i := 83) rfl), rfl⟩
theorem pL_law_888 : At cL_law 888 (.iconst 2) 1 889 := ⟨tL_law_5_ok (888, .iconst 2, 1) (List.mem_of_getElem? (i := 84) rfl), rfl⟩
theorem pL_law_889 : At cL_law 889 (.iadd) 1 890 := ⟨tL_law_5_ok (889, .iadd, 1) (List.mem_of_getElem? (i := 85) rfl), rfl⟩
theorem pL_law_890 : At cL_law 890 (.iaload) 1 891 := ⟨tL_law_5_ok (890, .iaload, 1) (List.mem_of_getElem? (i := 86) rfl), rfl⟩
theorem pL_law_891 : At cL_law 891 (.aload_n 0) 1 892 := ⟨tL_law_5_ok (891, .aload_n 0, 1) (List.mem_of_getElem? (i := 87) rfl), rfl⟩
theorem pL_law_892 : At cL_law 892 (.iload_n 3) 1 893 := ⟨tL_law_5_ok (892, .iload_n 3, 1) (List.mem_of_getElem? (i := 88) rfl), rfl⟩
theorem pL_law_893 : At cL_law 893 (.iconst 3) 1 894 := ⟨tL_law_5_ok (893, .iconst 3, 1) (List.mem_of_getElem? (i := 89) rfl), rfl⟩
theorem pL_law_894 : At cL_law 894 (.iadd) 1 895 := ⟨tL_law_5_ok (894, .iadd, 1) (List.mem_of_getElem? (i := 90) rfl), rfl⟩
theorem pL_law_895 : At cL_law 895 (.iaload) 1 896 := ⟨tL_law_5_ok (895, .iaload, 1) (List.mem_of_getElem? (i := 91) rfl), rfl⟩
theorem pL_law_896 : At cL_law 896 (.invokevirtual 100) 3 899 := ⟨tL_law_5_ok (896, .invokevirtual 100, 3) (List.mem_of_getElem? (i := 92) rfl), rfl⟩
theorem pL_law_899 : Bt cL_law 899 (.if_icmp .eq 582) 582 1481 902 := ⟨tL_law_5_ok (899, .if_icmp .eq 582, 3) (List.mem_of_getElem? (i := 93) rfl), by decide, rfl⟩
theorem pL_law_902 : At cL_law 902 (.iconst 0) 1 903 := ⟨tL_law_5_ok (902, .iconst 0, 1) (List.mem_of_getElem? (i := 94) rfl), rfl⟩
theorem pL_law_903 : At cL_law 903 (.ireturn) 1 904 := ⟨tL_law_5_ok (903, .ireturn, 1) (List.mem_of_getElem? (i := 95) rfl), rfl⟩
theorem pL_law_904 : At cL_law 904 (.aload_n 1) 1 905 := ⟨tL_law_5_ok (904, .aload_n 1, 1) (List.mem_of_getElem? (i := 96) rfl), rfl⟩
theorem pL_law_905 : At cL_law 905 (.aload_n 0) 1 906 := ⟨tL_law_5_ok (905, .aload_n 0, 1) (List.mem_of_getElem? (i := 97) rfl), rfl⟩
theorem pL_law_906 : At cL_law 906 (.iload_n 3) 1 907 := ⟨tL_law_5_ok (906, .iload_n 3, 1) (List.mem_of_getElem? (i := 98) rfl), rfl⟩
theorem pL_law_907 : At cL_law 907 (.iconst 1) 1 908 := ⟨tL_law_5_ok (907, .iconst 1, 1) (List.mem_of_getElem? (i := 99) rfl), rfl⟩
theorem pL_law_908 : At cL_law 908 (.iadd) 1 909 := ⟨tL_law_6_ok (908, .iadd, 1) (List.mem_of_getElem? (i := 0) rfl), rfl⟩
theorem pL_law_909 : At cL_law 909 (.iaload) 1 910 := ⟨tL_law_6_ok (909, .iaload, 1) (List.mem_of_getElem? (i := 1) rfl), rfl⟩
theorem pL_law_910 : At cL_law 910 (.aload_n 0) 1 911 := ⟨tL_law_6_ok (910, .aload_n 0, 1) (List.mem_of_getElem? (i := 2) rfl), rfl⟩
theorem pL_law_911 : At cL_law 911 (.iload_n 3) 1 912 := ⟨tL_law_6_ok (911, .iload_n 3, 1) (List.mem_of_getElem? (i := 3) rfl), rfl⟩
theorem pL_law_912 : At cL_law 912 (.iconst 2) 1 913 := ⟨tL_law_6_ok (912, .iconst 2, 1) (List.mem_of_getElem? (i := 4) rfl), rfl⟩
theorem pL_law_913 : At cL_law 913 (.iadd) 1 914 := ⟨tL_law_6_ok (913, .iadd, 1) (List.mem_of_getElem? (i := 5) rfl), rfl⟩
theorem pL_law_914 : At cL_law 914 (.iaload) 1 915 := ⟨tL_law_6_ok (914, .iaload, 1) (List.mem_of_getElem? (i := 6) rfl), rfl⟩
theorem pL_law_915 : At cL_law 915 (.invokevirtual 101) 3 918 := ⟨tL_law_6_ok (915, .invokevirtual 101, 3) (List.mem_of_getElem? (i := 7) rfl), rfl⟩
theorem pL_law_918 : At cL_law 918 (.aload_n 2) 1 919 := ⟨tL_law_6_ok (918, .aload_n 2, 1) (List.mem_of_getElem? (i := 8) rfl), rfl⟩
theorem pL_law_919 : At cL_law 919 (.aload_n 0) 1 920 := ⟨tL_law_6_ok (919, .aload_n 0, 1) (List.mem_of_getElem? (i := 9) rfl), rfl⟩
theorem pL_law_920 : At cL_law 920 (.iload_n 3) 1 921 := ⟨tL_law_6_ok (920, .iload_n 3, 1) (List.mem_of_getElem? (i := 10) rfl), rfl⟩
theorem pL_law_921 : At cL_law 921 (.iconst 1) 1 922 := ⟨tL_law_6_ok (921, .iconst 1, 1) (List.mem_of_getElem? (i := 11) rfl), rfl⟩
theorem pL_law_922 : At cL_law 922 (.iadd) 1 923 := ⟨tL_law_6_ok (922, .iadd, 1) (List.mem_of_getElem? (i := 12) rfl), rfl⟩
theorem pL_law_923 : At cL_law 923 (.iaload) 1 924 := ⟨tL_law_6_ok (923, .iaload, 1) (List.mem_of_getElem? (i := 13) rfl), rfl⟩
theorem pL_law_924 : At cL_law 924 (.aload_n 0) 1 925 := ⟨tL_law_6_ok (924, .aload_n 0, 1) (List.mem_of_getElem? (i := 14) rfl), rfl⟩
theorem pL_law_925 : At cL_law 925 (.iload_n 3) 1 926 := ⟨tL_law_6_ok (925, .iload_n 3, 1) (List.mem_of_getElem? (i := 15) rfl), rfl⟩
theorem pL_law_926 : At cL_law 926 (.iconst 2) 1 927 := ⟨tL_law_6_ok (926, .iconst 2, 1) (List.mem_of_getElem? (i := 16) rfl), rfl⟩
theorem pL_law_927 : At cL_law 927 (.iadd) 1 928 := ⟨tL_law_6_ok (927, .iadd, 1) (List.mem_of_getElem? (i := 17) rfl), rfl⟩
theorem pL_law_928 : At cL_law 928 (.iaload) 1 929 := ⟨tL_law_6_ok (928, .iaload, 1) (List.mem_of_getElem? (i := 18) rfl), rfl⟩
theorem pL_law_929 : At cL_law 929 (.invokevirtual 104) 3 932 := ⟨tL_law_6_ok (929, .invokevirtual 104, 3) (List.mem_of_getElem? (i := 19) rfl), rfl⟩
theorem pL_law_932 : Bt cL_law 932 (.if_icmp .eq 549) 549 1481 935 := ⟨tL_law_6_ok (932, .if_icmp .eq 549, 3) (List.mem_of_getElem? (i := 20) rfl), by decide, rfl⟩
theorem pL_law_935 : At cL_law 935 (.iconst 0) 1 936 := ⟨tL_law_6_ok (935, .iconst 0, 1) (List.mem_of_getElem? (i := 21) rfl), rfl⟩
theorem pL_law_936 : At cL_law 936 (.ireturn) 1 937 := ⟨tL_law_6_ok (936, .ireturn, 1) (List.mem_of_getElem? (i := 22) rfl), rfl⟩
theorem pL_law_937 : At cL_law 937 (.aload_n 1) 1 938 := ⟨tL_law_6_ok (937, .aload_n 1, 1) (List.mem_of_getElem? (i := 23) rfl), rfl⟩
theorem pL_law_938 : At cL_law 938 (.aload_n 0) 1 939 := ⟨tL_law_6_ok (938, .aload_n 0, 1) (List.mem_of_getElem? (i := 24) rfl), rfl⟩
theorem pL_law_939 : At cL_law 939 (.iload_n 3) 1 940 := ⟨tL_law_6_ok (939, .iload_n 3, 1) (List.mem_of_getElem? (i := 25) rfl), rfl⟩
theorem pL_law_940 : At cL_law 940 (.iconst 1) 1 941 := ⟨tL_law_6_ok (940, .iconst 1, 1) (List.mem_of_getElem? (i := 26) rfl), rfl⟩
theorem pL_law_941 : At cL_law 941 (.iadd) 1 942 := ⟨tL_law_6_ok (941, .iadd, 1) (List.mem_of_getElem? (i := 27) rfl), rfl⟩
theorem pL_law_942 : At cL_law 942 (.iaload) 1 943 := ⟨tL_law_6_ok (942, .iaload, 1) (List.mem_of_getElem? (i := 28) rfl), rfl⟩
theorem pL_law_943 : At cL_law 943 (.invokevirtual 105) 3 946 := ⟨tL_law_6_ok (943, .invokevirtual 105, 3) (List.mem_of_getElem? (i := 29) rfl), rfl⟩
theorem pL_law_946 : At cL_law 946 (.aload_n 2) 1 947 := ⟨tL_law_6_ok (946, .aload_n 2, 1) (List.mem_of_getElem? (i := 30) rfl), rfl⟩
theorem pL_law_947 : At cL_law 947 (.aload_n 0) 1 948 := ⟨tL_law_6_ok (947, .aload_n 0, 1) (List.mem_of_getElem? (i := 31) rfl), rfl⟩
theorem pL_law_948 : At cL_law 948 (.iload_n 3) 1 949 := ⟨tL_law_6_ok (948, .iload_n 3, 1) (List.mem_of_getElem? (i := 32) rfl), rfl⟩
theorem pL_law_949 : At cL_law 949 (.iconst 1) 1 950 := ⟨tL_law_6_ok (949, .iconst 1, 1) (List.mem_of_getElem? (i := 33) rfl), rfl⟩
theorem pL_law_950 : At cL_law 950 (.iadd) 1 951 := ⟨tL_law_6_ok (950, .iadd, 1) (List.mem_of_getElem? (i := 34) rfl), rfl⟩
theorem pL_law_951 : At cL_law 951 (.iaload) 1 952 := ⟨tL_law_6_ok (951, .iaload, 1) (List.mem_of_getElem? (i := 35) rfl), rfl⟩
theorem pL_law_952 : At cL_law 952 (.invokevirtual 108) 3 955 := ⟨tL_law_6_ok (952, .invokevirtual 108, 3) (List.mem_of_getElem? (i := 36) rfl), rfl⟩
theorem pL_law_955 : Bt cL_law 955 (.if_icmp .eq 526) 526 1481 958 := ⟨tL_law_6_ok (955, .if_icmp .eq 526, 3) (List.mem_of_getElem? (i := 37) rfl), by decide, rfl⟩
theorem pL_law_958 : At cL_law 958 (.iconst 0) 1 959 := ⟨tL_law_6_ok (958, .iconst 0, 1) (List.mem_of_getElem? (i := 38) rfl), rfl⟩
theorem pL_law_959 : At cL_law 959 (.ireturn) 1 960 := ⟨tL_law_6_ok (959, .ireturn, 1) (List.mem_of_getElem? (i := 39) rfl), rfl⟩
theorem pL_law_960 : At cL_law 960 (.aload_n 1) 1 961 := ⟨tL_law_6_ok (960, .aload_n 1, 1) (List.mem_of_getElem? (i := 40) rfl), rfl⟩
theorem pL_law_961 : At cL_law 961 (.aload_n 0) 1 962 := ⟨tL_law_6_ok (961, .aload_n 0, 1) (List.mem_of_getElem? (i := 41) rfl), rfl⟩
theorem pL_law_962 : At cL_law 962 (.iload_n 3) 1 963 := ⟨tL_law_6_ok (962, .iload_n 3, 1) (List.mem_of_getElem? (i := 42) rfl), rfl⟩
theorem pL_law_963 : At cL_law 963 (.iconst 1) 1 964 := ⟨tL_law_6_ok (963, .iconst 1, 1) (List.mem_of_getElem? (i := 43) rfl), rfl⟩
theorem pL_law_964 : At cL_law 964 (.iadd) 1 965 := ⟨tL_law_6_ok (964, .iadd, 1) (List.mem_of_getElem? (i := 44) rfl), rfl⟩
theorem pL_law_965 : At cL_law 965 (.iaload) 1 966 := ⟨tL_law_6_ok (965, .iaload, 1) (List.mem_of_getElem? (i := 45) rfl), rfl⟩
theorem pL_law_966 : At cL_law 966 (.aload_n 0) 1 967 := ⟨tL_law_6_ok (966, .aload_n 0, 1) (List.mem_of_getElem? (i := 46) rfl), rfl⟩
theorem pL_law_967 : At cL_law 967 (.iload_n 3) 1 968 := ⟨tL_law_6_ok (967, .iload_n 3, 1) (List.mem_of_getElem? (i := 47) rfl), rfl⟩
theorem pL_law_968 : At cL_law 968 (.iconst 2) 1 969 := ⟨tL_law_6_ok (968, .iconst 2, 1) (List.mem_of_getElem? (i := 48) rfl), rfl⟩
theorem pL_law_969 : At cL_law 969 (.iadd) 1 970 := ⟨tL_law_6_ok (969, .iadd, 1) (List.mem_of_getElem? (i := 49) rfl), rfl⟩
theorem pL_law_970 : At cL_law 970 (.iaload) 1 971 := ⟨tL_law_6_ok (970, .iaload, 1) (List.mem_of_getElem? (i := 50) rfl), rfl⟩
theorem pL_law_971 : At cL_law 971 (.aload_n 0) 1 972 := ⟨tL_law_6_ok (971, .aload_n 0, 1) (List.mem_of_getElem? (i := 51) rfl), rfl⟩
theorem pL_law_972 : At cL_law 972 (.iload_n 3) 1 973 := ⟨tL_law_6_ok (972, .iload_n 3, 1) (List.mem_of_getElem? (i := 52) rfl), rfl⟩
theorem pL_law_973 : At cL_law 973 (.iconst 3) 1 974 := ⟨tL_law_6_ok (973, .iconst 3, 1) (List.mem_of_getElem? (i := 53) rfl), rfl⟩
theorem pL_law_974 : At cL_law 974 (.iadd) 1 975 := ⟨tL_law_6_ok (974, .iadd, 1) (List.mem_of_getElem? (i := 54) rfl), rfl⟩
theorem pL_law_975 : At cL_law 975 (.iaload) 1 976 := ⟨tL_law_6_ok (975, .iaload, 1) (List.mem_of_getElem? (i := 55) rfl), rfl⟩
theorem pL_law_976 : At cL_law 976 (.invokevirtual 109) 3 979 := ⟨tL_law_6_ok (976, .invokevirtual 109, 3) (List.mem_of_getElem? (i := 56) rfl), rfl⟩
theorem pL_law_979 : At cL_law 979 (.aload_n 2) 1 980 := ⟨tL_law_6_ok (979, .aload_n 2, 1) (List.mem_of_getElem? (i := 57) rfl), rfl⟩
theorem pL_law_980 : At cL_law 980 (.aload_n 0) 1 981 := ⟨tL_law_6_ok (980, .aload_n 0, 1) (List.mem_of_getElem? (i := 58) rfl), rfl⟩
theorem pL_law_981 : At cL_law 981 (.iload_n 3) 1 982 := ⟨tL_law_6_ok (981, .iload_n 3, 1) (List.mem_of_getElem? (i := 59) rfl), rfl⟩
theorem pL_law_982 : At cL_law 982 (.iconst 1) 1 983 := ⟨tL_law_6_ok (982, .iconst 1, 1) (List.mem_of_getElem? (i := 60) rfl), rfl⟩
theorem pL_law_983 : At cL_law 983 (.iadd) 1 984 := ⟨tL_law_6_ok (983, .iadd, 1) (List.mem_of_getElem? (i := 61) rfl), rfl⟩
theorem pL_law_984 : At cL_law 984 (.iaload) 1 985 := ⟨tL_law_6_ok (984, .iaload, 1) (List.mem_of_getElem? (i := 62) rfl), rfl⟩
theorem pL_law_985 : At cL_law 985 (.aload_n 0) 1 986 := ⟨tL_law_6_ok (985, .aload_n 0, 1) (List.mem_of_getElem? (i := 63) rfl), rfl⟩
theorem pL_law_986 : At cL_law 986 (.iload_n 3) 1 987 := ⟨tL_law_6_ok (986, .iload_n 3, 1) (List.mem_of_getElem? (i := 64) rfl), rfl⟩
theorem pL_law_987 : At cL_law 987 (.iconst 2) 1 988 := ⟨tL_law_6_ok (987, .iconst 2, 1) (List.mem_of_getElem? (i := 65) rfl), rfl⟩
theorem pL_law_988 : At cL_law 988 (.iadd) 1 989 := ⟨tL_law_6_ok (988, .iadd, 1) (List.mem_of_getElem? (i := 66) rfl), rfl⟩
theorem pL_law_989 : At cL_law 989 (.iaload) 1 990 := ⟨tL_law_6_ok (989, .iaload, 1) (List.mem_of_getElem? (i := 67) rfl), rfl⟩
theorem pL_law_990 : At cL_law 990 (.aload_n 0) 1 991 := ⟨tL_law_6_ok (990, .aload_n 0, 1) (List.mem_of_getElem? (i := 68) rfl), rfl⟩
theorem pL_law_991 : At cL_law 991 (.iload_n 3) 1 992 := ⟨tL_law_6_ok (991, .iload_n 3, 1) (List.mem_of_getElem? (i := 69) rfl), rfl⟩
theorem pL_law_992 : At cL_law 992 (.iconst 3) 1 993 := ⟨tL_law_6_ok (992, .iconst 3, 1) (List.mem_of_getElem? (i := 70) rfl), rfl⟩
theorem pL_law_993 : At cL_law 993 (.iadd) 1 994 := ⟨tL_law_6_ok (993, .iadd, 1) (List.mem_of_getElem? (i := 71) rfl), rfl⟩
theorem pL_law_994 : At cL_law 994 (.iaload) 1 995 := ⟨tL_law_6_ok (994, .iaload, 1) (List.mem_of_getElem? (i := 72) rfl), rfl⟩
theorem pL_law_995 : At cL_law 995 (.invokevirtual 112) 3 998 := ⟨tL_law_6_ok (995, .invokevirtual 112, 3) (List.mem_of_getElem? (i := 73) rfl), rfl⟩
theorem pL_law_998 : Bt cL_law 998 (.if_icmp .eq 483) 483 1481 1001 := ⟨tL_law_6_ok (998, .if_icmp .eq 483, 3) (List.mem_of_getElem? (i := 74) rfl), by decide, rfl⟩
theorem pL_law_1001 : At cL_law 1001 (.iconst 0) 1 1002 := ⟨tL_law_6_ok (1001, .iconst 0, 1) (List.mem_of_getElem? (i := 75) rfl), rfl⟩
theorem pL_law_1002 : At cL_law 1002 (.ireturn) 1 1003 := ⟨tL_law_6_ok (1002, .ireturn, 1) (List.mem_of_getElem? (i := 76) rfl), rfl⟩
theorem pL_law_1003 : At cL_law 1003 (.aload_n 1) 1 1004 := ⟨tL_law_6_ok (1003, .aload_n 1, 1) (List.mem_of_getElem? (i := 77) rfl), rfl⟩
theorem pL_law_1004 : At cL_law 1004 (.aload_n 0) 1 1005 := ⟨tL_law_6_ok (1004, .aload_n 0, 1) (List.mem_of_getElem? (i := 78) rfl), rfl⟩
theorem pL_law_1005 : At cL_law 1005 (.iload_n 3) 1 1006 := ⟨tL_law_6_ok (1005, .iload_n 3, 1) (List.mem_of_getElem? (i := 79) rfl), rfl⟩
theorem pL_law_1006 : At cL_law 1006 (.iconst 1) 1 1007 := ⟨tL_law_6_ok (1006, .iconst 1, 1) (List.mem_of_getElem? (i := 80) rfl), rfl⟩
theorem pL_law_1007 : At cL_law 1007 (.iadd) 1 1008 := ⟨tL_law_6_ok (1007, .iadd, 1) (List.mem_of_getElem? (i := 81) rfl), rfl⟩
theorem pL_law_1008 : At cL_law 1008 (.iaload) 1 1009 := ⟨tL_law_6_ok (1008, .iaload, 1) (List.mem_of_getElem? (i := 82) rfl), rfl⟩
theorem pL_law_1009 : At cL_law 1009 (.aload_n 0) 1 1010 := ⟨tL_law_6_ok (1009, .aload_n 0, 1) (List.mem_of_getElem? (i := 83) rfl), rfl⟩
theorem pL_law_1010 : At cL_law 1010 (.iload_n 3) 1 1011 := ⟨tL_law_6_ok (1010, .iload_n 3, 1) (List.mem_of_getElem? (i := 84) rfl), rfl⟩
theorem pL_law_1011 : At cL_law 1011 (.iconst 2) 1 1012 := ⟨tL_law_6_ok (1011, .iconst 2, 1) (List.mem_of_getElem? (i := 85) rfl), rfl⟩
theorem pL_law_1012 : At cL_law 1012 (.iadd) 1 1013 := ⟨tL_law_6_ok (1012, .iadd, 1) (List.mem_of_getElem? (i := 86) rfl), rfl⟩
theorem pL_law_1013 : At cL_law 1013 (.iaload) 1 1014 := ⟨tL_law_6_ok (1013, .iaload, 1) (List.mem_of_getElem? (i := 87) rfl), rfl⟩
theorem pL_law_1014 : At cL_law 1014 (.invokevirtual 113) 3 1017 := ⟨tL_law_6_ok (1014, .invokevirtual 113, 3) (List.mem_of_getElem? (i := 88) rfl), rfl⟩
theorem pL_law_1017 : At cL_law 1017 (.aload_n 2) 1 1018 := ⟨tL_law_6_ok (1017, .aload_n 2, 1) (List.mem_of_getElem? (i := 89) rfl), rfl⟩
theorem pL_law_1018 : At cL_law 1018 (.aload_n 0) 1 1019 := ⟨tL_law_6_ok (1018, .aload_n 0, 1) (List.mem_of_getElem? (i := 90) rfl), rfl⟩
theorem pL_law_1019 : At cL_law 1019 (.iload_n 3) 1 1020 := ⟨tL_law_6_ok (1019, .iload_n 3, 1) (List.mem_of_getElem? (i := 91) rfl), rfl⟩
theorem pL_law_1020 : At cL_law 1020 (.iconst 1) 1 1021 := ⟨tL_law_6_ok (1020, .iconst 1, 1) (List.mem_of_getElem? (i := 92) rfl), rfl⟩
theorem pL_law_1021 : At cL_law 1021 (.iadd) 1 1022 := ⟨tL_law_6_ok (1021, .iadd, 1) (List.mem_of_getElem? (i := 93) rfl), rfl⟩
theorem pL_law_1022 : At cL_law 1022 (.iaload) 1 1023 := ⟨tL_law_6_ok (1022, .iaload, 1) (List.mem_of_getElem? (i := 94) rfl), rfl⟩
theorem pL_law_1023 : At cL_law 1023 (.aload_n 0) 1 1024 := ⟨tL_law_6_ok (1023, .aload_n 0, 1) (List.mem_of_getElem? (i := 95) rfl), rfl⟩
theorem pL_law_1024 : At cL_law 1024 (.iload_n 3) 1 1025 := ⟨tL_law_6_ok (1024, .iload_n 3, 1) (List.mem_of_getElem? (i := 96) rfl), rfl⟩
theorem pL_law_1025 : At cL_law 1025 (.iconst 2) 1 1026 := ⟨tL_law_6_ok (1025, .iconst 2, 1) (List.mem_of_getElem? (i := 97) rfl), rfl⟩
theorem pL_law_1026 : At cL_law 1026 (.iadd) 1 1027 := ⟨tL_law_6_ok (1026, .iadd, 1) (List.mem_of_getElem? (i := 98) rfl), rfl⟩
theorem pL_law_1027 : At cL_law 1027 (.iaload) 1 1028 := ⟨tL_law_6_ok (1027, .iaload, 1) (List.mem_of_getElem? (i := 99) rfl), rfl⟩
theorem pL_law_1028 : At cL_law 1028 (.invokevirtual 116) 3 1031 := ⟨tL_law_7_ok (1028, .invokevirtual 116, 3) (List.mem_of_getElem? (i := 0) rfl), rfl⟩
theorem pL_law_1031 : Bt cL_law 1031 (.if_icmp .eq 450) 450 1481 1034 := ⟨tL_law_7_ok (1031, .if_icmp .eq 450, 3) (List.mem_of_getElem? (i := 1) rfl), by decide, rfl⟩
theorem pL_law_1034 : At cL_law 1034 (.iconst 0) 1 1035 := ⟨tL_law_7_ok (1034, .iconst 0, 1) (List.mem_of_getElem? (i := 2) rfl), rfl⟩
theorem pL_law_1035 : At cL_law 1035 (.ireturn) 1 1036 := ⟨tL_law_7_ok (1035, .ireturn, 1) (List.mem_of_getElem? (i := 3) rfl), rfl⟩
theorem pL_law_1036 : At cL_law 1036 (.aload_n 1) 1 1037 := ⟨tL_law_7_ok (1036, .aload_n 1, 1) (List.mem_of_getElem? (i := 4) rfl), rfl⟩
theorem pL_law_1037 : At cL_law 1037 (.aload_n 0) 1 1038 := ⟨tL_law_7_ok (1037, .aload_n 0, 1) (List.mem_of_getElem? (i := 5) rfl), rfl⟩
theorem pL_law_1038 : At cL_law 1038 (.iload_n 3) 1 1039 := ⟨tL_law_7_ok (1038, .iload_n 3, 1) (List.mem_of_getElem? (i := 6) rfl), rfl⟩
theorem pL_law_1039 : At cL_law 1039 (.iconst 1) 1 1040 := ⟨tL_law_7_ok (1039, .iconst 1, 1) (List.mem_of_getElem? (i := 7) rfl), rfl⟩
theorem pL_law_1040 : At cL_law 1040 (.iadd) 1 1041 := ⟨tL_law_7_ok (1040, .iadd, 1) (List.mem_of_getElem? (i := 8) rfl), rfl⟩
theorem pL_law_1041 : At cL_law 1041 (.iaload) 1 1042 := ⟨tL_law_7_ok (1041, .iaload, 1) (List.mem_of_getElem? (i := 9) rfl), rfl⟩
theorem pL_law_1042 : At cL_law 1042 (.aload_n 0) 1 1043 := ⟨tL_law_7_ok (1042, .aload_n 0, 1) (List.mem_of_getElem? (i := 10) rfl), rfl⟩
theorem pL_law_1043 : At cL_law 1043 (.iload_n 3) 1 1044 := ⟨tL_law_7_ok (1043, .iload_n 3, 1) (List.mem_of_getElem? (i := 11) rfl), rfl⟩
theorem pL_law_1044 : At cL_law 1044 (.iconst 2) 1 1045 := ⟨tL_law_7_ok (1044, .iconst 2, 1) (List.mem_of_getElem? (i := 12) rfl), rfl⟩
theorem pL_law_1045 : At cL_law 1045 (.iadd) 1 1046 := ⟨tL_law_7_ok (1045, .iadd, 1) (List.mem_of_getElem? (i := 13) rfl), rfl⟩
theorem pL_law_1046 : At cL_law 1046 (.iaload) 1 1047 := ⟨tL_law_7_ok (1046, .iaload, 1) (List.mem_of_getElem? (i := 14) rfl), rfl⟩
theorem pL_law_1047 : At cL_law 1047 (.aload_n 0) 1 1048 := ⟨tL_law_7_ok (1047, .aload_n 0, 1) (List.mem_of_getElem? (i := 15) rfl), rfl⟩
theorem pL_law_1048 : At cL_law 1048 (.iload_n 3) 1 1049 := ⟨tL_law_7_ok (1048, .iload_n 3, 1) (List.mem_of_getElem? (i := 16) rfl), rfl⟩
theorem pL_law_1049 : At cL_law 1049 (.iconst 3) 1 1050 := ⟨tL_law_7_ok (1049, .iconst 3, 1) (List.mem_of_getElem? (i := 17) rfl), rfl⟩
theorem pL_law_1050 : At cL_law 1050 (.iadd) 1 1051 := ⟨tL_law_7_ok (1050, .iadd, 1) (List.mem_of_getElem? (i := 18) rfl), rfl⟩
theorem pL_law_1051 : At cL_law 1051 (.iaload) 1 1052 := ⟨tL_law_7_ok (1051, .iaload, 1) (List.mem_of_getElem? (i := 19) rfl), rfl⟩
theorem pL_law_1052 : At cL_law 1052 (.aload_n 0) 1 1053 := ⟨tL_law_7_ok (1052, .aload_n 0, 1) (List.mem_of_getElem? (i := 20) rfl), rfl⟩
theorem pL_law_1053 : At cL_law 1053 (.iload_n 3) 1 1054 := ⟨tL_law_7_ok (1053, .iload_n 3, 1) (List.mem_of_getElem? (i := 21) rfl), rfl⟩
theorem pL_law_1054 : At cL_law 1054 (.iconst 4) 1 1055 := ⟨tL_law_7_ok (1054, .iconst 4, 1) (List.mem_of_getElem? (i := 22) rfl), rfl⟩
theorem pL_law_1055 : At cL_law 1055 (.iadd) 1 1056 := ⟨tL_law_7_ok (1055, .iadd, 1) (List.mem_of_getElem? (i := 23) rfl), rfl⟩
theorem pL_law_1056 : At cL_law 1056 (.iaload) 1 1057 := ⟨tL_law_7_ok (1056, .iaload, 1) (List.mem_of_getElem? (i := 24) rfl), rfl⟩
theorem pL_law_1057 : At cL_law 1057 (.invokevirtual 117) 3 1060 := ⟨tL_law_7_ok (1057, .invokevirtual 117, 3) (List.mem_of_getElem? (i := 25) rfl), rfl⟩
theorem pL_law_1060 : At cL_law 1060 (.aload_n 2) 1 1061 := ⟨tL_law_7_ok (1060, .aload_n 2, 1) (List.mem_of_getElem? (i := 26) rfl), rfl⟩
theorem pL_law_1061 : At cL_law 1061 (.aload_n 0) 1 1062 := ⟨tL_law_7_ok (1061, .aload_n 0, 1) (List.mem_of_getElem? (i := 27) rfl), rfl⟩
theorem pL_law_1062 : At cL_law 1062 (.iload_n 3) 1 1063 := ⟨tL_law_7_ok (1062, .iload_n 3, 1) (List.mem_of_getElem? (i := 28) rfl), rfl⟩
theorem pL_law_1063 : At cL_law 1063 (.iconst 1) 1 1064 := ⟨tL_law_7_ok (1063, .iconst 1, 1) (List.mem_of_getElem? (i := 29) rfl), rfl⟩
theorem pL_law_1064 : At cL_law 1064 (.iadd) 1 1065 := ⟨tL_law_7_ok (1064, .iadd, 1) (List.mem_of_getElem? (i := 30) rfl), rfl⟩
theorem pL_law_1065 : At cL_law 1065 (.iaload) 1 1066 := ⟨tL_law_7_ok (1065, .iaload, 1) (List.mem_of_getElem? (i := 31) rfl), rfl⟩
theorem pL_law_1066 : At cL_law 1066 (.aload_n 0) 1 1067 := ⟨tL_law_7_ok (1066, .aload_n 0, 1) (List.mem_of_getElem? (i := 32) rfl), rfl⟩
theorem pL_law_1067 : At cL_law 1067 (.iload_n 3) 1 1068 := ⟨tL_law_7_ok (1067, .iload_n 3, 1) (List.mem_of_getElem? (i := 33) rfl), rfl⟩
theorem pL_law_1068 : At cL_law 1068 (.iconst 2) 1 1069 := ⟨tL_law_7_ok (1068, .iconst 2, 1) (List.mem_of_getElem? (i := 34) rfl), rfl⟩
theorem pL_law_1069 : At cL_law 1069 (.iadd) 1 1070 := ⟨tL_law_7_ok (1069, .iadd, 1) (List.mem_of_getElem? (i := 35) rfl), rfl⟩
theorem pL_law_1070 : At cL_law 1070 (.iaload) 1 1071 := ⟨tL_law_7_ok (1070, .iaload, 1) (List.mem_of_getElem? (i := 36) rfl), rfl⟩
theorem pL_law_1071 : At cL_law 1071 (.aload_n 0) 1 1072 := ⟨tL_law_7_ok (1071, .aload_n 0, 1) (List.mem_of_getElem? (i := 37) rfl), rfl⟩
theorem pL_law_1072 : At cL_law 1072 (.iload_n 3) 1 1073 := ⟨tL_law_7_ok (1072, .iload_n 3, 1) (List.mem_of_getElem? (i := 38) rfl), rfl⟩
theorem pL_law_1073 : At cL_law 1073 (.iconst 3) 1 1074 := ⟨tL_law_7_ok (1073, .iconst 3, 1) (List.mem_of_getElem? (i := 39) rfl), rfl⟩
theorem pL_law_1074 : At cL_law 1074 (.iadd) 1 1075 := ⟨tL_law_7_ok (1074, .iadd, 1) (List.mem_of_getElem? (i := 40) rfl), rfl⟩
theorem pL_law_1075 : At cL_law 1075 (.iaload) 1 1076 := ⟨tL_law_7_ok (1075, .iaload, 1) (List.mem_of_getElem? (i := 41) rfl), rfl⟩
theorem pL_law_1076 : At cL_law 1076 (.aload_n 0) 1 1077 := ⟨tL_law_7_ok (1076, .aload_n 0, 1) (List.mem_of_getElem? (i := 42) rfl), rfl⟩
theorem pL_law_1077 : At cL_law 1077 (.iload_n 3) 1 1078 := ⟨tL_law_7_ok (1077, .iload_n 3, 1) (List.mem_of_getElem? (i := 43) rfl), rfl⟩
theorem pL_law_1078 : At cL_law 1078 (.iconst 4) 1 1079 := ⟨tL_law_7_ok (1078, .iconst 4, 1) (List.mem_of_getElem? (i := 44) rfl), rfl⟩
theorem pL_law_1079 : At cL_law 1079 (.iadd) 1 1080 := ⟨tL_law_7_ok (1079, .iadd, 1) (List.mem_of_getElem? (i := 45) rfl), rfl⟩
theorem pL_law_1080 : At cL_law 1080 (.iaload) 1 1081 := ⟨tL_law_7_ok (1080, .iaload, 1) (List.mem_of_getElem? (i := 46) rfl), rfl⟩
theorem pL_law_1081 : At cL_law 1081 (.invokevirtual 120) 3 1084 := ⟨tL_law_7_ok (1081, .invokevirtual 120, 3) (List.mem_of_getElem? (i := 47) rfl), rfl⟩
theorem pL_law_1084 : Bt cL_law 1084 (.if_icmp .eq 397) 397 1481 1087 := ⟨tL_law_7_ok (1084, .if_icmp .eq 397, 3) (List.mem_of_getElem? (i := 48) rfl), by decide, rfl⟩
theorem pL_law_1087 : At cL_law 1087 (.iconst 0) 1 1088 := ⟨tL_law_7_ok (1087, .iconst 0, 1) (List.mem_of_getElem? (i := 49) rfl), rfl⟩
theorem pL_law_1088 : At cL_law 1088 (.ireturn) 1 1089 := ⟨tL_law_7_ok (1088, .ireturn, 1) (List.mem_of_getElem? (i := 50) rfl), rfl⟩
theorem pL_law_1089 : At cL_law 1089 (.aload_n 1) 1 1090 := ⟨tL_law_7_ok (1089, .aload_n 1, 1) (List.mem_of_getElem? (i := 51) rfl), rfl⟩
theorem pL_law_1090 : At cL_law 1090 (.aload_n 0) 1 1091 := ⟨tL_law_7_ok (1090, .aload_n 0, 1) (List.mem_of_getElem? (i := 52) rfl), rfl⟩
theorem pL_law_1091 : At cL_law 1091 (.iload_n 3) 1 1092 := ⟨tL_law_7_ok (1091, .iload_n 3, 1) (List.mem_of_getElem? (i := 53) rfl), rfl⟩
theorem pL_law_1092 : At cL_law 1092 (.iconst 1) 1 1093 := ⟨tL_law_7_ok (1092, .iconst 1, 1) (List.mem_of_getElem? (i := 54) rfl), rfl⟩
theorem pL_law_1093 : At cL_law 1093 (.iadd) 1 1094 := ⟨tL_law_7_ok (1093, .iadd, 1) (List.mem_of_getElem? (i := 55) rfl), rfl⟩
theorem pL_law_1094 : At cL_law 1094 (.iaload) 1 1095 := ⟨tL_law_7_ok (1094, .iaload, 1) (List.mem_of_getElem? (i := 56) rfl), rfl⟩
theorem pL_law_1095 : At cL_law 1095 (.invokevirtual 121) 3 1098 := ⟨tL_law_7_ok (1095, .invokevirtual 121, 3) (List.mem_of_getElem? (i := 57) rfl), rfl⟩
theorem pL_law_1098 : At cL_law 1098 (.aload_n 2) 1 1099 := ⟨tL_law_7_ok (1098, .aload_n 2, 1) (List.mem_of_getElem? (i := 58) rfl), rfl⟩
theorem pL_law_1099 : At cL_law 1099 (.aload_n 0) 1 1100 := ⟨tL_law_7_ok (1099, .aload_n 0, 1) (List.mem_of_getElem? (i := 59) rfl), rfl⟩
theorem pL_law_1100 : At cL_law 1100 (.iload_n 3) 1 1101 := ⟨tL_law_7_ok (1100, .iload_n 3, 1) (List.mem_of_getElem? (i := 60) rfl), rfl⟩
theorem pL_law_1101 : At cL_law 1101 (.iconst 1) 1 1102 := ⟨tL_law_7_ok (1101, .iconst 1, 1) (List.mem_of_getElem? (i := 61) rfl), rfl⟩
theorem pL_law_1102 : At cL_law 1102 (.iadd) 1 1103 := ⟨tL_law_7_ok (1102, .iadd, 1) (List.mem_of_getElem? (i := 62) rfl), rfl⟩
theorem pL_law_1103 : At cL_law 1103 (.iaload) 1 1104 := ⟨tL_law_7_ok (1103, .iaload, 1) (List.mem_of_getElem? (i := 63) rfl), rfl⟩
theorem pL_law_1104 : At cL_law 1104 (.invokevirtual 124) 3 1107 := ⟨tL_law_7_ok (1104, .invokevirtual 124, 3) (List.mem_of_getElem? (i := 64) rfl), rfl⟩
theorem pL_law_1107 : Bt cL_law 1107 (.if_icmp .eq 374) 374 1481 1110 := ⟨tL_law_7_ok (1107, .if_icmp .eq 374, 3) (List.mem_of_getElem? (i := 65) rfl), by decide, rfl⟩
theorem pL_law_1110 : At cL_law 1110 (.iconst 0) 1 1111 := ⟨tL_law_7_ok (1110, .iconst 0, 1) (List.mem_of_getElem? (i := 66) rfl), rfl⟩
theorem pL_law_1111 : At cL_law 1111 (.ireturn) 1 1112 := ⟨tL_law_7_ok (1111, .ireturn, 1) (List.mem_of_getElem? (i := 67) rfl), rfl⟩
theorem pL_law_1112 : At cL_law 1112 (.aload_n 1) 1 1113 := ⟨tL_law_7_ok (1112, .aload_n 1, 1) (List.mem_of_getElem? (i := 68) rfl), rfl⟩
theorem pL_law_1113 : At cL_law 1113 (.aload_n 0) 1 1114 := ⟨tL_law_7_ok (1113, .aload_n 0, 1) (List.mem_of_getElem? (i := 69) rfl), rfl⟩
theorem pL_law_1114 : At cL_law 1114 (.iload_n 3) 1 1115 := ⟨tL_law_7_ok (1114, .iload_n 3, 1) (List.mem_of_getElem? (i := 70) rfl), rfl⟩
theorem pL_law_1115 : At cL_law 1115 (.iconst 1) 1 1116 := ⟨tL_law_7_ok (1115, .iconst 1, 1) (List.mem_of_getElem? (i := 71) rfl), rfl⟩
theorem pL_law_1116 : At cL_law 1116 (.iadd) 1 1117 := ⟨tL_law_7_ok (1116, .iadd, 1) (List.mem_of_getElem? (i := 72) rfl), rfl⟩
theorem pL_law_1117 : At cL_law 1117 (.iaload) 1 1118 := ⟨tL_law_7_ok (1117, .iaload, 1) (List.mem_of_getElem? (i := 73) rfl), rfl⟩
theorem pL_law_1118 : At cL_law 1118 (.aload_n 0) 1 1119 := ⟨tL_law_7_ok (1118, .aload_n 0, 1) (List.mem_of_getElem? (i := 74) rfl), rfl⟩
theorem pL_law_1119 : At cL_law 1119 (.iload_n 3) 1 1120 := ⟨tL_law_7_ok (1119, .iload_n 3, 1) (List.mem_of_getElem? (i := 75) rfl), rfl⟩
theorem pL_law_1120 : At cL_law 1120 (.iconst 2) 1 1121 := ⟨tL_law_7_ok (1120, .iconst 2, 1) (List.mem_of_getElem? (i := 76) rfl), rfl⟩
theorem pL_law_1121 : At cL_law 1121 (.iadd) 1 1122 := ⟨tL_law_7_ok (1121, .iadd, 1) (List.mem_of_getElem? (i := 77) rfl), rfl⟩
theorem pL_law_1122 : At cL_law 1122 (.iaload) 1 1123 := ⟨tL_law_7_ok (1122, .iaload, 1) (List.mem_of_getElem? (i := 78) rfl), rfl⟩
theorem pL_law_1123 : At cL_law 1123 (.aload_n 0) 1 1124 := ⟨tL_law_7_ok (1123, .aload_n 0, 1) (List.mem_of_getElem? (i := 79) rfl), rfl⟩
theorem pL_law_1124 : At cL_law 1124 (.iload_n 3) 1 1125 := ⟨tL_law_7_ok (1124, .iload_n 3, 1) (List.mem_of_getElem? (i := 80) rfl), rfl⟩
theorem pL_law_1125 : At cL_law 1125 (.iconst 3) 1 1126 := ⟨tL_law_7_ok (1125, .iconst 3, 1) (List.mem_of_getElem? (i := 81) rfl), rfl⟩
theorem pL_law_1126 : At cL_law 1126 (.iadd) 1 1127 := ⟨tL_law_7_ok (1126, .iadd, 1) (List.mem_of_getElem? (i := 82) rfl), rfl⟩
theorem pL_law_1127 : At cL_law 1127 (.iaload) 1 1128 := ⟨tL_law_7_ok (1127, .iaload, 1) (List.mem_of_getElem? (i := 83) rfl), rfl⟩
theorem pL_law_1128 : At cL_law 1128 (.invokevirtual 125) 3 1131 := ⟨tL_law_7_ok (1128, .invokevirtual 125, 3) (List.mem_of_getElem? (i := 84) rfl), rfl⟩
theorem pL_law_1131 : At cL_law 1131 (.aload_n 2) 1 1132 := ⟨tL_law_7_ok (1131, .aload_n 2, 1) (List.mem_of_getElem? (i := 85) rfl), rfl⟩
theorem pL_law_1132 : At cL_law 1132 (.aload_n 0) 1 1133 := ⟨tL_law_7_ok (1132, .aload_n 0, 1) (List.mem_of_getElem? (i := 86) rfl), rfl⟩
theorem pL_law_1133 : At cL_law 1133 (.iload_n 3) 1 1134 := ⟨tL_law_7_ok (1133, .iload_n 3, 1) (List.mem_of_getElem? (i := 87) rfl), rfl⟩
theorem pL_law_1134 : At cL_law 1134 (.iconst 1) 1 1135 := ⟨tL_law_7_ok (1134, .iconst 1, 1) (List.mem_of_getElem? (i := 88) rfl), rfl⟩
theorem pL_law_1135 : At cL_law 1135 (.iadd) 1 1136 := ⟨tL_law_7_ok (1135, .iadd, 1) (List.mem_of_getElem? (i := 89) rfl), rfl⟩
theorem pL_law_1136 : At cL_law 1136 (.iaload) 1 1137 := ⟨tL_law_7_ok (1136, .iaload, 1) (List.mem_of_getElem? (i := 90) rfl), rfl⟩
theorem pL_law_1137 : At cL_law 1137 (.aload_n 0) 1 1138 := ⟨tL_law_7_ok (1137, .aload_n 0, 1) (List.mem_of_getElem? (i := 91) rfl), rfl⟩
theorem pL_law_1138 : At cL_law 1138 (.iload_n 3) 1 1139 := ⟨tL_law_7_ok (1138, .iload_n 3, 1) (List.mem_of_getElem? (i := 92) rfl), rfl⟩
theorem pL_law_1139 : At cL_law 1139 (.iconst 2) 1 1140 := ⟨tL_law_7_ok (1139, .iconst 2, 1) (List.mem_of_getElem? (i := 93) rfl), rfl⟩
theorem pL_law_1140 : At cL_law 1140 (.iadd) 1 1141 := ⟨tL_law_7_ok (1140, .iadd, 1) (List.mem_of_getElem? (i := 94) rfl), rfl⟩
theorem pL_law_1141 : At cL_law 1141 (.iaload) 1 1142 := ⟨tL_law_7_ok (1141, .iaload, 1) (List.mem_of_getElem? (i := 95) rfl), rfl⟩
theorem pL_law_1142 : At cL_law 1142 (.aload_n 0) 1 1143 := ⟨tL_law_7_ok (1142, .aload_n 0, 1) (List.mem_of_getElem? (i := 96) rfl), rfl⟩
theorem pL_law_1143 : At cL_law 1143 (.iload_n 3) 1 1144 := ⟨tL_law_7_ok (1143, .iload_n 3, 1) (List.mem_of_getElem? (i := 97) rfl), rfl⟩
theorem pL_law_1144 : At cL_law 1144 (.iconst 3) 1 1145 := ⟨tL_law_7_ok (1144, .iconst 3, 1) (List.mem_of_getElem? (i := 98) rfl), rfl⟩
theorem pL_law_1145 : At cL_law 1145 (.iadd) 1 1146 := ⟨tL_law_7_ok (1145, .iadd, 1) (List.mem_of_getElem? (i := 99) rfl), rfl⟩
theorem pL_law_1146 : At cL_law 1146 (.iaload) 1 1147 := ⟨tL_law_8_ok (1146, .iaload, 1) (List.mem_of_getElem? (i := 0) rfl), rfl⟩
theorem pL_law_1147 : At cL_law 1147 (.invokevirtual 128) 3 1150 := ⟨tL_law_8_ok (1147, .invokevirtual 128, 3) (List.mem_of_getElem? (i := 1) rfl), rfl⟩
theorem pL_law_1150 : Bt cL_law 1150 (.if_icmp .eq 331) 331 1481 1153 := ⟨tL_law_8_ok (1150, .if_icmp .eq 331, 3) (List.mem_of_getElem? (i := 2) rfl), by decide, rfl⟩
theorem pL_law_1153 : At cL_law 1153 (.iconst 0) 1 1154 := ⟨tL_law_8_ok (1153, .iconst 0, 1) (List.mem_of_getElem? (i := 3) rfl), rfl⟩
theorem pL_law_1154 : At cL_law 1154 (.ireturn) 1 1155 := ⟨tL_law_8_ok (1154, .ireturn, 1) (List.mem_of_getElem? (i := 4) rfl), rfl⟩
theorem pL_law_1155 : At cL_law 1155 (.aload_n 1) 1 1156 := ⟨tL_law_8_ok (1155, .aload_n 1, 1) (List.mem_of_getElem? (i := 5) rfl), rfl⟩
theorem pL_law_1156 : At cL_law 1156 (.aload_n 0) 1 1157 := ⟨tL_law_8_ok (1156, .aload_n 0, 1) (List.mem_of_getElem? (i := 6) rfl), rfl⟩
theorem pL_law_1157 : At cL_law 1157 (.iload_n 3) 1 1158 := ⟨tL_law_8_ok (1157, .iload_n 3, 1) (List.mem_of_getElem? (i := 7) rfl), rfl⟩
theorem pL_law_1158 : At cL_law 1158 (.iconst 1) 1 1159 := ⟨tL_law_8_ok (1158, .iconst 1, 1) (List.mem_of_getElem? (i := 8) rfl), rfl⟩
theorem pL_law_1159 : At cL_law 1159 (.iadd) 1 1160 := ⟨tL_law_8_ok (1159, .iadd, 1) (List.mem_of_getElem? (i := 9) rfl), rfl⟩
theorem pL_law_1160 : At cL_law 1160 (.iaload) 1 1161 := ⟨tL_law_8_ok (1160, .iaload, 1) (List.mem_of_getElem? (i := 10) rfl), rfl⟩
theorem pL_law_1161 : At cL_law 1161 (.invokevirtual 129) 3 1164 := ⟨tL_law_8_ok (1161, .invokevirtual 129, 3) (List.mem_of_getElem? (i := 11) rfl), rfl⟩
theorem pL_law_1164 : At cL_law 1164 (.aload_n 2) 1 1165 := ⟨tL_law_8_ok (1164, .aload_n 2, 1) (List.mem_of_getElem? (i := 12) rfl), rfl⟩
theorem pL_law_1165 : At cL_law 1165 (.aload_n 0) 1 1166 := ⟨tL_law_8_ok (1165, .aload_n 0, 1) (List.mem_of_getElem? (i := 13) rfl), rfl⟩
theorem pL_law_1166 : At cL_law 1166 (.iload_n 3) 1 1167 := ⟨tL_law_8_ok (1166, .iload_n 3, 1) (List.mem_of_getElem? (i := 14) rfl), rfl⟩
theorem pL_law_1167 : At cL_law 1167 (.iconst 1) 1 1168 := ⟨tL_law_8_ok (1167, .iconst 1, 1) (List.mem_of_getElem? (i := 15) rfl), rfl⟩
theorem pL_law_1168 : At cL_law 1168 (.iadd) 1 1169 := ⟨tL_law_8_ok (1168, .iadd, 1) (List.mem_of_getElem? (i := 16) rfl), rfl⟩
theorem pL_law_1169 : At cL_law 1169 (.iaload) 1 1170 := ⟨tL_law_8_ok (1169, .iaload, 1) (List.mem_of_getElem? (i := 17) rfl), rfl⟩
theorem pL_law_1170 : At cL_law 1170 (.invokevirtual 132) 3 1173 := ⟨tL_law_8_ok (1170, .invokevirtual 132, 3) (List.mem_of_getElem? (i := 18) rfl), rfl⟩
theorem pL_law_1173 : Bt cL_law 1173 (.if_icmp .eq 308) 308 1481 1176 := ⟨tL_law_8_ok (1173, .if_icmp .eq 308, 3) (List.mem_of_getElem? (i := 19) rfl), by decide, rfl⟩
theorem pL_law_1176 : At cL_law 1176 (.iconst 0) 1 1177 := ⟨tL_law_8_ok (1176, .iconst 0, 1) (List.mem_of_getElem? (i := 20) rfl), rfl⟩
theorem pL_law_1177 : At cL_law 1177 (.ireturn) 1 1178 := ⟨tL_law_8_ok (1177, .ireturn, 1) (List.mem_of_getElem? (i := 21) rfl), rfl⟩
theorem pL_law_1178 : At cL_law 1178 (.aload_n 1) 1 1179 := ⟨tL_law_8_ok (1178, .aload_n 1, 1) (List.mem_of_getElem? (i := 22) rfl), rfl⟩
theorem pL_law_1179 : At cL_law 1179 (.aload_n 0) 1 1180 := ⟨tL_law_8_ok (1179, .aload_n 0, 1) (List.mem_of_getElem? (i := 23) rfl), rfl⟩
theorem pL_law_1180 : At cL_law 1180 (.iload_n 3) 1 1181 := ⟨tL_law_8_ok (1180, .iload_n 3, 1) (List.mem_of_getElem? (i := 24) rfl), rfl⟩
theorem pL_law_1181 : At cL_law 1181 (.iconst 1) 1 1182 := ⟨tL_law_8_ok (1181, .iconst 1, 1) (List.mem_of_getElem? (i := 25) rfl), rfl⟩
theorem pL_law_1182 : At cL_law 1182 (.iadd) 1 1183 := ⟨tL_law_8_ok (1182, .iadd, 1) (List.mem_of_getElem? (i := 26) rfl), rfl⟩
theorem pL_law_1183 : At cL_law 1183 (.iaload) 1 1184 := ⟨tL_law_8_ok (1183, .iaload, 1) (List.mem_of_getElem? (i := 27) rfl), rfl⟩
theorem pL_law_1184 : At cL_law 1184 (.aload_n 0) 1 1185 := ⟨tL_law_8_ok (1184, .aload_n 0, 1) (List.mem_of_getElem? (i := 28) rfl), rfl⟩
theorem pL_law_1185 : At cL_law 1185 (.iload_n 3) 1 1186 := ⟨tL_law_8_ok (1185, .iload_n 3, 1) (List.mem_of_getElem? (i := 29) rfl), rfl⟩
theorem pL_law_1186 : At cL_law 1186 (.iconst 2) 1 1187 := ⟨tL_law_8_ok (1186, .iconst 2, 1) (List.mem_of_getElem? (i := 30) rfl), rfl⟩
theorem pL_law_1187 : At cL_law 1187 (.iadd) 1 1188 := ⟨tL_law_8_ok (1187, .iadd, 1) (List.mem_of_getElem? (i := 31) rfl), rfl⟩
theorem pL_law_1188 : At cL_law 1188 (.iaload) 1 1189 := ⟨tL_law_8_ok (1188, .iaload, 1) (List.mem_of_getElem? (i := 32) rfl), rfl⟩
theorem pL_law_1189 : At cL_law 1189 (.aload_n 0) 1 1190 := ⟨tL_law_8_ok (1189, .aload_n 0, 1) (List.mem_of_getElem? (i := 33) rfl), rfl⟩
theorem pL_law_1190 : At cL_law 1190 (.iload_n 3) 1 1191 := ⟨tL_law_8_ok (1190, .iload_n 3, 1) (List.mem_of_getElem? (i := 34) rfl), rfl⟩
theorem pL_law_1191 : At cL_law 1191 (.iconst 3) 1 1192 := ⟨tL_law_8_ok (1191, .iconst 3, 1) (List.mem_of_getElem? (i := 35) rfl), rfl⟩
theorem pL_law_1192 : At cL_law 1192 (.iadd) 1 1193 := ⟨tL_law_8_ok (1192, .iadd, 1) (List.mem_of_getElem? (i := 36) rfl), rfl⟩
theorem pL_law_1193 : At cL_law 1193 (.iaload) 1 1194 := ⟨tL_law_8_ok (1193, .iaload, 1) (List.mem_of_getElem? (i := 37) rfl), rfl⟩
theorem pL_law_1194 : At cL_law 1194 (.invokevirtual 133) 3 1197 := ⟨tL_law_8_ok (1194, .invokevirtual 133, 3) (List.mem_of_getElem? (i := 38) rfl), rfl⟩
theorem pL_law_1197 : At cL_law 1197 (.aload_n 2) 1 1198 := ⟨tL_law_8_ok (1197, .aload_n 2, 1) (List.mem_of_getElem? (i := 39) rfl), rfl⟩
theorem pL_law_1198 : At cL_law 1198 (.aload_n 0) 1 1199 := ⟨tL_law_8_ok (1198, .aload_n 0, 1) (List.mem_of_getElem? (i := 40) rfl), rfl⟩
theorem pL_law_1199 : At cL_law 1199 (.iload_n 3) 1 1200 := ⟨tL_law_8_ok (1199, .iload_n 3, 1) (List.mem_of_getElem? (i := 41) rfl), rfl⟩
theorem pL_law_1200 : At cL_law 1200 (.iconst 1) 1 1201 := ⟨tL_law_8_ok (1200, .iconst 1, 1) (List.mem_of_getElem? (i := 42) rfl), rfl⟩
theorem pL_law_1201 : At cL_law 1201 (.iadd) 1 1202 := ⟨tL_law_8_ok (1201, .iadd, 1) (List.mem_of_getElem? (i := 43) rfl), rfl⟩
theorem pL_law_1202 : At cL_law 1202 (.iaload) 1 1203 := ⟨tL_law_8_ok (1202, .iaload, 1) (List.mem_of_getElem? (i := 44) rfl), rfl⟩
theorem pL_law_1203 : At cL_law 1203 (.aload_n 0) 1 1204 := ⟨tL_law_8_ok (1203, .aload_n 0, 1) (List.mem_of_getElem? (i := 45) rfl), rfl⟩
theorem pL_law_1204 : At cL_law 1204 (.iload_n 3) 1 1205 := ⟨tL_law_8_ok (1204, .iload_n 3, 1) (List.mem_of_getElem? (i := 46) rfl), rfl⟩
theorem pL_law_1205 : At cL_law 1205 (.iconst 2) 1 1206 := ⟨tL_law_8_ok (1205, .iconst 2, 1) (List.mem_of_getElem? (i := 47) rfl), rfl⟩
theorem pL_law_1206 : At cL_law 1206 (.iadd) 1 1207 := ⟨tL_law_8_ok (1206, .iadd, 1) (List.mem_of_getElem? (i := 48) rfl), rfl⟩
theorem pL_law_1207 : At cL_law 1207 (.iaload) 1 1208 := ⟨tL_law_8_ok (1207, .iaload, 1) (List.mem_of_getElem? (i := 49) rfl), rfl⟩
theorem pL_law_1208 : At cL_law 1208 (.aload_n 0) 1 1209 := ⟨tL_law_8_ok (1208, .aload_n 0, 1) (List.mem_of_getElem? (i := 50) rfl), rfl⟩
theorem pL_law_1209 : At cL_law 1209 (.iload_n 3) 1 1210 := ⟨tL_law_8_ok (1209, .iload_n 3, 1) (List.mem_of_getElem? (i := 51) rfl), rfl⟩
theorem pL_law_1210 : At cL_law 1210 (.iconst 3) 1 1211 := ⟨tL_law_8_ok (1210, .iconst 3, 1) (List.mem_of_getElem? (i := 52) rfl), rfl⟩
theorem pL_law_1211 : At cL_law 1211 (.iadd) 1 1212 := ⟨tL_law_8_ok (1211, .iadd, 1) (List.mem_of_getElem? (i := 53) rfl), rfl⟩
theorem pL_law_1212 : At cL_law 1212 (.iaload) 1 1213 := ⟨tL_law_8_ok (1212, .iaload, 1) (List.mem_of_getElem? (i := 54) rfl), rfl⟩
theorem pL_law_1213 : At cL_law 1213 (.invokevirtual 136) 3 1216 := ⟨tL_law_8_ok (1213, .invokevirtual 136, 3) (List.mem_of_getElem? (i := 55) rfl), rfl⟩
theorem pL_law_1216 : Bt cL_law 1216 (.if_icmp .eq 265) 265 1481 1219 := ⟨tL_law_8_ok (1216, .if_icmp .eq 265, 3) (List.mem_of_getElem? (i := 56) rfl), by decide, rfl⟩
theorem pL_law_1219 : At cL_law 1219 (.iconst 0) 1 1220 := ⟨tL_law_8_ok (1219, .iconst 0, 1) (List.mem_of_getElem? (i := 57) rfl), rfl⟩
theorem pL_law_1220 : At cL_law 1220 (.ireturn) 1 1221 := ⟨tL_law_8_ok (1220, .ireturn, 1) (List.mem_of_getElem? (i := 58) rfl), rfl⟩
theorem pL_law_1221 : At cL_law 1221 (.aload_n 1) 1 1222 := ⟨tL_law_8_ok (1221, .aload_n 1, 1) (List.mem_of_getElem? (i := 59) rfl), rfl⟩
theorem pL_law_1222 : At cL_law 1222 (.aload_n 0) 1 1223 := ⟨tL_law_8_ok (1222, .aload_n 0, 1) (List.mem_of_getElem? (i := 60) rfl), rfl⟩
theorem pL_law_1223 : At cL_law 1223 (.iload_n 3) 1 1224 := ⟨tL_law_8_ok (1223, .iload_n 3, 1) (List.mem_of_getElem? (i := 61) rfl), rfl⟩
theorem pL_law_1224 : At cL_law 1224 (.iconst 1) 1 1225 := ⟨tL_law_8_ok (1224, .iconst 1, 1) (List.mem_of_getElem? (i := 62) rfl), rfl⟩
theorem pL_law_1225 : At cL_law 1225 (.iadd) 1 1226 := ⟨tL_law_8_ok (1225, .iadd, 1) (List.mem_of_getElem? (i := 63) rfl), rfl⟩
theorem pL_law_1226 : At cL_law 1226 (.iaload) 1 1227 := ⟨tL_law_8_ok (1226, .iaload, 1) (List.mem_of_getElem? (i := 64) rfl), rfl⟩
theorem pL_law_1227 : At cL_law 1227 (.aload_n 0) 1 1228 := ⟨tL_law_8_ok (1227, .aload_n 0, 1) (List.mem_of_getElem? (i := 65) rfl), rfl⟩
theorem pL_law_1228 : At cL_law 1228 (.iload_n 3) 1 1229 := ⟨tL_law_8_ok (1228, .iload_n 3, 1) (List.mem_of_getElem? (i := 66) rfl), rfl⟩
theorem pL_law_1229 : At cL_law 1229 (.iconst 2) 1 1230 := ⟨tL_law_8_ok (1229, .iconst 2, 1) (List.mem_of_getElem? (i := 67) rfl), rfl⟩
theorem pL_law_1230 : At cL_law 1230 (.iadd) 1 1231 := ⟨tL_law_8_ok (1230, .iadd, 1) (List.mem_of_getElem? (i := 68) rfl), rfl⟩
theorem pL_law_1231 : At cL_law 1231 (.iaload) 1 1232 := ⟨tL_law_8_ok (1231, .iaload, 1) (List.mem_of_getElem? (i := 69) rfl), rfl⟩
theorem pL_law_1232 : At cL_law 1232 (.aload_n 0) 1 1233 := ⟨tL_law_8_ok (1232, .aload_n 0, 1) (List.mem_of_getElem? (i := 70) rfl), rfl⟩
theorem pL_law_1233 : At cL_law 1233 (.iload_n 3) 1 1234 := ⟨tL_law_8_ok (1233, .iload_n 3, 1) (List.mem_of_getElem? (i := 71) rfl), rfl⟩
theorem pL_law_1234 : At cL_law 1234 (.iconst 3) 1 1235 := ⟨tL_law_8_ok (1234, .iconst 3, 1) (List.mem_of_getElem? (i := 72) rfl), rfl⟩
theorem pL_law_1235 : At cL_law 1235 (.iadd) 1 1236 := ⟨tL_law_8_ok (1235, .iadd, 1) (List.mem_of_getElem? (i := 73) rfl), rfl⟩
theorem pL_law_1236 : At cL_law 1236 (.iaload) 1 1237 := ⟨tL_law_8_ok (1236, .iaload, 1) (List.mem_of_getElem? (i := 74) rfl), rfl⟩
theorem pL_law_1237 : At cL_law 1237 (.invokevirtual 137) 3 1240 := ⟨tL_law_8_ok (1237, .invokevirtual 137, 3) (List.mem_of_getElem? (i := 75) rfl), rfl⟩
theorem pL_law_1240 : At cL_law 1240 (.aload_n 2) 1 1241 := ⟨tL_law_8_ok (1240, .aload_n 2, 1) (List.mem_of_getElem? (i := 76) rfl), rfl⟩
theorem pL_law_1241 : At cL_law 1241 (.aload_n 0) 1 1242 := ⟨tL_law_8_ok (1241, .aload_n 0, 1) (List.mem_of_getElem? (i := 77) rfl), rfl⟩
theorem pL_law_1242 : At cL_law 1242 (.iload_n 3) 1 1243 := ⟨tL_law_8_ok (1242, .iload_n 3, 1) (List.mem_of_getElem? (i := 78) rfl), rfl⟩
theorem pL_law_1243 : At cL_law 1243 (.iconst 1) 1 1244 := ⟨tL_law_8_ok (1243, .iconst 1, 1) (List.mem_of_getElem? (i := 79) rfl), rfl⟩
theorem pL_law_1244 : At cL_law 1244 (.iadd) 1 1245 := ⟨tL_law_8_ok (1244, .iadd, 1) (List.mem_of_getElem? (i := 80) rfl), rfl⟩
theorem pL_law_1245 : At cL_law 1245 (.iaload) 1 1246 := ⟨tL_law_8_ok (1245, .iaload, 1) (List.mem_of_getElem? (i := 81) rfl), rfl⟩
theorem pL_law_1246 : At cL_law 1246 (.aload_n 0) 1 1247 := ⟨tL_law_8_ok (1246, .aload_n 0, 1) (List.mem_of_getElem? (i := 82) rfl), rfl⟩
theorem pL_law_1247 : At cL_law 1247 (.iload_n 3) 1 1248 := ⟨tL_law_8_ok (1247, .iload_n 3, 1) (List.mem_of_getElem? (i := 83) rfl), rfl⟩
theorem pL_law_1248 : At cL_law 1248 (.iconst 2) 1 1249 := ⟨tL_law_8_ok (1248, .iconst 2, 1) (List.mem_of_getElem? (i := 84) rfl), rfl⟩
theorem pL_law_1249 : At cL_law 1249 (.iadd) 1 1250 := ⟨tL_law_8_ok (1249, .iadd, 1) (List.mem_of_getElem? (i := 85) rfl), rfl⟩
theorem pL_law_1250 : At cL_law 1250 (.iaload) 1 1251 := ⟨tL_law_8_ok (1250, .iaload, 1) (List.mem_of_getElem? (i := 86) rfl), rfl⟩
theorem pL_law_1251 : At cL_law 1251 (.aload_n 0) 1 1252 := ⟨tL_law_8_ok (1251, .aload_n 0, 1) (List.mem_of_getElem? (i := 87) rfl), rfl⟩
theorem pL_law_1252 : At cL_law 1252 (.iload_n 3) 1 1253 := ⟨tL_law_8_ok (1252, .iload_n 3, 1) (List.mem_of_getElem? (i := 88) rfl), rfl⟩
theorem pL_law_1253 : At cL_law 1253 (.iconst 3) 1 1254 := ⟨tL_law_8_ok (1253, .iconst 3, 1) (List.mem_of_getElem? (i := 89) rfl), rfl⟩
theorem pL_law_1254 : At cL_law 1254 (.iadd) 1 1255 := ⟨tL_law_8_ok (1254, .iadd, 1) (List.mem_of_getElem? (i := 90) rfl), rfl⟩
theorem pL_law_1255 : At cL_law 1255 (.iaload) 1 1256 := ⟨tL_law_8_ok (1255, .iaload, 1) (List.mem_of_getElem? (i := 91) rfl), rfl⟩
theorem pL_law_1256 : At cL_law 1256 (.invokevirtual 140) 3 1259 := ⟨tL_law_8_ok (1256, .invokevirtual 140, 3) (List.mem_of_getElem? (i := 92) rfl), rfl⟩
theorem pL_law_1259 : Bt cL_law 1259 (.if_icmp .eq 222) 222 1481 1262 := ⟨tL_law_8_ok (1259, .if_icmp .eq 222, 3) (List.mem_of_getElem? (i := 93) rfl), by decide, rfl⟩
theorem pL_law_1262 : At cL_law 1262 (.iconst 0) 1 1263 := ⟨tL_law_8_ok (1262, .iconst 0, 1) (List.mem_of_getElem? (i := 94) rfl), rfl⟩
theorem pL_law_1263 : At cL_law 1263 (.ireturn) 1 1264 := ⟨tL_law_8_ok (1263, .ireturn, 1) (List.mem_of_getElem? (i := 95) rfl), rfl⟩
theorem pL_law_1264 : At cL_law 1264 (.aload_n 1) 1 1265 := ⟨tL_law_8_ok (1264, .aload_n 1, 1) (List.mem_of_getElem? (i := 96) rfl), rfl⟩
theorem pL_law_1265 : At cL_law 1265 (.aload_n 0) 1 1266 := ⟨tL_law_8_ok (1265, .aload_n 0, 1) (List.mem_of_getElem? (i := 97) rfl), rfl⟩
theorem pL_law_1266 : At cL_law 1266 (.iload_n 3) 1 1267 := ⟨tL_law_8_ok (1266, .iload_n 3, 1) (List.mem_of_getElem? (i := 98) rfl), rfl⟩
theorem pL_law_1267 : At cL_law 1267 (.iconst 1) 1 1268 := ⟨tL_law_8_ok (1267, .iconst 1, 1) (List.mem_of_getElem? (i := 99) rfl), rfl⟩
theorem pL_law_1268 : At cL_law 1268 (.iadd) 1 1269 := ⟨tL_law_9_ok (1268, .iadd, 1) (List.mem_of_getElem? (i := 0) rfl), rfl⟩
theorem pL_law_1269 : At cL_law 1269 (.iaload) 1 1270 := ⟨tL_law_9_ok (1269, .iaload, 1) (List.mem_of_getElem? (i := 1) rfl), rfl⟩
theorem pL_law_1270 : At cL_law 1270 (.aload_n 0) 1 1271 := ⟨tL_law_9_ok (1270, .aload_n 0, 1) (List.mem_of_getElem? (i := 2) rfl), rfl⟩
theorem pL_law_1271 : At cL_law 1271 (.iload_n 3) 1 1272 := ⟨tL_law_9_ok (1271, .iload_n 3, 1) (List.mem_of_getElem? (i := 3) rfl), rfl⟩
theorem pL_law_1272 : At cL_law 1272 (.iconst 2) 1 1273 := ⟨tL_law_9_ok (1272, .iconst 2, 1) (List.mem_of_getElem? (i := 4) rfl), rfl⟩
theorem pL_law_1273 : At cL_law 1273 (.iadd) 1 1274 := ⟨tL_law_9_ok (1273, .iadd, 1) (List.mem_of_getElem? (i := 5) rfl), rfl⟩
theorem pL_law_1274 : At cL_law 1274 (.iaload) 1 1275 := ⟨tL_law_9_ok (1274, .iaload, 1) (List.mem_of_getElem? (i := 6) rfl), rfl⟩
theorem pL_law_1275 : At cL_law 1275 (.aload_n 0) 1 1276 := ⟨tL_law_9_ok (1275, .aload_n 0, 1) (List.mem_of_getElem? (i := 7) rfl), rfl⟩
theorem pL_law_1276 : At cL_law 1276 (.iload_n 3) 1 1277 := ⟨tL_law_9_ok (1276, .iload_n 3, 1) (List.mem_of_getElem? (i := 8) rfl), rfl⟩
theorem pL_law_1277 : At cL_law 1277 (.iconst 3) 1 1278 := ⟨tL_law_9_ok (1277, .iconst 3, 1) (List.mem_of_getElem? (i := 9) rfl), rfl⟩
theorem pL_law_1278 : At cL_law 1278 (.iadd) 1 1279 := ⟨tL_law_9_ok (1278, .iadd, 1) (List.mem_of_getElem? (i := 10) rfl), rfl⟩
theorem pL_law_1279 : At cL_law 1279 (.iaload) 1 1280 := ⟨tL_law_9_ok (1279, .iaload, 1) (List.mem_of_getElem? (i := 11) rfl), rfl⟩
theorem pL_law_1280 : At cL_law 1280 (.aload_n 0) 1 1281 := ⟨tL_law_9_ok (1280, .aload_n 0, 1) (List.mem_of_getElem? (i := 12) rfl), rfl⟩
theorem pL_law_1281 : At cL_law 1281 (.iload_n 3) 1 1282 := ⟨tL_law_9_ok (1281, .iload_n 3, 1) (List.mem_of_getElem? (i := 13) rfl), rfl⟩
theorem pL_law_1282 : At cL_law 1282 (.iconst 4) 1 1283 := ⟨tL_law_9_ok (1282, .iconst 4, 1) (List.mem_of_getElem? (i := 14) rfl), rfl⟩
theorem pL_law_1283 : At cL_law 1283 (.iadd) 1 1284 := ⟨tL_law_9_ok (1283, .iadd, 1) (List.mem_of_getElem? (i := 15) rfl), rfl⟩
theorem pL_law_1284 : At cL_law 1284 (.iaload) 1 1285 := ⟨tL_law_9_ok (1284, .iaload, 1) (List.mem_of_getElem? (i := 16) rfl), rfl⟩
theorem pL_law_1285 : At cL_law 1285 (.aload_n 0) 1 1286 := ⟨tL_law_9_ok (1285, .aload_n 0, 1) (List.mem_of_getElem? (i := 17) rfl), rfl⟩
theorem pL_law_1286 : At cL_law 1286 (.iload_n 3) 1 1287 := ⟨tL_law_9_ok (1286, .iload_n 3, 1) (List.mem_of_getElem? (i := 18) rfl), rfl⟩
theorem pL_law_1287 : At cL_law 1287 (.iconst 5) 1 1288 := ⟨tL_law_9_ok (1287, .iconst 5, 1) (List.mem_of_getElem? (i := 19) rfl), rfl⟩
theorem pL_law_1288 : At cL_law 1288 (.iadd) 1 1289 := ⟨tL_law_9_ok (1288, .iadd, 1) (List.mem_of_getElem? (i := 20) rfl), rfl⟩
theorem pL_law_1289 : At cL_law 1289 (.iaload) 1 1290 := ⟨tL_law_9_ok (1289, .iaload, 1) (List.mem_of_getElem? (i := 21) rfl), rfl⟩
theorem pL_law_1290 : At cL_law 1290 (.invokevirtual 141) 3 1293 := ⟨tL_law_9_ok (1290, .invokevirtual 141, 3) (List.mem_of_getElem? (i := 22) rfl), rfl⟩
theorem pL_law_1293 : At cL_law 1293 (.aload_n 2) 1 1294 := ⟨tL_law_9_ok (1293, .aload_n 2, 1) (List.mem_of_getElem? (i := 23) rfl), rfl⟩
theorem pL_law_1294 : At cL_law 1294 (.aload_n 0) 1 1295 := ⟨tL_law_9_ok (1294, .aload_n 0, 1) (List.mem_of_getElem? (i := 24) rfl), rfl⟩
theorem pL_law_1295 : At cL_law 1295 (.iload_n 3) 1 1296 := ⟨tL_law_9_ok (1295, .iload_n 3, 1) (List.mem_of_getElem? (i := 25) rfl), rfl⟩
theorem pL_law_1296 : At cL_law 1296 (.iconst 1) 1 1297 := ⟨tL_law_9_ok (1296, .iconst 1, 1) (List.mem_of_getElem? (i := 26) rfl), rfl⟩
theorem pL_law_1297 : At cL_law 1297 (.iadd) 1 1298 := ⟨tL_law_9_ok (1297, .iadd, 1) (List.mem_of_getElem? (i := 27) rfl), rfl⟩
theorem pL_law_1298 : At cL_law 1298 (.iaload) 1 1299 := ⟨tL_law_9_ok (1298, .iaload, 1) (List.mem_of_getElem? (i := 28) rfl), rfl⟩
theorem pL_law_1299 : At cL_law 1299 (.aload_n 0) 1 1300 := ⟨tL_law_9_ok (1299, .aload_n 0, 1) (List.mem_of_getElem? (i := 29) rfl), rfl⟩
theorem pL_law_1300 : At cL_law 1300 (.iload_n 3) 1 1301 := ⟨tL_law_9_ok (1300, .iload_n 3, 1) (List.mem_of_getElem? (i := 30) rfl), rfl⟩
theorem pL_law_1301 : At cL_law 1301 (.iconst 2) 1 1302 := ⟨tL_law_9_ok (1301, .iconst 2, 1) (List.mem_of_getElem? (i := 31) rfl), rfl⟩
theorem pL_law_1302 : At cL_law 1302 (.iadd) 1 1303 := ⟨tL_law_9_ok (1302, .iadd, 1) (List.mem_of_getElem? (i := 32) rfl), rfl⟩
theorem pL_law_1303 : At cL_law 1303 (.iaload) 1 1304 := ⟨tL_law_9_ok (1303, .iaload, 1) (List.mem_of_getElem? (i := 33) rfl), rfl⟩
theorem pL_law_1304 : At cL_law 1304 (.aload_n 0) 1 1305 := ⟨tL_law_9_ok (1304, .aload_n 0, 1) (List.mem_of_getElem? (i := 34) rfl), rfl⟩
theorem pL_law_1305 : At cL_law 1305 (.iload_n 3) 1 1306 := ⟨tL_law_9_ok (1305, .iload_n 3, 1) (List.mem_of_getElem? (i := 35) rfl), rfl⟩
theorem pL_law_1306 : At cL_law 1306 (.iconst 3) 1 1307 := ⟨tL_law_9_ok (1306, .iconst 3, 1) (List.mem_of_getElem? (i := 36) rfl), rfl⟩
theorem pL_law_1307 : At cL_law 1307 (.iadd) 1 1308 := ⟨tL_law_9_ok (1307, .iadd, 1) (List.mem_of_getElem? (i := 37) rfl), rfl⟩
theorem pL_law_1308 : At cL_law 1308 (.iaload) 1 1309 := ⟨tL_law_9_ok (1308, .iaload, 1) (List.mem_of_getElem? (i := 38) rfl), rfl⟩
theorem pL_law_1309 : At cL_law 1309 (.aload_n 0) 1 1310 := ⟨tL_law_9_ok (1309, .aload_n 0, 1) (List.mem_of_getElem? (i := 39) rfl), rfl⟩
theorem pL_law_1310 : At cL_law 1310 (.iload_n 3) 1 1311 := ⟨tL_law_9_ok (1310, .iload_n 3, 1) (List.mem_of_getElem? (i := 40) rfl), rfl⟩
theorem pL_law_1311 : At cL_law 1311 (.iconst 4) 1 1312 := ⟨tL_law_9_ok (1311, .iconst 4, 1) (List.mem_of_getElem? (i := 41) rfl), rfl⟩
theorem pL_law_1312 : At cL_law 1312 (.iadd) 1 1313 := ⟨tL_law_9_ok (1312, .iadd, 1) (List.mem_of_getElem? (i := 42) rfl), rfl⟩
theorem pL_law_1313 : At cL_law 1313 (.iaload) 1 1314 := ⟨tL_law_9_ok (1313, .iaload, 1) (List.mem_of_getElem? (i := 43) rfl), rfl⟩
theorem pL_law_1314 : At cL_law 1314 (.aload_n 0) 1 1315 := ⟨tL_law_9_ok (1314, .aload_n 0, 1) (List.mem_of_getElem? (i := 44) rfl), rfl⟩
theorem pL_law_1315 : At cL_law 1315 (.iload_n 3) 1 1316 := ⟨tL_law_9_ok (1315, .iload_n 3, 1) (List.mem_of_getElem? (i := 45) rfl), rfl⟩
theorem pL_law_1316 : At cL_law 1316 (.iconst 5) 1 1317 := ⟨tL_law_9_ok (1316, .iconst 5, 1) (List.mem_of_getElem? (i := 46) rfl), rfl⟩
theorem pL_law_1317 : At cL_law 1317 (.iadd) 1 1318 := ⟨tL_law_9_ok (1317, .iadd, 1) (List.mem_of_getElem? (i := 47) rfl), rfl⟩
theorem pL_law_1318 : At cL_law 1318 (.iaload) 1 1319 := ⟨tL_law_9_ok (1318, .iaload, 1) (List.mem_of_getElem? (i := 48) rfl), rfl⟩
theorem pL_law_1319 : At cL_law 1319 (.invokevirtual 145) 3 1322 := ⟨tL_law_9_ok (1319, .invokevirtual 145, 3) (List.mem_of_getElem? (i := 49) rfl), rfl⟩
theorem pL_law_1322 : Bt cL_law 1322 (.if_icmp .eq 159) 159 1481 1325 := ⟨tL_law_9_ok (1322, .if_icmp .eq 159, 3) (List.mem_of_getElem? (i := 50) rfl), by decide, rfl⟩
theorem pL_law_1325 : At cL_law 1325 (.iconst 0) 1 1326 := ⟨tL_law_9_ok (1325, .iconst 0, 1) (List.mem_of_getElem? (i := 51) rfl), rfl⟩
theorem pL_law_1326 : At cL_law 1326 (.ireturn) 1 1327 := ⟨tL_law_9_ok (1326, .ireturn, 1) (List.mem_of_getElem? (i := 52) rfl), rfl⟩
theorem pL_law_1327 : At cL_law 1327 (.aload_n 1) 1 1328 := ⟨tL_law_9_ok (1327, .aload_n 1, 1) (List.mem_of_getElem? (i := 53) rfl), rfl⟩
theorem pL_law_1328 : At cL_law 1328 (.aload_n 0) 1 1329 := ⟨tL_law_9_ok (1328, .aload_n 0, 1) (List.mem_of_getElem? (i := 54) rfl), rfl⟩
theorem pL_law_1329 : At cL_law 1329 (.iload_n 3) 1 1330 := ⟨tL_law_9_ok (1329, .iload_n 3, 1) (List.mem_of_getElem? (i := 55) rfl), rfl⟩
theorem pL_law_1330 : At cL_law 1330 (.iconst 1) 1 1331 := ⟨tL_law_9_ok (1330, .iconst 1, 1) (List.mem_of_getElem? (i := 56) rfl), rfl⟩
theorem pL_law_1331 : At cL_law 1331 (.iadd) 1 1332 := ⟨tL_law_9_ok (1331, .iadd, 1) (List.mem_of_getElem? (i := 57) rfl), rfl⟩
theorem pL_law_1332 : At cL_law 1332 (.iaload) 1 1333 := ⟨tL_law_9_ok (1332, .iaload, 1) (List.mem_of_getElem? (i := 58) rfl), rfl⟩
theorem pL_law_1333 : At cL_law 1333 (.invokevirtual 146) 3 1336 := ⟨tL_law_9_ok (1333, .invokevirtual 146, 3) (List.mem_of_getElem? (i := 59) rfl), rfl⟩
theorem pL_law_1336 : At cL_law 1336 (.aload_n 2) 1 1337 := ⟨tL_law_9_ok (1336, .aload_n 2, 1) (List.mem_of_getElem? (i := 60) rfl), rfl⟩
theorem pL_law_1337 : At cL_law 1337 (.aload_n 0) 1 1338 := ⟨tL_law_9_ok (1337, .aload_n 0, 1) (List.mem_of_getElem? (i := 61) rfl), rfl⟩
theorem pL_law_1338 : At cL_law 1338 (.iload_n 3) 1 1339 := ⟨tL_law_9_ok (1338, .iload_n 3, 1) (List.mem_of_getElem? (i := 62) rfl), rfl⟩
theorem pL_law_1339 : At cL_law 1339 (.iconst 1) 1 1340 := ⟨tL_law_9_ok (1339, .iconst 1, 1) (List.mem_of_getElem? (i := 63) rfl), rfl⟩
theorem pL_law_1340 : At cL_law 1340 (.iadd) 1 1341 := ⟨tL_law_9_ok (1340, .iadd, 1) (List.mem_of_getElem? (i := 64) rfl), rfl⟩
theorem pL_law_1341 : At cL_law 1341 (.iaload) 1 1342 := ⟨tL_law_9_ok (1341, .iaload, 1) (List.mem_of_getElem? (i := 65) rfl), rfl⟩
theorem pL_law_1342 : At cL_law 1342 (.invokevirtual 149) 3 1345 := ⟨tL_law_9_ok (1342, .invokevirtual 149, 3) (List.mem_of_getElem? (i := 66) rfl), rfl⟩
theorem pL_law_1345 : Bt cL_law 1345 (.if_icmp .eq 136) 136 1481 1348 := ⟨tL_law_9_ok (1345, .if_icmp .eq 136, 3) (List.mem_of_getElem? (i := 67) rfl), by decide, rfl⟩
theorem pL_law_1348 : At cL_law 1348 (.iconst 0) 1 1349 := ⟨tL_law_9_ok (1348, .iconst 0, 1) (List.mem_of_getElem? (i := 68) rfl), rfl⟩
theorem pL_law_1349 : At cL_law 1349 (.ireturn) 1 1350 := ⟨tL_law_9_ok (1349, .ireturn, 1) (List.mem_of_getElem? (i := 69) rfl), rfl⟩
theorem pL_law_1350 : At cL_law 1350 (.aload_n 1) 1 1351 := ⟨tL_law_9_ok (1350, .aload_n 1, 1) (List.mem_of_getElem? (i := 70) rfl), rfl⟩
theorem pL_law_1351 : At cL_law 1351 (.aload_n 0) 1 1352 := ⟨tL_law_9_ok (1351, .aload_n 0, 1) (List.mem_of_getElem? (i := 71) rfl), rfl⟩
theorem pL_law_1352 : At cL_law 1352 (.iload_n 3) 1 1353 := ⟨tL_law_9_ok (1352, .iload_n 3, 1) (List.mem_of_getElem? (i := 72) rfl), rfl⟩
theorem pL_law_1353 : At cL_law 1353 (.iconst 1) 1 1354 := ⟨tL_law_9_ok (1353, .iconst 1, 1) (List.mem_of_getElem? (i := 73) rfl), rfl⟩
theorem pL_law_1354 : At cL_law 1354 (.iadd) 1 1355 := ⟨tL_law_9_ok (1354, .iadd, 1) (List.mem_of_getElem? (i := 74) rfl), rfl⟩
theorem pL_law_1355 : At cL_law 1355 (.iaload) 1 1356 := ⟨tL_law_9_ok (1355, .iaload, 1) (List.mem_of_getElem? (i := 75) rfl), rfl⟩
theorem pL_law_1356 : At cL_law 1356 (.invokevirtual 150) 3 1359 := ⟨tL_law_9_ok (1356, .invokevirtual 150, 3) (List.mem_of_getElem? (i := 76) rfl), rfl⟩
theorem pL_law_1359 : At cL_law 1359 (.aload_n 2) 1 1360 := ⟨tL_law_9_ok (1359, .aload_n 2, 1) (List.mem_of_getElem? (i := 77) rfl), rfl⟩
theorem pL_law_1360 : At cL_law 1360 (.aload_n 0) 1 1361 := ⟨tL_law_9_ok (1360, .aload_n 0, 1) (List.mem_of_getElem? (i := 78) rfl), rfl⟩
theorem pL_law_1361 : At cL_law 1361 (.iload_n 3) 1 1362 := ⟨tL_law_9_ok (1361, .iload_n 3, 1) (List.mem_of_getElem? (i := 79) rfl), rfl⟩
theorem pL_law_1362 : At cL_law 1362 (.iconst 1) 1 1363 := ⟨tL_law_9_ok (1362, .iconst 1, 1) (List.mem_of_getElem? (i := 80) rfl), rfl⟩
theorem pL_law_1363 : At cL_law 1363 (.iadd) 1 1364 := ⟨tL_law_9_ok (1363, .iadd, 1) (List.mem_of_getElem? (i := 81) rfl), rfl⟩
theorem pL_law_1364 : At cL_law 1364 (.iaload) 1 1365 := ⟨tL_law_9_ok (1364, .iaload, 1) (List.mem_of_getElem? (i := 82) rfl), rfl⟩
theorem pL_law_1365 : At cL_law 1365 (.invokevirtual 153) 3 1368 := ⟨tL_law_9_ok (1365, .invokevirtual 153, 3) (List.mem_of_getElem? (i := 83) rfl), rfl⟩
theorem pL_law_1368 : Bt cL_law 1368 (.if_icmp .eq 113) 113 1481 1371 := ⟨tL_law_9_ok (1368, .if_icmp .eq 113, 3) (List.mem_of_getElem? (i := 84) rfl), by decide, rfl⟩
theorem pL_law_1371 : At cL_law 1371 (.iconst 0) 1 1372 := ⟨tL_law_9_ok (1371, .iconst 0, 1) (List.mem_of_getElem? (i := 85) rfl), rfl⟩
theorem pL_law_1372 : At cL_law 1372 (.ireturn) 1 1373 := ⟨tL_law_9_ok (1372, .ireturn, 1) (List.mem_of_getElem? (i := 86) rfl), rfl⟩
theorem pL_law_1373 : At cL_law 1373 (.aload_n 1) 1 1374 := ⟨tL_law_9_ok (1373, .aload_n 1, 1) (List.mem_of_getElem? (i := 87) rfl), rfl⟩
theorem pL_law_1374 : At cL_law 1374 (.invokevirtual 154) 3 1377 := ⟨tL_law_9_ok (1374, .invokevirtual 154, 3) (List.mem_of_getElem? (i := 88) rfl), rfl⟩
theorem pL_law_1377 : At cL_law 1377 (.aload_n 2) 1 1378 := ⟨tL_law_9_ok (1377, .aload_n 2, 1) (List.mem_of_getElem? (i := 89) rfl), rfl⟩
theorem pL_law_1378 : At cL_law 1378 (.invokevirtual 157) 3 1381 := ⟨tL_law_9_ok (1378, .invokevirtual 157, 3) (List.mem_of_getElem? (i := 90) rfl), rfl⟩
theorem pL_law_1381 : Bt cL_law 1381 (.if_icmp .eq 100) 100 1481 1384 := ⟨tL_law_9_ok (1381, .if_icmp .eq 100, 3) (List.mem_of_getElem? (i := 91) rfl), by decide, rfl⟩
theorem pL_law_1384 : At cL_law 1384 (.iconst 0) 1 1385 := ⟨tL_law_9_ok (1384, .iconst 0, 1) (List.mem_of_getElem? (i := 92) rfl), rfl⟩
theorem pL_law_1385 : At cL_law 1385 (.ireturn) 1 1386 := ⟨tL_law_9_ok (1385, .ireturn, 1) (List.mem_of_getElem? (i := 93) rfl), rfl⟩
theorem pL_law_1386 : At cL_law 1386 (.aload_n 1) 1 1387 := ⟨tL_law_9_ok (1386, .aload_n 1, 1) (List.mem_of_getElem? (i := 94) rfl), rfl⟩
theorem pL_law_1387 : At cL_law 1387 (.invokevirtual 158) 3 1390 := ⟨tL_law_9_ok (1387, .invokevirtual 158, 3) (List.mem_of_getElem? (i := 95) rfl), rfl⟩
theorem pL_law_1390 : At cL_law 1390 (.aload_n 2) 1 1391 := ⟨tL_law_9_ok (1390, .aload_n 2, 1) (List.mem_of_getElem? (i := 96) rfl), rfl⟩
theorem pL_law_1391 : At cL_law 1391 (.invokevirtual 161) 3 1394 := ⟨tL_law_9_ok (1391, .invokevirtual 161, 3) (List.mem_of_getElem? (i := 97) rfl), rfl⟩
theorem pL_law_1394 : Bt cL_law 1394 (.if_icmp .eq 87) 87 1481 1397 := ⟨tL_law_9_ok (1394, .if_icmp .eq 87, 3) (List.mem_of_getElem? (i := 98) rfl), by decide, rfl⟩
theorem pL_law_1397 : At cL_law 1397 (.iconst 0) 1 1398 := ⟨tL_law_9_ok (1397, .iconst 0, 1) (List.mem_of_getElem? (i := 99) rfl), rfl⟩
theorem pL_law_1398 : At cL_law 1398 (.ireturn) 1 1399 := ⟨tL_law_10_ok (1398, .ireturn, 1) (List.mem_of_getElem? (i := 0) rfl), rfl⟩
theorem pL_law_1399 : At cL_law 1399 (.aload_n 1) 1 1400 := ⟨tL_law_10_ok (1399, .aload_n 1, 1) (List.mem_of_getElem? (i := 1) rfl), rfl⟩
theorem pL_law_1400 : At cL_law 1400 (.aload_n 0) 1 1401 := ⟨tL_law_10_ok (1400, .aload_n 0, 1) (List.mem_of_getElem? (i := 2) rfl), rfl⟩
theorem pL_law_1401 : At cL_law 1401 (.iload_n 3) 1 1402 := ⟨tL_law_10_ok (1401, .iload_n 3, 1) (List.mem_of_getElem? (i := 3) rfl), rfl⟩
theorem pL_law_1402 : At cL_law 1402 (.iconst 1) 1 1403 := ⟨tL_law_10_ok (1402, .iconst 1, 1) (List.mem_of_getElem? (i := 4) rfl), rfl⟩
theorem pL_law_1403 : At cL_law 1403 (.iadd) 1 1404 := ⟨tL_law_10_ok (1403, .iadd, 1) (List.mem_of_getElem? (i := 5) rfl), rfl⟩
theorem pL_law_1404 : At cL_law 1404 (.iaload) 1 1405 := ⟨tL_law_10_ok (1404, .iaload, 1) (List.mem_of_getElem? (i := 6) rfl), rfl⟩
theorem pL_law_1405 : At cL_law 1405 (.invokevirtual 162) 3 1408 := ⟨tL_law_10_ok (1405, .invokevirtual 162, 3) (List.mem_of_getElem? (i := 7) rfl), rfl⟩
theorem pL_law_1408 : At cL_law 1408 (.aload_n 2) 1 1409 := ⟨tL_law_10_ok (1408, .aload_n 2, 1) (List.mem_of_getElem? (i := 8) rfl), rfl⟩
theorem pL_law_1409 : At cL_law 1409 (.aload_n 0) 1 1410 := ⟨tL_law_10_ok (1409, .aload_n 0, 1) (List.mem_of_getElem? (i := 9) rfl), rfl⟩
theorem pL_law_1410 : At cL_law 1410 (.iload_n 3) 1 1411 := ⟨tL_law_10_ok (1410, .iload_n 3, 1) (List.mem_of_getElem? (i := 10) rfl), rfl⟩
theorem pL_law_1411 : At cL_law 1411 (.iconst 1) 1 1412 := ⟨tL_law_10_ok (1411, .iconst 1, 1) (List.mem_of_getElem? (i := 11) rfl), rfl⟩
theorem pL_law_1412 : At cL_law 1412 (.iadd) 1 1413 := ⟨tL_law_10_ok (1412, .iadd, 1) (List.mem_of_getElem? (i := 12) rfl), rfl⟩
theorem pL_law_1413 : At cL_law 1413 (.iaload) 1 1414 := ⟨tL_law_10_ok (1413, .iaload, 1) (List.mem_of_getElem? (i := 13) rfl), rfl⟩
theorem pL_law_1414 : At cL_law 1414 (.invokevirtual 165) 3 1417 := ⟨tL_law_10_ok (1414, .invokevirtual 165, 3) (List.mem_of_getElem? (i := 14) rfl), rfl⟩
theorem pL_law_1417 : Bt cL_law 1417 (.if_icmp .eq 64) 64 1481 1420 := ⟨tL_law_10_ok (1417, .if_icmp .eq 64, 3) (List.mem_of_getElem? (i := 15) rfl), by decide, rfl⟩
theorem pL_law_1420 : At cL_law 1420 (.iconst 0) 1 1421 := ⟨tL_law_10_ok (1420, .iconst 0, 1) (List.mem_of_getElem? (i := 16) rfl), rfl⟩
theorem pL_law_1421 : At cL_law 1421 (.ireturn) 1 1422 := ⟨tL_law_10_ok (1421, .ireturn, 1) (List.mem_of_getElem? (i := 17) rfl), rfl⟩
theorem pL_law_1422 : At cL_law 1422 (.aload_n 1) 1 1423 := ⟨tL_law_10_ok (1422, .aload_n 1, 1) (List.mem_of_getElem? (i := 18) rfl), rfl⟩
theorem pL_law_1423 : At cL_law 1423 (.invokevirtual 166) 3 1426 := ⟨tL_law_10_ok (1423, .invokevirtual 166, 3) (List.mem_of_getElem? (i := 19) rfl), rfl⟩
theorem pL_law_1426 : At cL_law 1426 (.aload_n 2) 1 1427 := ⟨tL_law_10_ok (1426, .aload_n 2, 1) (List.mem_of_getElem? (i := 20) rfl), rfl⟩
theorem pL_law_1427 : At cL_law 1427 (.invokevirtual 169) 3 1430 := ⟨tL_law_10_ok (1427, .invokevirtual 169, 3) (List.mem_of_getElem? (i := 21) rfl), rfl⟩
theorem pL_law_1430 : Bt cL_law 1430 (.if_icmp .eq 51) 51 1481 1433 := ⟨tL_law_10_ok (1430, .if_icmp .eq 51, 3) (List.mem_of_getElem? (i := 22) rfl), by decide, rfl⟩
theorem pL_law_1433 : At cL_law 1433 (.iconst 0) 1 1434 := ⟨tL_law_10_ok (1433, .iconst 0, 1) (List.mem_of_getElem? (i := 23) rfl), rfl⟩
theorem pL_law_1434 : At cL_law 1434 (.ireturn) 1 1435 := ⟨tL_law_10_ok (1434, .ireturn, 1) (List.mem_of_getElem? (i := 24) rfl), rfl⟩
theorem pL_law_1435 : At cL_law 1435 (.aload_n 1) 1 1436 := ⟨tL_law_10_ok (1435, .aload_n 1, 1) (List.mem_of_getElem? (i := 25) rfl), rfl⟩
theorem pL_law_1436 : At cL_law 1436 (.aload_n 0) 1 1437 := ⟨tL_law_10_ok (1436, .aload_n 0, 1) (List.mem_of_getElem? (i := 26) rfl), rfl⟩
theorem pL_law_1437 : At cL_law 1437 (.iload_n 3) 1 1438 := ⟨tL_law_10_ok (1437, .iload_n 3, 1) (List.mem_of_getElem? (i := 27) rfl), rfl⟩
theorem pL_law_1438 : At cL_law 1438 (.iconst 1) 1 1439 := ⟨tL_law_10_ok (1438, .iconst 1, 1) (List.mem_of_getElem? (i := 28) rfl), rfl⟩
theorem pL_law_1439 : At cL_law 1439 (.iadd) 1 1440 := ⟨tL_law_10_ok (1439, .iadd, 1) (List.mem_of_getElem? (i := 29) rfl), rfl⟩
theorem pL_law_1440 : At cL_law 1440 (.iaload) 1 1441 := ⟨tL_law_10_ok (1440, .iaload, 1) (List.mem_of_getElem? (i := 30) rfl), rfl⟩
theorem pL_law_1441 : At cL_law 1441 (.invokevirtual 170) 3 1444 := ⟨tL_law_10_ok (1441, .invokevirtual 170, 3) (List.mem_of_getElem? (i := 31) rfl), rfl⟩
theorem pL_law_1444 : At cL_law 1444 (.aload_n 2) 1 1445 := ⟨tL_law_10_ok (1444, .aload_n 2, 1) (List.mem_of_getElem? (i := 32) rfl), rfl⟩
theorem pL_law_1445 : At cL_law 1445 (.aload_n 0) 1 1446 := ⟨tL_law_10_ok (1445, .aload_n 0, 1) (List.mem_of_getElem? (i := 33) rfl), rfl⟩
theorem pL_law_1446 : At cL_law 1446 (.iload_n 3) 1 1447 := ⟨tL_law_10_ok (1446, .iload_n 3, 1) (List.mem_of_getElem? (i := 34) rfl), rfl⟩
theorem pL_law_1447 : At cL_law 1447 (.iconst 1) 1 1448 := ⟨tL_law_10_ok (1447, .iconst 1, 1) (List.mem_of_getElem? (i := 35) rfl), rfl⟩
theorem pL_law_1448 : At cL_law 1448 (.iadd) 1 1449 := ⟨tL_law_10_ok (1448, .iadd, 1) (List.mem_of_getElem? (i := 36) rfl), rfl⟩
theorem pL_law_1449 : At cL_law 1449 (.iaload) 1 1450 := ⟨tL_law_10_ok (1449, .iaload, 1) (List.mem_of_getElem? (i := 37) rfl), rfl⟩
theorem pL_law_1450 : At cL_law 1450 (.invokevirtual 173) 3 1453 := ⟨tL_law_10_ok (1450, .invokevirtual 173, 3) (List.mem_of_getElem? (i := 38) rfl), rfl⟩
theorem pL_law_1453 : Bt cL_law 1453 (.if_icmp .eq 28) 28 1481 1456 := ⟨tL_law_10_ok (1453, .if_icmp .eq 28, 3) (List.mem_of_getElem? (i := 39) rfl), by decide, rfl⟩
theorem pL_law_1456 : At cL_law 1456 (.iconst 0) 1 1457 := ⟨tL_law_10_ok (1456, .iconst 0, 1) (List.mem_of_getElem? (i := 40) rfl), rfl⟩
theorem pL_law_1457 : At cL_law 1457 (.ireturn) 1 1458 := ⟨tL_law_10_ok (1457, .ireturn, 1) (List.mem_of_getElem? (i := 41) rfl), rfl⟩
theorem pL_law_1458 : At cL_law 1458 (.aload_n 1) 1 1459 := ⟨tL_law_10_ok (1458, .aload_n 1, 1) (List.mem_of_getElem? (i := 42) rfl), rfl⟩
theorem pL_law_1459 : At cL_law 1459 (.aload_n 0) 1 1460 := ⟨tL_law_10_ok (1459, .aload_n 0, 1) (List.mem_of_getElem? (i := 43) rfl), rfl⟩
theorem pL_law_1460 : At cL_law 1460 (.iload_n 3) 1 1461 := ⟨tL_law_10_ok (1460, .iload_n 3, 1) (List.mem_of_getElem? (i := 44) rfl), rfl⟩
theorem pL_law_1461 : At cL_law 1461 (.iconst 1) 1 1462 := ⟨tL_law_10_ok (1461, .iconst 1, 1) (List.mem_of_getElem? (i := 45) rfl), rfl⟩
theorem pL_law_1462 : At cL_law 1462 (.iadd) 1 1463 := ⟨tL_law_10_ok (1462, .iadd, 1) (List.mem_of_getElem? (i := 46) rfl), rfl⟩
theorem pL_law_1463 : At cL_law 1463 (.iaload) 1 1464 := ⟨tL_law_10_ok (1463, .iaload, 1) (List.mem_of_getElem? (i := 47) rfl), rfl⟩
theorem pL_law_1464 : At cL_law 1464 (.invokevirtual 174) 3 1467 := ⟨tL_law_10_ok (1464, .invokevirtual 174, 3) (List.mem_of_getElem? (i := 48) rfl), rfl⟩
theorem pL_law_1467 : At cL_law 1467 (.aload_n 2) 1 1468 := ⟨tL_law_10_ok (1467, .aload_n 2, 1) (List.mem_of_getElem? (i := 49) rfl), rfl⟩
theorem pL_law_1468 : At cL_law 1468 (.aload_n 0) 1 1469 := ⟨tL_law_10_ok (1468, .aload_n 0, 1) (List.mem_of_getElem? (i := 50) rfl), rfl⟩
theorem pL_law_1469 : At cL_law 1469 (.iload_n 3) 1 1470 := ⟨tL_law_10_ok (1469, .iload_n 3, 1) (List.mem_of_getElem? (i := 51) rfl), rfl⟩
theorem pL_law_1470 : At cL_law 1470 (.iconst 1) 1 1471 := ⟨tL_law_10_ok (1470, .iconst 1, 1) (List.mem_of_getElem? (i := 52) rfl), rfl⟩
theorem pL_law_1471 : At cL_law 1471 (.iadd) 1 1472 := ⟨tL_law_10_ok (1471, .iadd, 1) (List.mem_of_getElem? (i := 53) rfl), rfl⟩
theorem pL_law_1472 : At cL_law 1472 (.iaload) 1 1473 := ⟨tL_law_10_ok (1472, .iaload, 1) (List.mem_of_getElem? (i := 54) rfl), rfl⟩
theorem pL_law_1473 : At cL_law 1473 (.invokevirtual 177) 3 1476 := ⟨tL_law_10_ok (1473, .invokevirtual 177, 3) (List.mem_of_getElem? (i := 55) rfl), rfl⟩
theorem pL_law_1476 : Bt cL_law 1476 (.if_icmp .eq 5) 5 1481 1479 := ⟨tL_law_10_ok (1476, .if_icmp .eq 5, 3) (List.mem_of_getElem? (i := 56) rfl), by decide, rfl⟩
theorem pL_law_1479 : At cL_law 1479 (.iconst 0) 1 1480 := ⟨tL_law_10_ok (1479, .iconst 0, 1) (List.mem_of_getElem? (i := 57) rfl), rfl⟩
theorem pL_law_1480 : At cL_law 1480 (.ireturn) 1 1481 := ⟨tL_law_10_ok (1480, .ireturn, 1) (List.mem_of_getElem? (i := 58) rfl), rfl⟩
theorem pL_law_1481 : At cL_law 1481 (.iinc 3 6) 3 1484 := ⟨tL_law_10_ok (1481, .iinc 3 6, 3) (List.mem_of_getElem? (i := 59) rfl), rfl⟩
theorem pL_law_1484 : Bt cL_law 1484 (.goto (-1466)) (-1466) 18 1487 := ⟨tL_law_10_ok (1484, .goto (-1466), 3) (List.mem_of_getElem? (i := 60) rfl), by decide, rfl⟩
theorem pL_law_1487 : At cL_law 1487 (.iconst 1) 1 1488 := ⟨tL_law_10_ok (1487, .iconst 1, 1) (List.mem_of_getElem? (i := 61) rfl), rfl⟩
theorem pL_law_1488 : At cL_law 1488 (.ireturn) 1 1489 := ⟨tL_law_10_ok (1488, .ireturn, 1) (List.mem_of_getElem? (i := 62) rfl), rfl⟩
theorem ic_6 : Int32.ofInt (6) = (6 : Int32) := by decide +kernel
theorem tsx_0_38 {x : Int32} (h1 : ¬ x < (0 : Int32)) (h2 : ¬ (38 : Int32) < x) : x = (0 : Int32) ∨ x = (1 : Int32) ∨ x = (2 : Int32) ∨ x = (3 : Int32) ∨ x = (4 : Int32) ∨ x = (5 : Int32) ∨ x = (6 : Int32) ∨ x = (7 : Int32) ∨ x = (8 : Int32) ∨ x = (9 : Int32) ∨ x = (10 : Int32) ∨ x = (11 : Int32) ∨ x = (12 : Int32) ∨ x = (13 : Int32) ∨ x = (14 : Int32) ∨ x = (15 : Int32) ∨ x = (16 : Int32) ∨ x = (17 : Int32) ∨ x = (18 : Int32) ∨ x = (19 : Int32) ∨ x = (20 : Int32) ∨ x = (21 : Int32) ∨ x = (22 : Int32) ∨ x = (23 : Int32) ∨ x = (24 : Int32) ∨ x = (25 : Int32) ∨ x = (26 : Int32) ∨ x = (27 : Int32) ∨ x = (28 : Int32) ∨ x = (29 : Int32) ∨ x = (30 : Int32) ∨ x = (31 : Int32) ∨ x = (32 : Int32) ∨ x = (33 : Int32) ∨ x = (34 : Int32) ∨ x = (35 : Int32) ∨ x = (36 : Int32) ∨ x = (37 : Int32) ∨ x = (38 : Int32) := by
  have g1 : ¬ x.toInt < (0 : Int32).toInt := fun q => h1 (Int32.lt_iff_toInt_lt.mpr q)
  have g2 : ¬ (38 : Int32).toInt < x.toInt := fun q => h2 (Int32.lt_iff_toInt_lt.mpr q)
  rw [show (0 : Int32).toInt = 0 by decide] at g1
  rw [show (38 : Int32).toInt = 38 by decide] at g2
  have g : x.toInt = 0 ∨ x.toInt = 1 ∨ x.toInt = 2 ∨ x.toInt = 3 ∨ x.toInt = 4 ∨ x.toInt = 5 ∨ x.toInt = 6 ∨ x.toInt = 7 ∨ x.toInt = 8 ∨ x.toInt = 9 ∨ x.toInt = 10 ∨ x.toInt = 11 ∨ x.toInt = 12 ∨ x.toInt = 13 ∨ x.toInt = 14 ∨ x.toInt = 15 ∨ x.toInt = 16 ∨ x.toInt = 17 ∨ x.toInt = 18 ∨ x.toInt = 19 ∨ x.toInt = 20 ∨ x.toInt = 21 ∨ x.toInt = 22 ∨ x.toInt = 23 ∨ x.toInt = 24 ∨ x.toInt = 25 ∨ x.toInt = 26 ∨ x.toInt = 27 ∨ x.toInt = 28 ∨ x.toInt = 29 ∨ x.toInt = 30 ∨ x.toInt = 31 ∨ x.toInt = 32 ∨ x.toInt = 33 ∨ x.toInt = 34 ∨ x.toInt = 35 ∨ x.toInt = 36 ∨ x.toInt = 37 ∨ x.toInt = 38 := by omega
  rcases g with g | g | g | g | g | g | g | g | g | g | g | g | g | g | g | g | g | g | g | g | g | g | g | g | g | g | g | g | g | g | g | g | g | g | g | g | g | g | g
  · exact Or.inl (ts_eq (g.trans (by decide)))
  · exact Or.inr (Or.inl (ts_eq (g.trans (by decide))))
  · exact Or.inr (Or.inr (Or.inl (ts_eq (g.trans (by decide)))))
  · exact Or.inr (Or.inr (Or.inr (Or.inl (ts_eq (g.trans (by decide))))))
  · exact Or.inr (Or.inr (Or.inr (Or.inr (Or.inl (ts_eq (g.trans (by decide)))))))
  · exact Or.inr (Or.inr (Or.inr (Or.inr (Or.inr (Or.inl (ts_eq (g.trans (by decide))))))))
  · exact Or.inr (Or.inr (Or.inr (Or.inr (Or.inr (Or.inr (Or.inl (ts_eq (g.trans (by decide)))))))))
  · exact Or.inr (Or.inr (Or.inr (Or.inr (Or.inr (Or.inr (Or.inr (Or.inl (ts_eq (g.trans (by decide))))))))))
  · exact Or.inr (Or.inr (Or.inr (Or.inr (Or.inr (Or.inr (Or.inr (Or.inr (Or.inl (ts_eq (g.trans (by decide)))))))))))
  · exact Or.inr (Or.inr (Or.inr (Or.inr (Or.inr (Or.inr (Or.inr (Or.inr (Or.inr (Or.inl (ts_eq (g.trans (by decide))))))))))))
  · exact Or.inr (Or.inr (Or.inr (Or.inr (Or.inr (Or.inr (Or.inr (Or.inr (Or.inr (Or.inr (Or.inl (ts_eq (g.trans (by decide)))))))))))))
  · exact Or.inr (Or.inr (Or.inr (Or.inr (Or.inr (Or.inr (Or.inr (Or.inr (Or.inr (Or.inr (Or.inr (Or.inl (ts_eq (g.trans (by decide))))))))))))))
  · exact Or.inr (Or.inr (Or.inr (Or.inr (Or.inr (Or.inr (Or.inr (Or.inr (Or.inr (Or.inr (Or.inr (Or.inr (Or.inl (ts_eq (g.trans (by decide)))))))))))))))
  · exact Or.inr (Or.inr (Or.inr (Or.inr (Or.inr (Or.inr (Or.inr (Or.inr (Or.inr (Or.inr (Or.inr (Or.inr (Or.inr (Or.inl (ts_eq (g.trans (by decide))))))))))))))))
  · exact Or.inr (Or.inr (Or.inr (Or.inr (Or.inr (Or.inr (Or.inr (Or.inr (Or.inr (Or.inr (Or.inr (Or.inr (Or.inr (Or.inr (Or.inl (ts_eq (g.trans (by decide)))))))))))))))))
  · exact Or.inr (Or.inr (Or.inr (Or.inr (Or.inr (Or.inr (Or.inr (Or.inr (Or.inr (Or.inr (Or.inr (Or.inr (Or.inr (Or.inr (Or.inr (Or.inl (ts_eq (g.trans (by decide))))))))))))))))))
  · exact Or.inr (Or.inr (Or.inr (Or.inr (Or.inr (Or.inr (Or.inr (Or.inr (Or.inr (Or.inr (Or.inr (Or.inr (Or.inr (Or.inr (Or.inr (Or.inr (Or.inl (ts_eq (g.trans (by decide)))))))))))))))))))
  · exact Or.inr (Or.inr (Or.inr (Or.inr (Or.inr (Or.inr (Or.inr (Or.inr (Or.inr (Or.inr (Or.inr (Or.inr (Or.inr (Or.inr (Or.inr (Or.inr (Or.inr (Or.inl (ts_eq (g.trans (by decide))))))))))))))))))))
  · exact Or.inr (Or.inr (Or.inr (Or.inr (Or.inr (Or.inr (Or.inr (Or.inr (Or.inr (Or.inr (Or.inr (Or.inr (Or.inr (Or.inr (Or.inr (Or.inr (Or.inr (Or.inr (Or.inl (ts_eq (g.trans (by decide)))))))))))))))))))))
  · exact Or.inr (Or.inr (Or.inr (Or.inr (Or.inr (Or.inr (Or.inr (Or.inr (Or.inr (Or.inr (Or.inr (Or.inr (Or.inr (Or.inr (Or.inr (Or.inr (Or.inr (Or.inr (Or.inr (Or.inl (ts_eq (g.trans (by decide))))))))))))))))))))))
  · exact Or.inr (Or.inr (Or.inr (Or.inr (Or.inr (Or.inr (Or.inr (Or.inr (Or.inr (Or.inr (Or.inr (Or.inr (Or.inr (Or.inr (Or.inr (Or.inr (Or.inr (Or.inr (Or.inr (Or.inr (Or.inl (ts_eq (g.trans (by decide)))))))))))))))))))))))
  · exact Or.inr (Or.inr (Or.inr (Or.inr (Or.inr (Or.inr (Or.inr (Or.inr (Or.inr (Or.inr (Or.inr (Or.inr (Or.inr (Or.inr (Or.inr (Or.inr (Or.inr (Or.inr (Or.inr (Or.inr (Or.inr (Or.inl (ts_eq (g.trans (by decide))))))))))))))))))))))))
  · exact Or.inr (Or.inr (Or.inr (Or.inr (Or.inr (Or.inr (Or.inr (Or.inr (Or.inr (Or.inr (Or.inr (Or.inr (Or.inr (Or.inr (Or.inr (Or.inr (Or.inr (Or.inr (Or.inr (Or.inr (Or.inr (Or.inr (Or.inl (ts_eq (g.trans (by decide)))))))))))))))))))))))))
  · exact Or.inr (Or.inr (Or.inr (Or.inr (Or.inr (Or.inr (Or.inr (Or.inr (Or.inr (Or.inr (Or.inr (Or.inr (Or.inr (Or.inr (Or.inr (Or.inr (Or.inr (Or.inr (Or.inr (Or.inr (Or.inr (Or.inr (Or.inr (Or.inl (ts_eq (g.trans (by decide))))))))))))))))))))))))))
  · exact Or.inr (Or.inr (Or.inr (Or.inr (Or.inr (Or.inr (Or.inr (Or.inr (Or.inr (Or.inr (Or.inr (Or.inr (Or.inr (Or.inr (Or.inr (Or.inr (Or.inr (Or.inr (Or.inr (Or.inr (Or.inr (Or.inr (Or.inr (Or.inr (Or.inl (ts_eq (g.trans (by decide)))))))))))))))))))))))))))
  · exact Or.inr (Or.inr (Or.inr (Or.inr (Or.inr (Or.inr (Or.inr (Or.inr (Or.inr (Or.inr (Or.inr (Or.inr (Or.inr (Or.inr (Or.inr (Or.inr (Or.inr (Or.inr (Or.inr (Or.inr (Or.inr (Or.inr (Or.inr (Or.inr (Or.inr (Or.inl (ts_eq (g.trans (by decide))))))))))))))))))))))))))))
  · exact Or.inr (Or.inr (Or.inr (Or.inr (Or.inr (Or.inr (Or.inr (Or.inr (Or.inr (Or.inr (Or.inr (Or.inr (Or.inr (Or.inr (Or.inr (Or.inr (Or.inr (Or.inr (Or.inr (Or.inr (Or.inr (Or.inr (Or.inr (Or.inr (Or.inr (Or.inr (Or.inl (ts_eq (g.trans (by decide)))))))))))))))))))))))))))))
  · exact Or.inr (Or.inr (Or.inr (Or.inr (Or.inr (Or.inr (Or.inr (Or.inr (Or.inr (Or.inr (Or.inr (Or.inr (Or.inr (Or.inr (Or.inr (Or.inr (Or.inr (Or.inr (Or.inr (Or.inr (Or.inr (Or.inr (Or.inr (Or.inr (Or.inr (Or.inr (Or.inr (Or.inl (ts_eq (g.trans (by decide))))))))))))))))))))))))))))))
  · exact Or.inr (Or.inr (Or.inr (Or.inr (Or.inr (Or.inr (Or.inr (Or.inr (Or.inr (Or.inr (Or.inr (Or.inr (Or.inr (Or.inr (Or.inr (Or.inr (Or.inr (Or.inr (Or.inr (Or.inr (Or.inr (Or.inr (Or.inr (Or.inr (Or.inr (Or.inr (Or.inr (Or.inr (Or.inl (ts_eq (g.trans (by decide)))))))))))))))))))))))))))))))
  · exact Or.inr (Or.inr (Or.inr (Or.inr (Or.inr (Or.inr (Or.inr (Or.inr (Or.inr (Or.inr (Or.inr (Or.inr (Or.inr (Or.inr (Or.inr (Or.inr (Or.inr (Or.inr (Or.inr (Or.inr (Or.inr (Or.inr (Or.inr (Or.inr (Or.inr (Or.inr (Or.inr (Or.inr (Or.inr (Or.inl (ts_eq (g.trans (by decide))))))))))))))))))))))))))))))))
  · exact Or.inr (Or.inr (Or.inr (Or.inr (Or.inr (Or.inr (Or.inr (Or.inr (Or.inr (Or.inr (Or.inr (Or.inr (Or.inr (Or.inr (Or.inr (Or.inr (Or.inr (Or.inr (Or.inr (Or.inr (Or.inr (Or.inr (Or.inr (Or.inr (Or.inr (Or.inr (Or.inr (Or.inr (Or.inr (Or.inr (Or.inl (ts_eq (g.trans (by decide)))))))))))))))))))))))))))))))))
  · exact Or.inr (Or.inr (Or.inr (Or.inr (Or.inr (Or.inr (Or.inr (Or.inr (Or.inr (Or.inr (Or.inr (Or.inr (Or.inr (Or.inr (Or.inr (Or.inr (Or.inr (Or.inr (Or.inr (Or.inr (Or.inr (Or.inr (Or.inr (Or.inr (Or.inr (Or.inr (Or.inr (Or.inr (Or.inr (Or.inr (Or.inr (Or.inl (ts_eq (g.trans (by decide))))))))))))))))))))))))))))))))))
  · exact Or.inr (Or.inr (Or.inr (Or.inr (Or.inr (Or.inr (Or.inr (Or.inr (Or.inr (Or.inr (Or.inr (Or.inr (Or.inr (Or.inr (Or.inr (Or.inr (Or.inr (Or.inr (Or.inr (Or.inr (Or.inr (Or.inr (Or.inr (Or.inr (Or.inr (Or.inr (Or.inr (Or.inr (Or.inr (Or.inr (Or.inr (Or.inr (Or.inl (ts_eq (g.trans (by decide)))))))))))))))))))))))))))))))))))
  · exact Or.inr (Or.inr (Or.inr (Or.inr (Or.inr (Or.inr (Or.inr (Or.inr (Or.inr (Or.inr (Or.inr (Or.inr (Or.inr (Or.inr (Or.inr (Or.inr (Or.inr (Or.inr (Or.inr (Or.inr (Or.inr (Or.inr (Or.inr (Or.inr (Or.inr (Or.inr (Or.inr (Or.inr (Or.inr (Or.inr (Or.inr (Or.inr (Or.inr (Or.inl (ts_eq (g.trans (by decide))))))))))))))))))))))))))))))))))))
  · exact Or.inr (Or.inr (Or.inr (Or.inr (Or.inr (Or.inr (Or.inr (Or.inr (Or.inr (Or.inr (Or.inr (Or.inr (Or.inr (Or.inr (Or.inr (Or.inr (Or.inr (Or.inr (Or.inr (Or.inr (Or.inr (Or.inr (Or.inr (Or.inr (Or.inr (Or.inr (Or.inr (Or.inr (Or.inr (Or.inr (Or.inr (Or.inr (Or.inr (Or.inr (Or.inl (ts_eq (g.trans (by decide)))))))))))))))))))))))))))))))))))))
  · exact Or.inr (Or.inr (Or.inr (Or.inr (Or.inr (Or.inr (Or.inr (Or.inr (Or.inr (Or.inr (Or.inr (Or.inr (Or.inr (Or.inr (Or.inr (Or.inr (Or.inr (Or.inr (Or.inr (Or.inr (Or.inr (Or.inr (Or.inr (Or.inr (Or.inr (Or.inr (Or.inr (Or.inr (Or.inr (Or.inr (Or.inr (Or.inr (Or.inr (Or.inr (Or.inr (Or.inl (ts_eq (g.trans (by decide))))))))))))))))))))))))))))))))))))))
  · exact Or.inr (Or.inr (Or.inr (Or.inr (Or.inr (Or.inr (Or.inr (Or.inr (Or.inr (Or.inr (Or.inr (Or.inr (Or.inr (Or.inr (Or.inr (Or.inr (Or.inr (Or.inr (Or.inr (Or.inr (Or.inr (Or.inr (Or.inr (Or.inr (Or.inr (Or.inr (Or.inr (Or.inr (Or.inr (Or.inr (Or.inr (Or.inr (Or.inr (Or.inr (Or.inr (Or.inr (Or.inl (ts_eq (g.trans (by decide)))))))))))))))))))))))))))))))))))))))
  · exact Or.inr (Or.inr (Or.inr (Or.inr (Or.inr (Or.inr (Or.inr (Or.inr (Or.inr (Or.inr (Or.inr (Or.inr (Or.inr (Or.inr (Or.inr (Or.inr (Or.inr (Or.inr (Or.inr (Or.inr (Or.inr (Or.inr (Or.inr (Or.inr (Or.inr (Or.inr (Or.inr (Or.inr (Or.inr (Or.inr (Or.inr (Or.inr (Or.inr (Or.inr (Or.inr (Or.inr (Or.inr (Or.inl (ts_eq (g.trans (by decide))))))))))))))))))))))))))))))))))))))))
  · exact Or.inr (Or.inr (Or.inr (Or.inr (Or.inr (Or.inr (Or.inr (Or.inr (Or.inr (Or.inr (Or.inr (Or.inr (Or.inr (Or.inr (Or.inr (Or.inr (Or.inr (Or.inr (Or.inr (Or.inr (Or.inr (Or.inr (Or.inr (Or.inr (Or.inr (Or.inr (Or.inr (Or.inr (Or.inr (Or.inr (Or.inr (Or.inr (Or.inr (Or.inr (Or.inr (Or.inr (Or.inr (Or.inr (ts_eq (g.trans (by decide))))))))))))))))))))))))))))))))))))))))
theorem ml_RL_13 : ML RL 13 yX9_good := gw2 90 rfl rfl
theorem ml_RL_17 : ML RL 17 yX10_good := gw5 24 rfl rfl
theorem ml_RL_18 : ML RL 18 yX9_ofGood := gw2 116 rfl rfl
theorem ml_RL_21 : ML RL 21 yX10_ofGood := gw5 42 rfl rfl
theorem ml_RL_22 : ML RL 22 yX9_become := gw2 191 rfl rfl
theorem ml_RL_25 : ML RL 25 yX10_become := gw5 96 rfl rfl
theorem ml_RL_26 : ML RL 26 yX9_as := gw2 195 rfl rfl
theorem ml_RL_29 : ML RL 29 yX10_as := gw5 100 rfl rfl
theorem ml_RL_30 : ML RL 30 yX9_place := gw2 204 rfl rfl
theorem ml_RL_33 : ML RL 33 yX10_place := gw5 108 rfl rfl
theorem ml_RL_34 : ML RL 34 yX9_push := gw2 208 rfl rfl
theorem ml_RL_37 : ML RL 37 yX10_push := gw5 112 rfl rfl
theorem ml_RL_38 : ML RL 38 yX9_off := gw2 219 rfl rfl
theorem ml_RL_42 : ML RL 42 yX10_off := gw5 125 rfl rfl
theorem ml_RL_43 : ML RL 43 yX9_set := gw2 223 rfl rfl
theorem ml_RL_46 : ML RL 46 yX10_set := gw5 129 rfl rfl
theorem ml_RL_47 : ML RL 47 yX9_door := gw2 227 rfl rfl
theorem ml_RL_50 : ML RL 50 yX10_door := gw5 135 rfl rfl
theorem ml_RL_51 : ML RL 51 yX9_lineUp := gw3 5 rfl rfl
theorem ml_RL_54 : ML RL 54 yX10_lineUp := gw5 150 rfl rfl
theorem ml_RL_57 : ML RL 57 yX9_feed := gw3 9 rfl rfl
theorem ml_RL_61 : ML RL 61 yX10_feed := gw5 154 rfl rfl
theorem ml_RL_62 : ML RL 62 yX9_text := gw3 13 rfl rfl
theorem ml_RL_66 : ML RL 66 yX10_text := gw5 160 rfl rfl
theorem ml_RL_67 : ML RL 67 yX9_law := gw3 152 rfl rfl
theorem ml_RL_71 : ML RL 71 yX10_law := gw5 206 rfl rfl
theorem ml_RL_72 : ML RL 72 yX9_steps := gw3 157 rfl rfl
theorem ml_RL_75 : ML RL 75 yX10_steps := gw5 210 rfl rfl
theorem ml_RL_76 : ML RL 76 yX9_loose := gw3 176 rfl rfl
theorem ml_RL_79 : ML RL 79 yX10_loose := gw5 238 rfl rfl
theorem ml_RL_80 : ML RL 80 yX9_then := gw3 190 rfl rfl
theorem ml_RL_83 : ML RL 83 yX10_then := gw6 2 rfl rfl
theorem ml_RL_84 : ML RL 84 yX9_rests := gw3 199 rfl rfl
theorem ml_RL_87 : ML RL 87 yX10_rests := gw6 14 rfl rfl
theorem ml_RL_88 : ML RL 88 yX9_first := gw3 207 rfl rfl
theorem ml_RL_92 : ML RL 92 yX10_first := gw6 22 rfl rfl
theorem ml_RL_93 : ML RL 93 yX9_over := gw3 214 rfl rfl
theorem ml_RL_96 : ML RL 96 yX10_over := gw6 27 rfl rfl
theorem ml_RL_97 : ML RL 97 yX9_soonest := gw3 223 rfl rfl
theorem ml_RL_100 : ML RL 100 yX10_soonest := gw6 35 rfl rfl
theorem ml_RL_101 : ML RL 101 yX9_least := gw3 230 rfl rfl
theorem ml_RL_104 : ML RL 104 yX10_least := gw6 42 rfl rfl
theorem ml_RL_105 : ML RL 105 yX9_lifts := gw3 234 rfl rfl
theorem ml_RL_108 : ML RL 108 yX10_lifts := gw6 46 rfl rfl
theorem ml_RL_109 : ML RL 109 yX9_rolled := gw4 24 rfl rfl
theorem ml_RL_112 : ML RL 112 yX10_rolled := gw6 62 rfl rfl
theorem ml_RL_113 : ML RL 113 yX9_whose := gw4 43 rfl rfl
theorem ml_RL_116 : ML RL 116 yX10_whose := gw6 74 rfl rfl
theorem ml_RL_117 : ML RL 117 yX9_odds := gw4 51 rfl rfl
theorem ml_RL_120 : ML RL 120 yX10_odds := gw6 78 rfl rfl
theorem ml_RL_121 : ML RL 121 yX9_seed := gw4 63 rfl rfl
theorem ml_RL_124 : ML RL 124 yX10_seed := gw6 87 rfl rfl
theorem ml_RL_125 : ML RL 125 yX9_voice := gw4 67 rfl rfl
theorem ml_RL_128 : ML RL 128 yX10_voice := gw6 91 rfl rfl
theorem ml_RL_129 : ML RL 129 yX9_trace := gw4 93 rfl rfl
theorem ml_RL_132 : ML RL 132 yX10_trace := gw6 118 rfl rfl
theorem ml_RL_133 : ML RL 133 yX9_sheet := gw4 97 rfl rfl
theorem ml_RL_136 : ML RL 136 yX10_sheet := gw6 122 rfl rfl
theorem ml_RL_137 : ML RL 137 yX9_put := gw4 106 rfl rfl
theorem ml_RL_140 : ML RL 140 yX10_put := gw6 126 rfl rfl
theorem ml_RL_141 : ML RL 141 yX9_move := gw4 114 rfl rfl
theorem ml_RL_145 : ML RL 145 yX10_move := gw6 134 rfl rfl
theorem ml_RL_146 : ML RL 146 yX9_pushes := gw4 123 rfl rfl
theorem ml_RL_149 : ML RL 149 yX10_pushes := gw6 138 rfl rfl
theorem ml_RL_150 : ML RL 150 yX9_judge := gw4 127 rfl rfl
theorem ml_RL_153 : ML RL 153 yX10_judge := gw6 142 rfl rfl
theorem ml_RL_154 : ML RL 154 yX9_image := gw4 131 rfl rfl
theorem ml_RL_157 : ML RL 157 yX10_image := gw6 146 rfl rfl
theorem ml_RL_158 : ML RL 158 yX9_restore := gw4 141 rfl rfl
theorem ml_RL_161 : ML RL 161 yX10_restore := gw6 153 rfl rfl
theorem ml_RL_162 : ML RL 162 yX9_tell := gw4 145 rfl rfl
theorem ml_RL_165 : ML RL 165 yX10_tell := gw6 157 rfl rfl
theorem ml_RL_166 : ML RL 166 yX9_check := gw4 149 rfl rfl
theorem ml_RL_169 : ML RL 169 yX10_check := gw6 161 rfl rfl
theorem ml_RL_170 : ML RL 170 yX9_count := gw4 157 rfl rfl
theorem ml_RL_173 : ML RL 173 yX10_count := gw6 169 rfl rfl
theorem ml_RL_174 : ML RL 174 yX9_told := gw4 166 rfl rfl
theorem ml_RL_177 : ML RL 177 yX10_told := gw6 177 rfl rfl
theorem mV_X9_as : MV yX9_as cX9_as 3 (some .int) 2 := ⟨⟨gw2 198 rfl rfl, gw1 1 rfl rfl, ⟨by decide +kernel, by decide +kernel⟩, by decide +kernel, by decide⟩, gw2 196 rfl rfl, gw2 197 rfl rfl⟩
theorem mV_X9_become : MV yX9_become cX9_become 4 (some .int) 2 := ⟨⟨gw2 194 rfl rfl, gw1 1 rfl rfl, ⟨by decide +kernel, by decide +kernel⟩, by decide +kernel, by decide⟩, gw2 192 rfl rfl, gw2 193 rfl rfl⟩
theorem mV_X9_check : MV yX9_check cX9_check 3 (some .int) 0 := ⟨⟨gw4 152 rfl rfl, gw1 1 rfl rfl, ⟨by decide +kernel, by decide +kernel⟩, by decide +kernel, by decide⟩, gw4 150 rfl rfl, gw4 151 rfl rfl⟩
theorem mV_X9_count : MV yX9_count cX9_count 2 (some .int) 1 := ⟨⟨gw4 160 rfl rfl, gw1 1 rfl rfl, ⟨by decide +kernel, by decide +kernel⟩, by decide +kernel, by decide⟩, gw4 158 rfl rfl, gw4 159 rfl rfl⟩
theorem mV_X9_door : MV yX9_door cX9_door 3 (some .int) 2 := ⟨⟨gw2 230 rfl rfl, gw1 1 rfl rfl, ⟨by decide +kernel, by decide +kernel⟩, by decide +kernel, by decide⟩, gw2 228 rfl rfl, gw2 229 rfl rfl⟩
theorem mV_X9_feed : MV yX9_feed cX9_feed 5 (some .int) 2 := ⟨⟨gw3 12 rfl rfl, gw1 1 rfl rfl, ⟨by decide +kernel, by decide +kernel⟩, by decide +kernel, by decide⟩, gw3 10 rfl rfl, gw3 11 rfl rfl⟩
theorem mV_X9_first : MV yX9_first cX9_first 5 (some .int) 0 := ⟨⟨gw3 210 rfl rfl, gw1 1 rfl rfl, ⟨by decide +kernel, by decide +kernel⟩, by decide +kernel, by decide⟩, gw3 208 rfl rfl, gw3 209 rfl rfl⟩
theorem mV_X9_good : MV yX9_good cX9_good 4 (some .int) 2 := ⟨⟨gw2 93 rfl rfl, gw1 1 rfl rfl, ⟨by decide +kernel, by decide +kernel⟩, by decide +kernel, by decide⟩, gw2 91 rfl rfl, gw2 92 rfl rfl⟩
theorem mV_X9_image : MV yX9_image cX9_image 1 (some .int) 0 := ⟨⟨gw4 134 rfl rfl, gw1 1 rfl rfl, ⟨by decide +kernel, by decide +kernel⟩, by decide +kernel, by decide⟩, gw4 132 rfl rfl, gw4 133 rfl rfl⟩
theorem mV_X9_judge : MV yX9_judge cX9_judge 5 (some .int) 1 := ⟨⟨gw4 130 rfl rfl, gw1 1 rfl rfl, ⟨by decide +kernel, by decide +kernel⟩, by decide +kernel, by decide⟩, gw4 128 rfl rfl, gw4 129 rfl rfl⟩
theorem mV_X9_law : MV yX9_law cX9_law 5 (some .int) 4 := ⟨⟨gw3 155 rfl rfl, gw1 1 rfl rfl, ⟨by decide +kernel, by decide +kernel⟩, by decide +kernel, by decide⟩, gw3 153 rfl rfl, gw3 154 rfl rfl⟩
theorem mV_X9_least : MV yX9_least cX9_least 4 (some .int) 2 := ⟨⟨gw3 233 rfl rfl, gw1 1 rfl rfl, ⟨by decide +kernel, by decide +kernel⟩, by decide +kernel, by decide⟩, gw3 231 rfl rfl, gw3 232 rfl rfl⟩
theorem mV_X9_lifts : MV yX9_lifts cX9_lifts 2 (some .int) 1 := ⟨⟨gw3 237 rfl rfl, gw1 1 rfl rfl, ⟨by decide +kernel, by decide +kernel⟩, by decide +kernel, by decide⟩, gw3 235 rfl rfl, gw3 236 rfl rfl⟩
theorem mV_X9_lineUp : MV yX9_lineUp cX9_lineUp 5 (some .int) 2 := ⟨⟨gw3 8 rfl rfl, gw1 1 rfl rfl, ⟨by decide +kernel, by decide +kernel⟩, by decide +kernel, by decide⟩, gw3 6 rfl rfl, gw3 7 rfl rfl⟩
theorem mV_X9_loose : MV yX9_loose cX9_loose 3 (some .int) 1 := ⟨⟨gw3 179 rfl rfl, gw1 1 rfl rfl, ⟨by decide +kernel, by decide +kernel⟩, by decide +kernel, by decide⟩, gw3 177 rfl rfl, gw3 178 rfl rfl⟩
theorem mV_X9_move : MV yX9_move cX9_move 8 (some .int) 5 := ⟨⟨gw4 117 rfl rfl, gw1 1 rfl rfl, ⟨by decide +kernel, by decide +kernel⟩, by decide +kernel, by decide⟩, gw4 115 rfl rfl, gw4 116 rfl rfl⟩
theorem mV_X9_odds : MV yX9_odds cX9_odds 8 (some .int) 4 := ⟨⟨gw4 54 rfl rfl, gw1 1 rfl rfl, ⟨by decide +kernel, by decide +kernel⟩, by decide +kernel, by decide⟩, gw4 52 rfl rfl, gw4 53 rfl rfl⟩
theorem mV_X9_ofGood : MV yX9_ofGood cX9_ofGood 4 (some .int) 2 := ⟨⟨gw2 119 rfl rfl, gw1 1 rfl rfl, ⟨by decide +kernel, by decide +kernel⟩, by decide +kernel, by decide⟩, gw2 117 rfl rfl, gw2 118 rfl rfl⟩
theorem mV_X9_off : MV yX9_off cX9_off 6 (some .int) 3 := ⟨⟨gw2 222 rfl rfl, gw1 1 rfl rfl, ⟨by decide +kernel, by decide +kernel⟩, by decide +kernel, by decide⟩, gw2 220 rfl rfl, gw2 221 rfl rfl⟩
theorem mV_X9_over : MV yX9_over cX9_over 5 (some .int) 3 := ⟨⟨gw3 217 rfl rfl, gw1 1 rfl rfl, ⟨by decide +kernel, by decide +kernel⟩, by decide +kernel, by decide⟩, gw3 215 rfl rfl, gw3 216 rfl rfl⟩
theorem mV_X9_place : MV yX9_place cX9_place 4 (some .int) 2 := ⟨⟨gw2 207 rfl rfl, gw1 1 rfl rfl, ⟨by decide +kernel, by decide +kernel⟩, by decide +kernel, by decide⟩, gw2 205 rfl rfl, gw2 206 rfl rfl⟩
theorem mV_X9_push : MV yX9_push cX9_push 3 (some .int) 2 := ⟨⟨gw2 211 rfl rfl, gw1 1 rfl rfl, ⟨by decide +kernel, by decide +kernel⟩, by decide +kernel, by decide⟩, gw2 209 rfl rfl, gw2 210 rfl rfl⟩
theorem mV_X9_pushes : MV yX9_pushes cX9_pushes 5 (some .int) 1 := ⟨⟨gw4 126 rfl rfl, gw1 1 rfl rfl, ⟨by decide +kernel, by decide +kernel⟩, by decide +kernel, by decide⟩, gw4 124 rfl rfl, gw4 125 rfl rfl⟩
theorem mV_X9_put : MV yX9_put cX9_put 5 (some .int) 3 := ⟨⟨gw4 109 rfl rfl, gw1 1 rfl rfl, ⟨by decide +kernel, by decide +kernel⟩, by decide +kernel, by decide⟩, gw4 107 rfl rfl, gw4 108 rfl rfl⟩
theorem mV_X9_restore : MV yX9_restore cX9_restore 1 (some .int) 0 := ⟨⟨gw4 144 rfl rfl, gw1 1 rfl rfl, ⟨by decide +kernel, by decide +kernel⟩, by decide +kernel, by decide⟩, gw4 142 rfl rfl, gw4 143 rfl rfl⟩
theorem mV_X9_rests : MV yX9_rests cX9_rests 4 (some .int) 2 := ⟨⟨gw3 202 rfl rfl, gw1 1 rfl rfl, ⟨by decide +kernel, by decide +kernel⟩, by decide +kernel, by decide⟩, gw3 200 rfl rfl, gw3 201 rfl rfl⟩
theorem mV_X9_rolled : MV yX9_rolled cX9_rolled 7 (some .int) 3 := ⟨⟨gw4 27 rfl rfl, gw1 1 rfl rfl, ⟨by decide +kernel, by decide +kernel⟩, by decide +kernel, by decide⟩, gw4 25 rfl rfl, gw4 26 rfl rfl⟩
theorem mV_X9_seed : MV yX9_seed cX9_seed 3 (some .int) 1 := ⟨⟨gw4 66 rfl rfl, gw1 1 rfl rfl, ⟨by decide +kernel, by decide +kernel⟩, by decide +kernel, by decide⟩, gw4 64 rfl rfl, gw4 65 rfl rfl⟩
theorem mV_X9_set : MV yX9_set cX9_set 4 (some .int) 2 := ⟨⟨gw2 226 rfl rfl, gw1 1 rfl rfl, ⟨by decide +kernel, by decide +kernel⟩, by decide +kernel, by decide⟩, gw2 224 rfl rfl, gw2 225 rfl rfl⟩
theorem mV_X9_sheet : MV yX9_sheet cX9_sheet 4 (some .int) 3 := ⟨⟨gw4 100 rfl rfl, gw1 1 rfl rfl, ⟨by decide +kernel, by decide +kernel⟩, by decide +kernel, by decide⟩, gw4 98 rfl rfl, gw4 99 rfl rfl⟩
theorem mV_X9_soonest : MV yX9_soonest cX9_soonest 8 (some .int) 3 := ⟨⟨gw3 226 rfl rfl, gw1 1 rfl rfl, ⟨by decide +kernel, by decide +kernel⟩, by decide +kernel, by decide⟩, gw3 224 rfl rfl, gw3 225 rfl rfl⟩
theorem mV_X9_steps : MV yX9_steps cX9_steps 3 (some .int) 1 := ⟨⟨gw3 160 rfl rfl, gw1 1 rfl rfl, ⟨by decide +kernel, by decide +kernel⟩, by decide +kernel, by decide⟩, gw3 158 rfl rfl, gw3 159 rfl rfl⟩
theorem mV_X9_tell : MV yX9_tell cX9_tell 2 (some .int) 1 := ⟨⟨gw4 148 rfl rfl, gw1 1 rfl rfl, ⟨by decide +kernel, by decide +kernel⟩, by decide +kernel, by decide⟩, gw4 146 rfl rfl, gw4 147 rfl rfl⟩
theorem mV_X9_text : MV yX9_text cX9_text 3 (some .int) 1 := ⟨⟨gw3 16 rfl rfl, gw1 1 rfl rfl, ⟨by decide +kernel, by decide +kernel⟩, by decide +kernel, by decide⟩, gw3 14 rfl rfl, gw3 15 rfl rfl⟩
theorem mV_X9_then : MV yX9_then cX9_then 5 (some .int) 3 := ⟨⟨gw3 193 rfl rfl, gw1 1 rfl rfl, ⟨by decide +kernel, by decide +kernel⟩, by decide +kernel, by decide⟩, gw3 191 rfl rfl, gw3 192 rfl rfl⟩
theorem mV_X9_told : MV yX9_told cX9_told 2 (some .int) 1 := ⟨⟨gw4 169 rfl rfl, gw1 1 rfl rfl, ⟨by decide +kernel, by decide +kernel⟩, by decide +kernel, by decide⟩, gw4 167 rfl rfl, gw4 168 rfl rfl⟩
theorem mV_X9_trace : MV yX9_trace cX9_trace 2 (some .int) 1 := ⟨⟨gw4 96 rfl rfl, gw1 1 rfl rfl, ⟨by decide +kernel, by decide +kernel⟩, by decide +kernel, by decide⟩, gw4 94 rfl rfl, gw4 95 rfl rfl⟩
theorem mV_X9_voice : MV yX9_voice cX9_voice 4 (some .int) 3 := ⟨⟨gw4 70 rfl rfl, gw1 1 rfl rfl, ⟨by decide +kernel, by decide +kernel⟩, by decide +kernel, by decide⟩, gw4 68 rfl rfl, gw4 69 rfl rfl⟩
theorem mV_X9_whose : MV yX9_whose cX9_whose 4 (some .int) 2 := ⟨⟨gw4 46 rfl rfl, gw1 1 rfl rfl, ⟨by decide +kernel, by decide +kernel⟩, by decide +kernel, by decide⟩, gw4 44 rfl rfl, gw4 45 rfl rfl⟩
theorem mV_X10_as : MV yX10_as cX10_as 3 (some .int) 2 := ⟨⟨gw5 103 rfl rfl, gw1 12 rfl rfl, ⟨by decide +kernel, by decide +kernel⟩, by decide +kernel, by decide⟩, gw5 101 rfl rfl, gw5 102 rfl rfl⟩
theorem mV_X10_become : MV yX10_become cX10_become 4 (some .int) 2 := ⟨⟨gw5 99 rfl rfl, gw1 12 rfl rfl, ⟨by decide +kernel, by decide +kernel⟩, by decide +kernel, by decide⟩, gw5 97 rfl rfl, gw5 98 rfl rfl⟩
theorem mV_X10_check : MV yX10_check cX10_check 3 (some .int) 0 := ⟨⟨gw6 164 rfl rfl, gw1 12 rfl rfl, ⟨by decide +kernel, by decide +kernel⟩, by decide +kernel, by decide⟩, gw6 162 rfl rfl, gw6 163 rfl rfl⟩
theorem mV_X10_count : MV yX10_count cX10_count 2 (some .int) 1 := ⟨⟨gw6 172 rfl rfl, gw1 12 rfl rfl, ⟨by decide +kernel, by decide +kernel⟩, by decide +kernel, by decide⟩, gw6 170 rfl rfl, gw6 171 rfl rfl⟩
theorem mV_X10_door : MV yX10_door cX10_door 3 (some .int) 2 := ⟨⟨gw5 138 rfl rfl, gw1 12 rfl rfl, ⟨by decide +kernel, by decide +kernel⟩, by decide +kernel, by decide⟩, gw5 136 rfl rfl, gw5 137 rfl rfl⟩
theorem mV_X10_feed : MV yX10_feed cX10_feed 5 (some .int) 2 := ⟨⟨gw5 157 rfl rfl, gw1 12 rfl rfl, ⟨by decide +kernel, by decide +kernel⟩, by decide +kernel, by decide⟩, gw5 155 rfl rfl, gw5 156 rfl rfl⟩
theorem mV_X10_first : MV yX10_first cX10_first 5 (some .int) 0 := ⟨⟨gw6 25 rfl rfl, gw1 12 rfl rfl, ⟨by decide +kernel, by decide +kernel⟩, by decide +kernel, by decide⟩, gw6 23 rfl rfl, gw6 24 rfl rfl⟩
theorem mV_X10_good : MV yX10_good cX10_good 4 (some .int) 2 := ⟨⟨gw5 27 rfl rfl, gw1 12 rfl rfl, ⟨by decide +kernel, by decide +kernel⟩, by decide +kernel, by decide⟩, gw5 25 rfl rfl, gw5 26 rfl rfl⟩
theorem mV_X10_image : MV yX10_image cX10_image 1 (some .int) 0 := ⟨⟨gw6 149 rfl rfl, gw1 12 rfl rfl, ⟨by decide +kernel, by decide +kernel⟩, by decide +kernel, by decide⟩, gw6 147 rfl rfl, gw6 148 rfl rfl⟩
theorem mV_X10_judge : MV yX10_judge cX10_judge 4 (some .int) 1 := ⟨⟨gw6 145 rfl rfl, gw1 12 rfl rfl, ⟨by decide +kernel, by decide +kernel⟩, by decide +kernel, by decide⟩, gw6 143 rfl rfl, gw6 144 rfl rfl⟩
theorem mV_X10_law : MV yX10_law cX10_law 5 (some .int) 4 := ⟨⟨gw5 209 rfl rfl, gw1 12 rfl rfl, ⟨by decide +kernel, by decide +kernel⟩, by decide +kernel, by decide⟩, gw5 207 rfl rfl, gw5 208 rfl rfl⟩
theorem mV_X10_least : MV yX10_least cX10_least 4 (some .int) 2 := ⟨⟨gw6 45 rfl rfl, gw1 12 rfl rfl, ⟨by decide +kernel, by decide +kernel⟩, by decide +kernel, by decide⟩, gw6 43 rfl rfl, gw6 44 rfl rfl⟩
theorem mV_X10_lifts : MV yX10_lifts cX10_lifts 2 (some .int) 1 := ⟨⟨gw6 49 rfl rfl, gw1 12 rfl rfl, ⟨by decide +kernel, by decide +kernel⟩, by decide +kernel, by decide⟩, gw6 47 rfl rfl, gw6 48 rfl rfl⟩
theorem mV_X10_lineUp : MV yX10_lineUp cX10_lineUp 4 (some .int) 2 := ⟨⟨gw5 153 rfl rfl, gw1 12 rfl rfl, ⟨by decide +kernel, by decide +kernel⟩, by decide +kernel, by decide⟩, gw5 151 rfl rfl, gw5 152 rfl rfl⟩
theorem mV_X10_loose : MV yX10_loose cX10_loose 2 (some .int) 1 := ⟨⟨gw6 1 rfl rfl, gw1 12 rfl rfl, ⟨by decide +kernel, by decide +kernel⟩, by decide +kernel, by decide⟩, gw5 239 rfl rfl, gw6 0 rfl rfl⟩
theorem mV_X10_move : MV yX10_move cX10_move 7 (some .int) 5 := ⟨⟨gw6 137 rfl rfl, gw1 12 rfl rfl, ⟨by decide +kernel, by decide +kernel⟩, by decide +kernel, by decide⟩, gw6 135 rfl rfl, gw6 136 rfl rfl⟩
theorem mV_X10_odds : MV yX10_odds cX10_odds 7 (some .int) 4 := ⟨⟨gw6 81 rfl rfl, gw1 12 rfl rfl, ⟨by decide +kernel, by decide +kernel⟩, by decide +kernel, by decide⟩, gw6 79 rfl rfl, gw6 80 rfl rfl⟩
theorem mV_X10_ofGood : MV yX10_ofGood cX10_ofGood 3 (some .int) 2 := ⟨⟨gw5 45 rfl rfl, gw1 12 rfl rfl, ⟨by decide +kernel, by decide +kernel⟩, by decide +kernel, by decide⟩, gw5 43 rfl rfl, gw5 44 rfl rfl⟩
theorem mV_X10_off : MV yX10_off cX10_off 4 (some .int) 3 := ⟨⟨gw5 128 rfl rfl, gw1 12 rfl rfl, ⟨by decide +kernel, by decide +kernel⟩, by decide +kernel, by decide⟩, gw5 126 rfl rfl, gw5 127 rfl rfl⟩
theorem mV_X10_over : MV yX10_over cX10_over 5 (some .int) 3 := ⟨⟨gw6 30 rfl rfl, gw1 12 rfl rfl, ⟨by decide +kernel, by decide +kernel⟩, by decide +kernel, by decide⟩, gw6 28 rfl rfl, gw6 29 rfl rfl⟩
theorem mV_X10_place : MV yX10_place cX10_place 4 (some .int) 2 := ⟨⟨gw5 111 rfl rfl, gw1 12 rfl rfl, ⟨by decide +kernel, by decide +kernel⟩, by decide +kernel, by decide⟩, gw5 109 rfl rfl, gw5 110 rfl rfl⟩
theorem mV_X10_push : MV yX10_push cX10_push 3 (some .int) 2 := ⟨⟨gw5 115 rfl rfl, gw1 12 rfl rfl, ⟨by decide +kernel, by decide +kernel⟩, by decide +kernel, by decide⟩, gw5 113 rfl rfl, gw5 114 rfl rfl⟩
theorem mV_X10_pushes : MV yX10_pushes cX10_pushes 4 (some .int) 1 := ⟨⟨gw6 141 rfl rfl, gw1 12 rfl rfl, ⟨by decide +kernel, by decide +kernel⟩, by decide +kernel, by decide⟩, gw6 139 rfl rfl, gw6 140 rfl rfl⟩
theorem mV_X10_put : MV yX10_put cX10_put 5 (some .int) 3 := ⟨⟨gw6 129 rfl rfl, gw1 12 rfl rfl, ⟨by decide +kernel, by decide +kernel⟩, by decide +kernel, by decide⟩, gw6 127 rfl rfl, gw6 128 rfl rfl⟩
theorem mV_X10_restore : MV yX10_restore cX10_restore 1 (some .int) 0 := ⟨⟨gw6 156 rfl rfl, gw1 12 rfl rfl, ⟨by decide +kernel, by decide +kernel⟩, by decide +kernel, by decide⟩, gw6 154 rfl rfl, gw6 155 rfl rfl⟩
theorem mV_X10_rests : MV yX10_rests cX10_rests 4 (some .int) 2 := ⟨⟨gw6 17 rfl rfl, gw1 12 rfl rfl, ⟨by decide +kernel, by decide +kernel⟩, by decide +kernel, by decide⟩, gw6 15 rfl rfl, gw6 16 rfl rfl⟩
theorem mV_X10_rolled : MV yX10_rolled cX10_rolled 8 (some .int) 3 := ⟨⟨gw6 65 rfl rfl, gw1 12 rfl rfl, ⟨by decide +kernel, by decide +kernel⟩, by decide +kernel, by decide⟩, gw6 63 rfl rfl, gw6 64 rfl rfl⟩
theorem mV_X10_seed : MV yX10_seed cX10_seed 3 (some .int) 1 := ⟨⟨gw6 90 rfl rfl, gw1 12 rfl rfl, ⟨by decide +kernel, by decide +kernel⟩, by decide +kernel, by decide⟩, gw6 88 rfl rfl, gw6 89 rfl rfl⟩
theorem mV_X10_set : MV yX10_set cX10_set 4 (some .int) 2 := ⟨⟨gw5 132 rfl rfl, gw1 12 rfl rfl, ⟨by decide +kernel, by decide +kernel⟩, by decide +kernel, by decide⟩, gw5 130 rfl rfl, gw5 131 rfl rfl⟩
theorem mV_X10_sheet : MV yX10_sheet cX10_sheet 5 (some .int) 3 := ⟨⟨gw6 125 rfl rfl, gw1 12 rfl rfl, ⟨by decide +kernel, by decide +kernel⟩, by decide +kernel, by decide⟩, gw6 123 rfl rfl, gw6 124 rfl rfl⟩
theorem mV_X10_soonest : MV yX10_soonest cX10_soonest 8 (some .int) 3 := ⟨⟨gw6 38 rfl rfl, gw1 12 rfl rfl, ⟨by decide +kernel, by decide +kernel⟩, by decide +kernel, by decide⟩, gw6 36 rfl rfl, gw6 37 rfl rfl⟩
theorem mV_X10_steps : MV yX10_steps cX10_steps 2 (some .int) 1 := ⟨⟨gw5 213 rfl rfl, gw1 12 rfl rfl, ⟨by decide +kernel, by decide +kernel⟩, by decide +kernel, by decide⟩, gw5 211 rfl rfl, gw5 212 rfl rfl⟩
theorem mV_X10_tell : MV yX10_tell cX10_tell 2 (some .int) 1 := ⟨⟨gw6 160 rfl rfl, gw1 12 rfl rfl, ⟨by decide +kernel, by decide +kernel⟩, by decide +kernel, by decide⟩, gw6 158 rfl rfl, gw6 159 rfl rfl⟩
theorem mV_X10_text : MV yX10_text cX10_text 5 (some .int) 1 := ⟨⟨gw5 163 rfl rfl, gw1 12 rfl rfl, ⟨by decide +kernel, by decide +kernel⟩, by decide +kernel, by decide⟩, gw5 161 rfl rfl, gw5 162 rfl rfl⟩
theorem mV_X10_then : MV yX10_then cX10_then 5 (some .int) 3 := ⟨⟨gw6 5 rfl rfl, gw1 12 rfl rfl, ⟨by decide +kernel, by decide +kernel⟩, by decide +kernel, by decide⟩, gw6 3 rfl rfl, gw6 4 rfl rfl⟩
theorem mV_X10_told : MV yX10_told cX10_told 2 (some .int) 1 := ⟨⟨gw6 180 rfl rfl, gw1 12 rfl rfl, ⟨by decide +kernel, by decide +kernel⟩, by decide +kernel, by decide⟩, gw6 178 rfl rfl, gw6 179 rfl rfl⟩
theorem mV_X10_trace : MV yX10_trace cX10_trace 2 (some .int) 1 := ⟨⟨gw6 121 rfl rfl, gw1 12 rfl rfl, ⟨by decide +kernel, by decide +kernel⟩, by decide +kernel, by decide⟩, gw6 119 rfl rfl, gw6 120 rfl rfl⟩
theorem mV_X10_voice : MV yX10_voice cX10_voice 4 (some .int) 3 := ⟨⟨gw6 94 rfl rfl, gw1 12 rfl rfl, ⟨by decide +kernel, by decide +kernel⟩, by decide +kernel, by decide⟩, gw6 92 rfl rfl, gw6 93 rfl rfl⟩
theorem mV_X10_whose : MV yX10_whose cX10_whose 6 (some .int) 2 := ⟨⟨gw6 77 rfl rfl, gw1 12 rfl rfl, ⟨by decide +kernel, by decide +kernel⟩, by decide +kernel, by decide⟩, gw6 75 rfl rfl, gw6 76 rfl rfl⟩
theorem wcl_RL_55 : Cond.constantLong RL 55 (4294967295 : Int64) ∈ lw_g := gw6 181 rfl rfl
theorem law_entry {sx : SXT} {rf : RFt} {mem : MMt} {Q : Option Value → RFt → MMt → Prop} (k : ∀ (rf' : RFt) (mem' : MMt), (∀ a j, a < NX → rf' a j = RF a j ∧ mem' a j = M0 a j) → G sx yL_law cL_law 4 (some .boolean) 91 0 NX Q NX rf' mem' 16 [some (.ref 1008), some (.ref 0), some (.ref 76), none] []) : G sx yL_law cL_law 4 (some .boolean) 91 0 NX Q 0 rf mem 0 [some (.ref 1008), none, none, none] [] := by
  refine G_new (nx := 0) pL_law_0 cn_RL_7 shk_0 ⟨by decide, by decide, by decide⟩ ?_
  refine G_dup pL_law_3 rfl ?_
  refine G_callI0 (b := 0) (nx := 1) (nx1 := 76) pL_law_4 (k_X9_init_0 (fun j => ⟨clr_self, clm_self⟩)) mI_X9_init mli_RL_9 (by decide) ⟨by decide, by decide, by decide⟩ (by decide) ?_
  rintro _ rf1 mem1 ⟨rfl, mk1⟩ _
  refine G_astore_n (i := 1) (L' := [some (.ref 1008), some (.ref 0), none, none]) pL_law_7 rfl rfl ?_
  refine G_new (nx := 76) pL_law_8 cn_RL_10 shk_76 ⟨by decide, by decide, by decide⟩ ?_
  refine G_dup pL_law_11 rfl ?_
  refine G_callI0 (b := 76) (nx := 77) (nx1 := 91) pL_law_12 (k_X10_init_76 (fun j => ⟨clr_self, clm_self⟩)) mI_X10_init mli_RL_12 (by decide) ⟨by decide, by decide, by decide⟩ (by decide) ?_
  rintro _ rf2 mem2 ⟨rfl, mk2⟩ _
  refine G_astore_n (i := 2) (L' := [some (.ref 1008), some (.ref 0), some (.ref 76), none]) pL_law_15 rfl rfl ?_
  refine k _ _ (fun a j ha => ?_)
  have hr : ((0 ≤ a ∧ a < 76) ∨ (76 ≤ a ∧ a < 91)) := by have h9 : a < 91 := ha; omega
  rcases hr with hr | hr
  · exact ⟨by rw [(mk2.1 _ j (by omega)).1, clr_ne (by omega), (mk1.2 _ j (by omega) (by omega)).1], by rw [(mk2.1 _ j (by omega)).2, clm_ne (by omega), (mk1.2 _ j (by omega) (by omega)).2]⟩
  · exact ⟨by rw [(mk2.2 _ j (by omega) (by omega)).1], by rw [(mk2.2 _ j (by omega) (by omega)).2]⟩
def B_L_law_1481 (sx : SXT) (X18 : Int32 × MMt → Prop) (x3 : Int32) (mem : MMt) (Q : Int32 → MMt → Prop) : Prop := (∀ v1 : Int32, v1 = x3 + (6 : Int32) → X18 (v1, mem))
set_option maxRecDepth 4000 in
theorem gB_L_law_1481  {X18 : Int32 × MMt → Prop} {rf : RFt} {Q : Int32 → MMt → Prop} (sx : SXT) (hrf : RFok rf) (x3 : Int32) (hX18 : ∀ (rf : RFt) (x3 : Int32) (mem : MMt), RFok rf → X18 (x3, mem) → G sx yL_law cL_law 4 (some .boolean) 91 0 NX (QQi (RFok) Q) NX rf mem 18 [some (.ref 1008), some (.ref 0), some (.ref 76), some (.int x3)] []) (mem : MMt) (h : B_L_law_1481 sx X18 x3 mem Q) : G sx yL_law cL_law 4 (some .boolean) 91 0 NX (QQi (RFok) Q) NX rf mem 1481 [some (.ref 1008), some (.ref 0), some (.ref 76), some (.int x3)] [] := by
  unfold B_L_law_1481 at h
  obtain ⟨v1, e1⟩ : ∃ z : Int32, z = x3 + (6 : Int32) := ⟨_, rfl⟩
  have h := h v1 e1
  refine G_iincW (L' := [some (.ref 1008), some (.ref 0), some (.ref 76), some (.int v1)]) pL_law_1481 rfl ic_6 e1.symm rfl ?_
  refine G_goto pL_law_1484 ?_
  exact hX18 _ _ _ hrf h
def B_L_law_1155 (sx : SXT) (X18 : Int32 × MMt → Prop) (x3 : Int32) (mem : MMt) (Q : Int32 → MMt → Prop) : Prop := (vp_in (x3 + (1 : Int32)) sx.1 ∧ L_X9_trace (sx.2 (x3 + (1 : Int32)).toNatClampNeg) mem (fun r3 m2 => (vp_in (x3 + (1 : Int32)) sx.1 ∧ L_X10_trace (sx.2 (x3 + (1 : Int32)).toNatClampNeg) m2 (fun r6 m5 => ((r3 = r6 → B_L_law_1481 sx X18 x3 m5 Q) ∧ (¬ r3 = r6 → Q (0 : Int32) m5))))))
set_option maxRecDepth 4000 in
theorem gB_L_law_1155  {X18 : Int32 × MMt → Prop} {rf : RFt} {Q : Int32 → MMt → Prop} (sx : SXT) (hrf : RFok rf) (x3 : Int32) (hX18 : ∀ (rf : RFt) (x3 : Int32) (mem : MMt), RFok rf → X18 (x3, mem) → G sx yL_law cL_law 4 (some .boolean) 91 0 NX (QQi (RFok) Q) NX rf mem 18 [some (.ref 1008), some (.ref 0), some (.ref 76), some (.int x3)] []) (mem : MMt) (h : B_L_law_1155 sx X18 x3 mem Q) : G sx yL_law cL_law 4 (some .boolean) 91 0 NX (QQi (RFok) Q) NX rf mem 1155 [some (.ref 1008), some (.ref 0), some (.ref 76), some (.int x3)] [] := by
  unfold B_L_law_1155 at h
  refine G_aload_n (i := 1) pL_law_1155 rfl rfl ?_
  refine G_aload_n (i := 0) pL_law_1156 rfl rfl ?_
  refine G_iload_n (i := 3) pL_law_1157 rfl rfl ?_
  refine G_iconst pL_law_1158 ic_1 ?_
  refine G_iadd pL_law_1159 ?_
  obtain ⟨hi1, h⟩ := h
  refine G_sld pL_law_1160 hi1 ?_
  refine G_callV1i (b := 0) (ci := 9) (N := 12) pL_law_1161 (g_X9_trace (sx.2 (x3 + (1 : Int32)).toNatClampNeg) hrf _ h) mV_X9_trace ml_RL_129 (by decide) ⟨Nat.zero_le _, Nat.le_refl _, Nat.le_refl _⟩ (Nat.le_of_ble_eq_true rfl) ltk_0 shk_0 rfl ?_
  intro r3 rf m2 hrf h hr3
  refine G_aload_n (i := 2) pL_law_1164 rfl rfl ?_
  refine G_aload_n (i := 0) pL_law_1165 rfl rfl ?_
  refine G_iload_n (i := 3) pL_law_1166 rfl rfl ?_
  refine G_iconst pL_law_1167 ic_1 ?_
  refine G_iadd pL_law_1168 ?_
  obtain ⟨hi4, h⟩ := h
  refine G_sld pL_law_1169 hi4 ?_
  refine G_callV1i (b := 76) (ci := 10) (N := 29) pL_law_1170 (g_X10_trace (sx.2 (x3 + (1 : Int32)).toNatClampNeg) hrf _ h) mV_X10_trace ml_RL_132 (by decide) ⟨Nat.zero_le _, Nat.le_refl _, Nat.le_refl _⟩ (Nat.le_of_ble_eq_true rfl) ltk_76 shk_76 rfl ?_
  intro r6 rf m5 hrf h hr6
  refine G_icmp_eq pL_law_1173 (fun c7 => ?_) (fun c7 => ?_)
  · have h := h.1 c7
    exact gB_L_law_1481 sx hrf x3 hX18 _ h
  · have h := h.2 c7
    refine G_iconst pL_law_1176 ic_0 ?_
    exact G_ireturn (len := 1) pL_law_1177 ⟨hrf, _, rfl, h⟩ ⟨_, rfl, rfl⟩
def B_L_law_772 (sx : SXT) (X18 : Int32 × MMt → Prop) (x3 : Int32) (mem : MMt) (Q : Int32 → MMt → Prop) : Prop := (vp_in (x3 + (1 : Int32)) sx.1 ∧ (vp_in (x3 + (2 : Int32)) sx.1 ∧ L_X9_rests (sx.2 (x3 + (1 : Int32)).toNatClampNeg) (sx.2 (x3 + (2 : Int32)).toNatClampNeg) mem (fun r4 m3 => (vp_in (x3 + (1 : Int32)) sx.1 ∧ (vp_in (x3 + (2 : Int32)) sx.1 ∧ L_X10_rests (sx.2 (x3 + (1 : Int32)).toNatClampNeg) (sx.2 (x3 + (2 : Int32)).toNatClampNeg) m3 (fun r8 m7 => ((r4 = r8 → B_L_law_1481 sx X18 x3 m7 Q) ∧ (¬ r4 = r8 → Q (0 : Int32) m7))))))))
set_option maxRecDepth 4000 in
theorem gB_L_law_772  {X18 : Int32 × MMt → Prop} {rf : RFt} {Q : Int32 → MMt → Prop} (sx : SXT) (hrf : RFok rf) (x3 : Int32) (hX18 : ∀ (rf : RFt) (x3 : Int32) (mem : MMt), RFok rf → X18 (x3, mem) → G sx yL_law cL_law 4 (some .boolean) 91 0 NX (QQi (RFok) Q) NX rf mem 18 [some (.ref 1008), some (.ref 0), some (.ref 76), some (.int x3)] []) (mem : MMt) (h : B_L_law_772 sx X18 x3 mem Q) : G sx yL_law cL_law 4 (some .boolean) 91 0 NX (QQi (RFok) Q) NX rf mem 772 [some (.ref 1008), some (.ref 0), some (.ref 76), some (.int x3)] [] := by
  unfold B_L_law_772 at h
  refine G_aload_n (i := 1) pL_law_772 rfl rfl ?_
  refine G_aload_n (i := 0) pL_law_773 rfl rfl ?_
  refine G_iload_n (i := 3) pL_law_774 rfl rfl ?_
  refine G_iconst pL_law_775 ic_1 ?_
  refine G_iadd pL_law_776 ?_
  obtain ⟨hi1, h⟩ := h
  refine G_sld pL_law_777 hi1 ?_
  refine G_aload_n (i := 0) pL_law_778 rfl rfl ?_
  refine G_iload_n (i := 3) pL_law_779 rfl rfl ?_
  refine G_iconst pL_law_780 ic_2 ?_
  refine G_iadd pL_law_781 ?_
  obtain ⟨hi2, h⟩ := h
  refine G_sld pL_law_782 hi2 ?_
  refine G_callV2i (b := 0) (ci := 9) (N := 12) pL_law_783 (g_X9_rests (sx.2 (x3 + (1 : Int32)).toNatClampNeg) (sx.2 (x3 + (2 : Int32)).toNatClampNeg) hrf _ h) mV_X9_rests ml_RL_84 (by decide) ⟨Nat.zero_le _, Nat.le_refl _, Nat.le_refl _⟩ (Nat.le_of_ble_eq_true rfl) ltk_0 shk_0 rfl ?_
  intro r4 rf m3 hrf h hr4
  refine G_aload_n (i := 2) pL_law_786 rfl rfl ?_
  refine G_aload_n (i := 0) pL_law_787 rfl rfl ?_
  refine G_iload_n (i := 3) pL_law_788 rfl rfl ?_
  refine G_iconst pL_law_789 ic_1 ?_
  refine G_iadd pL_law_790 ?_
  obtain ⟨hi5, h⟩ := h
  refine G_sld pL_law_791 hi5 ?_
  refine G_aload_n (i := 0) pL_law_792 rfl rfl ?_
  refine G_iload_n (i := 3) pL_law_793 rfl rfl ?_
  refine G_iconst pL_law_794 ic_2 ?_
  refine G_iadd pL_law_795 ?_
  obtain ⟨hi6, h⟩ := h
  refine G_sld pL_law_796 hi6 ?_
  refine G_callV2i (b := 76) (ci := 10) (N := 29) pL_law_797 (g_X10_rests (sx.2 (x3 + (1 : Int32)).toNatClampNeg) (sx.2 (x3 + (2 : Int32)).toNatClampNeg) hrf _ h) mV_X10_rests ml_RL_87 (by decide) ⟨Nat.zero_le _, Nat.le_refl _, Nat.le_refl _⟩ (Nat.le_of_ble_eq_true rfl) ltk_76 shk_76 rfl ?_
  intro r8 rf m7 hrf h hr8
  refine G_icmp_eq pL_law_800 (fun c9 => ?_) (fun c9 => ?_)
  · have h := h.1 c9
    exact gB_L_law_1481 sx hrf x3 hX18 _ h
  · have h := h.2 c9
    refine G_iconst pL_law_803 ic_0 ?_
    exact G_ireturn (len := 1) pL_law_804 ⟨hrf, _, rfl, h⟩ ⟨_, rfl, rfl⟩
def B_L_law_904 (sx : SXT) (X18 : Int32 × MMt → Prop) (x3 : Int32) (mem : MMt) (Q : Int32 → MMt → Prop) : Prop := (vp_in (x3 + (1 : Int32)) sx.1 ∧ (vp_in (x3 + (2 : Int32)) sx.1 ∧ L_X9_least (sx.2 (x3 + (1 : Int32)).toNatClampNeg) (sx.2 (x3 + (2 : Int32)).toNatClampNeg) mem (fun r4 m3 => (vp_in (x3 + (1 : Int32)) sx.1 ∧ (vp_in (x3 + (2 : Int32)) sx.1 ∧ L_X10_least (sx.2 (x3 + (1 : Int32)).toNatClampNeg) (sx.2 (x3 + (2 : Int32)).toNatClampNeg) m3 (fun r8 m7 => ((r4 = r8 → B_L_law_1481 sx X18 x3 m7 Q) ∧ (¬ r4 = r8 → Q (0 : Int32) m7))))))))
set_option maxRecDepth 4000 in
theorem gB_L_law_904  {X18 : Int32 × MMt → Prop} {rf : RFt} {Q : Int32 → MMt → Prop} (sx : SXT) (hrf : RFok rf) (x3 : Int32) (hX18 : ∀ (rf : RFt) (x3 : Int32) (mem : MMt), RFok rf → X18 (x3, mem) → G sx yL_law cL_law 4 (some .boolean) 91 0 NX (QQi (RFok) Q) NX rf mem 18 [some (.ref 1008), some (.ref 0), some (.ref 76), some (.int x3)] []) (mem : MMt) (h : B_L_law_904 sx X18 x3 mem Q) : G sx yL_law cL_law 4 (some .boolean) 91 0 NX (QQi (RFok) Q) NX rf mem 904 [some (.ref 1008), some (.ref 0), some (.ref 76), some (.int x3)] [] := by
  unfold B_L_law_904 at h
  refine G_aload_n (i := 1) pL_law_904 rfl rfl ?_
  refine G_aload_n (i := 0) pL_law_905 rfl rfl ?_
  refine G_iload_n (i := 3) pL_law_906 rfl rfl ?_
  refine G_iconst pL_law_907 ic_1 ?_
  refine G_iadd pL_law_908 ?_
  obtain ⟨hi1, h⟩ := h
  refine G_sld pL_law_909 hi1 ?_
  refine G_aload_n (i := 0) pL_law_910 rfl rfl ?_
  refine G_iload_n (i := 3) pL_law_911 rfl rfl ?_
  refine G_iconst pL_law_912 ic_2 ?_
  refine G_iadd pL_law_913 ?_
  obtain ⟨hi2, h⟩ := h
  refine G_sld pL_law_914 hi2 ?_
  refine G_callV2i (b := 0) (ci := 9) (N := 12) pL_law_915 (g_X9_least (sx.2 (x3 + (1 : Int32)).toNatClampNeg) (sx.2 (x3 + (2 : Int32)).toNatClampNeg) hrf _ h) mV_X9_least ml_RL_101 (by decide) ⟨Nat.zero_le _, Nat.le_refl _, Nat.le_refl _⟩ (Nat.le_of_ble_eq_true rfl) ltk_0 shk_0 rfl ?_
  intro r4 rf m3 hrf h hr4
  refine G_aload_n (i := 2) pL_law_918 rfl rfl ?_
  refine G_aload_n (i := 0) pL_law_919 rfl rfl ?_
  refine G_iload_n (i := 3) pL_law_920 rfl rfl ?_
  refine G_iconst pL_law_921 ic_1 ?_
  refine G_iadd pL_law_922 ?_
  obtain ⟨hi5, h⟩ := h
  refine G_sld pL_law_923 hi5 ?_
  refine G_aload_n (i := 0) pL_law_924 rfl rfl ?_
  refine G_iload_n (i := 3) pL_law_925 rfl rfl ?_
  refine G_iconst pL_law_926 ic_2 ?_
  refine G_iadd pL_law_927 ?_
  obtain ⟨hi6, h⟩ := h
  refine G_sld pL_law_928 hi6 ?_
  refine G_callV2i (b := 76) (ci := 10) (N := 29) pL_law_929 (g_X10_least (sx.2 (x3 + (1 : Int32)).toNatClampNeg) (sx.2 (x3 + (2 : Int32)).toNatClampNeg) hrf _ h) mV_X10_least ml_RL_104 (by decide) ⟨Nat.zero_le _, Nat.le_refl _, Nat.le_refl _⟩ (Nat.le_of_ble_eq_true rfl) ltk_76 shk_76 rfl ?_
  intro r8 rf m7 hrf h hr8
  refine G_icmp_eq pL_law_932 (fun c9 => ?_) (fun c9 => ?_)
  · have h := h.1 c9
    exact gB_L_law_1481 sx hrf x3 hX18 _ h
  · have h := h.2 c9
    refine G_iconst pL_law_935 ic_0 ?_
    exact G_ireturn (len := 1) pL_law_936 ⟨hrf, _, rfl, h⟩ ⟨_, rfl, rfl⟩
def B_L_law_1036 (sx : SXT) (X18 : Int32 × MMt → Prop) (x3 : Int32) (mem : MMt) (Q : Int32 → MMt → Prop) : Prop := (vp_in (x3 + (1 : Int32)) sx.1 ∧ (vp_in (x3 + (2 : Int32)) sx.1 ∧ (vp_in (x3 + (3 : Int32)) sx.1 ∧ (vp_in (x3 + (4 : Int32)) sx.1 ∧ L_X9_odds (sx.2 (x3 + (1 : Int32)).toNatClampNeg) (sx.2 (x3 + (2 : Int32)).toNatClampNeg) (sx.2 (x3 + (3 : Int32)).toNatClampNeg) (sx.2 (x3 + (4 : Int32)).toNatClampNeg) mem (fun r6 m5 => (vp_in (x3 + (1 : Int32)) sx.1 ∧ (vp_in (x3 + (2 : Int32)) sx.1 ∧ (vp_in (x3 + (3 : Int32)) sx.1 ∧ (vp_in (x3 + (4 : Int32)) sx.1 ∧ L_X10_odds (sx.2 (x3 + (1 : Int32)).toNatClampNeg) (sx.2 (x3 + (2 : Int32)).toNatClampNeg) (sx.2 (x3 + (3 : Int32)).toNatClampNeg) (sx.2 (x3 + (4 : Int32)).toNatClampNeg) m5 (fun r12 m11 => ((r6 = r12 → B_L_law_1481 sx X18 x3 m11 Q) ∧ (¬ r6 = r12 → Q (0 : Int32) m11))))))))))))
set_option maxRecDepth 4000 in
theorem gB_L_law_1036  {X18 : Int32 × MMt → Prop} {rf : RFt} {Q : Int32 → MMt → Prop} (sx : SXT) (hrf : RFok rf) (x3 : Int32) (hX18 : ∀ (rf : RFt) (x3 : Int32) (mem : MMt), RFok rf → X18 (x3, mem) → G sx yL_law cL_law 4 (some .boolean) 91 0 NX (QQi (RFok) Q) NX rf mem 18 [some (.ref 1008), some (.ref 0), some (.ref 76), some (.int x3)] []) (mem : MMt) (h : B_L_law_1036 sx X18 x3 mem Q) : G sx yL_law cL_law 4 (some .boolean) 91 0 NX (QQi (RFok) Q) NX rf mem 1036 [some (.ref 1008), some (.ref 0), some (.ref 76), some (.int x3)] [] := by
  unfold B_L_law_1036 at h
  refine G_aload_n (i := 1) pL_law_1036 rfl rfl ?_
  refine G_aload_n (i := 0) pL_law_1037 rfl rfl ?_
  refine G_iload_n (i := 3) pL_law_1038 rfl rfl ?_
  refine G_iconst pL_law_1039 ic_1 ?_
  refine G_iadd pL_law_1040 ?_
  obtain ⟨hi1, h⟩ := h
  refine G_sld pL_law_1041 hi1 ?_
  refine G_aload_n (i := 0) pL_law_1042 rfl rfl ?_
  refine G_iload_n (i := 3) pL_law_1043 rfl rfl ?_
  refine G_iconst pL_law_1044 ic_2 ?_
  refine G_iadd pL_law_1045 ?_
  obtain ⟨hi2, h⟩ := h
  refine G_sld pL_law_1046 hi2 ?_
  refine G_aload_n (i := 0) pL_law_1047 rfl rfl ?_
  refine G_iload_n (i := 3) pL_law_1048 rfl rfl ?_
  refine G_iconst pL_law_1049 ic_3 ?_
  refine G_iadd pL_law_1050 ?_
  obtain ⟨hi3, h⟩ := h
  refine G_sld pL_law_1051 hi3 ?_
  refine G_aload_n (i := 0) pL_law_1052 rfl rfl ?_
  refine G_iload_n (i := 3) pL_law_1053 rfl rfl ?_
  refine G_iconst pL_law_1054 ic_4 ?_
  refine G_iadd pL_law_1055 ?_
  obtain ⟨hi4, h⟩ := h
  refine G_sld pL_law_1056 hi4 ?_
  refine G_callV4i (b := 0) (ci := 9) (N := 12) pL_law_1057 (g_X9_odds (sx.2 (x3 + (1 : Int32)).toNatClampNeg) (sx.2 (x3 + (2 : Int32)).toNatClampNeg) (sx.2 (x3 + (3 : Int32)).toNatClampNeg) (sx.2 (x3 + (4 : Int32)).toNatClampNeg) hrf _ h) mV_X9_odds ml_RL_117 (by decide) ⟨Nat.zero_le _, Nat.le_refl _, Nat.le_refl _⟩ (Nat.le_of_ble_eq_true rfl) ltk_0 shk_0 rfl ?_
  intro r6 rf m5 hrf h hr6
  refine G_aload_n (i := 2) pL_law_1060 rfl rfl ?_
  refine G_aload_n (i := 0) pL_law_1061 rfl rfl ?_
  refine G_iload_n (i := 3) pL_law_1062 rfl rfl ?_
  refine G_iconst pL_law_1063 ic_1 ?_
  refine G_iadd pL_law_1064 ?_
  obtain ⟨hi7, h⟩ := h
  refine G_sld pL_law_1065 hi7 ?_
  refine G_aload_n (i := 0) pL_law_1066 rfl rfl ?_
  refine G_iload_n (i := 3) pL_law_1067 rfl rfl ?_
  refine G_iconst pL_law_1068 ic_2 ?_
  refine G_iadd pL_law_1069 ?_
  obtain ⟨hi8, h⟩ := h
  refine G_sld pL_law_1070 hi8 ?_
  refine G_aload_n (i := 0) pL_law_1071 rfl rfl ?_
  refine G_iload_n (i := 3) pL_law_1072 rfl rfl ?_
  refine G_iconst pL_law_1073 ic_3 ?_
  refine G_iadd pL_law_1074 ?_
  obtain ⟨hi9, h⟩ := h
  refine G_sld pL_law_1075 hi9 ?_
  refine G_aload_n (i := 0) pL_law_1076 rfl rfl ?_
  refine G_iload_n (i := 3) pL_law_1077 rfl rfl ?_
  refine G_iconst pL_law_1078 ic_4 ?_
  refine G_iadd pL_law_1079 ?_
  obtain ⟨hi10, h⟩ := h
  refine G_sld pL_law_1080 hi10 ?_
  refine G_callV4i (b := 76) (ci := 10) (N := 29) pL_law_1081 (g_X10_odds (sx.2 (x3 + (1 : Int32)).toNatClampNeg) (sx.2 (x3 + (2 : Int32)).toNatClampNeg) (sx.2 (x3 + (3 : Int32)).toNatClampNeg) (sx.2 (x3 + (4 : Int32)).toNatClampNeg) hrf _ h) mV_X10_odds ml_RL_120 (by decide) ⟨Nat.zero_le _, Nat.le_refl _, Nat.le_refl _⟩ (Nat.le_of_ble_eq_true rfl) ltk_76 shk_76 rfl ?_
  intro r12 rf m11 hrf h hr12
  refine G_icmp_eq pL_law_1084 (fun c13 => ?_) (fun c13 => ?_)
  · have h := h.1 c13
    exact gB_L_law_1481 sx hrf x3 hX18 _ h
  · have h := h.2 c13
    refine G_iconst pL_law_1087 ic_0 ?_
    exact G_ireturn (len := 1) pL_law_1088 ⟨hrf, _, rfl, h⟩ ⟨_, rfl, rfl⟩
def B_L_law_270 (sx : SXT) (X18 : Int32 × MMt → Prop) (x3 : Int32) (mem : MMt) (Q : Int32 → MMt → Prop) : Prop := (vp_in (x3 + (1 : Int32)) sx.1 ∧ (vp_in (x3 + (2 : Int32)) sx.1 ∧ L_X9_become (sx.2 (x3 + (1 : Int32)).toNatClampNeg) (sx.2 (x3 + (2 : Int32)).toNatClampNeg) mem (fun r4 m3 => (vp_in (x3 + (1 : Int32)) sx.1 ∧ (vp_in (x3 + (2 : Int32)) sx.1 ∧ L_X10_become (sx.2 (x3 + (1 : Int32)).toNatClampNeg) (sx.2 (x3 + (2 : Int32)).toNatClampNeg) m3 (fun r8 m7 => ((r4 = r8 → B_L_law_1481 sx X18 x3 m7 Q) ∧ (¬ r4 = r8 → Q (0 : Int32) m7))))))))
set_option maxRecDepth 4000 in
theorem gB_L_law_270  {X18 : Int32 × MMt → Prop} {rf : RFt} {Q : Int32 → MMt → Prop} (sx : SXT) (hrf : RFok rf) (x3 : Int32) (hX18 : ∀ (rf : RFt) (x3 : Int32) (mem : MMt), RFok rf → X18 (x3, mem) → G sx yL_law cL_law 4 (some .boolean) 91 0 NX (QQi (RFok) Q) NX rf mem 18 [some (.ref 1008), some (.ref 0), some (.ref 76), some (.int x3)] []) (mem : MMt) (h : B_L_law_270 sx X18 x3 mem Q) : G sx yL_law cL_law 4 (some .boolean) 91 0 NX (QQi (RFok) Q) NX rf mem 270 [some (.ref 1008), some (.ref 0), some (.ref 76), some (.int x3)] [] := by
  unfold B_L_law_270 at h
  refine G_aload_n (i := 1) pL_law_270 rfl rfl ?_
  refine G_aload_n (i := 0) pL_law_271 rfl rfl ?_
  refine G_iload_n (i := 3) pL_law_272 rfl rfl ?_
  refine G_iconst pL_law_273 ic_1 ?_
  refine G_iadd pL_law_274 ?_
  obtain ⟨hi1, h⟩ := h
  refine G_sld pL_law_275 hi1 ?_
  refine G_aload_n (i := 0) pL_law_276 rfl rfl ?_
  refine G_iload_n (i := 3) pL_law_277 rfl rfl ?_
  refine G_iconst pL_law_278 ic_2 ?_
  refine G_iadd pL_law_279 ?_
  obtain ⟨hi2, h⟩ := h
  refine G_sld pL_law_280 hi2 ?_
  refine G_callV2i (b := 0) (ci := 9) (N := 12) pL_law_281 (g_X9_become (sx.2 (x3 + (1 : Int32)).toNatClampNeg) (sx.2 (x3 + (2 : Int32)).toNatClampNeg) hrf _ h) mV_X9_become ml_RL_22 (by decide) ⟨Nat.zero_le _, Nat.le_refl _, Nat.le_refl _⟩ (Nat.le_of_ble_eq_true rfl) ltk_0 shk_0 rfl ?_
  intro r4 rf m3 hrf h hr4
  refine G_aload_n (i := 2) pL_law_284 rfl rfl ?_
  refine G_aload_n (i := 0) pL_law_285 rfl rfl ?_
  refine G_iload_n (i := 3) pL_law_286 rfl rfl ?_
  refine G_iconst pL_law_287 ic_1 ?_
  refine G_iadd pL_law_288 ?_
  obtain ⟨hi5, h⟩ := h
  refine G_sld pL_law_289 hi5 ?_
  refine G_aload_n (i := 0) pL_law_290 rfl rfl ?_
  refine G_iload_n (i := 3) pL_law_291 rfl rfl ?_
  refine G_iconst pL_law_292 ic_2 ?_
  refine G_iadd pL_law_293 ?_
  obtain ⟨hi6, h⟩ := h
  refine G_sld pL_law_294 hi6 ?_
  refine G_callV2i (b := 76) (ci := 10) (N := 29) pL_law_295 (g_X10_become (sx.2 (x3 + (1 : Int32)).toNatClampNeg) (sx.2 (x3 + (2 : Int32)).toNatClampNeg) hrf _ h) mV_X10_become ml_RL_25 (by decide) ⟨Nat.zero_le _, Nat.le_refl _, Nat.le_refl _⟩ (Nat.le_of_ble_eq_true rfl) ltk_76 shk_76 rfl ?_
  intro r8 rf m7 hrf h hr8
  refine G_icmp_eq pL_law_298 (fun c9 => ?_) (fun c9 => ?_)
  · have h := h.1 c9
    exact gB_L_law_1481 sx hrf x3 hX18 _ h
  · have h := h.2 c9
    refine G_iconst pL_law_301 ic_0 ?_
    exact G_ireturn (len := 1) pL_law_302 ⟨hrf, _, rfl, h⟩ ⟨_, rfl, rfl⟩
def B_L_law_1422 (sx : SXT) (X18 : Int32 × MMt → Prop) (x3 : Int32) (mem : MMt) (Q : Int32 → MMt → Prop) : Prop := L_X9_check mem (fun r2 m1 => L_X10_check m1 (fun r4 m3 => ((r2 = r4 → B_L_law_1481 sx X18 x3 m3 Q) ∧ (¬ r2 = r4 → Q (0 : Int32) m3))))
set_option maxRecDepth 4000 in
theorem gB_L_law_1422  {X18 : Int32 × MMt → Prop} {rf : RFt} {Q : Int32 → MMt → Prop} (sx : SXT) (hrf : RFok rf) (x3 : Int32) (hX18 : ∀ (rf : RFt) (x3 : Int32) (mem : MMt), RFok rf → X18 (x3, mem) → G sx yL_law cL_law 4 (some .boolean) 91 0 NX (QQi (RFok) Q) NX rf mem 18 [some (.ref 1008), some (.ref 0), some (.ref 76), some (.int x3)] []) (mem : MMt) (h : B_L_law_1422 sx X18 x3 mem Q) : G sx yL_law cL_law 4 (some .boolean) 91 0 NX (QQi (RFok) Q) NX rf mem 1422 [some (.ref 1008), some (.ref 0), some (.ref 76), some (.int x3)] [] := by
  unfold B_L_law_1422 at h
  refine G_aload_n (i := 1) pL_law_1422 rfl rfl ?_
  refine G_callV0i (b := 0) (ci := 9) (N := 12) pL_law_1423 (g_X9_check hrf _ h) mV_X9_check ml_RL_166 (by decide) ⟨Nat.zero_le _, Nat.le_refl _, Nat.le_refl _⟩ (Nat.le_of_ble_eq_true rfl) ltk_0 shk_0 rfl ?_
  intro r2 rf m1 hrf h hr2
  refine G_aload_n (i := 2) pL_law_1426 rfl rfl ?_
  refine G_callV0i (b := 76) (ci := 10) (N := 29) pL_law_1427 (g_X10_check hrf _ h) mV_X10_check ml_RL_169 (by decide) ⟨Nat.zero_le _, Nat.le_refl _, Nat.le_refl _⟩ (Nat.le_of_ble_eq_true rfl) ltk_76 shk_76 rfl ?_
  intro r4 rf m3 hrf h hr4
  refine G_icmp_eq pL_law_1430 (fun c5 => ?_) (fun c5 => ?_)
  · have h := h.1 c5
    exact gB_L_law_1481 sx hrf x3 hX18 _ h
  · have h := h.2 c5
    refine G_iconst pL_law_1433 ic_0 ?_
    exact G_ireturn (len := 1) pL_law_1434 ⟨hrf, _, rfl, h⟩ ⟨_, rfl, rfl⟩
def B_L_law_402 (sx : SXT) (X18 : Int32 × MMt → Prop) (x3 : Int32) (mem : MMt) (Q : Int32 → MMt → Prop) : Prop := (vp_in (x3 + (1 : Int32)) sx.1 ∧ (vp_in (x3 + (2 : Int32)) sx.1 ∧ (vp_in (x3 + (3 : Int32)) sx.1 ∧ L_X9_off (sx.2 (x3 + (1 : Int32)).toNatClampNeg) (sx.2 (x3 + (2 : Int32)).toNatClampNeg) (sx.2 (x3 + (3 : Int32)).toNatClampNeg) mem (fun r5 m4 => (vp_in (x3 + (1 : Int32)) sx.1 ∧ (vp_in (x3 + (2 : Int32)) sx.1 ∧ (vp_in (x3 + (3 : Int32)) sx.1 ∧ L_X10_off (sx.2 (x3 + (1 : Int32)).toNatClampNeg) (sx.2 (x3 + (2 : Int32)).toNatClampNeg) (sx.2 (x3 + (3 : Int32)).toNatClampNeg) m4 (fun r10 m9 => ((r5 = r10 → B_L_law_1481 sx X18 x3 m9 Q) ∧ (¬ r5 = r10 → Q (0 : Int32) m9))))))))))
set_option maxRecDepth 4000 in
theorem gB_L_law_402  {X18 : Int32 × MMt → Prop} {rf : RFt} {Q : Int32 → MMt → Prop} (sx : SXT) (hrf : RFok rf) (x3 : Int32) (hX18 : ∀ (rf : RFt) (x3 : Int32) (mem : MMt), RFok rf → X18 (x3, mem) → G sx yL_law cL_law 4 (some .boolean) 91 0 NX (QQi (RFok) Q) NX rf mem 18 [some (.ref 1008), some (.ref 0), some (.ref 76), some (.int x3)] []) (mem : MMt) (h : B_L_law_402 sx X18 x3 mem Q) : G sx yL_law cL_law 4 (some .boolean) 91 0 NX (QQi (RFok) Q) NX rf mem 402 [some (.ref 1008), some (.ref 0), some (.ref 76), some (.int x3)] [] := by
  unfold B_L_law_402 at h
  refine G_aload_n (i := 1) pL_law_402 rfl rfl ?_
  refine G_aload_n (i := 0) pL_law_403 rfl rfl ?_
  refine G_iload_n (i := 3) pL_law_404 rfl rfl ?_
  refine G_iconst pL_law_405 ic_1 ?_
  refine G_iadd pL_law_406 ?_
  obtain ⟨hi1, h⟩ := h
  refine G_sld pL_law_407 hi1 ?_
  refine G_aload_n (i := 0) pL_law_408 rfl rfl ?_
  refine G_iload_n (i := 3) pL_law_409 rfl rfl ?_
  refine G_iconst pL_law_410 ic_2 ?_
  refine G_iadd pL_law_411 ?_
  obtain ⟨hi2, h⟩ := h
  refine G_sld pL_law_412 hi2 ?_
  refine G_aload_n (i := 0) pL_law_413 rfl rfl ?_
  refine G_iload_n (i := 3) pL_law_414 rfl rfl ?_
  refine G_iconst pL_law_415 ic_3 ?_
  refine G_iadd pL_law_416 ?_
  obtain ⟨hi3, h⟩ := h
  refine G_sld pL_law_417 hi3 ?_
  refine G_callV3i (b := 0) (ci := 9) (N := 12) pL_law_418 (g_X9_off (sx.2 (x3 + (1 : Int32)).toNatClampNeg) (sx.2 (x3 + (2 : Int32)).toNatClampNeg) (sx.2 (x3 + (3 : Int32)).toNatClampNeg) hrf _ h) mV_X9_off ml_RL_38 (by decide) ⟨Nat.zero_le _, Nat.le_refl _, Nat.le_refl _⟩ (Nat.le_of_ble_eq_true rfl) ltk_0 shk_0 rfl ?_
  intro r5 rf m4 hrf h hr5
  refine G_aload_n (i := 2) pL_law_421 rfl rfl ?_
  refine G_aload_n (i := 0) pL_law_422 rfl rfl ?_
  refine G_iload_n (i := 3) pL_law_423 rfl rfl ?_
  refine G_iconst pL_law_424 ic_1 ?_
  refine G_iadd pL_law_425 ?_
  obtain ⟨hi6, h⟩ := h
  refine G_sld pL_law_426 hi6 ?_
  refine G_aload_n (i := 0) pL_law_427 rfl rfl ?_
  refine G_iload_n (i := 3) pL_law_428 rfl rfl ?_
  refine G_iconst pL_law_429 ic_2 ?_
  refine G_iadd pL_law_430 ?_
  obtain ⟨hi7, h⟩ := h
  refine G_sld pL_law_431 hi7 ?_
  refine G_aload_n (i := 0) pL_law_432 rfl rfl ?_
  refine G_iload_n (i := 3) pL_law_433 rfl rfl ?_
  refine G_iconst pL_law_434 ic_3 ?_
  refine G_iadd pL_law_435 ?_
  obtain ⟨hi8, h⟩ := h
  refine G_sld pL_law_436 hi8 ?_
  refine G_callV3i (b := 76) (ci := 10) (N := 29) pL_law_437 (g_X10_off (sx.2 (x3 + (1 : Int32)).toNatClampNeg) (sx.2 (x3 + (2 : Int32)).toNatClampNeg) (sx.2 (x3 + (3 : Int32)).toNatClampNeg) hrf _ h) mV_X10_off ml_RL_42 (by decide) ⟨Nat.zero_le _, Nat.le_refl _, Nat.le_refl _⟩ (Nat.le_of_ble_eq_true rfl) ltk_76 shk_76 rfl ?_
  intro r10 rf m9 hrf h hr10
  refine G_icmp_eq pL_law_440 (fun c11 => ?_) (fun c11 => ?_)
  · have h := h.1 c11
    exact gB_L_law_1481 sx hrf x3 hX18 _ h
  · have h := h.2 c11
    refine G_iconst pL_law_443 ic_0 ?_
    exact G_ireturn (len := 1) pL_law_444 ⟨hrf, _, rfl, h⟩ ⟨_, rfl, rfl⟩
def B_L_law_1178 (sx : SXT) (X18 : Int32 × MMt → Prop) (x3 : Int32) (mem : MMt) (Q : Int32 → MMt → Prop) : Prop := (vp_in (x3 + (1 : Int32)) sx.1 ∧ (vp_in (x3 + (2 : Int32)) sx.1 ∧ (vp_in (x3 + (3 : Int32)) sx.1 ∧ L_X9_sheet (sx.2 (x3 + (1 : Int32)).toNatClampNeg) (sx.2 (x3 + (2 : Int32)).toNatClampNeg) (sx.2 (x3 + (3 : Int32)).toNatClampNeg) mem (fun r5 m4 => (vp_in (x3 + (1 : Int32)) sx.1 ∧ (vp_in (x3 + (2 : Int32)) sx.1 ∧ (vp_in (x3 + (3 : Int32)) sx.1 ∧ L_X10_sheet (sx.2 (x3 + (1 : Int32)).toNatClampNeg) (sx.2 (x3 + (2 : Int32)).toNatClampNeg) (sx.2 (x3 + (3 : Int32)).toNatClampNeg) m4 (fun r10 m9 => ((r5 = r10 → B_L_law_1481 sx X18 x3 m9 Q) ∧ (¬ r5 = r10 → Q (0 : Int32) m9))))))))))
set_option maxRecDepth 4000 in
theorem gB_L_law_1178  {X18 : Int32 × MMt → Prop} {rf : RFt} {Q : Int32 → MMt → Prop} (sx : SXT) (hrf : RFok rf) (x3 : Int32) (hX18 : ∀ (rf : RFt) (x3 : Int32) (mem : MMt), RFok rf → X18 (x3, mem) → G sx yL_law cL_law 4 (some .boolean) 91 0 NX (QQi (RFok) Q) NX rf mem 18 [some (.ref 1008), some (.ref 0), some (.ref 76), some (.int x3)] []) (mem : MMt) (h : B_L_law_1178 sx X18 x3 mem Q) : G sx yL_law cL_law 4 (some .boolean) 91 0 NX (QQi (RFok) Q) NX rf mem 1178 [some (.ref 1008), some (.ref 0), some (.ref 76), some (.int x3)] [] := by
  unfold B_L_law_1178 at h
  refine G_aload_n (i := 1) pL_law_1178 rfl rfl ?_
  refine G_aload_n (i := 0) pL_law_1179 rfl rfl ?_
  refine G_iload_n (i := 3) pL_law_1180 rfl rfl ?_
  refine G_iconst pL_law_1181 ic_1 ?_
  refine G_iadd pL_law_1182 ?_
  obtain ⟨hi1, h⟩ := h
  refine G_sld pL_law_1183 hi1 ?_
  refine G_aload_n (i := 0) pL_law_1184 rfl rfl ?_
  refine G_iload_n (i := 3) pL_law_1185 rfl rfl ?_
  refine G_iconst pL_law_1186 ic_2 ?_
  refine G_iadd pL_law_1187 ?_
  obtain ⟨hi2, h⟩ := h
  refine G_sld pL_law_1188 hi2 ?_
  refine G_aload_n (i := 0) pL_law_1189 rfl rfl ?_
  refine G_iload_n (i := 3) pL_law_1190 rfl rfl ?_
  refine G_iconst pL_law_1191 ic_3 ?_
  refine G_iadd pL_law_1192 ?_
  obtain ⟨hi3, h⟩ := h
  refine G_sld pL_law_1193 hi3 ?_
  refine G_callV3i (b := 0) (ci := 9) (N := 12) pL_law_1194 (g_X9_sheet (sx.2 (x3 + (1 : Int32)).toNatClampNeg) (sx.2 (x3 + (2 : Int32)).toNatClampNeg) (sx.2 (x3 + (3 : Int32)).toNatClampNeg) hrf _ h) mV_X9_sheet ml_RL_133 (by decide) ⟨Nat.zero_le _, Nat.le_refl _, Nat.le_refl _⟩ (Nat.le_of_ble_eq_true rfl) ltk_0 shk_0 rfl ?_
  intro r5 rf m4 hrf h hr5
  refine G_aload_n (i := 2) pL_law_1197 rfl rfl ?_
  refine G_aload_n (i := 0) pL_law_1198 rfl rfl ?_
  refine G_iload_n (i := 3) pL_law_1199 rfl rfl ?_
  refine G_iconst pL_law_1200 ic_1 ?_
  refine G_iadd pL_law_1201 ?_
  obtain ⟨hi6, h⟩ := h
  refine G_sld pL_law_1202 hi6 ?_
  refine G_aload_n (i := 0) pL_law_1203 rfl rfl ?_
  refine G_iload_n (i := 3) pL_law_1204 rfl rfl ?_
  refine G_iconst pL_law_1205 ic_2 ?_
  refine G_iadd pL_law_1206 ?_
  obtain ⟨hi7, h⟩ := h
  refine G_sld pL_law_1207 hi7 ?_
  refine G_aload_n (i := 0) pL_law_1208 rfl rfl ?_
  refine G_iload_n (i := 3) pL_law_1209 rfl rfl ?_
  refine G_iconst pL_law_1210 ic_3 ?_
  refine G_iadd pL_law_1211 ?_
  obtain ⟨hi8, h⟩ := h
  refine G_sld pL_law_1212 hi8 ?_
  refine G_callV3i (b := 76) (ci := 10) (N := 29) pL_law_1213 (g_X10_sheet (sx.2 (x3 + (1 : Int32)).toNatClampNeg) (sx.2 (x3 + (2 : Int32)).toNatClampNeg) (sx.2 (x3 + (3 : Int32)).toNatClampNeg) hrf _ h) mV_X10_sheet ml_RL_136 (by decide) ⟨Nat.zero_le _, Nat.le_refl _, Nat.le_refl _⟩ (Nat.le_of_ble_eq_true rfl) ltk_76 shk_76 rfl ?_
  intro r10 rf m9 hrf h hr10
  refine G_icmp_eq pL_law_1216 (fun c11 => ?_) (fun c11 => ?_)
  · have h := h.1 c11
    exact gB_L_law_1481 sx hrf x3 hX18 _ h
  · have h := h.2 c11
    refine G_iconst pL_law_1219 ic_0 ?_
    exact G_ireturn (len := 1) pL_law_1220 ⟨hrf, _, rfl, h⟩ ⟨_, rfl, rfl⟩
def B_L_law_1435 (sx : SXT) (X18 : Int32 × MMt → Prop) (x3 : Int32) (mem : MMt) (Q : Int32 → MMt → Prop) : Prop := (vp_in (x3 + (1 : Int32)) sx.1 ∧ L_X9_count (sx.2 (x3 + (1 : Int32)).toNatClampNeg) mem (fun r3 m2 => (vp_in (x3 + (1 : Int32)) sx.1 ∧ L_X10_count (sx.2 (x3 + (1 : Int32)).toNatClampNeg) m2 (fun r6 m5 => ((r3 = r6 → B_L_law_1481 sx X18 x3 m5 Q) ∧ (¬ r3 = r6 → Q (0 : Int32) m5))))))
set_option maxRecDepth 4000 in
theorem gB_L_law_1435  {X18 : Int32 × MMt → Prop} {rf : RFt} {Q : Int32 → MMt → Prop} (sx : SXT) (hrf : RFok rf) (x3 : Int32) (hX18 : ∀ (rf : RFt) (x3 : Int32) (mem : MMt), RFok rf → X18 (x3, mem) → G sx yL_law cL_law 4 (some .boolean) 91 0 NX (QQi (RFok) Q) NX rf mem 18 [some (.ref 1008), some (.ref 0), some (.ref 76), some (.int x3)] []) (mem : MMt) (h : B_L_law_1435 sx X18 x3 mem Q) : G sx yL_law cL_law 4 (some .boolean) 91 0 NX (QQi (RFok) Q) NX rf mem 1435 [some (.ref 1008), some (.ref 0), some (.ref 76), some (.int x3)] [] := by
  unfold B_L_law_1435 at h
  refine G_aload_n (i := 1) pL_law_1435 rfl rfl ?_
  refine G_aload_n (i := 0) pL_law_1436 rfl rfl ?_
  refine G_iload_n (i := 3) pL_law_1437 rfl rfl ?_
  refine G_iconst pL_law_1438 ic_1 ?_
  refine G_iadd pL_law_1439 ?_
  obtain ⟨hi1, h⟩ := h
  refine G_sld pL_law_1440 hi1 ?_
  refine G_callV1i (b := 0) (ci := 9) (N := 12) pL_law_1441 (g_X9_count (sx.2 (x3 + (1 : Int32)).toNatClampNeg) hrf _ h) mV_X9_count ml_RL_170 (by decide) ⟨Nat.zero_le _, Nat.le_refl _, Nat.le_refl _⟩ (Nat.le_of_ble_eq_true rfl) ltk_0 shk_0 rfl ?_
  intro r3 rf m2 hrf h hr3
  refine G_aload_n (i := 2) pL_law_1444 rfl rfl ?_
  refine G_aload_n (i := 0) pL_law_1445 rfl rfl ?_
  refine G_iload_n (i := 3) pL_law_1446 rfl rfl ?_
  refine G_iconst pL_law_1447 ic_1 ?_
  refine G_iadd pL_law_1448 ?_
  obtain ⟨hi4, h⟩ := h
  refine G_sld pL_law_1449 hi4 ?_
  refine G_callV1i (b := 76) (ci := 10) (N := 29) pL_law_1450 (g_X10_count (sx.2 (x3 + (1 : Int32)).toNatClampNeg) hrf _ h) mV_X10_count ml_RL_173 (by decide) ⟨Nat.zero_le _, Nat.le_refl _, Nat.le_refl _⟩ (Nat.le_of_ble_eq_true rfl) ltk_76 shk_76 rfl ?_
  intro r6 rf m5 hrf h hr6
  refine G_icmp_eq pL_law_1453 (fun c7 => ?_) (fun c7 => ?_)
  · have h := h.1 c7
    exact gB_L_law_1481 sx hrf x3 hX18 _ h
  · have h := h.2 c7
    refine G_iconst pL_law_1456 ic_0 ?_
    exact G_ireturn (len := 1) pL_law_1457 ⟨hrf, _, rfl, h⟩ ⟨_, rfl, rfl⟩
def B_L_law_544 (sx : SXT) (X18 : Int32 × MMt → Prop) (x3 : Int32) (mem : MMt) (Q : Int32 → MMt → Prop) : Prop := (vp_in (x3 + (1 : Int32)) sx.1 ∧ (vp_in (x3 + (2 : Int32)) sx.1 ∧ (vp_in (x3 + (3 : Int32)) sx.1 ∧ L_X9_feed ((((sx.2 (x3 + (1 : Int32)).toNatClampNeg).toInt64) <<< ((32 : Int32).toInt64 &&& 63)) ||| (((sx.2 (x3 + (2 : Int32)).toNatClampNeg).toInt64) &&& (4294967295 : Int64))) (sx.2 (x3 + (3 : Int32)).toNatClampNeg) mem (fun r5 m4 => (vp_in (x3 + (1 : Int32)) sx.1 ∧ (vp_in (x3 + (2 : Int32)) sx.1 ∧ (vp_in (x3 + (3 : Int32)) sx.1 ∧ L_X10_feed ((((sx.2 (x3 + (1 : Int32)).toNatClampNeg).toInt64) <<< ((32 : Int32).toInt64 &&& 63)) ||| (((sx.2 (x3 + (2 : Int32)).toNatClampNeg).toInt64) &&& (4294967295 : Int64))) (sx.2 (x3 + (3 : Int32)).toNatClampNeg) m4 (fun r10 m9 => ((r5 = r10 → B_L_law_1481 sx X18 x3 m9 Q) ∧ (¬ r5 = r10 → Q (0 : Int32) m9))))))))))
set_option maxRecDepth 4000 in
theorem gB_L_law_544  {X18 : Int32 × MMt → Prop} {rf : RFt} {Q : Int32 → MMt → Prop} (sx : SXT) (hrf : RFok rf) (x3 : Int32) (hX18 : ∀ (rf : RFt) (x3 : Int32) (mem : MMt), RFok rf → X18 (x3, mem) → G sx yL_law cL_law 4 (some .boolean) 91 0 NX (QQi (RFok) Q) NX rf mem 18 [some (.ref 1008), some (.ref 0), some (.ref 76), some (.int x3)] []) (mem : MMt) (h : B_L_law_544 sx X18 x3 mem Q) : G sx yL_law cL_law 4 (some .boolean) 91 0 NX (QQi (RFok) Q) NX rf mem 544 [some (.ref 1008), some (.ref 0), some (.ref 76), some (.int x3)] [] := by
  unfold B_L_law_544 at h
  refine G_aload_n (i := 1) pL_law_544 rfl rfl ?_
  refine G_aload_n (i := 0) pL_law_545 rfl rfl ?_
  refine G_iload_n (i := 3) pL_law_546 rfl rfl ?_
  refine G_iconst pL_law_547 ic_1 ?_
  refine G_iadd pL_law_548 ?_
  obtain ⟨hi1, h⟩ := h
  refine G_sld pL_law_549 hi1 ?_
  refine G_i2l pL_law_550 ?_
  refine G_bipush pL_law_551 bi_32 ?_
  refine G_lshl pL_law_553 ?_
  refine G_aload_n (i := 0) pL_law_554 rfl rfl ?_
  refine G_iload_n (i := 3) pL_law_555 rfl rfl ?_
  refine G_iconst pL_law_556 ic_2 ?_
  refine G_iadd pL_law_557 ?_
  obtain ⟨hi2, h⟩ := h
  refine G_sld pL_law_558 hi2 ?_
  refine G_i2l pL_law_559 ?_
  refine G_ldc2 pL_law_560 rfl wcl_RL_55 ?_
  refine G_land pL_law_563 ?_
  refine G_lor pL_law_564 ?_
  refine G_aload_n (i := 0) pL_law_565 rfl rfl ?_
  refine G_iload_n (i := 3) pL_law_566 rfl rfl ?_
  refine G_iconst pL_law_567 ic_3 ?_
  refine G_iadd pL_law_568 ?_
  obtain ⟨hi3, h⟩ := h
  refine G_sld pL_law_569 hi3 ?_
  refine G_callV2i (b := 0) (ci := 9) (N := 12) pL_law_570 (g_X9_feed ((((sx.2 (x3 + (1 : Int32)).toNatClampNeg).toInt64) <<< ((32 : Int32).toInt64 &&& 63)) ||| (((sx.2 (x3 + (2 : Int32)).toNatClampNeg).toInt64) &&& (4294967295 : Int64))) (sx.2 (x3 + (3 : Int32)).toNatClampNeg) hrf _ h) mV_X9_feed ml_RL_57 (by decide) ⟨Nat.zero_le _, Nat.le_refl _, Nat.le_refl _⟩ (Nat.le_of_ble_eq_true rfl) ltk_0 shk_0 rfl ?_
  intro r5 rf m4 hrf h hr5
  refine G_aload_n (i := 2) pL_law_573 rfl rfl ?_
  refine G_aload_n (i := 0) pL_law_574 rfl rfl ?_
  refine G_iload_n (i := 3) pL_law_575 rfl rfl ?_
  refine G_iconst pL_law_576 ic_1 ?_
  refine G_iadd pL_law_577 ?_
  obtain ⟨hi6, h⟩ := h
  refine G_sld pL_law_578 hi6 ?_
  refine G_i2l pL_law_579 ?_
  refine G_bipush pL_law_580 bi_32 ?_
  refine G_lshl pL_law_582 ?_
  refine G_aload_n (i := 0) pL_law_583 rfl rfl ?_
  refine G_iload_n (i := 3) pL_law_584 rfl rfl ?_
  refine G_iconst pL_law_585 ic_2 ?_
  refine G_iadd pL_law_586 ?_
  obtain ⟨hi7, h⟩ := h
  refine G_sld pL_law_587 hi7 ?_
  refine G_i2l pL_law_588 ?_
  refine G_ldc2 pL_law_589 rfl wcl_RL_55 ?_
  refine G_land pL_law_592 ?_
  refine G_lor pL_law_593 ?_
  refine G_aload_n (i := 0) pL_law_594 rfl rfl ?_
  refine G_iload_n (i := 3) pL_law_595 rfl rfl ?_
  refine G_iconst pL_law_596 ic_3 ?_
  refine G_iadd pL_law_597 ?_
  obtain ⟨hi8, h⟩ := h
  refine G_sld pL_law_598 hi8 ?_
  refine G_callV2i (b := 76) (ci := 10) (N := 29) pL_law_599 (g_X10_feed ((((sx.2 (x3 + (1 : Int32)).toNatClampNeg).toInt64) <<< ((32 : Int32).toInt64 &&& 63)) ||| (((sx.2 (x3 + (2 : Int32)).toNatClampNeg).toInt64) &&& (4294967295 : Int64))) (sx.2 (x3 + (3 : Int32)).toNatClampNeg) hrf _ h) mV_X10_feed ml_RL_61 (by decide) ⟨Nat.zero_le _, Nat.le_refl _, Nat.le_refl _⟩ (Nat.le_of_ble_eq_true rfl) ltk_76 shk_76 rfl ?_
  intro r10 rf m9 hrf h hr10
  refine G_icmp_eq pL_law_602 (fun c11 => ?_) (fun c11 => ?_)
  · have h := h.1 c11
    exact gB_L_law_1481 sx hrf x3 hX18 _ h
  · have h := h.2 c11
    refine G_iconst pL_law_605 ic_0 ?_
    exact G_ireturn (len := 1) pL_law_606 ⟨hrf, _, rfl, h⟩ ⟨_, rfl, rfl⟩
def B_L_law_805 (sx : SXT) (X18 : Int32 × MMt → Prop) (x3 : Int32) (mem : MMt) (Q : Int32 → MMt → Prop) : Prop := L_X9_first mem (fun r2 m1 => L_X10_first m1 (fun r4 m3 => ((r2 = r4 → B_L_law_1481 sx X18 x3 m3 Q) ∧ (¬ r2 = r4 → Q (0 : Int32) m3))))
set_option maxRecDepth 4000 in
theorem gB_L_law_805  {X18 : Int32 × MMt → Prop} {rf : RFt} {Q : Int32 → MMt → Prop} (sx : SXT) (hrf : RFok rf) (x3 : Int32) (hX18 : ∀ (rf : RFt) (x3 : Int32) (mem : MMt), RFok rf → X18 (x3, mem) → G sx yL_law cL_law 4 (some .boolean) 91 0 NX (QQi (RFok) Q) NX rf mem 18 [some (.ref 1008), some (.ref 0), some (.ref 76), some (.int x3)] []) (mem : MMt) (h : B_L_law_805 sx X18 x3 mem Q) : G sx yL_law cL_law 4 (some .boolean) 91 0 NX (QQi (RFok) Q) NX rf mem 805 [some (.ref 1008), some (.ref 0), some (.ref 76), some (.int x3)] [] := by
  unfold B_L_law_805 at h
  refine G_aload_n (i := 1) pL_law_805 rfl rfl ?_
  refine G_callV0i (b := 0) (ci := 9) (N := 12) pL_law_806 (g_X9_first hrf _ h) mV_X9_first ml_RL_88 (by decide) ⟨Nat.zero_le _, Nat.le_refl _, Nat.le_refl _⟩ (Nat.le_of_ble_eq_true rfl) ltk_0 shk_0 rfl ?_
  intro r2 rf m1 hrf h hr2
  refine G_aload_n (i := 2) pL_law_809 rfl rfl ?_
  refine G_callV0i (b := 76) (ci := 10) (N := 29) pL_law_810 (g_X10_first hrf _ h) mV_X10_first ml_RL_92 (by decide) ⟨Nat.zero_le _, Nat.le_refl _, Nat.le_refl _⟩ (Nat.le_of_ble_eq_true rfl) ltk_76 shk_76 rfl ?_
  intro r4 rf m3 hrf h hr4
  refine G_icmp_eq pL_law_813 (fun c5 => ?_) (fun c5 => ?_)
  · have h := h.1 c5
    exact gB_L_law_1481 sx hrf x3 hX18 _ h
  · have h := h.2 c5
    refine G_iconst pL_law_816 ic_0 ?_
    exact G_ireturn (len := 1) pL_law_817 ⟨hrf, _, rfl, h⟩ ⟨_, rfl, rfl⟩
def B_L_law_937 (sx : SXT) (X18 : Int32 × MMt → Prop) (x3 : Int32) (mem : MMt) (Q : Int32 → MMt → Prop) : Prop := (vp_in (x3 + (1 : Int32)) sx.1 ∧ L_X9_lifts (sx.2 (x3 + (1 : Int32)).toNatClampNeg) mem (fun r3 m2 => (vp_in (x3 + (1 : Int32)) sx.1 ∧ L_X10_lifts (sx.2 (x3 + (1 : Int32)).toNatClampNeg) m2 (fun r6 m5 => ((r3 = r6 → B_L_law_1481 sx X18 x3 m5 Q) ∧ (¬ r3 = r6 → Q (0 : Int32) m5))))))
set_option maxRecDepth 4000 in
theorem gB_L_law_937  {X18 : Int32 × MMt → Prop} {rf : RFt} {Q : Int32 → MMt → Prop} (sx : SXT) (hrf : RFok rf) (x3 : Int32) (hX18 : ∀ (rf : RFt) (x3 : Int32) (mem : MMt), RFok rf → X18 (x3, mem) → G sx yL_law cL_law 4 (some .boolean) 91 0 NX (QQi (RFok) Q) NX rf mem 18 [some (.ref 1008), some (.ref 0), some (.ref 76), some (.int x3)] []) (mem : MMt) (h : B_L_law_937 sx X18 x3 mem Q) : G sx yL_law cL_law 4 (some .boolean) 91 0 NX (QQi (RFok) Q) NX rf mem 937 [some (.ref 1008), some (.ref 0), some (.ref 76), some (.int x3)] [] := by
  unfold B_L_law_937 at h
  refine G_aload_n (i := 1) pL_law_937 rfl rfl ?_
  refine G_aload_n (i := 0) pL_law_938 rfl rfl ?_
  refine G_iload_n (i := 3) pL_law_939 rfl rfl ?_
  refine G_iconst pL_law_940 ic_1 ?_
  refine G_iadd pL_law_941 ?_
  obtain ⟨hi1, h⟩ := h
  refine G_sld pL_law_942 hi1 ?_
  refine G_callV1i (b := 0) (ci := 9) (N := 12) pL_law_943 (g_X9_lifts (sx.2 (x3 + (1 : Int32)).toNatClampNeg) hrf _ h) mV_X9_lifts ml_RL_105 (by decide) ⟨Nat.zero_le _, Nat.le_refl _, Nat.le_refl _⟩ (Nat.le_of_ble_eq_true rfl) ltk_0 shk_0 rfl ?_
  intro r3 rf m2 hrf h hr3
  refine G_aload_n (i := 2) pL_law_946 rfl rfl ?_
  refine G_aload_n (i := 0) pL_law_947 rfl rfl ?_
  refine G_iload_n (i := 3) pL_law_948 rfl rfl ?_
  refine G_iconst pL_law_949 ic_1 ?_
  refine G_iadd pL_law_950 ?_
  obtain ⟨hi4, h⟩ := h
  refine G_sld pL_law_951 hi4 ?_
  refine G_callV1i (b := 76) (ci := 10) (N := 29) pL_law_952 (g_X10_lifts (sx.2 (x3 + (1 : Int32)).toNatClampNeg) hrf _ h) mV_X10_lifts ml_RL_108 (by decide) ⟨Nat.zero_le _, Nat.le_refl _, Nat.le_refl _⟩ (Nat.le_of_ble_eq_true rfl) ltk_76 shk_76 rfl ?_
  intro r6 rf m5 hrf h hr6
  refine G_icmp_eq pL_law_955 (fun c7 => ?_) (fun c7 => ?_)
  · have h := h.1 c7
    exact gB_L_law_1481 sx hrf x3 hX18 _ h
  · have h := h.2 c7
    refine G_iconst pL_law_958 ic_0 ?_
    exact G_ireturn (len := 1) pL_law_959 ⟨hrf, _, rfl, h⟩ ⟨_, rfl, rfl⟩
def B_L_law_683 (sx : SXT) (X18 : Int32 × MMt → Prop) (x3 : Int32) (mem : MMt) (Q : Int32 → MMt → Prop) : Prop := (vp_in (x3 + (1 : Int32)) sx.1 ∧ L_X9_steps (sx.2 (x3 + (1 : Int32)).toNatClampNeg) mem (fun r3 m2 => (vp_in (x3 + (1 : Int32)) sx.1 ∧ L_X10_steps (sx.2 (x3 + (1 : Int32)).toNatClampNeg) m2 (fun r6 m5 => ((r3 = r6 → B_L_law_1481 sx X18 x3 m5 Q) ∧ (¬ r3 = r6 → Q (0 : Int32) m5))))))
set_option maxRecDepth 4000 in
theorem gB_L_law_683  {X18 : Int32 × MMt → Prop} {rf : RFt} {Q : Int32 → MMt → Prop} (sx : SXT) (hrf : RFok rf) (x3 : Int32) (hX18 : ∀ (rf : RFt) (x3 : Int32) (mem : MMt), RFok rf → X18 (x3, mem) → G sx yL_law cL_law 4 (some .boolean) 91 0 NX (QQi (RFok) Q) NX rf mem 18 [some (.ref 1008), some (.ref 0), some (.ref 76), some (.int x3)] []) (mem : MMt) (h : B_L_law_683 sx X18 x3 mem Q) : G sx yL_law cL_law 4 (some .boolean) 91 0 NX (QQi (RFok) Q) NX rf mem 683 [some (.ref 1008), some (.ref 0), some (.ref 76), some (.int x3)] [] := by
  unfold B_L_law_683 at h
  refine G_aload_n (i := 1) pL_law_683 rfl rfl ?_
  refine G_aload_n (i := 0) pL_law_684 rfl rfl ?_
  refine G_iload_n (i := 3) pL_law_685 rfl rfl ?_
  refine G_iconst pL_law_686 ic_1 ?_
  refine G_iadd pL_law_687 ?_
  obtain ⟨hi1, h⟩ := h
  refine G_sld pL_law_688 hi1 ?_
  refine G_callV1i (b := 0) (ci := 9) (N := 12) pL_law_689 (g_X9_steps (sx.2 (x3 + (1 : Int32)).toNatClampNeg) hrf _ h) mV_X9_steps ml_RL_72 (by decide) ⟨Nat.zero_le _, Nat.le_refl _, Nat.le_refl _⟩ (Nat.le_of_ble_eq_true rfl) ltk_0 shk_0 rfl ?_
  intro r3 rf m2 hrf h hr3
  refine G_aload_n (i := 2) pL_law_692 rfl rfl ?_
  refine G_aload_n (i := 0) pL_law_693 rfl rfl ?_
  refine G_iload_n (i := 3) pL_law_694 rfl rfl ?_
  refine G_iconst pL_law_695 ic_1 ?_
  refine G_iadd pL_law_696 ?_
  obtain ⟨hi4, h⟩ := h
  refine G_sld pL_law_697 hi4 ?_
  refine G_callV1i (b := 76) (ci := 10) (N := 29) pL_law_698 (g_X10_steps (sx.2 (x3 + (1 : Int32)).toNatClampNeg) hrf _ h) mV_X10_steps ml_RL_75 (by decide) ⟨Nat.zero_le _, Nat.le_refl _, Nat.le_refl _⟩ (Nat.le_of_ble_eq_true rfl) ltk_76 shk_76 rfl ?_
  intro r6 rf m5 hrf h hr6
  refine G_icmp_eq pL_law_701 (fun c7 => ?_) (fun c7 => ?_)
  · have h := h.1 c7
    exact gB_L_law_1481 sx hrf x3 hX18 _ h
  · have h := h.2 c7
    refine G_iconst pL_law_704 ic_0 ?_
    exact G_ireturn (len := 1) pL_law_705 ⟨hrf, _, rfl, h⟩ ⟨_, rfl, rfl⟩
def B_L_law_303 (sx : SXT) (X18 : Int32 × MMt → Prop) (x3 : Int32) (mem : MMt) (Q : Int32 → MMt → Prop) : Prop := (vp_in (x3 + (1 : Int32)) sx.1 ∧ (vp_in (x3 + (2 : Int32)) sx.1 ∧ L_X9_as (sx.2 (x3 + (1 : Int32)).toNatClampNeg) (sx.2 (x3 + (2 : Int32)).toNatClampNeg) mem (fun r4 m3 => (vp_in (x3 + (1 : Int32)) sx.1 ∧ (vp_in (x3 + (2 : Int32)) sx.1 ∧ L_X10_as (sx.2 (x3 + (1 : Int32)).toNatClampNeg) (sx.2 (x3 + (2 : Int32)).toNatClampNeg) m3 (fun r8 m7 => ((r4 = r8 → B_L_law_1481 sx X18 x3 m7 Q) ∧ (¬ r4 = r8 → Q (0 : Int32) m7))))))))
set_option maxRecDepth 4000 in
theorem gB_L_law_303  {X18 : Int32 × MMt → Prop} {rf : RFt} {Q : Int32 → MMt → Prop} (sx : SXT) (hrf : RFok rf) (x3 : Int32) (hX18 : ∀ (rf : RFt) (x3 : Int32) (mem : MMt), RFok rf → X18 (x3, mem) → G sx yL_law cL_law 4 (some .boolean) 91 0 NX (QQi (RFok) Q) NX rf mem 18 [some (.ref 1008), some (.ref 0), some (.ref 76), some (.int x3)] []) (mem : MMt) (h : B_L_law_303 sx X18 x3 mem Q) : G sx yL_law cL_law 4 (some .boolean) 91 0 NX (QQi (RFok) Q) NX rf mem 303 [some (.ref 1008), some (.ref 0), some (.ref 76), some (.int x3)] [] := by
  unfold B_L_law_303 at h
  refine G_aload_n (i := 1) pL_law_303 rfl rfl ?_
  refine G_aload_n (i := 0) pL_law_304 rfl rfl ?_
  refine G_iload_n (i := 3) pL_law_305 rfl rfl ?_
  refine G_iconst pL_law_306 ic_1 ?_
  refine G_iadd pL_law_307 ?_
  obtain ⟨hi1, h⟩ := h
  refine G_sld pL_law_308 hi1 ?_
  refine G_aload_n (i := 0) pL_law_309 rfl rfl ?_
  refine G_iload_n (i := 3) pL_law_310 rfl rfl ?_
  refine G_iconst pL_law_311 ic_2 ?_
  refine G_iadd pL_law_312 ?_
  obtain ⟨hi2, h⟩ := h
  refine G_sld pL_law_313 hi2 ?_
  refine G_callV2i (b := 0) (ci := 9) (N := 12) pL_law_314 (g_X9_as (sx.2 (x3 + (1 : Int32)).toNatClampNeg) (sx.2 (x3 + (2 : Int32)).toNatClampNeg) hrf _ h) mV_X9_as ml_RL_26 (by decide) ⟨Nat.zero_le _, Nat.le_refl _, Nat.le_refl _⟩ (Nat.le_of_ble_eq_true rfl) ltk_0 shk_0 rfl ?_
  intro r4 rf m3 hrf h hr4
  refine G_aload_n (i := 2) pL_law_317 rfl rfl ?_
  refine G_aload_n (i := 0) pL_law_318 rfl rfl ?_
  refine G_iload_n (i := 3) pL_law_319 rfl rfl ?_
  refine G_iconst pL_law_320 ic_1 ?_
  refine G_iadd pL_law_321 ?_
  obtain ⟨hi5, h⟩ := h
  refine G_sld pL_law_322 hi5 ?_
  refine G_aload_n (i := 0) pL_law_323 rfl rfl ?_
  refine G_iload_n (i := 3) pL_law_324 rfl rfl ?_
  refine G_iconst pL_law_325 ic_2 ?_
  refine G_iadd pL_law_326 ?_
  obtain ⟨hi6, h⟩ := h
  refine G_sld pL_law_327 hi6 ?_
  refine G_callV2i (b := 76) (ci := 10) (N := 29) pL_law_328 (g_X10_as (sx.2 (x3 + (1 : Int32)).toNatClampNeg) (sx.2 (x3 + (2 : Int32)).toNatClampNeg) hrf _ h) mV_X10_as ml_RL_29 (by decide) ⟨Nat.zero_le _, Nat.le_refl _, Nat.le_refl _⟩ (Nat.le_of_ble_eq_true rfl) ltk_76 shk_76 rfl ?_
  intro r8 rf m7 hrf h hr8
  refine G_icmp_eq pL_law_331 (fun c9 => ?_) (fun c9 => ?_)
  · have h := h.1 c9
    exact gB_L_law_1481 sx hrf x3 hX18 _ h
  · have h := h.2 c9
    refine G_iconst pL_law_334 ic_0 ?_
    exact G_ireturn (len := 1) pL_law_335 ⟨hrf, _, rfl, h⟩ ⟨_, rfl, rfl⟩
def B_L_law_1327 (sx : SXT) (X18 : Int32 × MMt → Prop) (x3 : Int32) (mem : MMt) (Q : Int32 → MMt → Prop) : Prop := (vp_in (x3 + (1 : Int32)) sx.1 ∧ L_X9_pushes (sx.2 (x3 + (1 : Int32)).toNatClampNeg) mem (fun r3 m2 => (vp_in (x3 + (1 : Int32)) sx.1 ∧ L_X10_pushes (sx.2 (x3 + (1 : Int32)).toNatClampNeg) m2 (fun r6 m5 => ((r3 = r6 → B_L_law_1481 sx X18 x3 m5 Q) ∧ (¬ r3 = r6 → Q (0 : Int32) m5))))))
set_option maxRecDepth 4000 in
theorem gB_L_law_1327  {X18 : Int32 × MMt → Prop} {rf : RFt} {Q : Int32 → MMt → Prop} (sx : SXT) (hrf : RFok rf) (x3 : Int32) (hX18 : ∀ (rf : RFt) (x3 : Int32) (mem : MMt), RFok rf → X18 (x3, mem) → G sx yL_law cL_law 4 (some .boolean) 91 0 NX (QQi (RFok) Q) NX rf mem 18 [some (.ref 1008), some (.ref 0), some (.ref 76), some (.int x3)] []) (mem : MMt) (h : B_L_law_1327 sx X18 x3 mem Q) : G sx yL_law cL_law 4 (some .boolean) 91 0 NX (QQi (RFok) Q) NX rf mem 1327 [some (.ref 1008), some (.ref 0), some (.ref 76), some (.int x3)] [] := by
  unfold B_L_law_1327 at h
  refine G_aload_n (i := 1) pL_law_1327 rfl rfl ?_
  refine G_aload_n (i := 0) pL_law_1328 rfl rfl ?_
  refine G_iload_n (i := 3) pL_law_1329 rfl rfl ?_
  refine G_iconst pL_law_1330 ic_1 ?_
  refine G_iadd pL_law_1331 ?_
  obtain ⟨hi1, h⟩ := h
  refine G_sld pL_law_1332 hi1 ?_
  refine G_callV1i (b := 0) (ci := 9) (N := 12) pL_law_1333 (g_X9_pushes (sx.2 (x3 + (1 : Int32)).toNatClampNeg) hrf _ h) mV_X9_pushes ml_RL_146 (by decide) ⟨Nat.zero_le _, Nat.le_refl _, Nat.le_refl _⟩ (Nat.le_of_ble_eq_true rfl) ltk_0 shk_0 rfl ?_
  intro r3 rf m2 hrf h hr3
  refine G_aload_n (i := 2) pL_law_1336 rfl rfl ?_
  refine G_aload_n (i := 0) pL_law_1337 rfl rfl ?_
  refine G_iload_n (i := 3) pL_law_1338 rfl rfl ?_
  refine G_iconst pL_law_1339 ic_1 ?_
  refine G_iadd pL_law_1340 ?_
  obtain ⟨hi4, h⟩ := h
  refine G_sld pL_law_1341 hi4 ?_
  refine G_callV1i (b := 76) (ci := 10) (N := 29) pL_law_1342 (g_X10_pushes (sx.2 (x3 + (1 : Int32)).toNatClampNeg) hrf _ h) mV_X10_pushes ml_RL_149 (by decide) ⟨Nat.zero_le _, Nat.le_refl _, Nat.le_refl _⟩ (Nat.le_of_ble_eq_true rfl) ltk_76 shk_76 rfl ?_
  intro r6 rf m5 hrf h hr6
  refine G_icmp_eq pL_law_1345 (fun c7 => ?_) (fun c7 => ?_)
  · have h := h.1 c7
    exact gB_L_law_1481 sx hrf x3 hX18 _ h
  · have h := h.2 c7
    refine G_iconst pL_law_1348 ic_0 ?_
    exact G_ireturn (len := 1) pL_law_1349 ⟨hrf, _, rfl, h⟩ ⟨_, rfl, rfl⟩
def B_L_law_818 (sx : SXT) (X18 : Int32 × MMt → Prop) (x3 : Int32) (mem : MMt) (Q : Int32 → MMt → Prop) : Prop := (vp_in (x3 + (1 : Int32)) sx.1 ∧ (vp_in (x3 + (2 : Int32)) sx.1 ∧ (vp_in (x3 + (3 : Int32)) sx.1 ∧ L_X9_over (sx.2 (x3 + (1 : Int32)).toNatClampNeg) (sx.2 (x3 + (2 : Int32)).toNatClampNeg) (sx.2 (x3 + (3 : Int32)).toNatClampNeg) mem (fun r5 m4 => (vp_in (x3 + (1 : Int32)) sx.1 ∧ (vp_in (x3 + (2 : Int32)) sx.1 ∧ (vp_in (x3 + (3 : Int32)) sx.1 ∧ L_X10_over (sx.2 (x3 + (1 : Int32)).toNatClampNeg) (sx.2 (x3 + (2 : Int32)).toNatClampNeg) (sx.2 (x3 + (3 : Int32)).toNatClampNeg) m4 (fun r10 m9 => ((r5 = r10 → B_L_law_1481 sx X18 x3 m9 Q) ∧ (¬ r5 = r10 → Q (0 : Int32) m9))))))))))
set_option maxRecDepth 4000 in
theorem gB_L_law_818  {X18 : Int32 × MMt → Prop} {rf : RFt} {Q : Int32 → MMt → Prop} (sx : SXT) (hrf : RFok rf) (x3 : Int32) (hX18 : ∀ (rf : RFt) (x3 : Int32) (mem : MMt), RFok rf → X18 (x3, mem) → G sx yL_law cL_law 4 (some .boolean) 91 0 NX (QQi (RFok) Q) NX rf mem 18 [some (.ref 1008), some (.ref 0), some (.ref 76), some (.int x3)] []) (mem : MMt) (h : B_L_law_818 sx X18 x3 mem Q) : G sx yL_law cL_law 4 (some .boolean) 91 0 NX (QQi (RFok) Q) NX rf mem 818 [some (.ref 1008), some (.ref 0), some (.ref 76), some (.int x3)] [] := by
  unfold B_L_law_818 at h
  refine G_aload_n (i := 1) pL_law_818 rfl rfl ?_
  refine G_aload_n (i := 0) pL_law_819 rfl rfl ?_
  refine G_iload_n (i := 3) pL_law_820 rfl rfl ?_
  refine G_iconst pL_law_821 ic_1 ?_
  refine G_iadd pL_law_822 ?_
  obtain ⟨hi1, h⟩ := h
  refine G_sld pL_law_823 hi1 ?_
  refine G_aload_n (i := 0) pL_law_824 rfl rfl ?_
  refine G_iload_n (i := 3) pL_law_825 rfl rfl ?_
  refine G_iconst pL_law_826 ic_2 ?_
  refine G_iadd pL_law_827 ?_
  obtain ⟨hi2, h⟩ := h
  refine G_sld pL_law_828 hi2 ?_
  refine G_aload_n (i := 0) pL_law_829 rfl rfl ?_
  refine G_iload_n (i := 3) pL_law_830 rfl rfl ?_
  refine G_iconst pL_law_831 ic_3 ?_
  refine G_iadd pL_law_832 ?_
  obtain ⟨hi3, h⟩ := h
  refine G_sld pL_law_833 hi3 ?_
  refine G_callV3i (b := 0) (ci := 9) (N := 12) pL_law_834 (g_X9_over (sx.2 (x3 + (1 : Int32)).toNatClampNeg) (sx.2 (x3 + (2 : Int32)).toNatClampNeg) (sx.2 (x3 + (3 : Int32)).toNatClampNeg) hrf _ h) mV_X9_over ml_RL_93 (by decide) ⟨Nat.zero_le _, Nat.le_refl _, Nat.le_refl _⟩ (Nat.le_of_ble_eq_true rfl) ltk_0 shk_0 rfl ?_
  intro r5 rf m4 hrf h hr5
  refine G_aload_n (i := 2) pL_law_837 rfl rfl ?_
  refine G_aload_n (i := 0) pL_law_838 rfl rfl ?_
  refine G_iload_n (i := 3) pL_law_839 rfl rfl ?_
  refine G_iconst pL_law_840 ic_1 ?_
  refine G_iadd pL_law_841 ?_
  obtain ⟨hi6, h⟩ := h
  refine G_sld pL_law_842 hi6 ?_
  refine G_aload_n (i := 0) pL_law_843 rfl rfl ?_
  refine G_iload_n (i := 3) pL_law_844 rfl rfl ?_
  refine G_iconst pL_law_845 ic_2 ?_
  refine G_iadd pL_law_846 ?_
  obtain ⟨hi7, h⟩ := h
  refine G_sld pL_law_847 hi7 ?_
  refine G_aload_n (i := 0) pL_law_848 rfl rfl ?_
  refine G_iload_n (i := 3) pL_law_849 rfl rfl ?_
  refine G_iconst pL_law_850 ic_3 ?_
  refine G_iadd pL_law_851 ?_
  obtain ⟨hi8, h⟩ := h
  refine G_sld pL_law_852 hi8 ?_
  refine G_callV3i (b := 76) (ci := 10) (N := 29) pL_law_853 (g_X10_over (sx.2 (x3 + (1 : Int32)).toNatClampNeg) (sx.2 (x3 + (2 : Int32)).toNatClampNeg) (sx.2 (x3 + (3 : Int32)).toNatClampNeg) hrf _ h) mV_X10_over ml_RL_96 (by decide) ⟨Nat.zero_le _, Nat.le_refl _, Nat.le_refl _⟩ (Nat.le_of_ble_eq_true rfl) ltk_76 shk_76 rfl ?_
  intro r10 rf m9 hrf h hr10
  refine G_icmp_eq pL_law_856 (fun c11 => ?_) (fun c11 => ?_)
  · have h := h.1 c11
    exact gB_L_law_1481 sx hrf x3 hX18 _ h
  · have h := h.2 c11
    refine G_iconst pL_law_859 ic_0 ?_
    exact G_ireturn (len := 1) pL_law_860 ⟨hrf, _, rfl, h⟩ ⟨_, rfl, rfl⟩
def B_L_law_1458 (sx : SXT) (X18 : Int32 × MMt → Prop) (x3 : Int32) (mem : MMt) (Q : Int32 → MMt → Prop) : Prop := (vp_in (x3 + (1 : Int32)) sx.1 ∧ L_X9_told (sx.2 (x3 + (1 : Int32)).toNatClampNeg) mem (fun r3 m2 => (vp_in (x3 + (1 : Int32)) sx.1 ∧ L_X10_told (sx.2 (x3 + (1 : Int32)).toNatClampNeg) m2 (fun r6 m5 => ((r3 = r6 → B_L_law_1481 sx X18 x3 m5 Q) ∧ (¬ r3 = r6 → Q (0 : Int32) m5))))))
set_option maxRecDepth 4000 in
theorem gB_L_law_1458  {X18 : Int32 × MMt → Prop} {rf : RFt} {Q : Int32 → MMt → Prop} (sx : SXT) (hrf : RFok rf) (x3 : Int32) (hX18 : ∀ (rf : RFt) (x3 : Int32) (mem : MMt), RFok rf → X18 (x3, mem) → G sx yL_law cL_law 4 (some .boolean) 91 0 NX (QQi (RFok) Q) NX rf mem 18 [some (.ref 1008), some (.ref 0), some (.ref 76), some (.int x3)] []) (mem : MMt) (h : B_L_law_1458 sx X18 x3 mem Q) : G sx yL_law cL_law 4 (some .boolean) 91 0 NX (QQi (RFok) Q) NX rf mem 1458 [some (.ref 1008), some (.ref 0), some (.ref 76), some (.int x3)] [] := by
  unfold B_L_law_1458 at h
  refine G_aload_n (i := 1) pL_law_1458 rfl rfl ?_
  refine G_aload_n (i := 0) pL_law_1459 rfl rfl ?_
  refine G_iload_n (i := 3) pL_law_1460 rfl rfl ?_
  refine G_iconst pL_law_1461 ic_1 ?_
  refine G_iadd pL_law_1462 ?_
  obtain ⟨hi1, h⟩ := h
  refine G_sld pL_law_1463 hi1 ?_
  refine G_callV1i (b := 0) (ci := 9) (N := 12) pL_law_1464 (g_X9_told (sx.2 (x3 + (1 : Int32)).toNatClampNeg) hrf _ h) mV_X9_told ml_RL_174 (by decide) ⟨Nat.zero_le _, Nat.le_refl _, Nat.le_refl _⟩ (Nat.le_of_ble_eq_true rfl) ltk_0 shk_0 rfl ?_
  intro r3 rf m2 hrf h hr3
  refine G_aload_n (i := 2) pL_law_1467 rfl rfl ?_
  refine G_aload_n (i := 0) pL_law_1468 rfl rfl ?_
  refine G_iload_n (i := 3) pL_law_1469 rfl rfl ?_
  refine G_iconst pL_law_1470 ic_1 ?_
  refine G_iadd pL_law_1471 ?_
  obtain ⟨hi4, h⟩ := h
  refine G_sld pL_law_1472 hi4 ?_
  refine G_callV1i (b := 76) (ci := 10) (N := 29) pL_law_1473 (g_X10_told (sx.2 (x3 + (1 : Int32)).toNatClampNeg) hrf _ h) mV_X10_told ml_RL_177 (by decide) ⟨Nat.zero_le _, Nat.le_refl _, Nat.le_refl _⟩ (Nat.le_of_ble_eq_true rfl) ltk_76 shk_76 rfl ?_
  intro r6 rf m5 hrf h hr6
  refine G_icmp_eq pL_law_1476 (fun c7 => ?_) (fun c7 => ?_)
  · have h := h.1 c7
    exact gB_L_law_1481 sx hrf x3 hX18 _ h
  · have h := h.2 c7
    refine G_iconst pL_law_1479 ic_0 ?_
    exact G_ireturn (len := 1) pL_law_1480 ⟨hrf, _, rfl, h⟩ ⟨_, rfl, rfl⟩
def B_L_law_445 (sx : SXT) (X18 : Int32 × MMt → Prop) (x3 : Int32) (mem : MMt) (Q : Int32 → MMt → Prop) : Prop := (vp_in (x3 + (1 : Int32)) sx.1 ∧ (vp_in (x3 + (2 : Int32)) sx.1 ∧ L_X9_set (sx.2 (x3 + (1 : Int32)).toNatClampNeg) (sx.2 (x3 + (2 : Int32)).toNatClampNeg) mem (fun r4 m3 => (vp_in (x3 + (1 : Int32)) sx.1 ∧ (vp_in (x3 + (2 : Int32)) sx.1 ∧ L_X10_set (sx.2 (x3 + (1 : Int32)).toNatClampNeg) (sx.2 (x3 + (2 : Int32)).toNatClampNeg) m3 (fun r8 m7 => ((r4 = r8 → B_L_law_1481 sx X18 x3 m7 Q) ∧ (¬ r4 = r8 → Q (0 : Int32) m7))))))))
set_option maxRecDepth 4000 in
theorem gB_L_law_445  {X18 : Int32 × MMt → Prop} {rf : RFt} {Q : Int32 → MMt → Prop} (sx : SXT) (hrf : RFok rf) (x3 : Int32) (hX18 : ∀ (rf : RFt) (x3 : Int32) (mem : MMt), RFok rf → X18 (x3, mem) → G sx yL_law cL_law 4 (some .boolean) 91 0 NX (QQi (RFok) Q) NX rf mem 18 [some (.ref 1008), some (.ref 0), some (.ref 76), some (.int x3)] []) (mem : MMt) (h : B_L_law_445 sx X18 x3 mem Q) : G sx yL_law cL_law 4 (some .boolean) 91 0 NX (QQi (RFok) Q) NX rf mem 445 [some (.ref 1008), some (.ref 0), some (.ref 76), some (.int x3)] [] := by
  unfold B_L_law_445 at h
  refine G_aload_n (i := 1) pL_law_445 rfl rfl ?_
  refine G_aload_n (i := 0) pL_law_446 rfl rfl ?_
  refine G_iload_n (i := 3) pL_law_447 rfl rfl ?_
  refine G_iconst pL_law_448 ic_1 ?_
  refine G_iadd pL_law_449 ?_
  obtain ⟨hi1, h⟩ := h
  refine G_sld pL_law_450 hi1 ?_
  refine G_aload_n (i := 0) pL_law_451 rfl rfl ?_
  refine G_iload_n (i := 3) pL_law_452 rfl rfl ?_
  refine G_iconst pL_law_453 ic_2 ?_
  refine G_iadd pL_law_454 ?_
  obtain ⟨hi2, h⟩ := h
  refine G_sld pL_law_455 hi2 ?_
  refine G_callV2i (b := 0) (ci := 9) (N := 12) pL_law_456 (g_X9_set (sx.2 (x3 + (1 : Int32)).toNatClampNeg) (sx.2 (x3 + (2 : Int32)).toNatClampNeg) hrf _ h) mV_X9_set ml_RL_43 (by decide) ⟨Nat.zero_le _, Nat.le_refl _, Nat.le_refl _⟩ (Nat.le_of_ble_eq_true rfl) ltk_0 shk_0 rfl ?_
  intro r4 rf m3 hrf h hr4
  refine G_aload_n (i := 2) pL_law_459 rfl rfl ?_
  refine G_aload_n (i := 0) pL_law_460 rfl rfl ?_
  refine G_iload_n (i := 3) pL_law_461 rfl rfl ?_
  refine G_iconst pL_law_462 ic_1 ?_
  refine G_iadd pL_law_463 ?_
  obtain ⟨hi5, h⟩ := h
  refine G_sld pL_law_464 hi5 ?_
  refine G_aload_n (i := 0) pL_law_465 rfl rfl ?_
  refine G_iload_n (i := 3) pL_law_466 rfl rfl ?_
  refine G_iconst pL_law_467 ic_2 ?_
  refine G_iadd pL_law_468 ?_
  obtain ⟨hi6, h⟩ := h
  refine G_sld pL_law_469 hi6 ?_
  refine G_callV2i (b := 76) (ci := 10) (N := 29) pL_law_470 (g_X10_set (sx.2 (x3 + (1 : Int32)).toNatClampNeg) (sx.2 (x3 + (2 : Int32)).toNatClampNeg) hrf _ h) mV_X10_set ml_RL_46 (by decide) ⟨Nat.zero_le _, Nat.le_refl _, Nat.le_refl _⟩ (Nat.le_of_ble_eq_true rfl) ltk_76 shk_76 rfl ?_
  intro r8 rf m7 hrf h hr8
  refine G_icmp_eq pL_law_473 (fun c9 => ?_) (fun c9 => ?_)
  · have h := h.1 c9
    exact gB_L_law_1481 sx hrf x3 hX18 _ h
  · have h := h.2 c9
    refine G_iconst pL_law_476 ic_0 ?_
    exact G_ireturn (len := 1) pL_law_477 ⟨hrf, _, rfl, h⟩ ⟨_, rfl, rfl⟩
def B_L_law_960 (sx : SXT) (X18 : Int32 × MMt → Prop) (x3 : Int32) (mem : MMt) (Q : Int32 → MMt → Prop) : Prop := (vp_in (x3 + (1 : Int32)) sx.1 ∧ (vp_in (x3 + (2 : Int32)) sx.1 ∧ (vp_in (x3 + (3 : Int32)) sx.1 ∧ L_X9_rolled (sx.2 (x3 + (1 : Int32)).toNatClampNeg) (sx.2 (x3 + (2 : Int32)).toNatClampNeg) (sx.2 (x3 + (3 : Int32)).toNatClampNeg) mem (fun r5 m4 => (vp_in (x3 + (1 : Int32)) sx.1 ∧ (vp_in (x3 + (2 : Int32)) sx.1 ∧ (vp_in (x3 + (3 : Int32)) sx.1 ∧ L_X10_rolled (sx.2 (x3 + (1 : Int32)).toNatClampNeg) (sx.2 (x3 + (2 : Int32)).toNatClampNeg) (sx.2 (x3 + (3 : Int32)).toNatClampNeg) m4 (fun r10 m9 => ((r5 = r10 → B_L_law_1481 sx X18 x3 m9 Q) ∧ (¬ r5 = r10 → Q (0 : Int32) m9))))))))))
set_option maxRecDepth 4000 in
theorem gB_L_law_960  {X18 : Int32 × MMt → Prop} {rf : RFt} {Q : Int32 → MMt → Prop} (sx : SXT) (hrf : RFok rf) (x3 : Int32) (hX18 : ∀ (rf : RFt) (x3 : Int32) (mem : MMt), RFok rf → X18 (x3, mem) → G sx yL_law cL_law 4 (some .boolean) 91 0 NX (QQi (RFok) Q) NX rf mem 18 [some (.ref 1008), some (.ref 0), some (.ref 76), some (.int x3)] []) (mem : MMt) (h : B_L_law_960 sx X18 x3 mem Q) : G sx yL_law cL_law 4 (some .boolean) 91 0 NX (QQi (RFok) Q) NX rf mem 960 [some (.ref 1008), some (.ref 0), some (.ref 76), some (.int x3)] [] := by
  unfold B_L_law_960 at h
  refine G_aload_n (i := 1) pL_law_960 rfl rfl ?_
  refine G_aload_n (i := 0) pL_law_961 rfl rfl ?_
  refine G_iload_n (i := 3) pL_law_962 rfl rfl ?_
  refine G_iconst pL_law_963 ic_1 ?_
  refine G_iadd pL_law_964 ?_
  obtain ⟨hi1, h⟩ := h
  refine G_sld pL_law_965 hi1 ?_
  refine G_aload_n (i := 0) pL_law_966 rfl rfl ?_
  refine G_iload_n (i := 3) pL_law_967 rfl rfl ?_
  refine G_iconst pL_law_968 ic_2 ?_
  refine G_iadd pL_law_969 ?_
  obtain ⟨hi2, h⟩ := h
  refine G_sld pL_law_970 hi2 ?_
  refine G_aload_n (i := 0) pL_law_971 rfl rfl ?_
  refine G_iload_n (i := 3) pL_law_972 rfl rfl ?_
  refine G_iconst pL_law_973 ic_3 ?_
  refine G_iadd pL_law_974 ?_
  obtain ⟨hi3, h⟩ := h
  refine G_sld pL_law_975 hi3 ?_
  refine G_callV3i (b := 0) (ci := 9) (N := 12) pL_law_976 (g_X9_rolled (sx.2 (x3 + (1 : Int32)).toNatClampNeg) (sx.2 (x3 + (2 : Int32)).toNatClampNeg) (sx.2 (x3 + (3 : Int32)).toNatClampNeg) hrf _ h) mV_X9_rolled ml_RL_109 (by decide) ⟨Nat.zero_le _, Nat.le_refl _, Nat.le_refl _⟩ (Nat.le_of_ble_eq_true rfl) ltk_0 shk_0 rfl ?_
  intro r5 rf m4 hrf h hr5
  refine G_aload_n (i := 2) pL_law_979 rfl rfl ?_
  refine G_aload_n (i := 0) pL_law_980 rfl rfl ?_
  refine G_iload_n (i := 3) pL_law_981 rfl rfl ?_
  refine G_iconst pL_law_982 ic_1 ?_
  refine G_iadd pL_law_983 ?_
  obtain ⟨hi6, h⟩ := h
  refine G_sld pL_law_984 hi6 ?_
  refine G_aload_n (i := 0) pL_law_985 rfl rfl ?_
  refine G_iload_n (i := 3) pL_law_986 rfl rfl ?_
  refine G_iconst pL_law_987 ic_2 ?_
  refine G_iadd pL_law_988 ?_
  obtain ⟨hi7, h⟩ := h
  refine G_sld pL_law_989 hi7 ?_
  refine G_aload_n (i := 0) pL_law_990 rfl rfl ?_
  refine G_iload_n (i := 3) pL_law_991 rfl rfl ?_
  refine G_iconst pL_law_992 ic_3 ?_
  refine G_iadd pL_law_993 ?_
  obtain ⟨hi8, h⟩ := h
  refine G_sld pL_law_994 hi8 ?_
  refine G_callV3i (b := 76) (ci := 10) (N := 29) pL_law_995 (g_X10_rolled (sx.2 (x3 + (1 : Int32)).toNatClampNeg) (sx.2 (x3 + (2 : Int32)).toNatClampNeg) (sx.2 (x3 + (3 : Int32)).toNatClampNeg) hrf _ h) mV_X10_rolled ml_RL_112 (by decide) ⟨Nat.zero_le _, Nat.le_refl _, Nat.le_refl _⟩ (Nat.le_of_ble_eq_true rfl) ltk_76 shk_76 rfl ?_
  intro r10 rf m9 hrf h hr10
  refine G_icmp_eq pL_law_998 (fun c11 => ?_) (fun c11 => ?_)
  · have h := h.1 c11
    exact gB_L_law_1481 sx hrf x3 hX18 _ h
  · have h := h.2 c11
    refine G_iconst pL_law_1001 ic_0 ?_
    exact G_ireturn (len := 1) pL_law_1002 ⟨hrf, _, rfl, h⟩ ⟨_, rfl, rfl⟩
def B_L_law_1089 (sx : SXT) (X18 : Int32 × MMt → Prop) (x3 : Int32) (mem : MMt) (Q : Int32 → MMt → Prop) : Prop := (vp_in (x3 + (1 : Int32)) sx.1 ∧ L_X9_seed (sx.2 (x3 + (1 : Int32)).toNatClampNeg) mem (fun r3 m2 => (vp_in (x3 + (1 : Int32)) sx.1 ∧ L_X10_seed (sx.2 (x3 + (1 : Int32)).toNatClampNeg) m2 (fun r6 m5 => ((r3 = r6 → B_L_law_1481 sx X18 x3 m5 Q) ∧ (¬ r3 = r6 → Q (0 : Int32) m5))))))
set_option maxRecDepth 4000 in
theorem gB_L_law_1089  {X18 : Int32 × MMt → Prop} {rf : RFt} {Q : Int32 → MMt → Prop} (sx : SXT) (hrf : RFok rf) (x3 : Int32) (hX18 : ∀ (rf : RFt) (x3 : Int32) (mem : MMt), RFok rf → X18 (x3, mem) → G sx yL_law cL_law 4 (some .boolean) 91 0 NX (QQi (RFok) Q) NX rf mem 18 [some (.ref 1008), some (.ref 0), some (.ref 76), some (.int x3)] []) (mem : MMt) (h : B_L_law_1089 sx X18 x3 mem Q) : G sx yL_law cL_law 4 (some .boolean) 91 0 NX (QQi (RFok) Q) NX rf mem 1089 [some (.ref 1008), some (.ref 0), some (.ref 76), some (.int x3)] [] := by
  unfold B_L_law_1089 at h
  refine G_aload_n (i := 1) pL_law_1089 rfl rfl ?_
  refine G_aload_n (i := 0) pL_law_1090 rfl rfl ?_
  refine G_iload_n (i := 3) pL_law_1091 rfl rfl ?_
  refine G_iconst pL_law_1092 ic_1 ?_
  refine G_iadd pL_law_1093 ?_
  obtain ⟨hi1, h⟩ := h
  refine G_sld pL_law_1094 hi1 ?_
  refine G_callV1i (b := 0) (ci := 9) (N := 12) pL_law_1095 (g_X9_seed (sx.2 (x3 + (1 : Int32)).toNatClampNeg) hrf _ h) mV_X9_seed ml_RL_121 (by decide) ⟨Nat.zero_le _, Nat.le_refl _, Nat.le_refl _⟩ (Nat.le_of_ble_eq_true rfl) ltk_0 shk_0 rfl ?_
  intro r3 rf m2 hrf h hr3
  refine G_aload_n (i := 2) pL_law_1098 rfl rfl ?_
  refine G_aload_n (i := 0) pL_law_1099 rfl rfl ?_
  refine G_iload_n (i := 3) pL_law_1100 rfl rfl ?_
  refine G_iconst pL_law_1101 ic_1 ?_
  refine G_iadd pL_law_1102 ?_
  obtain ⟨hi4, h⟩ := h
  refine G_sld pL_law_1103 hi4 ?_
  refine G_callV1i (b := 76) (ci := 10) (N := 29) pL_law_1104 (g_X10_seed (sx.2 (x3 + (1 : Int32)).toNatClampNeg) hrf _ h) mV_X10_seed ml_RL_124 (by decide) ⟨Nat.zero_le _, Nat.le_refl _, Nat.le_refl _⟩ (Nat.le_of_ble_eq_true rfl) ltk_76 shk_76 rfl ?_
  intro r6 rf m5 hrf h hr6
  refine G_icmp_eq pL_law_1107 (fun c7 => ?_) (fun c7 => ?_)
  · have h := h.1 c7
    exact gB_L_law_1481 sx hrf x3 hX18 _ h
  · have h := h.2 c7
    refine G_iconst pL_law_1110 ic_0 ?_
    exact G_ireturn (len := 1) pL_law_1111 ⟨hrf, _, rfl, h⟩ ⟨_, rfl, rfl⟩
def B_L_law_706 (sx : SXT) (X18 : Int32 × MMt → Prop) (x3 : Int32) (mem : MMt) (Q : Int32 → MMt → Prop) : Prop := (vp_in (x3 + (1 : Int32)) sx.1 ∧ L_X9_loose (sx.2 (x3 + (1 : Int32)).toNatClampNeg) mem (fun r3 m2 => (vp_in (x3 + (1 : Int32)) sx.1 ∧ L_X10_loose (sx.2 (x3 + (1 : Int32)).toNatClampNeg) m2 (fun r6 m5 => ((r3 = r6 → B_L_law_1481 sx X18 x3 m5 Q) ∧ (¬ r3 = r6 → Q (0 : Int32) m5))))))
set_option maxRecDepth 4000 in
theorem gB_L_law_706  {X18 : Int32 × MMt → Prop} {rf : RFt} {Q : Int32 → MMt → Prop} (sx : SXT) (hrf : RFok rf) (x3 : Int32) (hX18 : ∀ (rf : RFt) (x3 : Int32) (mem : MMt), RFok rf → X18 (x3, mem) → G sx yL_law cL_law 4 (some .boolean) 91 0 NX (QQi (RFok) Q) NX rf mem 18 [some (.ref 1008), some (.ref 0), some (.ref 76), some (.int x3)] []) (mem : MMt) (h : B_L_law_706 sx X18 x3 mem Q) : G sx yL_law cL_law 4 (some .boolean) 91 0 NX (QQi (RFok) Q) NX rf mem 706 [some (.ref 1008), some (.ref 0), some (.ref 76), some (.int x3)] [] := by
  unfold B_L_law_706 at h
  refine G_aload_n (i := 1) pL_law_706 rfl rfl ?_
  refine G_aload_n (i := 0) pL_law_707 rfl rfl ?_
  refine G_iload_n (i := 3) pL_law_708 rfl rfl ?_
  refine G_iconst pL_law_709 ic_1 ?_
  refine G_iadd pL_law_710 ?_
  obtain ⟨hi1, h⟩ := h
  refine G_sld pL_law_711 hi1 ?_
  refine G_callV1i (b := 0) (ci := 9) (N := 12) pL_law_712 (g_X9_loose (sx.2 (x3 + (1 : Int32)).toNatClampNeg) hrf _ h) mV_X9_loose ml_RL_76 (by decide) ⟨Nat.zero_le _, Nat.le_refl _, Nat.le_refl _⟩ (Nat.le_of_ble_eq_true rfl) ltk_0 shk_0 rfl ?_
  intro r3 rf m2 hrf h hr3
  refine G_aload_n (i := 2) pL_law_715 rfl rfl ?_
  refine G_aload_n (i := 0) pL_law_716 rfl rfl ?_
  refine G_iload_n (i := 3) pL_law_717 rfl rfl ?_
  refine G_iconst pL_law_718 ic_1 ?_
  refine G_iadd pL_law_719 ?_
  obtain ⟨hi4, h⟩ := h
  refine G_sld pL_law_720 hi4 ?_
  refine G_callV1i (b := 76) (ci := 10) (N := 29) pL_law_721 (g_X10_loose (sx.2 (x3 + (1 : Int32)).toNatClampNeg) hrf _ h) mV_X10_loose ml_RL_79 (by decide) ⟨Nat.zero_le _, Nat.le_refl _, Nat.le_refl _⟩ (Nat.le_of_ble_eq_true rfl) ltk_76 shk_76 rfl ?_
  intro r6 rf m5 hrf h hr6
  refine G_icmp_eq pL_law_724 (fun c7 => ?_) (fun c7 => ?_)
  · have h := h.1 c7
    exact gB_L_law_1481 sx hrf x3 hX18 _ h
  · have h := h.2 c7
    refine G_iconst pL_law_727 ic_0 ?_
    exact G_ireturn (len := 1) pL_law_728 ⟨hrf, _, rfl, h⟩ ⟨_, rfl, rfl⟩
def B_L_law_1221 (sx : SXT) (X18 : Int32 × MMt → Prop) (x3 : Int32) (mem : MMt) (Q : Int32 → MMt → Prop) : Prop := (vp_in (x3 + (1 : Int32)) sx.1 ∧ (vp_in (x3 + (2 : Int32)) sx.1 ∧ (vp_in (x3 + (3 : Int32)) sx.1 ∧ L_X9_put (sx.2 (x3 + (1 : Int32)).toNatClampNeg) (sx.2 (x3 + (2 : Int32)).toNatClampNeg) (sx.2 (x3 + (3 : Int32)).toNatClampNeg) mem (fun r5 m4 => (vp_in (x3 + (1 : Int32)) sx.1 ∧ (vp_in (x3 + (2 : Int32)) sx.1 ∧ (vp_in (x3 + (3 : Int32)) sx.1 ∧ L_X10_put (sx.2 (x3 + (1 : Int32)).toNatClampNeg) (sx.2 (x3 + (2 : Int32)).toNatClampNeg) (sx.2 (x3 + (3 : Int32)).toNatClampNeg) m4 (fun r10 m9 => ((r5 = r10 → B_L_law_1481 sx X18 x3 m9 Q) ∧ (¬ r5 = r10 → Q (0 : Int32) m9))))))))))
set_option maxRecDepth 4000 in
theorem gB_L_law_1221  {X18 : Int32 × MMt → Prop} {rf : RFt} {Q : Int32 → MMt → Prop} (sx : SXT) (hrf : RFok rf) (x3 : Int32) (hX18 : ∀ (rf : RFt) (x3 : Int32) (mem : MMt), RFok rf → X18 (x3, mem) → G sx yL_law cL_law 4 (some .boolean) 91 0 NX (QQi (RFok) Q) NX rf mem 18 [some (.ref 1008), some (.ref 0), some (.ref 76), some (.int x3)] []) (mem : MMt) (h : B_L_law_1221 sx X18 x3 mem Q) : G sx yL_law cL_law 4 (some .boolean) 91 0 NX (QQi (RFok) Q) NX rf mem 1221 [some (.ref 1008), some (.ref 0), some (.ref 76), some (.int x3)] [] := by
  unfold B_L_law_1221 at h
  refine G_aload_n (i := 1) pL_law_1221 rfl rfl ?_
  refine G_aload_n (i := 0) pL_law_1222 rfl rfl ?_
  refine G_iload_n (i := 3) pL_law_1223 rfl rfl ?_
  refine G_iconst pL_law_1224 ic_1 ?_
  refine G_iadd pL_law_1225 ?_
  obtain ⟨hi1, h⟩ := h
  refine G_sld pL_law_1226 hi1 ?_
  refine G_aload_n (i := 0) pL_law_1227 rfl rfl ?_
  refine G_iload_n (i := 3) pL_law_1228 rfl rfl ?_
  refine G_iconst pL_law_1229 ic_2 ?_
  refine G_iadd pL_law_1230 ?_
  obtain ⟨hi2, h⟩ := h
  refine G_sld pL_law_1231 hi2 ?_
  refine G_aload_n (i := 0) pL_law_1232 rfl rfl ?_
  refine G_iload_n (i := 3) pL_law_1233 rfl rfl ?_
  refine G_iconst pL_law_1234 ic_3 ?_
  refine G_iadd pL_law_1235 ?_
  obtain ⟨hi3, h⟩ := h
  refine G_sld pL_law_1236 hi3 ?_
  refine G_callV3i (b := 0) (ci := 9) (N := 12) pL_law_1237 (g_X9_put (sx.2 (x3 + (1 : Int32)).toNatClampNeg) (sx.2 (x3 + (2 : Int32)).toNatClampNeg) (sx.2 (x3 + (3 : Int32)).toNatClampNeg) hrf _ h) mV_X9_put ml_RL_137 (by decide) ⟨Nat.zero_le _, Nat.le_refl _, Nat.le_refl _⟩ (Nat.le_of_ble_eq_true rfl) ltk_0 shk_0 rfl ?_
  intro r5 rf m4 hrf h hr5
  refine G_aload_n (i := 2) pL_law_1240 rfl rfl ?_
  refine G_aload_n (i := 0) pL_law_1241 rfl rfl ?_
  refine G_iload_n (i := 3) pL_law_1242 rfl rfl ?_
  refine G_iconst pL_law_1243 ic_1 ?_
  refine G_iadd pL_law_1244 ?_
  obtain ⟨hi6, h⟩ := h
  refine G_sld pL_law_1245 hi6 ?_
  refine G_aload_n (i := 0) pL_law_1246 rfl rfl ?_
  refine G_iload_n (i := 3) pL_law_1247 rfl rfl ?_
  refine G_iconst pL_law_1248 ic_2 ?_
  refine G_iadd pL_law_1249 ?_
  obtain ⟨hi7, h⟩ := h
  refine G_sld pL_law_1250 hi7 ?_
  refine G_aload_n (i := 0) pL_law_1251 rfl rfl ?_
  refine G_iload_n (i := 3) pL_law_1252 rfl rfl ?_
  refine G_iconst pL_law_1253 ic_3 ?_
  refine G_iadd pL_law_1254 ?_
  obtain ⟨hi8, h⟩ := h
  refine G_sld pL_law_1255 hi8 ?_
  refine G_callV3i (b := 76) (ci := 10) (N := 29) pL_law_1256 (g_X10_put (sx.2 (x3 + (1 : Int32)).toNatClampNeg) (sx.2 (x3 + (2 : Int32)).toNatClampNeg) (sx.2 (x3 + (3 : Int32)).toNatClampNeg) hrf _ h) mV_X10_put ml_RL_140 (by decide) ⟨Nat.zero_le _, Nat.le_refl _, Nat.le_refl _⟩ (Nat.le_of_ble_eq_true rfl) ltk_76 shk_76 rfl ?_
  intro r10 rf m9 hrf h hr10
  refine G_icmp_eq pL_law_1259 (fun c11 => ?_) (fun c11 => ?_)
  · have h := h.1 c11
    exact gB_L_law_1481 sx hrf x3 hX18 _ h
  · have h := h.2 c11
    refine G_iconst pL_law_1262 ic_0 ?_
    exact G_ireturn (len := 1) pL_law_1263 ⟨hrf, _, rfl, h⟩ ⟨_, rfl, rfl⟩
def B_L_law_1350 (sx : SXT) (X18 : Int32 × MMt → Prop) (x3 : Int32) (mem : MMt) (Q : Int32 → MMt → Prop) : Prop := (vp_in (x3 + (1 : Int32)) sx.1 ∧ L_X9_judge (sx.2 (x3 + (1 : Int32)).toNatClampNeg) mem (fun r3 m2 => (vp_in (x3 + (1 : Int32)) sx.1 ∧ L_X10_judge (sx.2 (x3 + (1 : Int32)).toNatClampNeg) m2 (fun r6 m5 => ((r3 = r6 → B_L_law_1481 sx X18 x3 m5 Q) ∧ (¬ r3 = r6 → Q (0 : Int32) m5))))))
set_option maxRecDepth 4000 in
theorem gB_L_law_1350  {X18 : Int32 × MMt → Prop} {rf : RFt} {Q : Int32 → MMt → Prop} (sx : SXT) (hrf : RFok rf) (x3 : Int32) (hX18 : ∀ (rf : RFt) (x3 : Int32) (mem : MMt), RFok rf → X18 (x3, mem) → G sx yL_law cL_law 4 (some .boolean) 91 0 NX (QQi (RFok) Q) NX rf mem 18 [some (.ref 1008), some (.ref 0), some (.ref 76), some (.int x3)] []) (mem : MMt) (h : B_L_law_1350 sx X18 x3 mem Q) : G sx yL_law cL_law 4 (some .boolean) 91 0 NX (QQi (RFok) Q) NX rf mem 1350 [some (.ref 1008), some (.ref 0), some (.ref 76), some (.int x3)] [] := by
  unfold B_L_law_1350 at h
  refine G_aload_n (i := 1) pL_law_1350 rfl rfl ?_
  refine G_aload_n (i := 0) pL_law_1351 rfl rfl ?_
  refine G_iload_n (i := 3) pL_law_1352 rfl rfl ?_
  refine G_iconst pL_law_1353 ic_1 ?_
  refine G_iadd pL_law_1354 ?_
  obtain ⟨hi1, h⟩ := h
  refine G_sld pL_law_1355 hi1 ?_
  refine G_callV1i (b := 0) (ci := 9) (N := 12) pL_law_1356 (g_X9_judge (sx.2 (x3 + (1 : Int32)).toNatClampNeg) hrf _ h) mV_X9_judge ml_RL_150 (by decide) ⟨Nat.zero_le _, Nat.le_refl _, Nat.le_refl _⟩ (Nat.le_of_ble_eq_true rfl) ltk_0 shk_0 rfl ?_
  intro r3 rf m2 hrf h hr3
  refine G_aload_n (i := 2) pL_law_1359 rfl rfl ?_
  refine G_aload_n (i := 0) pL_law_1360 rfl rfl ?_
  refine G_iload_n (i := 3) pL_law_1361 rfl rfl ?_
  refine G_iconst pL_law_1362 ic_1 ?_
  refine G_iadd pL_law_1363 ?_
  obtain ⟨hi4, h⟩ := h
  refine G_sld pL_law_1364 hi4 ?_
  refine G_callV1i (b := 76) (ci := 10) (N := 29) pL_law_1365 (g_X10_judge (sx.2 (x3 + (1 : Int32)).toNatClampNeg) hrf _ h) mV_X10_judge ml_RL_153 (by decide) ⟨Nat.zero_le _, Nat.le_refl _, Nat.le_refl _⟩ (Nat.le_of_ble_eq_true rfl) ltk_76 shk_76 rfl ?_
  intro r6 rf m5 hrf h hr6
  refine G_icmp_eq pL_law_1368 (fun c7 => ?_) (fun c7 => ?_)
  · have h := h.1 c7
    exact gB_L_law_1481 sx hrf x3 hX18 _ h
  · have h := h.2 c7
    refine G_iconst pL_law_1371 ic_0 ?_
    exact G_ireturn (len := 1) pL_law_1372 ⟨hrf, _, rfl, h⟩ ⟨_, rfl, rfl⟩
def B_L_law_204 (sx : SXT) (X18 : Int32 × MMt → Prop) (x3 : Int32) (mem : MMt) (Q : Int32 → MMt → Prop) : Prop := (vp_in (x3 + (1 : Int32)) sx.1 ∧ (vp_in (x3 + (2 : Int32)) sx.1 ∧ L_X9_good (sx.2 (x3 + (1 : Int32)).toNatClampNeg) (sx.2 (x3 + (2 : Int32)).toNatClampNeg) mem (fun r4 m3 => (vp_in (x3 + (1 : Int32)) sx.1 ∧ (vp_in (x3 + (2 : Int32)) sx.1 ∧ L_X10_good (sx.2 (x3 + (1 : Int32)).toNatClampNeg) (sx.2 (x3 + (2 : Int32)).toNatClampNeg) m3 (fun r8 m7 => ((r4 = r8 → B_L_law_1481 sx X18 x3 m7 Q) ∧ (¬ r4 = r8 → Q (0 : Int32) m7))))))))
set_option maxRecDepth 4000 in
theorem gB_L_law_204  {X18 : Int32 × MMt → Prop} {rf : RFt} {Q : Int32 → MMt → Prop} (sx : SXT) (hrf : RFok rf) (x3 : Int32) (hX18 : ∀ (rf : RFt) (x3 : Int32) (mem : MMt), RFok rf → X18 (x3, mem) → G sx yL_law cL_law 4 (some .boolean) 91 0 NX (QQi (RFok) Q) NX rf mem 18 [some (.ref 1008), some (.ref 0), some (.ref 76), some (.int x3)] []) (mem : MMt) (h : B_L_law_204 sx X18 x3 mem Q) : G sx yL_law cL_law 4 (some .boolean) 91 0 NX (QQi (RFok) Q) NX rf mem 204 [some (.ref 1008), some (.ref 0), some (.ref 76), some (.int x3)] [] := by
  unfold B_L_law_204 at h
  refine G_aload_n (i := 1) pL_law_204 rfl rfl ?_
  refine G_aload_n (i := 0) pL_law_205 rfl rfl ?_
  refine G_iload_n (i := 3) pL_law_206 rfl rfl ?_
  refine G_iconst pL_law_207 ic_1 ?_
  refine G_iadd pL_law_208 ?_
  obtain ⟨hi1, h⟩ := h
  refine G_sld pL_law_209 hi1 ?_
  refine G_aload_n (i := 0) pL_law_210 rfl rfl ?_
  refine G_iload_n (i := 3) pL_law_211 rfl rfl ?_
  refine G_iconst pL_law_212 ic_2 ?_
  refine G_iadd pL_law_213 ?_
  obtain ⟨hi2, h⟩ := h
  refine G_sld pL_law_214 hi2 ?_
  refine G_callV2i (b := 0) (ci := 9) (N := 12) pL_law_215 (g_X9_good (sx.2 (x3 + (1 : Int32)).toNatClampNeg) (sx.2 (x3 + (2 : Int32)).toNatClampNeg) hrf _ h) mV_X9_good ml_RL_13 (by decide) ⟨Nat.zero_le _, Nat.le_refl _, Nat.le_refl _⟩ (Nat.le_of_ble_eq_true rfl) ltk_0 shk_0 rfl ?_
  intro r4 rf m3 hrf h hr4
  refine G_aload_n (i := 2) pL_law_218 rfl rfl ?_
  refine G_aload_n (i := 0) pL_law_219 rfl rfl ?_
  refine G_iload_n (i := 3) pL_law_220 rfl rfl ?_
  refine G_iconst pL_law_221 ic_1 ?_
  refine G_iadd pL_law_222 ?_
  obtain ⟨hi5, h⟩ := h
  refine G_sld pL_law_223 hi5 ?_
  refine G_aload_n (i := 0) pL_law_224 rfl rfl ?_
  refine G_iload_n (i := 3) pL_law_225 rfl rfl ?_
  refine G_iconst pL_law_226 ic_2 ?_
  refine G_iadd pL_law_227 ?_
  obtain ⟨hi6, h⟩ := h
  refine G_sld pL_law_228 hi6 ?_
  refine G_callV2i (b := 76) (ci := 10) (N := 29) pL_law_229 (g_X10_good (sx.2 (x3 + (1 : Int32)).toNatClampNeg) (sx.2 (x3 + (2 : Int32)).toNatClampNeg) hrf _ h) mV_X10_good ml_RL_17 (by decide) ⟨Nat.zero_le _, Nat.le_refl _, Nat.le_refl _⟩ (Nat.le_of_ble_eq_true rfl) ltk_76 shk_76 rfl ?_
  intro r8 rf m7 hrf h hr8
  refine G_icmp_eq pL_law_232 (fun c9 => ?_) (fun c9 => ?_)
  · have h := h.1 c9
    exact gB_L_law_1481 sx hrf x3 hX18 _ h
  · have h := h.2 c9
    refine G_iconst pL_law_235 ic_0 ?_
    exact G_ireturn (len := 1) pL_law_236 ⟨hrf, _, rfl, h⟩ ⟨_, rfl, rfl⟩
def B_L_law_336 (sx : SXT) (X18 : Int32 × MMt → Prop) (x3 : Int32) (mem : MMt) (Q : Int32 → MMt → Prop) : Prop := (vp_in (x3 + (1 : Int32)) sx.1 ∧ (vp_in (x3 + (2 : Int32)) sx.1 ∧ L_X9_place (sx.2 (x3 + (1 : Int32)).toNatClampNeg) (sx.2 (x3 + (2 : Int32)).toNatClampNeg) mem (fun r4 m3 => (vp_in (x3 + (1 : Int32)) sx.1 ∧ (vp_in (x3 + (2 : Int32)) sx.1 ∧ L_X10_place (sx.2 (x3 + (1 : Int32)).toNatClampNeg) (sx.2 (x3 + (2 : Int32)).toNatClampNeg) m3 (fun r8 m7 => ((r4 = r8 → B_L_law_1481 sx X18 x3 m7 Q) ∧ (¬ r4 = r8 → Q (0 : Int32) m7))))))))
set_option maxRecDepth 4000 in
theorem gB_L_law_336  {X18 : Int32 × MMt → Prop} {rf : RFt} {Q : Int32 → MMt → Prop} (sx : SXT) (hrf : RFok rf) (x3 : Int32) (hX18 : ∀ (rf : RFt) (x3 : Int32) (mem : MMt), RFok rf → X18 (x3, mem) → G sx yL_law cL_law 4 (some .boolean) 91 0 NX (QQi (RFok) Q) NX rf mem 18 [some (.ref 1008), some (.ref 0), some (.ref 76), some (.int x3)] []) (mem : MMt) (h : B_L_law_336 sx X18 x3 mem Q) : G sx yL_law cL_law 4 (some .boolean) 91 0 NX (QQi (RFok) Q) NX rf mem 336 [some (.ref 1008), some (.ref 0), some (.ref 76), some (.int x3)] [] := by
  unfold B_L_law_336 at h
  refine G_aload_n (i := 1) pL_law_336 rfl rfl ?_
  refine G_aload_n (i := 0) pL_law_337 rfl rfl ?_
  refine G_iload_n (i := 3) pL_law_338 rfl rfl ?_
  refine G_iconst pL_law_339 ic_1 ?_
  refine G_iadd pL_law_340 ?_
  obtain ⟨hi1, h⟩ := h
  refine G_sld pL_law_341 hi1 ?_
  refine G_aload_n (i := 0) pL_law_342 rfl rfl ?_
  refine G_iload_n (i := 3) pL_law_343 rfl rfl ?_
  refine G_iconst pL_law_344 ic_2 ?_
  refine G_iadd pL_law_345 ?_
  obtain ⟨hi2, h⟩ := h
  refine G_sld pL_law_346 hi2 ?_
  refine G_callV2i (b := 0) (ci := 9) (N := 12) pL_law_347 (g_X9_place (sx.2 (x3 + (1 : Int32)).toNatClampNeg) (sx.2 (x3 + (2 : Int32)).toNatClampNeg) hrf _ h) mV_X9_place ml_RL_30 (by decide) ⟨Nat.zero_le _, Nat.le_refl _, Nat.le_refl _⟩ (Nat.le_of_ble_eq_true rfl) ltk_0 shk_0 rfl ?_
  intro r4 rf m3 hrf h hr4
  refine G_aload_n (i := 2) pL_law_350 rfl rfl ?_
  refine G_aload_n (i := 0) pL_law_351 rfl rfl ?_
  refine G_iload_n (i := 3) pL_law_352 rfl rfl ?_
  refine G_iconst pL_law_353 ic_1 ?_
  refine G_iadd pL_law_354 ?_
  obtain ⟨hi5, h⟩ := h
  refine G_sld pL_law_355 hi5 ?_
  refine G_aload_n (i := 0) pL_law_356 rfl rfl ?_
  refine G_iload_n (i := 3) pL_law_357 rfl rfl ?_
  refine G_iconst pL_law_358 ic_2 ?_
  refine G_iadd pL_law_359 ?_
  obtain ⟨hi6, h⟩ := h
  refine G_sld pL_law_360 hi6 ?_
  refine G_callV2i (b := 76) (ci := 10) (N := 29) pL_law_361 (g_X10_place (sx.2 (x3 + (1 : Int32)).toNatClampNeg) (sx.2 (x3 + (2 : Int32)).toNatClampNeg) hrf _ h) mV_X10_place ml_RL_33 (by decide) ⟨Nat.zero_le _, Nat.le_refl _, Nat.le_refl _⟩ (Nat.le_of_ble_eq_true rfl) ltk_76 shk_76 rfl ?_
  intro r8 rf m7 hrf h hr8
  refine G_icmp_eq pL_law_364 (fun c9 => ?_) (fun c9 => ?_)
  · have h := h.1 c9
    exact gB_L_law_1481 sx hrf x3 hX18 _ h
  · have h := h.2 c9
    refine G_iconst pL_law_367 ic_0 ?_
    exact G_ireturn (len := 1) pL_law_368 ⟨hrf, _, rfl, h⟩ ⟨_, rfl, rfl⟩
def B_L_law_1112 (sx : SXT) (X18 : Int32 × MMt → Prop) (x3 : Int32) (mem : MMt) (Q : Int32 → MMt → Prop) : Prop := (vp_in (x3 + (1 : Int32)) sx.1 ∧ (vp_in (x3 + (2 : Int32)) sx.1 ∧ (vp_in (x3 + (3 : Int32)) sx.1 ∧ L_X9_voice (sx.2 (x3 + (1 : Int32)).toNatClampNeg) (sx.2 (x3 + (2 : Int32)).toNatClampNeg) (sx.2 (x3 + (3 : Int32)).toNatClampNeg) mem (fun r5 m4 => (vp_in (x3 + (1 : Int32)) sx.1 ∧ (vp_in (x3 + (2 : Int32)) sx.1 ∧ (vp_in (x3 + (3 : Int32)) sx.1 ∧ L_X10_voice (sx.2 (x3 + (1 : Int32)).toNatClampNeg) (sx.2 (x3 + (2 : Int32)).toNatClampNeg) (sx.2 (x3 + (3 : Int32)).toNatClampNeg) m4 (fun r10 m9 => ((r5 = r10 → B_L_law_1481 sx X18 x3 m9 Q) ∧ (¬ r5 = r10 → Q (0 : Int32) m9))))))))))
set_option maxRecDepth 4000 in
theorem gB_L_law_1112  {X18 : Int32 × MMt → Prop} {rf : RFt} {Q : Int32 → MMt → Prop} (sx : SXT) (hrf : RFok rf) (x3 : Int32) (hX18 : ∀ (rf : RFt) (x3 : Int32) (mem : MMt), RFok rf → X18 (x3, mem) → G sx yL_law cL_law 4 (some .boolean) 91 0 NX (QQi (RFok) Q) NX rf mem 18 [some (.ref 1008), some (.ref 0), some (.ref 76), some (.int x3)] []) (mem : MMt) (h : B_L_law_1112 sx X18 x3 mem Q) : G sx yL_law cL_law 4 (some .boolean) 91 0 NX (QQi (RFok) Q) NX rf mem 1112 [some (.ref 1008), some (.ref 0), some (.ref 76), some (.int x3)] [] := by
  unfold B_L_law_1112 at h
  refine G_aload_n (i := 1) pL_law_1112 rfl rfl ?_
  refine G_aload_n (i := 0) pL_law_1113 rfl rfl ?_
  refine G_iload_n (i := 3) pL_law_1114 rfl rfl ?_
  refine G_iconst pL_law_1115 ic_1 ?_
  refine G_iadd pL_law_1116 ?_
  obtain ⟨hi1, h⟩ := h
  refine G_sld pL_law_1117 hi1 ?_
  refine G_aload_n (i := 0) pL_law_1118 rfl rfl ?_
  refine G_iload_n (i := 3) pL_law_1119 rfl rfl ?_
  refine G_iconst pL_law_1120 ic_2 ?_
  refine G_iadd pL_law_1121 ?_
  obtain ⟨hi2, h⟩ := h
  refine G_sld pL_law_1122 hi2 ?_
  refine G_aload_n (i := 0) pL_law_1123 rfl rfl ?_
  refine G_iload_n (i := 3) pL_law_1124 rfl rfl ?_
  refine G_iconst pL_law_1125 ic_3 ?_
  refine G_iadd pL_law_1126 ?_
  obtain ⟨hi3, h⟩ := h
  refine G_sld pL_law_1127 hi3 ?_
  refine G_callV3i (b := 0) (ci := 9) (N := 12) pL_law_1128 (g_X9_voice (sx.2 (x3 + (1 : Int32)).toNatClampNeg) (sx.2 (x3 + (2 : Int32)).toNatClampNeg) (sx.2 (x3 + (3 : Int32)).toNatClampNeg) hrf _ h) mV_X9_voice ml_RL_125 (by decide) ⟨Nat.zero_le _, Nat.le_refl _, Nat.le_refl _⟩ (Nat.le_of_ble_eq_true rfl) ltk_0 shk_0 rfl ?_
  intro r5 rf m4 hrf h hr5
  refine G_aload_n (i := 2) pL_law_1131 rfl rfl ?_
  refine G_aload_n (i := 0) pL_law_1132 rfl rfl ?_
  refine G_iload_n (i := 3) pL_law_1133 rfl rfl ?_
  refine G_iconst pL_law_1134 ic_1 ?_
  refine G_iadd pL_law_1135 ?_
  obtain ⟨hi6, h⟩ := h
  refine G_sld pL_law_1136 hi6 ?_
  refine G_aload_n (i := 0) pL_law_1137 rfl rfl ?_
  refine G_iload_n (i := 3) pL_law_1138 rfl rfl ?_
  refine G_iconst pL_law_1139 ic_2 ?_
  refine G_iadd pL_law_1140 ?_
  obtain ⟨hi7, h⟩ := h
  refine G_sld pL_law_1141 hi7 ?_
  refine G_aload_n (i := 0) pL_law_1142 rfl rfl ?_
  refine G_iload_n (i := 3) pL_law_1143 rfl rfl ?_
  refine G_iconst pL_law_1144 ic_3 ?_
  refine G_iadd pL_law_1145 ?_
  obtain ⟨hi8, h⟩ := h
  refine G_sld pL_law_1146 hi8 ?_
  refine G_callV3i (b := 76) (ci := 10) (N := 29) pL_law_1147 (g_X10_voice (sx.2 (x3 + (1 : Int32)).toNatClampNeg) (sx.2 (x3 + (2 : Int32)).toNatClampNeg) (sx.2 (x3 + (3 : Int32)).toNatClampNeg) hrf _ h) mV_X10_voice ml_RL_128 (by decide) ⟨Nat.zero_le _, Nat.le_refl _, Nat.le_refl _⟩ (Nat.le_of_ble_eq_true rfl) ltk_76 shk_76 rfl ?_
  intro r10 rf m9 hrf h hr10
  refine G_icmp_eq pL_law_1150 (fun c11 => ?_) (fun c11 => ?_)
  · have h := h.1 c11
    exact gB_L_law_1481 sx hrf x3 hX18 _ h
  · have h := h.2 c11
    refine G_iconst pL_law_1153 ic_0 ?_
    exact G_ireturn (len := 1) pL_law_1154 ⟨hrf, _, rfl, h⟩ ⟨_, rfl, rfl⟩
def B_L_law_729 (sx : SXT) (X18 : Int32 × MMt → Prop) (x3 : Int32) (mem : MMt) (Q : Int32 → MMt → Prop) : Prop := (vp_in (x3 + (1 : Int32)) sx.1 ∧ (vp_in (x3 + (2 : Int32)) sx.1 ∧ (vp_in (x3 + (3 : Int32)) sx.1 ∧ L_X9_then (sx.2 (x3 + (1 : Int32)).toNatClampNeg) (sx.2 (x3 + (2 : Int32)).toNatClampNeg) (sx.2 (x3 + (3 : Int32)).toNatClampNeg) mem (fun r5 m4 => (vp_in (x3 + (1 : Int32)) sx.1 ∧ (vp_in (x3 + (2 : Int32)) sx.1 ∧ (vp_in (x3 + (3 : Int32)) sx.1 ∧ L_X10_then (sx.2 (x3 + (1 : Int32)).toNatClampNeg) (sx.2 (x3 + (2 : Int32)).toNatClampNeg) (sx.2 (x3 + (3 : Int32)).toNatClampNeg) m4 (fun r10 m9 => ((r5 = r10 → B_L_law_1481 sx X18 x3 m9 Q) ∧ (¬ r5 = r10 → Q (0 : Int32) m9))))))))))
set_option maxRecDepth 4000 in
theorem gB_L_law_729  {X18 : Int32 × MMt → Prop} {rf : RFt} {Q : Int32 → MMt → Prop} (sx : SXT) (hrf : RFok rf) (x3 : Int32) (hX18 : ∀ (rf : RFt) (x3 : Int32) (mem : MMt), RFok rf → X18 (x3, mem) → G sx yL_law cL_law 4 (some .boolean) 91 0 NX (QQi (RFok) Q) NX rf mem 18 [some (.ref 1008), some (.ref 0), some (.ref 76), some (.int x3)] []) (mem : MMt) (h : B_L_law_729 sx X18 x3 mem Q) : G sx yL_law cL_law 4 (some .boolean) 91 0 NX (QQi (RFok) Q) NX rf mem 729 [some (.ref 1008), some (.ref 0), some (.ref 76), some (.int x3)] [] := by
  unfold B_L_law_729 at h
  refine G_aload_n (i := 1) pL_law_729 rfl rfl ?_
  refine G_aload_n (i := 0) pL_law_730 rfl rfl ?_
  refine G_iload_n (i := 3) pL_law_731 rfl rfl ?_
  refine G_iconst pL_law_732 ic_1 ?_
  refine G_iadd pL_law_733 ?_
  obtain ⟨hi1, h⟩ := h
  refine G_sld pL_law_734 hi1 ?_
  refine G_aload_n (i := 0) pL_law_735 rfl rfl ?_
  refine G_iload_n (i := 3) pL_law_736 rfl rfl ?_
  refine G_iconst pL_law_737 ic_2 ?_
  refine G_iadd pL_law_738 ?_
  obtain ⟨hi2, h⟩ := h
  refine G_sld pL_law_739 hi2 ?_
  refine G_aload_n (i := 0) pL_law_740 rfl rfl ?_
  refine G_iload_n (i := 3) pL_law_741 rfl rfl ?_
  refine G_iconst pL_law_742 ic_3 ?_
  refine G_iadd pL_law_743 ?_
  obtain ⟨hi3, h⟩ := h
  refine G_sld pL_law_744 hi3 ?_
  refine G_callV3i (b := 0) (ci := 9) (N := 12) pL_law_745 (g_X9_then (sx.2 (x3 + (1 : Int32)).toNatClampNeg) (sx.2 (x3 + (2 : Int32)).toNatClampNeg) (sx.2 (x3 + (3 : Int32)).toNatClampNeg) hrf _ h) mV_X9_then ml_RL_80 (by decide) ⟨Nat.zero_le _, Nat.le_refl _, Nat.le_refl _⟩ (Nat.le_of_ble_eq_true rfl) ltk_0 shk_0 rfl ?_
  intro r5 rf m4 hrf h hr5
  refine G_aload_n (i := 2) pL_law_748 rfl rfl ?_
  refine G_aload_n (i := 0) pL_law_749 rfl rfl ?_
  refine G_iload_n (i := 3) pL_law_750 rfl rfl ?_
  refine G_iconst pL_law_751 ic_1 ?_
  refine G_iadd pL_law_752 ?_
  obtain ⟨hi6, h⟩ := h
  refine G_sld pL_law_753 hi6 ?_
  refine G_aload_n (i := 0) pL_law_754 rfl rfl ?_
  refine G_iload_n (i := 3) pL_law_755 rfl rfl ?_
  refine G_iconst pL_law_756 ic_2 ?_
  refine G_iadd pL_law_757 ?_
  obtain ⟨hi7, h⟩ := h
  refine G_sld pL_law_758 hi7 ?_
  refine G_aload_n (i := 0) pL_law_759 rfl rfl ?_
  refine G_iload_n (i := 3) pL_law_760 rfl rfl ?_
  refine G_iconst pL_law_761 ic_3 ?_
  refine G_iadd pL_law_762 ?_
  obtain ⟨hi8, h⟩ := h
  refine G_sld pL_law_763 hi8 ?_
  refine G_callV3i (b := 76) (ci := 10) (N := 29) pL_law_764 (g_X10_then (sx.2 (x3 + (1 : Int32)).toNatClampNeg) (sx.2 (x3 + (2 : Int32)).toNatClampNeg) (sx.2 (x3 + (3 : Int32)).toNatClampNeg) hrf _ h) mV_X10_then ml_RL_83 (by decide) ⟨Nat.zero_le _, Nat.le_refl _, Nat.le_refl _⟩ (Nat.le_of_ble_eq_true rfl) ltk_76 shk_76 rfl ?_
  intro r10 rf m9 hrf h hr10
  refine G_icmp_eq pL_law_767 (fun c11 => ?_) (fun c11 => ?_)
  · have h := h.1 c11
    exact gB_L_law_1481 sx hrf x3 hX18 _ h
  · have h := h.2 c11
    refine G_iconst pL_law_770 ic_0 ?_
    exact G_ireturn (len := 1) pL_law_771 ⟨hrf, _, rfl, h⟩ ⟨_, rfl, rfl⟩
def B_L_law_861 (sx : SXT) (X18 : Int32 × MMt → Prop) (x3 : Int32) (mem : MMt) (Q : Int32 → MMt → Prop) : Prop := (vp_in (x3 + (1 : Int32)) sx.1 ∧ (vp_in (x3 + (2 : Int32)) sx.1 ∧ (vp_in (x3 + (3 : Int32)) sx.1 ∧ L_X9_soonest (sx.2 (x3 + (1 : Int32)).toNatClampNeg) (sx.2 (x3 + (2 : Int32)).toNatClampNeg) (sx.2 (x3 + (3 : Int32)).toNatClampNeg) mem (fun r5 m4 => (vp_in (x3 + (1 : Int32)) sx.1 ∧ (vp_in (x3 + (2 : Int32)) sx.1 ∧ (vp_in (x3 + (3 : Int32)) sx.1 ∧ L_X10_soonest (sx.2 (x3 + (1 : Int32)).toNatClampNeg) (sx.2 (x3 + (2 : Int32)).toNatClampNeg) (sx.2 (x3 + (3 : Int32)).toNatClampNeg) m4 (fun r10 m9 => ((r5 = r10 → B_L_law_1481 sx X18 x3 m9 Q) ∧ (¬ r5 = r10 → Q (0 : Int32) m9))))))))))
set_option maxRecDepth 4000 in
theorem gB_L_law_861  {X18 : Int32 × MMt → Prop} {rf : RFt} {Q : Int32 → MMt → Prop} (sx : SXT) (hrf : RFok rf) (x3 : Int32) (hX18 : ∀ (rf : RFt) (x3 : Int32) (mem : MMt), RFok rf → X18 (x3, mem) → G sx yL_law cL_law 4 (some .boolean) 91 0 NX (QQi (RFok) Q) NX rf mem 18 [some (.ref 1008), some (.ref 0), some (.ref 76), some (.int x3)] []) (mem : MMt) (h : B_L_law_861 sx X18 x3 mem Q) : G sx yL_law cL_law 4 (some .boolean) 91 0 NX (QQi (RFok) Q) NX rf mem 861 [some (.ref 1008), some (.ref 0), some (.ref 76), some (.int x3)] [] := by
  unfold B_L_law_861 at h
  refine G_aload_n (i := 1) pL_law_861 rfl rfl ?_
  refine G_aload_n (i := 0) pL_law_862 rfl rfl ?_
  refine G_iload_n (i := 3) pL_law_863 rfl rfl ?_
  refine G_iconst pL_law_864 ic_1 ?_
  refine G_iadd pL_law_865 ?_
  obtain ⟨hi1, h⟩ := h
  refine G_sld pL_law_866 hi1 ?_
  refine G_aload_n (i := 0) pL_law_867 rfl rfl ?_
  refine G_iload_n (i := 3) pL_law_868 rfl rfl ?_
  refine G_iconst pL_law_869 ic_2 ?_
  refine G_iadd pL_law_870 ?_
  obtain ⟨hi2, h⟩ := h
  refine G_sld pL_law_871 hi2 ?_
  refine G_aload_n (i := 0) pL_law_872 rfl rfl ?_
  refine G_iload_n (i := 3) pL_law_873 rfl rfl ?_
  refine G_iconst pL_law_874 ic_3 ?_
  refine G_iadd pL_law_875 ?_
  obtain ⟨hi3, h⟩ := h
  refine G_sld pL_law_876 hi3 ?_
  refine G_callV3i (b := 0) (ci := 9) (N := 12) pL_law_877 (g_X9_soonest (sx.2 (x3 + (1 : Int32)).toNatClampNeg) (sx.2 (x3 + (2 : Int32)).toNatClampNeg) (sx.2 (x3 + (3 : Int32)).toNatClampNeg) hrf _ h) mV_X9_soonest ml_RL_97 (by decide) ⟨Nat.zero_le _, Nat.le_refl _, Nat.le_refl _⟩ (Nat.le_of_ble_eq_true rfl) ltk_0 shk_0 rfl ?_
  intro r5 rf m4 hrf h hr5
  refine G_aload_n (i := 2) pL_law_880 rfl rfl ?_
  refine G_aload_n (i := 0) pL_law_881 rfl rfl ?_
  refine G_iload_n (i := 3) pL_law_882 rfl rfl ?_
  refine G_iconst pL_law_883 ic_1 ?_
  refine G_iadd pL_law_884 ?_
  obtain ⟨hi6, h⟩ := h
  refine G_sld pL_law_885 hi6 ?_
  refine G_aload_n (i := 0) pL_law_886 rfl rfl ?_
  refine G_iload_n (i := 3) pL_law_887 rfl rfl ?_
  refine G_iconst pL_law_888 ic_2 ?_
  refine G_iadd pL_law_889 ?_
  obtain ⟨hi7, h⟩ := h
  refine G_sld pL_law_890 hi7 ?_
  refine G_aload_n (i := 0) pL_law_891 rfl rfl ?_
  refine G_iload_n (i := 3) pL_law_892 rfl rfl ?_
  refine G_iconst pL_law_893 ic_3 ?_
  refine G_iadd pL_law_894 ?_
  obtain ⟨hi8, h⟩ := h
  refine G_sld pL_law_895 hi8 ?_
  refine G_callV3i (b := 76) (ci := 10) (N := 29) pL_law_896 (g_X10_soonest (sx.2 (x3 + (1 : Int32)).toNatClampNeg) (sx.2 (x3 + (2 : Int32)).toNatClampNeg) (sx.2 (x3 + (3 : Int32)).toNatClampNeg) hrf _ h) mV_X10_soonest ml_RL_100 (by decide) ⟨Nat.zero_le _, Nat.le_refl _, Nat.le_refl _⟩ (Nat.le_of_ble_eq_true rfl) ltk_76 shk_76 rfl ?_
  intro r10 rf m9 hrf h hr10
  refine G_icmp_eq pL_law_899 (fun c11 => ?_) (fun c11 => ?_)
  · have h := h.1 c11
    exact gB_L_law_1481 sx hrf x3 hX18 _ h
  · have h := h.2 c11
    refine G_iconst pL_law_902 ic_0 ?_
    exact G_ireturn (len := 1) pL_law_903 ⟨hrf, _, rfl, h⟩ ⟨_, rfl, rfl⟩
def B_L_law_478 (sx : SXT) (X18 : Int32 × MMt → Prop) (x3 : Int32) (mem : MMt) (Q : Int32 → MMt → Prop) : Prop := (vp_in (x3 + (1 : Int32)) sx.1 ∧ (vp_in (x3 + (2 : Int32)) sx.1 ∧ L_X9_door (sx.2 (x3 + (1 : Int32)).toNatClampNeg) (sx.2 (x3 + (2 : Int32)).toNatClampNeg) mem (fun r4 m3 => (vp_in (x3 + (1 : Int32)) sx.1 ∧ (vp_in (x3 + (2 : Int32)) sx.1 ∧ L_X10_door (sx.2 (x3 + (1 : Int32)).toNatClampNeg) (sx.2 (x3 + (2 : Int32)).toNatClampNeg) m3 (fun r8 m7 => ((r4 = r8 → B_L_law_1481 sx X18 x3 m7 Q) ∧ (¬ r4 = r8 → Q (0 : Int32) m7))))))))
set_option maxRecDepth 4000 in
theorem gB_L_law_478  {X18 : Int32 × MMt → Prop} {rf : RFt} {Q : Int32 → MMt → Prop} (sx : SXT) (hrf : RFok rf) (x3 : Int32) (hX18 : ∀ (rf : RFt) (x3 : Int32) (mem : MMt), RFok rf → X18 (x3, mem) → G sx yL_law cL_law 4 (some .boolean) 91 0 NX (QQi (RFok) Q) NX rf mem 18 [some (.ref 1008), some (.ref 0), some (.ref 76), some (.int x3)] []) (mem : MMt) (h : B_L_law_478 sx X18 x3 mem Q) : G sx yL_law cL_law 4 (some .boolean) 91 0 NX (QQi (RFok) Q) NX rf mem 478 [some (.ref 1008), some (.ref 0), some (.ref 76), some (.int x3)] [] := by
  unfold B_L_law_478 at h
  refine G_aload_n (i := 1) pL_law_478 rfl rfl ?_
  refine G_aload_n (i := 0) pL_law_479 rfl rfl ?_
  refine G_iload_n (i := 3) pL_law_480 rfl rfl ?_
  refine G_iconst pL_law_481 ic_1 ?_
  refine G_iadd pL_law_482 ?_
  obtain ⟨hi1, h⟩ := h
  refine G_sld pL_law_483 hi1 ?_
  refine G_aload_n (i := 0) pL_law_484 rfl rfl ?_
  refine G_iload_n (i := 3) pL_law_485 rfl rfl ?_
  refine G_iconst pL_law_486 ic_2 ?_
  refine G_iadd pL_law_487 ?_
  obtain ⟨hi2, h⟩ := h
  refine G_sld pL_law_488 hi2 ?_
  refine G_callV2i (b := 0) (ci := 9) (N := 12) pL_law_489 (g_X9_door (sx.2 (x3 + (1 : Int32)).toNatClampNeg) (sx.2 (x3 + (2 : Int32)).toNatClampNeg) hrf _ h) mV_X9_door ml_RL_47 (by decide) ⟨Nat.zero_le _, Nat.le_refl _, Nat.le_refl _⟩ (Nat.le_of_ble_eq_true rfl) ltk_0 shk_0 rfl ?_
  intro r4 rf m3 hrf h hr4
  refine G_aload_n (i := 2) pL_law_492 rfl rfl ?_
  refine G_aload_n (i := 0) pL_law_493 rfl rfl ?_
  refine G_iload_n (i := 3) pL_law_494 rfl rfl ?_
  refine G_iconst pL_law_495 ic_1 ?_
  refine G_iadd pL_law_496 ?_
  obtain ⟨hi5, h⟩ := h
  refine G_sld pL_law_497 hi5 ?_
  refine G_aload_n (i := 0) pL_law_498 rfl rfl ?_
  refine G_iload_n (i := 3) pL_law_499 rfl rfl ?_
  refine G_iconst pL_law_500 ic_2 ?_
  refine G_iadd pL_law_501 ?_
  obtain ⟨hi6, h⟩ := h
  refine G_sld pL_law_502 hi6 ?_
  refine G_callV2i (b := 76) (ci := 10) (N := 29) pL_law_503 (g_X10_door (sx.2 (x3 + (1 : Int32)).toNatClampNeg) (sx.2 (x3 + (2 : Int32)).toNatClampNeg) hrf _ h) mV_X10_door ml_RL_50 (by decide) ⟨Nat.zero_le _, Nat.le_refl _, Nat.le_refl _⟩ (Nat.le_of_ble_eq_true rfl) ltk_76 shk_76 rfl ?_
  intro r8 rf m7 hrf h hr8
  refine G_icmp_eq pL_law_506 (fun c9 => ?_) (fun c9 => ?_)
  · have h := h.1 c9
    exact gB_L_law_1481 sx hrf x3 hX18 _ h
  · have h := h.2 c9
    refine G_iconst pL_law_509 ic_0 ?_
    exact G_ireturn (len := 1) pL_law_510 ⟨hrf, _, rfl, h⟩ ⟨_, rfl, rfl⟩
def B_L_law_607 (sx : SXT) (X18 : Int32 × MMt → Prop) (x3 : Int32) (mem : MMt) (Q : Int32 → MMt → Prop) : Prop := (vp_in (x3 + (1 : Int32)) sx.1 ∧ L_X9_text (sx.2 (x3 + (1 : Int32)).toNatClampNeg) mem (fun r3 m2 => (vp_in (x3 + (1 : Int32)) sx.1 ∧ L_X10_text (sx.2 (x3 + (1 : Int32)).toNatClampNeg) m2 (fun r6 m5 => ((r3 = r6 → B_L_law_1481 sx X18 x3 m5 Q) ∧ (¬ r3 = r6 → Q (0 : Int32) m5))))))
set_option maxRecDepth 4000 in
theorem gB_L_law_607  {X18 : Int32 × MMt → Prop} {rf : RFt} {Q : Int32 → MMt → Prop} (sx : SXT) (hrf : RFok rf) (x3 : Int32) (hX18 : ∀ (rf : RFt) (x3 : Int32) (mem : MMt), RFok rf → X18 (x3, mem) → G sx yL_law cL_law 4 (some .boolean) 91 0 NX (QQi (RFok) Q) NX rf mem 18 [some (.ref 1008), some (.ref 0), some (.ref 76), some (.int x3)] []) (mem : MMt) (h : B_L_law_607 sx X18 x3 mem Q) : G sx yL_law cL_law 4 (some .boolean) 91 0 NX (QQi (RFok) Q) NX rf mem 607 [some (.ref 1008), some (.ref 0), some (.ref 76), some (.int x3)] [] := by
  unfold B_L_law_607 at h
  refine G_aload_n (i := 1) pL_law_607 rfl rfl ?_
  refine G_aload_n (i := 0) pL_law_608 rfl rfl ?_
  refine G_iload_n (i := 3) pL_law_609 rfl rfl ?_
  refine G_iconst pL_law_610 ic_1 ?_
  refine G_iadd pL_law_611 ?_
  obtain ⟨hi1, h⟩ := h
  refine G_sld pL_law_612 hi1 ?_
  refine G_callV1i (b := 0) (ci := 9) (N := 12) pL_law_613 (g_X9_text (sx.2 (x3 + (1 : Int32)).toNatClampNeg) hrf _ h) mV_X9_text ml_RL_62 (by decide) ⟨Nat.zero_le _, Nat.le_refl _, Nat.le_refl _⟩ (Nat.le_of_ble_eq_true rfl) ltk_0 shk_0 rfl ?_
  intro r3 rf m2 hrf h hr3
  refine G_aload_n (i := 2) pL_law_616 rfl rfl ?_
  refine G_aload_n (i := 0) pL_law_617 rfl rfl ?_
  refine G_iload_n (i := 3) pL_law_618 rfl rfl ?_
  refine G_iconst pL_law_619 ic_1 ?_
  refine G_iadd pL_law_620 ?_
  obtain ⟨hi4, h⟩ := h
  refine G_sld pL_law_621 hi4 ?_
  refine G_callV1i (b := 76) (ci := 10) (N := 29) pL_law_622 (g_X10_text (sx.2 (x3 + (1 : Int32)).toNatClampNeg) hrf _ h) mV_X10_text ml_RL_66 (by decide) ⟨Nat.zero_le _, Nat.le_refl _, Nat.le_refl _⟩ (Nat.le_of_ble_eq_true rfl) ltk_76 shk_76 rfl ?_
  intro r6 rf m5 hrf h hr6
  refine G_icmp_eq pL_law_625 (fun c7 => ?_) (fun c7 => ?_)
  · have h := h.1 c7
    exact gB_L_law_1481 sx hrf x3 hX18 _ h
  · have h := h.2 c7
    refine G_iconst pL_law_628 ic_0 ?_
    exact G_ireturn (len := 1) pL_law_629 ⟨hrf, _, rfl, h⟩ ⟨_, rfl, rfl⟩
def B_L_law_1373 (sx : SXT) (X18 : Int32 × MMt → Prop) (x3 : Int32) (mem : MMt) (Q : Int32 → MMt → Prop) : Prop := L_X9_image mem (fun r2 m1 => L_X10_image m1 (fun r4 m3 => ((r2 = r4 → B_L_law_1481 sx X18 x3 m3 Q) ∧ (¬ r2 = r4 → Q (0 : Int32) m3))))
set_option maxRecDepth 4000 in
theorem gB_L_law_1373  {X18 : Int32 × MMt → Prop} {rf : RFt} {Q : Int32 → MMt → Prop} (sx : SXT) (hrf : RFok rf) (x3 : Int32) (hX18 : ∀ (rf : RFt) (x3 : Int32) (mem : MMt), RFok rf → X18 (x3, mem) → G sx yL_law cL_law 4 (some .boolean) 91 0 NX (QQi (RFok) Q) NX rf mem 18 [some (.ref 1008), some (.ref 0), some (.ref 76), some (.int x3)] []) (mem : MMt) (h : B_L_law_1373 sx X18 x3 mem Q) : G sx yL_law cL_law 4 (some .boolean) 91 0 NX (QQi (RFok) Q) NX rf mem 1373 [some (.ref 1008), some (.ref 0), some (.ref 76), some (.int x3)] [] := by
  unfold B_L_law_1373 at h
  refine G_aload_n (i := 1) pL_law_1373 rfl rfl ?_
  refine G_callV0i (b := 0) (ci := 9) (N := 12) pL_law_1374 (g_X9_image hrf _ h) mV_X9_image ml_RL_154 (by decide) ⟨Nat.zero_le _, Nat.le_refl _, Nat.le_refl _⟩ (Nat.le_of_ble_eq_true rfl) ltk_0 shk_0 rfl ?_
  intro r2 rf m1 hrf h hr2
  refine G_aload_n (i := 2) pL_law_1377 rfl rfl ?_
  refine G_callV0i (b := 76) (ci := 10) (N := 29) pL_law_1378 (g_X10_image hrf _ h) mV_X10_image ml_RL_157 (by decide) ⟨Nat.zero_le _, Nat.le_refl _, Nat.le_refl _⟩ (Nat.le_of_ble_eq_true rfl) ltk_76 shk_76 rfl ?_
  intro r4 rf m3 hrf h hr4
  refine G_icmp_eq pL_law_1381 (fun c5 => ?_) (fun c5 => ?_)
  · have h := h.1 c5
    exact gB_L_law_1481 sx hrf x3 hX18 _ h
  · have h := h.2 c5
    refine G_iconst pL_law_1384 ic_0 ?_
    exact G_ireturn (len := 1) pL_law_1385 ⟨hrf, _, rfl, h⟩ ⟨_, rfl, rfl⟩
def B_L_law_1386 (sx : SXT) (X18 : Int32 × MMt → Prop) (x3 : Int32) (mem : MMt) (Q : Int32 → MMt → Prop) : Prop := L_X9_restore mem (fun r2 m1 => L_X10_restore m1 (fun r4 m3 => ((r2 = r4 → B_L_law_1481 sx X18 x3 m3 Q) ∧ (¬ r2 = r4 → Q (0 : Int32) m3))))
set_option maxRecDepth 4000 in
theorem gB_L_law_1386  {X18 : Int32 × MMt → Prop} {rf : RFt} {Q : Int32 → MMt → Prop} (sx : SXT) (hrf : RFok rf) (x3 : Int32) (hX18 : ∀ (rf : RFt) (x3 : Int32) (mem : MMt), RFok rf → X18 (x3, mem) → G sx yL_law cL_law 4 (some .boolean) 91 0 NX (QQi (RFok) Q) NX rf mem 18 [some (.ref 1008), some (.ref 0), some (.ref 76), some (.int x3)] []) (mem : MMt) (h : B_L_law_1386 sx X18 x3 mem Q) : G sx yL_law cL_law 4 (some .boolean) 91 0 NX (QQi (RFok) Q) NX rf mem 1386 [some (.ref 1008), some (.ref 0), some (.ref 76), some (.int x3)] [] := by
  unfold B_L_law_1386 at h
  refine G_aload_n (i := 1) pL_law_1386 rfl rfl ?_
  refine G_callV0i (b := 0) (ci := 9) (N := 12) pL_law_1387 (g_X9_restore hrf _ h) mV_X9_restore ml_RL_158 (by decide) ⟨Nat.zero_le _, Nat.le_refl _, Nat.le_refl _⟩ (Nat.le_of_ble_eq_true rfl) ltk_0 shk_0 rfl ?_
  intro r2 rf m1 hrf h hr2
  refine G_aload_n (i := 2) pL_law_1390 rfl rfl ?_
  refine G_callV0i (b := 76) (ci := 10) (N := 29) pL_law_1391 (g_X10_restore hrf _ h) mV_X10_restore ml_RL_161 (by decide) ⟨Nat.zero_le _, Nat.le_refl _, Nat.le_refl _⟩ (Nat.le_of_ble_eq_true rfl) ltk_76 shk_76 rfl ?_
  intro r4 rf m3 hrf h hr4
  refine G_icmp_eq pL_law_1394 (fun c5 => ?_) (fun c5 => ?_)
  · have h := h.1 c5
    exact gB_L_law_1481 sx hrf x3 hX18 _ h
  · have h := h.2 c5
    refine G_iconst pL_law_1397 ic_0 ?_
    exact G_ireturn (len := 1) pL_law_1398 ⟨hrf, _, rfl, h⟩ ⟨_, rfl, rfl⟩
def B_L_law_1003 (sx : SXT) (X18 : Int32 × MMt → Prop) (x3 : Int32) (mem : MMt) (Q : Int32 → MMt → Prop) : Prop := (vp_in (x3 + (1 : Int32)) sx.1 ∧ (vp_in (x3 + (2 : Int32)) sx.1 ∧ L_X9_whose (sx.2 (x3 + (1 : Int32)).toNatClampNeg) (sx.2 (x3 + (2 : Int32)).toNatClampNeg) mem (fun r4 m3 => (vp_in (x3 + (1 : Int32)) sx.1 ∧ (vp_in (x3 + (2 : Int32)) sx.1 ∧ L_X10_whose (sx.2 (x3 + (1 : Int32)).toNatClampNeg) (sx.2 (x3 + (2 : Int32)).toNatClampNeg) m3 (fun r8 m7 => ((r4 = r8 → B_L_law_1481 sx X18 x3 m7 Q) ∧ (¬ r4 = r8 → Q (0 : Int32) m7))))))))
set_option maxRecDepth 4000 in
theorem gB_L_law_1003  {X18 : Int32 × MMt → Prop} {rf : RFt} {Q : Int32 → MMt → Prop} (sx : SXT) (hrf : RFok rf) (x3 : Int32) (hX18 : ∀ (rf : RFt) (x3 : Int32) (mem : MMt), RFok rf → X18 (x3, mem) → G sx yL_law cL_law 4 (some .boolean) 91 0 NX (QQi (RFok) Q) NX rf mem 18 [some (.ref 1008), some (.ref 0), some (.ref 76), some (.int x3)] []) (mem : MMt) (h : B_L_law_1003 sx X18 x3 mem Q) : G sx yL_law cL_law 4 (some .boolean) 91 0 NX (QQi (RFok) Q) NX rf mem 1003 [some (.ref 1008), some (.ref 0), some (.ref 76), some (.int x3)] [] := by
  unfold B_L_law_1003 at h
  refine G_aload_n (i := 1) pL_law_1003 rfl rfl ?_
  refine G_aload_n (i := 0) pL_law_1004 rfl rfl ?_
  refine G_iload_n (i := 3) pL_law_1005 rfl rfl ?_
  refine G_iconst pL_law_1006 ic_1 ?_
  refine G_iadd pL_law_1007 ?_
  obtain ⟨hi1, h⟩ := h
  refine G_sld pL_law_1008 hi1 ?_
  refine G_aload_n (i := 0) pL_law_1009 rfl rfl ?_
  refine G_iload_n (i := 3) pL_law_1010 rfl rfl ?_
  refine G_iconst pL_law_1011 ic_2 ?_
  refine G_iadd pL_law_1012 ?_
  obtain ⟨hi2, h⟩ := h
  refine G_sld pL_law_1013 hi2 ?_
  refine G_callV2i (b := 0) (ci := 9) (N := 12) pL_law_1014 (g_X9_whose (sx.2 (x3 + (1 : Int32)).toNatClampNeg) (sx.2 (x3 + (2 : Int32)).toNatClampNeg) hrf _ h) mV_X9_whose ml_RL_113 (by decide) ⟨Nat.zero_le _, Nat.le_refl _, Nat.le_refl _⟩ (Nat.le_of_ble_eq_true rfl) ltk_0 shk_0 rfl ?_
  intro r4 rf m3 hrf h hr4
  refine G_aload_n (i := 2) pL_law_1017 rfl rfl ?_
  refine G_aload_n (i := 0) pL_law_1018 rfl rfl ?_
  refine G_iload_n (i := 3) pL_law_1019 rfl rfl ?_
  refine G_iconst pL_law_1020 ic_1 ?_
  refine G_iadd pL_law_1021 ?_
  obtain ⟨hi5, h⟩ := h
  refine G_sld pL_law_1022 hi5 ?_
  refine G_aload_n (i := 0) pL_law_1023 rfl rfl ?_
  refine G_iload_n (i := 3) pL_law_1024 rfl rfl ?_
  refine G_iconst pL_law_1025 ic_2 ?_
  refine G_iadd pL_law_1026 ?_
  obtain ⟨hi6, h⟩ := h
  refine G_sld pL_law_1027 hi6 ?_
  refine G_callV2i (b := 76) (ci := 10) (N := 29) pL_law_1028 (g_X10_whose (sx.2 (x3 + (1 : Int32)).toNatClampNeg) (sx.2 (x3 + (2 : Int32)).toNatClampNeg) hrf _ h) mV_X10_whose ml_RL_116 (by decide) ⟨Nat.zero_le _, Nat.le_refl _, Nat.le_refl _⟩ (Nat.le_of_ble_eq_true rfl) ltk_76 shk_76 rfl ?_
  intro r8 rf m7 hrf h hr8
  refine G_icmp_eq pL_law_1031 (fun c9 => ?_) (fun c9 => ?_)
  · have h := h.1 c9
    exact gB_L_law_1481 sx hrf x3 hX18 _ h
  · have h := h.2 c9
    refine G_iconst pL_law_1034 ic_0 ?_
    exact G_ireturn (len := 1) pL_law_1035 ⟨hrf, _, rfl, h⟩ ⟨_, rfl, rfl⟩
def B_L_law_237 (sx : SXT) (X18 : Int32 × MMt → Prop) (x3 : Int32) (mem : MMt) (Q : Int32 → MMt → Prop) : Prop := (vp_in (x3 + (1 : Int32)) sx.1 ∧ (vp_in (x3 + (2 : Int32)) sx.1 ∧ L_X9_ofGood (sx.2 (x3 + (1 : Int32)).toNatClampNeg) (sx.2 (x3 + (2 : Int32)).toNatClampNeg) mem (fun r4 m3 => (vp_in (x3 + (1 : Int32)) sx.1 ∧ (vp_in (x3 + (2 : Int32)) sx.1 ∧ L_X10_ofGood (sx.2 (x3 + (1 : Int32)).toNatClampNeg) (sx.2 (x3 + (2 : Int32)).toNatClampNeg) m3 (fun r8 m7 => ((r4 = r8 → B_L_law_1481 sx X18 x3 m7 Q) ∧ (¬ r4 = r8 → Q (0 : Int32) m7))))))))
set_option maxRecDepth 4000 in
theorem gB_L_law_237  {X18 : Int32 × MMt → Prop} {rf : RFt} {Q : Int32 → MMt → Prop} (sx : SXT) (hrf : RFok rf) (x3 : Int32) (hX18 : ∀ (rf : RFt) (x3 : Int32) (mem : MMt), RFok rf → X18 (x3, mem) → G sx yL_law cL_law 4 (some .boolean) 91 0 NX (QQi (RFok) Q) NX rf mem 18 [some (.ref 1008), some (.ref 0), some (.ref 76), some (.int x3)] []) (mem : MMt) (h : B_L_law_237 sx X18 x3 mem Q) : G sx yL_law cL_law 4 (some .boolean) 91 0 NX (QQi (RFok) Q) NX rf mem 237 [some (.ref 1008), some (.ref 0), some (.ref 76), some (.int x3)] [] := by
  unfold B_L_law_237 at h
  refine G_aload_n (i := 1) pL_law_237 rfl rfl ?_
  refine G_aload_n (i := 0) pL_law_238 rfl rfl ?_
  refine G_iload_n (i := 3) pL_law_239 rfl rfl ?_
  refine G_iconst pL_law_240 ic_1 ?_
  refine G_iadd pL_law_241 ?_
  obtain ⟨hi1, h⟩ := h
  refine G_sld pL_law_242 hi1 ?_
  refine G_aload_n (i := 0) pL_law_243 rfl rfl ?_
  refine G_iload_n (i := 3) pL_law_244 rfl rfl ?_
  refine G_iconst pL_law_245 ic_2 ?_
  refine G_iadd pL_law_246 ?_
  obtain ⟨hi2, h⟩ := h
  refine G_sld pL_law_247 hi2 ?_
  refine G_callV2i (b := 0) (ci := 9) (N := 12) pL_law_248 (g_X9_ofGood (sx.2 (x3 + (1 : Int32)).toNatClampNeg) (sx.2 (x3 + (2 : Int32)).toNatClampNeg) hrf _ h) mV_X9_ofGood ml_RL_18 (by decide) ⟨Nat.zero_le _, Nat.le_refl _, Nat.le_refl _⟩ (Nat.le_of_ble_eq_true rfl) ltk_0 shk_0 rfl ?_
  intro r4 rf m3 hrf h hr4
  refine G_aload_n (i := 2) pL_law_251 rfl rfl ?_
  refine G_aload_n (i := 0) pL_law_252 rfl rfl ?_
  refine G_iload_n (i := 3) pL_law_253 rfl rfl ?_
  refine G_iconst pL_law_254 ic_1 ?_
  refine G_iadd pL_law_255 ?_
  obtain ⟨hi5, h⟩ := h
  refine G_sld pL_law_256 hi5 ?_
  refine G_aload_n (i := 0) pL_law_257 rfl rfl ?_
  refine G_iload_n (i := 3) pL_law_258 rfl rfl ?_
  refine G_iconst pL_law_259 ic_2 ?_
  refine G_iadd pL_law_260 ?_
  obtain ⟨hi6, h⟩ := h
  refine G_sld pL_law_261 hi6 ?_
  refine G_callV2i (b := 76) (ci := 10) (N := 29) pL_law_262 (g_X10_ofGood (sx.2 (x3 + (1 : Int32)).toNatClampNeg) (sx.2 (x3 + (2 : Int32)).toNatClampNeg) hrf _ h) mV_X10_ofGood ml_RL_21 (by decide) ⟨Nat.zero_le _, Nat.le_refl _, Nat.le_refl _⟩ (Nat.le_of_ble_eq_true rfl) ltk_76 shk_76 rfl ?_
  intro r8 rf m7 hrf h hr8
  refine G_icmp_eq pL_law_265 (fun c9 => ?_) (fun c9 => ?_)
  · have h := h.1 c9
    exact gB_L_law_1481 sx hrf x3 hX18 _ h
  · have h := h.2 c9
    refine G_iconst pL_law_268 ic_0 ?_
    exact G_ireturn (len := 1) pL_law_269 ⟨hrf, _, rfl, h⟩ ⟨_, rfl, rfl⟩
def B_L_law_1264 (sx : SXT) (X18 : Int32 × MMt → Prop) (x3 : Int32) (mem : MMt) (Q : Int32 → MMt → Prop) : Prop := (vp_in (x3 + (1 : Int32)) sx.1 ∧ (vp_in (x3 + (2 : Int32)) sx.1 ∧ (vp_in (x3 + (3 : Int32)) sx.1 ∧ (vp_in (x3 + (4 : Int32)) sx.1 ∧ (vp_in (x3 + (5 : Int32)) sx.1 ∧ L_X9_move (sx.2 (x3 + (1 : Int32)).toNatClampNeg) (sx.2 (x3 + (2 : Int32)).toNatClampNeg) (sx.2 (x3 + (3 : Int32)).toNatClampNeg) (sx.2 (x3 + (4 : Int32)).toNatClampNeg) (sx.2 (x3 + (5 : Int32)).toNatClampNeg) mem (fun r7 m6 => (vp_in (x3 + (1 : Int32)) sx.1 ∧ (vp_in (x3 + (2 : Int32)) sx.1 ∧ (vp_in (x3 + (3 : Int32)) sx.1 ∧ (vp_in (x3 + (4 : Int32)) sx.1 ∧ (vp_in (x3 + (5 : Int32)) sx.1 ∧ L_X10_move (sx.2 (x3 + (1 : Int32)).toNatClampNeg) (sx.2 (x3 + (2 : Int32)).toNatClampNeg) (sx.2 (x3 + (3 : Int32)).toNatClampNeg) (sx.2 (x3 + (4 : Int32)).toNatClampNeg) (sx.2 (x3 + (5 : Int32)).toNatClampNeg) m6 (fun r14 m13 => ((r7 = r14 → B_L_law_1481 sx X18 x3 m13 Q) ∧ (¬ r7 = r14 → Q (0 : Int32) m13))))))))))))))
set_option maxRecDepth 4000 in
theorem gB_L_law_1264  {X18 : Int32 × MMt → Prop} {rf : RFt} {Q : Int32 → MMt → Prop} (sx : SXT) (hrf : RFok rf) (x3 : Int32) (hX18 : ∀ (rf : RFt) (x3 : Int32) (mem : MMt), RFok rf → X18 (x3, mem) → G sx yL_law cL_law 4 (some .boolean) 91 0 NX (QQi (RFok) Q) NX rf mem 18 [some (.ref 1008), some (.ref 0), some (.ref 76), some (.int x3)] []) (mem : MMt) (h : B_L_law_1264 sx X18 x3 mem Q) : G sx yL_law cL_law 4 (some .boolean) 91 0 NX (QQi (RFok) Q) NX rf mem 1264 [some (.ref 1008), some (.ref 0), some (.ref 76), some (.int x3)] [] := by
  unfold B_L_law_1264 at h
  refine G_aload_n (i := 1) pL_law_1264 rfl rfl ?_
  refine G_aload_n (i := 0) pL_law_1265 rfl rfl ?_
  refine G_iload_n (i := 3) pL_law_1266 rfl rfl ?_
  refine G_iconst pL_law_1267 ic_1 ?_
  refine G_iadd pL_law_1268 ?_
  obtain ⟨hi1, h⟩ := h
  refine G_sld pL_law_1269 hi1 ?_
  refine G_aload_n (i := 0) pL_law_1270 rfl rfl ?_
  refine G_iload_n (i := 3) pL_law_1271 rfl rfl ?_
  refine G_iconst pL_law_1272 ic_2 ?_
  refine G_iadd pL_law_1273 ?_
  obtain ⟨hi2, h⟩ := h
  refine G_sld pL_law_1274 hi2 ?_
  refine G_aload_n (i := 0) pL_law_1275 rfl rfl ?_
  refine G_iload_n (i := 3) pL_law_1276 rfl rfl ?_
  refine G_iconst pL_law_1277 ic_3 ?_
  refine G_iadd pL_law_1278 ?_
  obtain ⟨hi3, h⟩ := h
  refine G_sld pL_law_1279 hi3 ?_
  refine G_aload_n (i := 0) pL_law_1280 rfl rfl ?_
  refine G_iload_n (i := 3) pL_law_1281 rfl rfl ?_
  refine G_iconst pL_law_1282 ic_4 ?_
  refine G_iadd pL_law_1283 ?_
  obtain ⟨hi4, h⟩ := h
  refine G_sld pL_law_1284 hi4 ?_
  refine G_aload_n (i := 0) pL_law_1285 rfl rfl ?_
  refine G_iload_n (i := 3) pL_law_1286 rfl rfl ?_
  refine G_iconst pL_law_1287 ic_5 ?_
  refine G_iadd pL_law_1288 ?_
  obtain ⟨hi5, h⟩ := h
  refine G_sld pL_law_1289 hi5 ?_
  refine G_callV5i (b := 0) (ci := 9) (N := 12) pL_law_1290 (g_X9_move (sx.2 (x3 + (1 : Int32)).toNatClampNeg) (sx.2 (x3 + (2 : Int32)).toNatClampNeg) (sx.2 (x3 + (3 : Int32)).toNatClampNeg) (sx.2 (x3 + (4 : Int32)).toNatClampNeg) (sx.2 (x3 + (5 : Int32)).toNatClampNeg) hrf _ h) mV_X9_move ml_RL_141 (by decide) ⟨Nat.zero_le _, Nat.le_refl _, Nat.le_refl _⟩ (Nat.le_of_ble_eq_true rfl) ltk_0 shk_0 rfl ?_
  intro r7 rf m6 hrf h hr7
  refine G_aload_n (i := 2) pL_law_1293 rfl rfl ?_
  refine G_aload_n (i := 0) pL_law_1294 rfl rfl ?_
  refine G_iload_n (i := 3) pL_law_1295 rfl rfl ?_
  refine G_iconst pL_law_1296 ic_1 ?_
  refine G_iadd pL_law_1297 ?_
  obtain ⟨hi8, h⟩ := h
  refine G_sld pL_law_1298 hi8 ?_
  refine G_aload_n (i := 0) pL_law_1299 rfl rfl ?_
  refine G_iload_n (i := 3) pL_law_1300 rfl rfl ?_
  refine G_iconst pL_law_1301 ic_2 ?_
  refine G_iadd pL_law_1302 ?_
  obtain ⟨hi9, h⟩ := h
  refine G_sld pL_law_1303 hi9 ?_
  refine G_aload_n (i := 0) pL_law_1304 rfl rfl ?_
  refine G_iload_n (i := 3) pL_law_1305 rfl rfl ?_
  refine G_iconst pL_law_1306 ic_3 ?_
  refine G_iadd pL_law_1307 ?_
  obtain ⟨hi10, h⟩ := h
  refine G_sld pL_law_1308 hi10 ?_
  refine G_aload_n (i := 0) pL_law_1309 rfl rfl ?_
  refine G_iload_n (i := 3) pL_law_1310 rfl rfl ?_
  refine G_iconst pL_law_1311 ic_4 ?_
  refine G_iadd pL_law_1312 ?_
  obtain ⟨hi11, h⟩ := h
  refine G_sld pL_law_1313 hi11 ?_
  refine G_aload_n (i := 0) pL_law_1314 rfl rfl ?_
  refine G_iload_n (i := 3) pL_law_1315 rfl rfl ?_
  refine G_iconst pL_law_1316 ic_5 ?_
  refine G_iadd pL_law_1317 ?_
  obtain ⟨hi12, h⟩ := h
  refine G_sld pL_law_1318 hi12 ?_
  refine G_callV5i (b := 76) (ci := 10) (N := 29) pL_law_1319 (g_X10_move (sx.2 (x3 + (1 : Int32)).toNatClampNeg) (sx.2 (x3 + (2 : Int32)).toNatClampNeg) (sx.2 (x3 + (3 : Int32)).toNatClampNeg) (sx.2 (x3 + (4 : Int32)).toNatClampNeg) (sx.2 (x3 + (5 : Int32)).toNatClampNeg) hrf _ h) mV_X10_move ml_RL_145 (by decide) ⟨Nat.zero_le _, Nat.le_refl _, Nat.le_refl _⟩ (Nat.le_of_ble_eq_true rfl) ltk_76 shk_76 rfl ?_
  intro r14 rf m13 hrf h hr14
  refine G_icmp_eq pL_law_1322 (fun c15 => ?_) (fun c15 => ?_)
  · have h := h.1 c15
    exact gB_L_law_1481 sx hrf x3 hX18 _ h
  · have h := h.2 c15
    refine G_iconst pL_law_1325 ic_0 ?_
    exact G_ireturn (len := 1) pL_law_1326 ⟨hrf, _, rfl, h⟩ ⟨_, rfl, rfl⟩
def B_L_law_369 (sx : SXT) (X18 : Int32 × MMt → Prop) (x3 : Int32) (mem : MMt) (Q : Int32 → MMt → Prop) : Prop := (vp_in (x3 + (1 : Int32)) sx.1 ∧ (vp_in (x3 + (2 : Int32)) sx.1 ∧ L_X9_push (sx.2 (x3 + (1 : Int32)).toNatClampNeg) (sx.2 (x3 + (2 : Int32)).toNatClampNeg) mem (fun r4 m3 => (vp_in (x3 + (1 : Int32)) sx.1 ∧ (vp_in (x3 + (2 : Int32)) sx.1 ∧ L_X10_push (sx.2 (x3 + (1 : Int32)).toNatClampNeg) (sx.2 (x3 + (2 : Int32)).toNatClampNeg) m3 (fun r8 m7 => ((r4 = r8 → B_L_law_1481 sx X18 x3 m7 Q) ∧ (¬ r4 = r8 → Q (0 : Int32) m7))))))))
set_option maxRecDepth 4000 in
theorem gB_L_law_369  {X18 : Int32 × MMt → Prop} {rf : RFt} {Q : Int32 → MMt → Prop} (sx : SXT) (hrf : RFok rf) (x3 : Int32) (hX18 : ∀ (rf : RFt) (x3 : Int32) (mem : MMt), RFok rf → X18 (x3, mem) → G sx yL_law cL_law 4 (some .boolean) 91 0 NX (QQi (RFok) Q) NX rf mem 18 [some (.ref 1008), some (.ref 0), some (.ref 76), some (.int x3)] []) (mem : MMt) (h : B_L_law_369 sx X18 x3 mem Q) : G sx yL_law cL_law 4 (some .boolean) 91 0 NX (QQi (RFok) Q) NX rf mem 369 [some (.ref 1008), some (.ref 0), some (.ref 76), some (.int x3)] [] := by
  unfold B_L_law_369 at h
  refine G_aload_n (i := 1) pL_law_369 rfl rfl ?_
  refine G_aload_n (i := 0) pL_law_370 rfl rfl ?_
  refine G_iload_n (i := 3) pL_law_371 rfl rfl ?_
  refine G_iconst pL_law_372 ic_1 ?_
  refine G_iadd pL_law_373 ?_
  obtain ⟨hi1, h⟩ := h
  refine G_sld pL_law_374 hi1 ?_
  refine G_aload_n (i := 0) pL_law_375 rfl rfl ?_
  refine G_iload_n (i := 3) pL_law_376 rfl rfl ?_
  refine G_iconst pL_law_377 ic_2 ?_
  refine G_iadd pL_law_378 ?_
  obtain ⟨hi2, h⟩ := h
  refine G_sld pL_law_379 hi2 ?_
  refine G_callV2i (b := 0) (ci := 9) (N := 12) pL_law_380 (g_X9_push (sx.2 (x3 + (1 : Int32)).toNatClampNeg) (sx.2 (x3 + (2 : Int32)).toNatClampNeg) hrf _ h) mV_X9_push ml_RL_34 (by decide) ⟨Nat.zero_le _, Nat.le_refl _, Nat.le_refl _⟩ (Nat.le_of_ble_eq_true rfl) ltk_0 shk_0 rfl ?_
  intro r4 rf m3 hrf h hr4
  refine G_aload_n (i := 2) pL_law_383 rfl rfl ?_
  refine G_aload_n (i := 0) pL_law_384 rfl rfl ?_
  refine G_iload_n (i := 3) pL_law_385 rfl rfl ?_
  refine G_iconst pL_law_386 ic_1 ?_
  refine G_iadd pL_law_387 ?_
  obtain ⟨hi5, h⟩ := h
  refine G_sld pL_law_388 hi5 ?_
  refine G_aload_n (i := 0) pL_law_389 rfl rfl ?_
  refine G_iload_n (i := 3) pL_law_390 rfl rfl ?_
  refine G_iconst pL_law_391 ic_2 ?_
  refine G_iadd pL_law_392 ?_
  obtain ⟨hi6, h⟩ := h
  refine G_sld pL_law_393 hi6 ?_
  refine G_callV2i (b := 76) (ci := 10) (N := 29) pL_law_394 (g_X10_push (sx.2 (x3 + (1 : Int32)).toNatClampNeg) (sx.2 (x3 + (2 : Int32)).toNatClampNeg) hrf _ h) mV_X10_push ml_RL_37 (by decide) ⟨Nat.zero_le _, Nat.le_refl _, Nat.le_refl _⟩ (Nat.le_of_ble_eq_true rfl) ltk_76 shk_76 rfl ?_
  intro r8 rf m7 hrf h hr8
  refine G_icmp_eq pL_law_397 (fun c9 => ?_) (fun c9 => ?_)
  · have h := h.1 c9
    exact gB_L_law_1481 sx hrf x3 hX18 _ h
  · have h := h.2 c9
    refine G_iconst pL_law_400 ic_0 ?_
    exact G_ireturn (len := 1) pL_law_401 ⟨hrf, _, rfl, h⟩ ⟨_, rfl, rfl⟩
def B_L_law_630 (sx : SXT) (X18 : Int32 × MMt → Prop) (x3 : Int32) (mem : MMt) (Q : Int32 → MMt → Prop) : Prop := (vp_in (x3 + (1 : Int32)) sx.1 ∧ (vp_in (x3 + (2 : Int32)) sx.1 ∧ (vp_in (x3 + (3 : Int32)) sx.1 ∧ (vp_in (x3 + (4 : Int32)) sx.1 ∧ L_X9_law (sx.2 (x3 + (1 : Int32)).toNatClampNeg) (sx.2 (x3 + (2 : Int32)).toNatClampNeg) (sx.2 (x3 + (3 : Int32)).toNatClampNeg) (sx.2 (x3 + (4 : Int32)).toNatClampNeg) mem (fun r6 m5 => (vp_in (x3 + (1 : Int32)) sx.1 ∧ (vp_in (x3 + (2 : Int32)) sx.1 ∧ (vp_in (x3 + (3 : Int32)) sx.1 ∧ (vp_in (x3 + (4 : Int32)) sx.1 ∧ L_X10_law (sx.2 (x3 + (1 : Int32)).toNatClampNeg) (sx.2 (x3 + (2 : Int32)).toNatClampNeg) (sx.2 (x3 + (3 : Int32)).toNatClampNeg) (sx.2 (x3 + (4 : Int32)).toNatClampNeg) m5 (fun r12 m11 => ((r6 = r12 → B_L_law_1481 sx X18 x3 m11 Q) ∧ (¬ r6 = r12 → Q (0 : Int32) m11))))))))))))
set_option maxRecDepth 4000 in
theorem gB_L_law_630  {X18 : Int32 × MMt → Prop} {rf : RFt} {Q : Int32 → MMt → Prop} (sx : SXT) (hrf : RFok rf) (x3 : Int32) (hX18 : ∀ (rf : RFt) (x3 : Int32) (mem : MMt), RFok rf → X18 (x3, mem) → G sx yL_law cL_law 4 (some .boolean) 91 0 NX (QQi (RFok) Q) NX rf mem 18 [some (.ref 1008), some (.ref 0), some (.ref 76), some (.int x3)] []) (mem : MMt) (h : B_L_law_630 sx X18 x3 mem Q) : G sx yL_law cL_law 4 (some .boolean) 91 0 NX (QQi (RFok) Q) NX rf mem 630 [some (.ref 1008), some (.ref 0), some (.ref 76), some (.int x3)] [] := by
  unfold B_L_law_630 at h
  refine G_aload_n (i := 1) pL_law_630 rfl rfl ?_
  refine G_aload_n (i := 0) pL_law_631 rfl rfl ?_
  refine G_iload_n (i := 3) pL_law_632 rfl rfl ?_
  refine G_iconst pL_law_633 ic_1 ?_
  refine G_iadd pL_law_634 ?_
  obtain ⟨hi1, h⟩ := h
  refine G_sld pL_law_635 hi1 ?_
  refine G_aload_n (i := 0) pL_law_636 rfl rfl ?_
  refine G_iload_n (i := 3) pL_law_637 rfl rfl ?_
  refine G_iconst pL_law_638 ic_2 ?_
  refine G_iadd pL_law_639 ?_
  obtain ⟨hi2, h⟩ := h
  refine G_sld pL_law_640 hi2 ?_
  refine G_aload_n (i := 0) pL_law_641 rfl rfl ?_
  refine G_iload_n (i := 3) pL_law_642 rfl rfl ?_
  refine G_iconst pL_law_643 ic_3 ?_
  refine G_iadd pL_law_644 ?_
  obtain ⟨hi3, h⟩ := h
  refine G_sld pL_law_645 hi3 ?_
  refine G_aload_n (i := 0) pL_law_646 rfl rfl ?_
  refine G_iload_n (i := 3) pL_law_647 rfl rfl ?_
  refine G_iconst pL_law_648 ic_4 ?_
  refine G_iadd pL_law_649 ?_
  obtain ⟨hi4, h⟩ := h
  refine G_sld pL_law_650 hi4 ?_
  refine G_callV4i (b := 0) (ci := 9) (N := 12) pL_law_651 (g_X9_law (sx.2 (x3 + (1 : Int32)).toNatClampNeg) (sx.2 (x3 + (2 : Int32)).toNatClampNeg) (sx.2 (x3 + (3 : Int32)).toNatClampNeg) (sx.2 (x3 + (4 : Int32)).toNatClampNeg) hrf _ h) mV_X9_law ml_RL_67 (by decide) ⟨Nat.zero_le _, Nat.le_refl _, Nat.le_refl _⟩ (Nat.le_of_ble_eq_true rfl) ltk_0 shk_0 rfl ?_
  intro r6 rf m5 hrf h hr6
  refine G_aload_n (i := 2) pL_law_654 rfl rfl ?_
  refine G_aload_n (i := 0) pL_law_655 rfl rfl ?_
  refine G_iload_n (i := 3) pL_law_656 rfl rfl ?_
  refine G_iconst pL_law_657 ic_1 ?_
  refine G_iadd pL_law_658 ?_
  obtain ⟨hi7, h⟩ := h
  refine G_sld pL_law_659 hi7 ?_
  refine G_aload_n (i := 0) pL_law_660 rfl rfl ?_
  refine G_iload_n (i := 3) pL_law_661 rfl rfl ?_
  refine G_iconst pL_law_662 ic_2 ?_
  refine G_iadd pL_law_663 ?_
  obtain ⟨hi8, h⟩ := h
  refine G_sld pL_law_664 hi8 ?_
  refine G_aload_n (i := 0) pL_law_665 rfl rfl ?_
  refine G_iload_n (i := 3) pL_law_666 rfl rfl ?_
  refine G_iconst pL_law_667 ic_3 ?_
  refine G_iadd pL_law_668 ?_
  obtain ⟨hi9, h⟩ := h
  refine G_sld pL_law_669 hi9 ?_
  refine G_aload_n (i := 0) pL_law_670 rfl rfl ?_
  refine G_iload_n (i := 3) pL_law_671 rfl rfl ?_
  refine G_iconst pL_law_672 ic_4 ?_
  refine G_iadd pL_law_673 ?_
  obtain ⟨hi10, h⟩ := h
  refine G_sld pL_law_674 hi10 ?_
  refine G_callV4i (b := 76) (ci := 10) (N := 29) pL_law_675 (g_X10_law (sx.2 (x3 + (1 : Int32)).toNatClampNeg) (sx.2 (x3 + (2 : Int32)).toNatClampNeg) (sx.2 (x3 + (3 : Int32)).toNatClampNeg) (sx.2 (x3 + (4 : Int32)).toNatClampNeg) hrf _ h) mV_X10_law ml_RL_71 (by decide) ⟨Nat.zero_le _, Nat.le_refl _, Nat.le_refl _⟩ (Nat.le_of_ble_eq_true rfl) ltk_76 shk_76 rfl ?_
  intro r12 rf m11 hrf h hr12
  refine G_icmp_eq pL_law_678 (fun c13 => ?_) (fun c13 => ?_)
  · have h := h.1 c13
    exact gB_L_law_1481 sx hrf x3 hX18 _ h
  · have h := h.2 c13
    refine G_iconst pL_law_681 ic_0 ?_
    exact G_ireturn (len := 1) pL_law_682 ⟨hrf, _, rfl, h⟩ ⟨_, rfl, rfl⟩
def B_L_law_1399 (sx : SXT) (X18 : Int32 × MMt → Prop) (x3 : Int32) (mem : MMt) (Q : Int32 → MMt → Prop) : Prop := (vp_in (x3 + (1 : Int32)) sx.1 ∧ L_X9_tell (sx.2 (x3 + (1 : Int32)).toNatClampNeg) mem (fun r3 m2 => (vp_in (x3 + (1 : Int32)) sx.1 ∧ L_X10_tell (sx.2 (x3 + (1 : Int32)).toNatClampNeg) m2 (fun r6 m5 => ((r3 = r6 → B_L_law_1481 sx X18 x3 m5 Q) ∧ (¬ r3 = r6 → Q (0 : Int32) m5))))))
set_option maxRecDepth 4000 in
theorem gB_L_law_1399  {X18 : Int32 × MMt → Prop} {rf : RFt} {Q : Int32 → MMt → Prop} (sx : SXT) (hrf : RFok rf) (x3 : Int32) (hX18 : ∀ (rf : RFt) (x3 : Int32) (mem : MMt), RFok rf → X18 (x3, mem) → G sx yL_law cL_law 4 (some .boolean) 91 0 NX (QQi (RFok) Q) NX rf mem 18 [some (.ref 1008), some (.ref 0), some (.ref 76), some (.int x3)] []) (mem : MMt) (h : B_L_law_1399 sx X18 x3 mem Q) : G sx yL_law cL_law 4 (some .boolean) 91 0 NX (QQi (RFok) Q) NX rf mem 1399 [some (.ref 1008), some (.ref 0), some (.ref 76), some (.int x3)] [] := by
  unfold B_L_law_1399 at h
  refine G_aload_n (i := 1) pL_law_1399 rfl rfl ?_
  refine G_aload_n (i := 0) pL_law_1400 rfl rfl ?_
  refine G_iload_n (i := 3) pL_law_1401 rfl rfl ?_
  refine G_iconst pL_law_1402 ic_1 ?_
  refine G_iadd pL_law_1403 ?_
  obtain ⟨hi1, h⟩ := h
  refine G_sld pL_law_1404 hi1 ?_
  refine G_callV1i (b := 0) (ci := 9) (N := 12) pL_law_1405 (g_X9_tell (sx.2 (x3 + (1 : Int32)).toNatClampNeg) hrf _ h) mV_X9_tell ml_RL_162 (by decide) ⟨Nat.zero_le _, Nat.le_refl _, Nat.le_refl _⟩ (Nat.le_of_ble_eq_true rfl) ltk_0 shk_0 rfl ?_
  intro r3 rf m2 hrf h hr3
  refine G_aload_n (i := 2) pL_law_1408 rfl rfl ?_
  refine G_aload_n (i := 0) pL_law_1409 rfl rfl ?_
  refine G_iload_n (i := 3) pL_law_1410 rfl rfl ?_
  refine G_iconst pL_law_1411 ic_1 ?_
  refine G_iadd pL_law_1412 ?_
  obtain ⟨hi4, h⟩ := h
  refine G_sld pL_law_1413 hi4 ?_
  refine G_callV1i (b := 76) (ci := 10) (N := 29) pL_law_1414 (g_X10_tell (sx.2 (x3 + (1 : Int32)).toNatClampNeg) hrf _ h) mV_X10_tell ml_RL_165 (by decide) ⟨Nat.zero_le _, Nat.le_refl _, Nat.le_refl _⟩ (Nat.le_of_ble_eq_true rfl) ltk_76 shk_76 rfl ?_
  intro r6 rf m5 hrf h hr6
  refine G_icmp_eq pL_law_1417 (fun c7 => ?_) (fun c7 => ?_)
  · have h := h.1 c7
    exact gB_L_law_1481 sx hrf x3 hX18 _ h
  · have h := h.2 c7
    refine G_iconst pL_law_1420 ic_0 ?_
    exact G_ireturn (len := 1) pL_law_1421 ⟨hrf, _, rfl, h⟩ ⟨_, rfl, rfl⟩
def B_L_law_511 (sx : SXT) (X18 : Int32 × MMt → Prop) (x3 : Int32) (mem : MMt) (Q : Int32 → MMt → Prop) : Prop := (vp_in (x3 + (1 : Int32)) sx.1 ∧ (vp_in (x3 + (2 : Int32)) sx.1 ∧ L_X9_lineUp (sx.2 (x3 + (1 : Int32)).toNatClampNeg) (sx.2 (x3 + (2 : Int32)).toNatClampNeg) mem (fun r4 m3 => (vp_in (x3 + (1 : Int32)) sx.1 ∧ (vp_in (x3 + (2 : Int32)) sx.1 ∧ L_X10_lineUp (sx.2 (x3 + (1 : Int32)).toNatClampNeg) (sx.2 (x3 + (2 : Int32)).toNatClampNeg) m3 (fun r8 m7 => ((r4 = r8 → B_L_law_1481 sx X18 x3 m7 Q) ∧ (¬ r4 = r8 → Q (0 : Int32) m7))))))))
set_option maxRecDepth 4000 in
theorem gB_L_law_511  {X18 : Int32 × MMt → Prop} {rf : RFt} {Q : Int32 → MMt → Prop} (sx : SXT) (hrf : RFok rf) (x3 : Int32) (hX18 : ∀ (rf : RFt) (x3 : Int32) (mem : MMt), RFok rf → X18 (x3, mem) → G sx yL_law cL_law 4 (some .boolean) 91 0 NX (QQi (RFok) Q) NX rf mem 18 [some (.ref 1008), some (.ref 0), some (.ref 76), some (.int x3)] []) (mem : MMt) (h : B_L_law_511 sx X18 x3 mem Q) : G sx yL_law cL_law 4 (some .boolean) 91 0 NX (QQi (RFok) Q) NX rf mem 511 [some (.ref 1008), some (.ref 0), some (.ref 76), some (.int x3)] [] := by
  unfold B_L_law_511 at h
  refine G_aload_n (i := 1) pL_law_511 rfl rfl ?_
  refine G_aload_n (i := 0) pL_law_512 rfl rfl ?_
  refine G_iload_n (i := 3) pL_law_513 rfl rfl ?_
  refine G_iconst pL_law_514 ic_1 ?_
  refine G_iadd pL_law_515 ?_
  obtain ⟨hi1, h⟩ := h
  refine G_sld pL_law_516 hi1 ?_
  refine G_aload_n (i := 0) pL_law_517 rfl rfl ?_
  refine G_iload_n (i := 3) pL_law_518 rfl rfl ?_
  refine G_iconst pL_law_519 ic_2 ?_
  refine G_iadd pL_law_520 ?_
  obtain ⟨hi2, h⟩ := h
  refine G_sld pL_law_521 hi2 ?_
  refine G_callV2i (b := 0) (ci := 9) (N := 12) pL_law_522 (g_X9_lineUp (sx.2 (x3 + (1 : Int32)).toNatClampNeg) (sx.2 (x3 + (2 : Int32)).toNatClampNeg) hrf _ h) mV_X9_lineUp ml_RL_51 (by decide) ⟨Nat.zero_le _, Nat.le_refl _, Nat.le_refl _⟩ (Nat.le_of_ble_eq_true rfl) ltk_0 shk_0 rfl ?_
  intro r4 rf m3 hrf h hr4
  refine G_aload_n (i := 2) pL_law_525 rfl rfl ?_
  refine G_aload_n (i := 0) pL_law_526 rfl rfl ?_
  refine G_iload_n (i := 3) pL_law_527 rfl rfl ?_
  refine G_iconst pL_law_528 ic_1 ?_
  refine G_iadd pL_law_529 ?_
  obtain ⟨hi5, h⟩ := h
  refine G_sld pL_law_530 hi5 ?_
  refine G_aload_n (i := 0) pL_law_531 rfl rfl ?_
  refine G_iload_n (i := 3) pL_law_532 rfl rfl ?_
  refine G_iconst pL_law_533 ic_2 ?_
  refine G_iadd pL_law_534 ?_
  obtain ⟨hi6, h⟩ := h
  refine G_sld pL_law_535 hi6 ?_
  refine G_callV2i (b := 76) (ci := 10) (N := 29) pL_law_536 (g_X10_lineUp (sx.2 (x3 + (1 : Int32)).toNatClampNeg) (sx.2 (x3 + (2 : Int32)).toNatClampNeg) hrf _ h) mV_X10_lineUp ml_RL_54 (by decide) ⟨Nat.zero_le _, Nat.le_refl _, Nat.le_refl _⟩ (Nat.le_of_ble_eq_true rfl) ltk_76 shk_76 rfl ?_
  intro r8 rf m7 hrf h hr8
  refine G_icmp_eq pL_law_539 (fun c9 => ?_) (fun c9 => ?_)
  · have h := h.1 c9
    exact gB_L_law_1481 sx hrf x3 hX18 _ h
  · have h := h.2 c9
    refine G_iconst pL_law_542 ic_0 ?_
    exact G_ireturn (len := 1) pL_law_543 ⟨hrf, _, rfl, h⟩ ⟨_, rfl, rfl⟩
def B_L_law_18 (sx : SXT) (x3 : Int32) (mem : MMt) (Q : Int32 → MMt → Prop) : Prop := LOOP (σ := Int32 × MMt) (fun X18 z => (fun (x3 : Int32) (mem : MMt) => ((((Int32.ofNat sx.1) - (6 : Int32)) < x3 → Q (1 : Int32) mem) ∧ (¬ ((Int32.ofNat sx.1) - (6 : Int32)) < x3 → (vp_in x3 sx.1 ∧ (∀ v3 : Int32, v3 = (sx.2 x3.toNatClampNeg) &&& (63 : Int32) → ((v3 < (0 : Int32) → B_L_law_1481 sx X18 x3 mem Q) ∧ ((38 : Int32) < v3 → B_L_law_1481 sx X18 x3 mem Q) ∧ (v3 = (0 : Int32) → B_L_law_204 sx X18 x3 mem Q) ∧ (v3 = (1 : Int32) → B_L_law_237 sx X18 x3 mem Q) ∧ (v3 = (2 : Int32) → B_L_law_270 sx X18 x3 mem Q) ∧ (v3 = (3 : Int32) → B_L_law_303 sx X18 x3 mem Q) ∧ (v3 = (4 : Int32) → B_L_law_336 sx X18 x3 mem Q) ∧ (v3 = (5 : Int32) → B_L_law_369 sx X18 x3 mem Q) ∧ (v3 = (6 : Int32) → B_L_law_402 sx X18 x3 mem Q) ∧ (v3 = (7 : Int32) → B_L_law_445 sx X18 x3 mem Q) ∧ (v3 = (8 : Int32) → B_L_law_478 sx X18 x3 mem Q) ∧ (v3 = (9 : Int32) → B_L_law_511 sx X18 x3 mem Q) ∧ (v3 = (10 : Int32) → B_L_law_544 sx X18 x3 mem Q) ∧ (v3 = (11 : Int32) → B_L_law_607 sx X18 x3 mem Q) ∧ (v3 = (12 : Int32) → B_L_law_630 sx X18 x3 mem Q) ∧ (v3 = (13 : Int32) → B_L_law_683 sx X18 x3 mem Q) ∧ (v3 = (14 : Int32) → B_L_law_706 sx X18 x3 mem Q) ∧ (v3 = (15 : Int32) → B_L_law_729 sx X18 x3 mem Q) ∧ (v3 = (16 : Int32) → B_L_law_772 sx X18 x3 mem Q) ∧ (v3 = (17 : Int32) → B_L_law_805 sx X18 x3 mem Q) ∧ (v3 = (18 : Int32) → B_L_law_818 sx X18 x3 mem Q) ∧ (v3 = (19 : Int32) → B_L_law_861 sx X18 x3 mem Q) ∧ (v3 = (20 : Int32) → B_L_law_904 sx X18 x3 mem Q) ∧ (v3 = (21 : Int32) → B_L_law_937 sx X18 x3 mem Q) ∧ (v3 = (22 : Int32) → B_L_law_960 sx X18 x3 mem Q) ∧ (v3 = (23 : Int32) → B_L_law_1003 sx X18 x3 mem Q) ∧ (v3 = (24 : Int32) → B_L_law_1036 sx X18 x3 mem Q) ∧ (v3 = (25 : Int32) → B_L_law_1089 sx X18 x3 mem Q) ∧ (v3 = (26 : Int32) → B_L_law_1112 sx X18 x3 mem Q) ∧ (v3 = (27 : Int32) → B_L_law_1155 sx X18 x3 mem Q) ∧ (v3 = (28 : Int32) → B_L_law_1178 sx X18 x3 mem Q) ∧ (v3 = (29 : Int32) → B_L_law_1221 sx X18 x3 mem Q) ∧ (v3 = (30 : Int32) → B_L_law_1264 sx X18 x3 mem Q) ∧ (v3 = (31 : Int32) → B_L_law_1327 sx X18 x3 mem Q) ∧ (v3 = (32 : Int32) → B_L_law_1350 sx X18 x3 mem Q) ∧ (v3 = (33 : Int32) → B_L_law_1373 sx X18 x3 mem Q) ∧ (v3 = (34 : Int32) → B_L_law_1386 sx X18 x3 mem Q) ∧ (v3 = (35 : Int32) → B_L_law_1399 sx X18 x3 mem Q) ∧ (v3 = (36 : Int32) → B_L_law_1422 sx X18 x3 mem Q) ∧ (v3 = (37 : Int32) → B_L_law_1435 sx X18 x3 mem Q) ∧ (v3 = (38 : Int32) → B_L_law_1458 sx X18 x3 mem Q))))))) z.1 z.2) (x3, mem)
set_option maxRecDepth 4000 in
theorem gB_L_law_18  {rf : RFt} {Q : Int32 → MMt → Prop} (sx : SXT) (hrf : RFok rf) (x3 : Int32) (mem : MMt) (h : B_L_law_18 sx x3 mem Q) : G sx yL_law cL_law 4 (some .boolean) 91 0 NX (QQi (RFok) Q) NX rf mem 18 [some (.ref 1008), some (.ref 0), some (.ref 76), some (.int x3)] [] := by
  obtain ⟨I, ⟨n, h0⟩, hI⟩ := h
  have key : ∀ (n : Nat) (rf : RFt) (x3 : Int32) (mem : MMt), RFok rf → I n (x3, mem) → G sx yL_law cL_law 4 (some .boolean) 91 0 NX (QQi (RFok) Q) NX rf mem 18 [some (.ref 1008), some (.ref 0), some (.ref 76), some (.int x3)] [] := by
    intro n
    induction n using Nat.strongRecOn with
    | _ n ih =>
    intro rf x3 mem hrf h0
    have hX18 : ∀ (rf : RFt) (x3 : Int32) (mem : MMt), RFok rf → (fun s' => ∃ m, m < n ∧ I m s') (x3, mem) → G sx yL_law cL_law 4 (some .boolean) 91 0 NX (QQi (RFok) Q) NX rf mem 18 [some (.ref 1008), some (.ref 0), some (.ref 76), some (.int x3)] [] := fun rf x3 mem hrf ⟨m, hm, hi⟩ => ih m hm rf x3 mem hrf hi
    have h := hI n _ h0
    clear ih h0
    try dsimp only at h
    refine G_iload_n (i := 3) pL_law_18 rfl rfl ?_
    refine G_aload_n (i := 0) pL_law_19 rfl rfl ?_
    refine G_slen pL_law_20 ?_
    refine G_bipush pL_law_21 bi_6 ?_
    refine G_isub pL_law_23 ?_
    refine G_icmp_gt pL_law_24 (fun c1 => ?_) (fun c1 => ?_)
    · have h := h.1 c1
      refine G_iconst pL_law_1487 ic_1 ?_
      exact G_ireturn (len := 1) pL_law_1488 ⟨hrf, _, rfl, h⟩ ⟨_, rfl, rfl⟩
    · have h := h.2 c1
      refine G_aload_n (i := 0) pL_law_27 rfl rfl ?_
      refine G_iload_n (i := 3) pL_law_28 rfl rfl ?_
      obtain ⟨hi2, h⟩ := h
      refine G_sld pL_law_29 hi2 ?_
      refine G_bipush pL_law_30 bi_63 ?_
      refine G_iand pL_law_32 ?_
      refine G_nmI (fun v3 e3 => ?_)
      have h := h v3 e3
      by_cases c4 : v3 < (0 : Int32)
      · have h := h.1 c4
        refine G_tsOut (tgt := 1481) pL_law_33 (Or.inl (ts_lt c4 (by decide))) (by decide) ?_
        exact gB_L_law_1481 sx hrf x3 hX18 _ h
      by_cases c5 : (38 : Int32) < v3
      · have h := h.2.1 c5
        refine G_tsOut (tgt := 1481) pL_law_33 (Or.inr (ts_gt c5 (by decide))) (by decide) ?_
        exact gB_L_law_1481 sx hrf x3 hX18 _ h
      rcases tsx_0_38 c4 c5 with hc | hc | hc | hc | hc | hc | hc | hc | hc | hc | hc | hc | hc | hc | hc | hc | hc | hc | hc | hc | hc | hc | hc | hc | hc | hc | hc | hc | hc | hc | hc | hc | hc | hc | hc | hc | hc | hc | hc
      · have h := h.2.2.1 hc
        refine G_tsInE (v := (0 : Int32)) (off := 171) (tgt := 204) pL_law_33 hc (by decide) ?_
        exact gB_L_law_204 sx hrf x3 hX18 _ h
      · have h := h.2.2.2.1 hc
        refine G_tsInE (v := (1 : Int32)) (off := 204) (tgt := 237) pL_law_33 hc (by decide) ?_
        exact gB_L_law_237 sx hrf x3 hX18 _ h
      · have h := h.2.2.2.2.1 hc
        refine G_tsInE (v := (2 : Int32)) (off := 237) (tgt := 270) pL_law_33 hc (by decide) ?_
        exact gB_L_law_270 sx hrf x3 hX18 _ h
      · have h := h.2.2.2.2.2.1 hc
        refine G_tsInE (v := (3 : Int32)) (off := 270) (tgt := 303) pL_law_33 hc (by decide) ?_
        exact gB_L_law_303 sx hrf x3 hX18 _ h
      · have h := h.2.2.2.2.2.2.1 hc
        refine G_tsInE (v := (4 : Int32)) (off := 303) (tgt := 336) pL_law_33 hc (by decide) ?_
        exact gB_L_law_336 sx hrf x3 hX18 _ h
      · have h := h.2.2.2.2.2.2.2.1 hc
        refine G_tsInE (v := (5 : Int32)) (off := 336) (tgt := 369) pL_law_33 hc (by decide) ?_
        exact gB_L_law_369 sx hrf x3 hX18 _ h
      · have h := h.2.2.2.2.2.2.2.2.1 hc
        refine G_tsInE (v := (6 : Int32)) (off := 369) (tgt := 402) pL_law_33 hc (by decide) ?_
        exact gB_L_law_402 sx hrf x3 hX18 _ h
      · have h := h.2.2.2.2.2.2.2.2.2.1 hc
        refine G_tsInE (v := (7 : Int32)) (off := 412) (tgt := 445) pL_law_33 hc (by decide) ?_
        exact gB_L_law_445 sx hrf x3 hX18 _ h
      · have h := h.2.2.2.2.2.2.2.2.2.2.1 hc
        refine G_tsInE (v := (8 : Int32)) (off := 445) (tgt := 478) pL_law_33 hc (by decide) ?_
        exact gB_L_law_478 sx hrf x3 hX18 _ h
      · have h := h.2.2.2.2.2.2.2.2.2.2.2.1 hc
        refine G_tsInE (v := (9 : Int32)) (off := 478) (tgt := 511) pL_law_33 hc (by decide) ?_
        exact gB_L_law_511 sx hrf x3 hX18 _ h
      · have h := h.2.2.2.2.2.2.2.2.2.2.2.2.1 hc
        refine G_tsInE (v := (10 : Int32)) (off := 511) (tgt := 544) pL_law_33 hc (by decide) ?_
        exact gB_L_law_544 sx hrf x3 hX18 _ h
      · have h := h.2.2.2.2.2.2.2.2.2.2.2.2.2.1 hc
        refine G_tsInE (v := (11 : Int32)) (off := 574) (tgt := 607) pL_law_33 hc (by decide) ?_
        exact gB_L_law_607 sx hrf x3 hX18 _ h
      · have h := h.2.2.2.2.2.2.2.2.2.2.2.2.2.2.1 hc
        refine G_tsInE (v := (12 : Int32)) (off := 597) (tgt := 630) pL_law_33 hc (by decide) ?_
        exact gB_L_law_630 sx hrf x3 hX18 _ h
      · have h := h.2.2.2.2.2.2.2.2.2.2.2.2.2.2.2.1 hc
        refine G_tsInE (v := (13 : Int32)) (off := 650) (tgt := 683) pL_law_33 hc (by decide) ?_
        exact gB_L_law_683 sx hrf x3 hX18 _ h
      · have h := h.2.2.2.2.2.2.2.2.2.2.2.2.2.2.2.2.1 hc
        refine G_tsInE (v := (14 : Int32)) (off := 673) (tgt := 706) pL_law_33 hc (by decide) ?_
        exact gB_L_law_706 sx hrf x3 hX18 _ h
      · have h := h.2.2.2.2.2.2.2.2.2.2.2.2.2.2.2.2.2.1 hc
        refine G_tsInE (v := (15 : Int32)) (off := 696) (tgt := 729) pL_law_33 hc (by decide) ?_
        exact gB_L_law_729 sx hrf x3 hX18 _ h
      · have h := h.2.2.2.2.2.2.2.2.2.2.2.2.2.2.2.2.2.2.1 hc
        refine G_tsInE (v := (16 : Int32)) (off := 739) (tgt := 772) pL_law_33 hc (by decide) ?_
        exact gB_L_law_772 sx hrf x3 hX18 _ h
      · have h := h.2.2.2.2.2.2.2.2.2.2.2.2.2.2.2.2.2.2.2.1 hc
        refine G_tsInE (v := (17 : Int32)) (off := 772) (tgt := 805) pL_law_33 hc (by decide) ?_
        exact gB_L_law_805 sx hrf x3 hX18 _ h
      · have h := h.2.2.2.2.2.2.2.2.2.2.2.2.2.2.2.2.2.2.2.2.1 hc
        refine G_tsInE (v := (18 : Int32)) (off := 785) (tgt := 818) pL_law_33 hc (by decide) ?_
        exact gB_L_law_818 sx hrf x3 hX18 _ h
      · have h := h.2.2.2.2.2.2.2.2.2.2.2.2.2.2.2.2.2.2.2.2.2.1 hc
        refine G_tsInE (v := (19 : Int32)) (off := 828) (tgt := 861) pL_law_33 hc (by decide) ?_
        exact gB_L_law_861 sx hrf x3 hX18 _ h
      · have h := h.2.2.2.2.2.2.2.2.2.2.2.2.2.2.2.2.2.2.2.2.2.2.1 hc
        refine G_tsInE (v := (20 : Int32)) (off := 871) (tgt := 904) pL_law_33 hc (by decide) ?_
        exact gB_L_law_904 sx hrf x3 hX18 _ h
      · have h := h.2.2.2.2.2.2.2.2.2.2.2.2.2.2.2.2.2.2.2.2.2.2.2.1 hc
        refine G_tsInE (v := (21 : Int32)) (off := 904) (tgt := 937) pL_law_33 hc (by decide) ?_
        exact gB_L_law_937 sx hrf x3 hX18 _ h
      · have h := h.2.2.2.2.2.2.2.2.2.2.2.2.2.2.2.2.2.2.2.2.2.2.2.2.1 hc
        refine G_tsInE (v := (22 : Int32)) (off := 927) (tgt := 960) pL_law_33 hc (by decide) ?_
        exact gB_L_law_960 sx hrf x3 hX18 _ h
      · have h := h.2.2.2.2.2.2.2.2.2.2.2.2.2.2.2.2.2.2.2.2.2.2.2.2.2.1 hc
        refine G_tsInE (v := (23 : Int32)) (off := 970) (tgt := 1003) pL_law_33 hc (by decide) ?_
        exact gB_L_law_1003 sx hrf x3 hX18 _ h
      · have h := h.2.2.2.2.2.2.2.2.2.2.2.2.2.2.2.2.2.2.2.2.2.2.2.2.2.2.1 hc
        refine G_tsInE (v := (24 : Int32)) (off := 1003) (tgt := 1036) pL_law_33 hc (by decide) ?_
        exact gB_L_law_1036 sx hrf x3 hX18 _ h
      · have h := h.2.2.2.2.2.2.2.2.2.2.2.2.2.2.2.2.2.2.2.2.2.2.2.2.2.2.2.1 hc
        refine G_tsInE (v := (25 : Int32)) (off := 1056) (tgt := 1089) pL_law_33 hc (by decide) ?_
        exact gB_L_law_1089 sx hrf x3 hX18 _ h
      · have h := h.2.2.2.2.2.2.2.2.2.2.2.2.2.2.2.2.2.2.2.2.2.2.2.2.2.2.2.2.1 hc
        refine G_tsInE (v := (26 : Int32)) (off := 1079) (tgt := 1112) pL_law_33 hc (by decide) ?_
        exact gB_L_law_1112 sx hrf x3 hX18 _ h
      · have h := h.2.2.2.2.2.2.2.2.2.2.2.2.2.2.2.2.2.2.2.2.2.2.2.2.2.2.2.2.2.1 hc
        refine G_tsInE (v := (27 : Int32)) (off := 1122) (tgt := 1155) pL_law_33 hc (by decide) ?_
        exact gB_L_law_1155 sx hrf x3 hX18 _ h
      · have h := h.2.2.2.2.2.2.2.2.2.2.2.2.2.2.2.2.2.2.2.2.2.2.2.2.2.2.2.2.2.2.1 hc
        refine G_tsInE (v := (28 : Int32)) (off := 1145) (tgt := 1178) pL_law_33 hc (by decide) ?_
        exact gB_L_law_1178 sx hrf x3 hX18 _ h
      · have h := h.2.2.2.2.2.2.2.2.2.2.2.2.2.2.2.2.2.2.2.2.2.2.2.2.2.2.2.2.2.2.2.1 hc
        refine G_tsInE (v := (29 : Int32)) (off := 1188) (tgt := 1221) pL_law_33 hc (by decide) ?_
        exact gB_L_law_1221 sx hrf x3 hX18 _ h
      · have h := h.2.2.2.2.2.2.2.2.2.2.2.2.2.2.2.2.2.2.2.2.2.2.2.2.2.2.2.2.2.2.2.2.1 hc
        refine G_tsInE (v := (30 : Int32)) (off := 1231) (tgt := 1264) pL_law_33 hc (by decide) ?_
        exact gB_L_law_1264 sx hrf x3 hX18 _ h
      · have h := h.2.2.2.2.2.2.2.2.2.2.2.2.2.2.2.2.2.2.2.2.2.2.2.2.2.2.2.2.2.2.2.2.2.1 hc
        refine G_tsInE (v := (31 : Int32)) (off := 1294) (tgt := 1327) pL_law_33 hc (by decide) ?_
        exact gB_L_law_1327 sx hrf x3 hX18 _ h
      · have h := h.2.2.2.2.2.2.2.2.2.2.2.2.2.2.2.2.2.2.2.2.2.2.2.2.2.2.2.2.2.2.2.2.2.2.1 hc
        refine G_tsInE (v := (32 : Int32)) (off := 1317) (tgt := 1350) pL_law_33 hc (by decide) ?_
        exact gB_L_law_1350 sx hrf x3 hX18 _ h
      · have h := h.2.2.2.2.2.2.2.2.2.2.2.2.2.2.2.2.2.2.2.2.2.2.2.2.2.2.2.2.2.2.2.2.2.2.2.1 hc
        refine G_tsInE (v := (33 : Int32)) (off := 1340) (tgt := 1373) pL_law_33 hc (by decide) ?_
        exact gB_L_law_1373 sx hrf x3 hX18 _ h
      · have h := h.2.2.2.2.2.2.2.2.2.2.2.2.2.2.2.2.2.2.2.2.2.2.2.2.2.2.2.2.2.2.2.2.2.2.2.2.1 hc
        refine G_tsInE (v := (34 : Int32)) (off := 1353) (tgt := 1386) pL_law_33 hc (by decide) ?_
        exact gB_L_law_1386 sx hrf x3 hX18 _ h
      · have h := h.2.2.2.2.2.2.2.2.2.2.2.2.2.2.2.2.2.2.2.2.2.2.2.2.2.2.2.2.2.2.2.2.2.2.2.2.2.1 hc
        refine G_tsInE (v := (35 : Int32)) (off := 1366) (tgt := 1399) pL_law_33 hc (by decide) ?_
        exact gB_L_law_1399 sx hrf x3 hX18 _ h
      · have h := h.2.2.2.2.2.2.2.2.2.2.2.2.2.2.2.2.2.2.2.2.2.2.2.2.2.2.2.2.2.2.2.2.2.2.2.2.2.2.1 hc
        refine G_tsInE (v := (36 : Int32)) (off := 1389) (tgt := 1422) pL_law_33 hc (by decide) ?_
        exact gB_L_law_1422 sx hrf x3 hX18 _ h
      · have h := h.2.2.2.2.2.2.2.2.2.2.2.2.2.2.2.2.2.2.2.2.2.2.2.2.2.2.2.2.2.2.2.2.2.2.2.2.2.2.2.1 hc
        refine G_tsInE (v := (37 : Int32)) (off := 1402) (tgt := 1435) pL_law_33 hc (by decide) ?_
        exact gB_L_law_1435 sx hrf x3 hX18 _ h
      · have h := h.2.2.2.2.2.2.2.2.2.2.2.2.2.2.2.2.2.2.2.2.2.2.2.2.2.2.2.2.2.2.2.2.2.2.2.2.2.2.2.2 hc
        refine G_tsInE (v := (38 : Int32)) (off := 1425) (tgt := 1458) pL_law_33 hc (by decide) ?_
        exact gB_L_law_1458 sx hrf x3 hX18 _ h
  exact key n rf _ _ hrf h0
def L_L_law (sx : SXT) (mem : MMt) (Q : Int32 → MMt → Prop) : Prop := B_L_law_18 sx (0 : Int32) mem Q
set_option maxRecDepth 4000 in
theorem g_L_law (sx : SXT) {rf : RFt} {Q : Int32 → MMt → Prop} (hrf : RFok rf) (mem : MMt) (h : L_L_law sx mem Q) : G sx yL_law cL_law 4 (some .boolean) 91 0 NX (QQi (RFok) Q) NX rf mem 16 [some (.ref 1008), some (.ref 0), some (.ref 76), none] [] := by
  unfold L_L_law at h
  refine G_iconst pL_law_16 ic_0 ?_
  refine G_istore_n (i := 3) (L' := [some (.ref 1008), some (.ref 0), some (.ref 76), some (.int (0 : Int32))]) pL_law_17 rfl rfl ?_
  exact gB_L_law_18 sx hrf (0 : Int32) _ h
