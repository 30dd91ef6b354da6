/-- what stands at each place of the made cells: (0, its number among the kinds) an object; (1 .. 5, n) an array of ints, bytes, booleans, longs, states; (6 or 7, n) a row and its first room -/
def kdl : List (Nat × Nat × Nat) := [(0, 0, 11), (1, 6, 128), (3, 0, 4), (4, 6, 64), (6, 6, 64), (8, 6, 64), (10, 0, 7), (11, 6, 3), (13, 7, 64), (15, 7, 64), (17, 0, 9), (18, 0, 6), (19, 6, 8), (21, 6, 8), (23, 6, 8), (25, 6, 8), (27, 6, 32), (29, 6, 32), (31, 6, 32), (33, 6, 32), (35, 0, 2), (36, 6, 16), (38, 6, 16), (40, 6, 16), (42, 6, 16), (44, 6, 8), (46, 6, 8), (48, 0, 10), (49, 6, 3), (51, 0, 1), (52, 6, 40), (54, 0, 0), (55, 1, 32), (56, 1, 32), (57, 1, 32), (58, 0, 3), (59, 6, 1000), (61, 6, 1000), (63, 0, 5), (64, 6, 40), (66, 6, 16), (68, 5, 3), (69, 0, 9), (70, 0, 6), (71, 6, 8), (73, 6, 8), (75, 6, 8), (77, 6, 8), (79, 6, 32), (81, 6, 32), (83, 6, 32), (85, 6, 32), (87, 0, 2), (88, 6, 16), (90, 6, 16), (92, 6, 16), (94, 6, 16), (96, 6, 8), (98, 6, 8), (100, 0, 9), (101, 0, 6), (102, 6, 8), (104, 6, 8), (106, 6, 8), (108, 6, 8), (110, 6, 32), (112, 6, 32), (114, 6, 32), (116, 6, 32), (118, 0, 2), (119, 6, 16), (121, 6, 16), (123, 6, 16), (125, 6, 16), (127, 6, 8), (129, 6, 8), (131, 0, 9), (132, 0, 6), (133, 6, 8), (135, 6, 8), (137, 6, 8), (139, 6, 8), (141, 6, 32), (143, 6, 32), (145, 6, 32), (147, 6, 32), (149, 0, 2), (150, 6, 16), (152, 6, 16), (154, 6, 16), (156, 6, 16), (158, 6, 8), (160, 6, 8), (162, 0, 12), (163, 2, 2000), (164, 2, 2000), (165, 1, 403), (166, 1, 403), (167, 1, 403), (168, 4, 403), (169, 4, 11), (170, 1, 210), (171, 1, 210), (172, 1, 210), (173, 1, 210), (174, 1, 210), (175, 1, 3), (176, 1, 420), (177, 1, 420), (178, 1, 64), (179, 1, 6), (180, 1, 400), (181, 1, 3), (182, 1, 34700), (183, 1, 40), (184, 1, 40), (185, 1, 40), (186, 1, 40), (187, 1, 1000), (188, 1, 1000), (189, 1, 7800), (190, 1, 330), (191, 3, 3), (192, 1, 104100)]
def kd (k : Nat) : Option (Nat × Nat) := (kdl.find? (fun q => q.1 == k)).map (fun q => q.2)
def srefl : List (Nat × Nat) := [(0, 1), (1, 3), (2, 10), (3, 48), (4, 17), (5, 51), (6, 58), (7, 63), (8, 68), (192, 1), (193, 4), (194, 6), (195, 8), (640, 3), (641, 11), (642, 13), (643, 15), (1088, 18), (1089, 35), (1090, 44), (1091, 46), (1152, 19), (1153, 21), (1154, 23), (1155, 25), (1156, 27), (1157, 29), (1158, 31), (1159, 33), (2240, 36), (2241, 38), (2242, 40), (2243, 42), (3072, 3), (3073, 10), (3074, 17), (3075, 49), (3264, 17), (3265, 18), (3266, 52), (3267, 54), (3456, 55), (3457, 56), (3458, 57), (3712, 35), (3713, 59), (3714, 61), (4032, 17), (4033, 18), (4034, 64), (4035, 66), (4416, 70), (4417, 87), (4418, 96), (4419, 98), (4480, 71), (4481, 73), (4482, 75), (4483, 77), (4484, 79), (4485, 81), (4486, 83), (4487, 85), (5568, 88), (5569, 90), (5570, 92), (5571, 94), (6400, 101), (6401, 118), (6402, 127), (6403, 129), (6464, 102), (6465, 104), (6466, 106), (6467, 108), (6468, 110), (6469, 112), (6470, 114), (6471, 116), (7552, 119), (7553, 121), (7554, 123), (7555, 125), (8384, 132), (8385, 149), (8386, 158), (8387, 160), (8448, 133), (8449, 135), (8450, 137), (8451, 139), (8452, 141), (8453, 143), (8454, 145), (8455, 147), (9536, 150), (9537, 152), (9538, 154), (9539, 156), (10369, 163), (10371, 164), (10373, 165), (10374, 166), (10375, 167), (10376, 168), (10377, 169), (10387, 170), (10388, 171), (10389, 172), (10390, 173), (10391, 174), (10393, 175), (10395, 176), (10396, 177), (10397, 178), (10399, 179), (10400, 180), (10401, 181), (10402, 182), (10403, 183), (10406, 184), (10407, 185), (10408, 186), (10409, 187), (10410, 188), (10411, 189), (10412, 190), (10414, 191), (10415, 192)]
def sref (k j : Nat) : Option Nat := (srefl.find? (fun q => q.1 == 64 * k + j)).map (fun q => q.2)
def jrows : List Nat := [1, 4, 6, 8, 11, 13, 15, 19, 21, 23, 25, 27, 29, 31, 33, 36, 38, 40, 42, 44, 46, 49, 52, 59, 61, 64, 66, 71, 73, 75, 77, 79, 81, 83, 85, 88, 90, 92, 94, 96, 98, 102, 104, 106, 108, 110, 112, 114, 116, 119, 121, 123, 125, 127, 129, 133, 135, 137, 139, 141, 143, 145, 147, 150, 152, 154, 156, 158, 160]
theorem kd_0 : kd 0 = some (0, 11) := by decide +kernel
theorem kd_1 : kd 1 = some (6, 128) := by decide +kernel
theorem kd_3 : kd 3 = some (0, 4) := by decide +kernel
theorem kd_4 : kd 4 = some (6, 64) := by decide +kernel
theorem kd_6 : kd 6 = some (6, 64) := by decide +kernel
theorem kd_8 : kd 8 = some (6, 64) := by decide +kernel
theorem kd_10 : kd 10 = some (0, 7) := by decide +kernel
theorem kd_11 : kd 11 = some (6, 3) := by decide +kernel
theorem kd_13 : kd 13 = some (7, 64) := by decide +kernel
theorem kd_15 : kd 15 = some (7, 64) := by decide +kernel
theorem kd_17 : kd 17 = some (0, 9) := by decide +kernel
theorem kd_18 : kd 18 = some (0, 6) := by decide +kernel
theorem kd_19 : kd 19 = some (6, 8) := by decide +kernel
theorem kd_21 : kd 21 = some (6, 8) := by decide +kernel
theorem kd_23 : kd 23 = some (6, 8) := by decide +kernel
theorem kd_25 : kd 25 = some (6, 8) := by decide +kernel
theorem kd_27 : kd 27 = some (6, 32) := by decide +kernel
theorem kd_29 : kd 29 = some (6, 32) := by decide +kernel
theorem kd_31 : kd 31 = some (6, 32) := by decide +kernel
theorem kd_33 : kd 33 = some (6, 32) := by decide +kernel
theorem kd_35 : kd 35 = some (0, 2) := by decide +kernel
theorem kd_36 : kd 36 = some (6, 16) := by decide +kernel
theorem kd_38 : kd 38 = some (6, 16) := by decide +kernel
theorem kd_40 : kd 40 = some (6, 16) := by decide +kernel
theorem kd_42 : kd 42 = some (6, 16) := by decide +kernel
theorem kd_44 : kd 44 = some (6, 8) := by decide +kernel
theorem kd_46 : kd 46 = some (6, 8) := by decide +kernel
theorem kd_48 : kd 48 = some (0, 10) := by decide +kernel
theorem kd_49 : kd 49 = some (6, 3) := by decide +kernel
theorem kd_51 : kd 51 = some (0, 1) := by decide +kernel
theorem kd_52 : kd 52 = some (6, 40) := by decide +kernel
theorem kd_54 : kd 54 = some (0, 0) := by decide +kernel
theorem kd_55 : kd 55 = some (1, 32) := by decide +kernel
theorem kd_56 : kd 56 = some (1, 32) := by decide +kernel
theorem kd_57 : kd 57 = some (1, 32) := by decide +kernel
theorem kd_58 : kd 58 = some (0, 3) := by decide +kernel
theorem kd_59 : kd 59 = some (6, 1000) := by decide +kernel
theorem kd_61 : kd 61 = some (6, 1000) := by decide +kernel
theorem kd_63 : kd 63 = some (0, 5) := by decide +kernel
theorem kd_64 : kd 64 = some (6, 40) := by decide +kernel
theorem kd_66 : kd 66 = some (6, 16) := by decide +kernel
theorem kd_68 : kd 68 = some (5, 3) := by decide +kernel
theorem kd_69 : kd 69 = some (0, 9) := by decide +kernel
theorem kd_70 : kd 70 = some (0, 6) := by decide +kernel
theorem kd_71 : kd 71 = some (6, 8) := by decide +kernel
theorem kd_73 : kd 73 = some (6, 8) := by decide +kernel
theorem kd_75 : kd 75 = some (6, 8) := by decide +kernel
theorem kd_77 : kd 77 = some (6, 8) := by decide +kernel
theorem kd_79 : kd 79 = some (6, 32) := by decide +kernel
theorem kd_81 : kd 81 = some (6, 32) := by decide +kernel
theorem kd_83 : kd 83 = some (6, 32) := by decide +kernel
theorem kd_85 : kd 85 = some (6, 32) := by decide +kernel
theorem kd_87 : kd 87 = some (0, 2) := by decide +kernel
theorem kd_88 : kd 88 = some (6, 16) := by decide +kernel
theorem kd_90 : kd 90 = some (6, 16) := by decide +kernel
theorem kd_92 : kd 92 = some (6, 16) := by decide +kernel
theorem kd_94 : kd 94 = some (6, 16) := by decide +kernel
theorem kd_96 : kd 96 = some (6, 8) := by decide +kernel
theorem kd_98 : kd 98 = some (6, 8) := by decide +kernel
theorem kd_100 : kd 100 = some (0, 9) := by decide +kernel
theorem kd_101 : kd 101 = some (0, 6) := by decide +kernel
theorem kd_102 : kd 102 = some (6, 8) := by decide +kernel
theorem kd_104 : kd 104 = some (6, 8) := by decide +kernel
theorem kd_106 : kd 106 = some (6, 8) := by decide +kernel
theorem kd_108 : kd 108 = some (6, 8) := by decide +kernel
theorem kd_110 : kd 110 = some (6, 32) := by decide +kernel
theorem kd_112 : kd 112 = some (6, 32) := by decide +kernel
theorem kd_114 : kd 114 = some (6, 32) := by decide +kernel
theorem kd_116 : kd 116 = some (6, 32) := by decide +kernel
theorem kd_118 : kd 118 = some (0, 2) := by decide +kernel
theorem kd_119 : kd 119 = some (6, 16) := by decide +kernel
theorem kd_121 : kd 121 = some (6, 16) := by decide +kernel
theorem kd_123 : kd 123 = some (6, 16) := by decide +kernel
theorem kd_125 : kd 125 = some (6, 16) := by decide +kernel
theorem kd_127 : kd 127 = some (6, 8) := by decide +kernel
theorem kd_129 : kd 129 = some (6, 8) := by decide +kernel
theorem kd_131 : kd 131 = some (0, 9) := by decide +kernel
theorem kd_132 : kd 132 = some (0, 6) := by decide +kernel
theorem kd_133 : kd 133 = some (6, 8) := by decide +kernel
theorem kd_135 : kd 135 = some (6, 8) := by decide +kernel
theorem kd_137 : kd 137 = some (6, 8) := by decide +kernel
theorem kd_139 : kd 139 = some (6, 8) := by decide +kernel
theorem kd_141 : kd 141 = some (6, 32) := by decide +kernel
theorem kd_143 : kd 143 = some (6, 32) := by decide +kernel
theorem kd_145 : kd 145 = some (6, 32) := by decide +kernel
theorem kd_147 : kd 147 = some (6, 32) := by decide +kernel
theorem kd_149 : kd 149 = some (0, 2) := by decide +kernel
theorem kd_150 : kd 150 = some (6, 16) := by decide +kernel
theorem kd_152 : kd 152 = some (6, 16) := by decide +kernel
theorem kd_154 : kd 154 = some (6, 16) := by decide +kernel
theorem kd_156 : kd 156 = some (6, 16) := by decide +kernel
theorem kd_158 : kd 158 = some (6, 8) := by decide +kernel
theorem kd_160 : kd 160 = some (6, 8) := by decide +kernel
theorem kd_162 : kd 162 = some (0, 12) := by decide +kernel
theorem kd_163 : kd 163 = some (2, 2000) := by decide +kernel
theorem kd_164 : kd 164 = some (2, 2000) := by decide +kernel
theorem kd_165 : kd 165 = some (1, 403) := by decide +kernel
theorem kd_166 : kd 166 = some (1, 403) := by decide +kernel
theorem kd_167 : kd 167 = some (1, 403) := by decide +kernel
theorem kd_168 : kd 168 = some (4, 403) := by decide +kernel
theorem kd_169 : kd 169 = some (4, 11) := by decide +kernel
theorem kd_170 : kd 170 = some (1, 210) := by decide +kernel
theorem kd_171 : kd 171 = some (1, 210) := by decide +kernel
theorem kd_172 : kd 172 = some (1, 210) := by decide +kernel
theorem kd_173 : kd 173 = some (1, 210) := by decide +kernel
theorem kd_174 : kd 174 = some (1, 210) := by decide +kernel
theorem kd_175 : kd 175 = some (1, 3) := by decide +kernel
theorem kd_176 : kd 176 = some (1, 420) := by decide +kernel
theorem kd_177 : kd 177 = some (1, 420) := by decide +kernel
theorem kd_178 : kd 178 = some (1, 64) := by decide +kernel
theorem kd_179 : kd 179 = some (1, 6) := by decide +kernel
theorem kd_180 : kd 180 = some (1, 400) := by decide +kernel
theorem kd_181 : kd 181 = some (1, 3) := by decide +kernel
theorem kd_182 : kd 182 = some (1, 34700) := by decide +kernel
theorem kd_183 : kd 183 = some (1, 40) := by decide +kernel
theorem kd_184 : kd 184 = some (1, 40) := by decide +kernel
theorem kd_185 : kd 185 = some (1, 40) := by decide +kernel
theorem kd_186 : kd 186 = some (1, 40) := by decide +kernel
theorem kd_187 : kd 187 = some (1, 1000) := by decide +kernel
theorem kd_188 : kd 188 = some (1, 1000) := by decide +kernel
theorem kd_189 : kd 189 = some (1, 7800) := by decide +kernel
theorem kd_190 : kd 190 = some (1, 330) := by decide +kernel
theorem kd_191 : kd 191 = some (3, 3) := by decide +kernel
theorem kd_192 : kd 192 = some (1, 104100) := by decide +kernel
theorem sr_0_0 : sref 0 0 = some 1 := by decide +kernel
theorem sr_0_1 : sref 0 1 = some 3 := by decide +kernel
theorem sr_0_2 : sref 0 2 = some 10 := by decide +kernel
theorem sr_0_3 : sref 0 3 = some 48 := by decide +kernel
theorem sr_0_4 : sref 0 4 = some 17 := by decide +kernel
theorem sr_0_5 : sref 0 5 = some 51 := by decide +kernel
theorem sr_0_6 : sref 0 6 = some 58 := by decide +kernel
theorem sr_0_7 : sref 0 7 = some 63 := by decide +kernel
theorem sr_0_8 : sref 0 8 = some 68 := by decide +kernel
theorem sr_3_0 : sref 3 0 = some 1 := by decide +kernel
theorem sr_3_1 : sref 3 1 = some 4 := by decide +kernel
theorem sr_3_2 : sref 3 2 = some 6 := by decide +kernel
theorem sr_3_3 : sref 3 3 = some 8 := by decide +kernel
theorem sr_10_0 : sref 10 0 = some 3 := by decide +kernel
theorem sr_10_1 : sref 10 1 = some 11 := by decide +kernel
theorem sr_10_2 : sref 10 2 = some 13 := by decide +kernel
theorem sr_10_3 : sref 10 3 = some 15 := by decide +kernel
theorem sr_17_0 : sref 17 0 = some 18 := by decide +kernel
theorem sr_17_1 : sref 17 1 = some 35 := by decide +kernel
theorem sr_17_2 : sref 17 2 = some 44 := by decide +kernel
theorem sr_17_3 : sref 17 3 = some 46 := by decide +kernel
theorem sr_18_0 : sref 18 0 = some 19 := by decide +kernel
theorem sr_18_1 : sref 18 1 = some 21 := by decide +kernel
theorem sr_18_2 : sref 18 2 = some 23 := by decide +kernel
theorem sr_18_3 : sref 18 3 = some 25 := by decide +kernel
theorem sr_18_4 : sref 18 4 = some 27 := by decide +kernel
theorem sr_18_5 : sref 18 5 = some 29 := by decide +kernel
theorem sr_18_6 : sref 18 6 = some 31 := by decide +kernel
theorem sr_18_7 : sref 18 7 = some 33 := by decide +kernel
theorem sr_35_0 : sref 35 0 = some 36 := by decide +kernel
theorem sr_35_1 : sref 35 1 = some 38 := by decide +kernel
theorem sr_35_2 : sref 35 2 = some 40 := by decide +kernel
theorem sr_35_3 : sref 35 3 = some 42 := by decide +kernel
theorem sr_48_0 : sref 48 0 = some 3 := by decide +kernel
theorem sr_48_1 : sref 48 1 = some 10 := by decide +kernel
theorem sr_48_2 : sref 48 2 = some 17 := by decide +kernel
theorem sr_48_3 : sref 48 3 = some 49 := by decide +kernel
theorem sr_51_0 : sref 51 0 = some 17 := by decide +kernel
theorem sr_51_1 : sref 51 1 = some 18 := by decide +kernel
theorem sr_51_2 : sref 51 2 = some 52 := by decide +kernel
theorem sr_51_3 : sref 51 3 = some 54 := by decide +kernel
theorem sr_54_0 : sref 54 0 = some 55 := by decide +kernel
theorem sr_54_1 : sref 54 1 = some 56 := by decide +kernel
theorem sr_54_2 : sref 54 2 = some 57 := by decide +kernel
theorem sr_58_0 : sref 58 0 = some 35 := by decide +kernel
theorem sr_58_1 : sref 58 1 = some 59 := by decide +kernel
theorem sr_58_2 : sref 58 2 = some 61 := by decide +kernel
theorem sr_63_0 : sref 63 0 = some 17 := by decide +kernel
theorem sr_63_1 : sref 63 1 = some 18 := by decide +kernel
theorem sr_63_2 : sref 63 2 = some 64 := by decide +kernel
theorem sr_63_3 : sref 63 3 = some 66 := by decide +kernel
theorem sr_69_0 : sref 69 0 = some 70 := by decide +kernel
theorem sr_69_1 : sref 69 1 = some 87 := by decide +kernel
theorem sr_69_2 : sref 69 2 = some 96 := by decide +kernel
theorem sr_69_3 : sref 69 3 = some 98 := by decide +kernel
theorem sr_70_0 : sref 70 0 = some 71 := by decide +kernel
theorem sr_70_1 : sref 70 1 = some 73 := by decide +kernel
theorem sr_70_2 : sref 70 2 = some 75 := by decide +kernel
theorem sr_70_3 : sref 70 3 = some 77 := by decide +kernel
theorem sr_70_4 : sref 70 4 = some 79 := by decide +kernel
theorem sr_70_5 : sref 70 5 = some 81 := by decide +kernel
theorem sr_70_6 : sref 70 6 = some 83 := by decide +kernel
theorem sr_70_7 : sref 70 7 = some 85 := by decide +kernel
theorem sr_87_0 : sref 87 0 = some 88 := by decide +kernel
theorem sr_87_1 : sref 87 1 = some 90 := by decide +kernel
theorem sr_87_2 : sref 87 2 = some 92 := by decide +kernel
theorem sr_87_3 : sref 87 3 = some 94 := by decide +kernel
theorem sr_100_0 : sref 100 0 = some 101 := by decide +kernel
theorem sr_100_1 : sref 100 1 = some 118 := by decide +kernel
theorem sr_100_2 : sref 100 2 = some 127 := by decide +kernel
theorem sr_100_3 : sref 100 3 = some 129 := by decide +kernel
theorem sr_101_0 : sref 101 0 = some 102 := by decide +kernel
theorem sr_101_1 : sref 101 1 = some 104 := by decide +kernel
theorem sr_101_2 : sref 101 2 = some 106 := by decide +kernel
theorem sr_101_3 : sref 101 3 = some 108 := by decide +kernel
theorem sr_101_4 : sref 101 4 = some 110 := by decide +kernel
theorem sr_101_5 : sref 101 5 = some 112 := by decide +kernel
theorem sr_101_6 : sref 101 6 = some 114 := by decide +kernel
theorem sr_101_7 : sref 101 7 = some 116 := by decide +kernel
theorem sr_118_0 : sref 118 0 = some 119 := by decide +kernel
theorem sr_118_1 : sref 118 1 = some 121 := by decide +kernel
theorem sr_118_2 : sref 118 2 = some 123 := by decide +kernel
theorem sr_118_3 : sref 118 3 = some 125 := by decide +kernel
theorem sr_131_0 : sref 131 0 = some 132 := by decide +kernel
theorem sr_131_1 : sref 131 1 = some 149 := by decide +kernel
theorem sr_131_2 : sref 131 2 = some 158 := by decide +kernel
theorem sr_131_3 : sref 131 3 = some 160 := by decide +kernel
theorem sr_132_0 : sref 132 0 = some 133 := by decide +kernel
theorem sr_132_1 : sref 132 1 = some 135 := by decide +kernel
theorem sr_132_2 : sref 132 2 = some 137 := by decide +kernel
theorem sr_132_3 : sref 132 3 = some 139 := by decide +kernel
theorem sr_132_4 : sref 132 4 = some 141 := by decide +kernel
theorem sr_132_5 : sref 132 5 = some 143 := by decide +kernel
theorem sr_132_6 : sref 132 6 = some 145 := by decide +kernel
theorem sr_132_7 : sref 132 7 = some 147 := by decide +kernel
theorem sr_149_0 : sref 149 0 = some 150 := by decide +kernel
theorem sr_149_1 : sref 149 1 = some 152 := by decide +kernel
theorem sr_149_2 : sref 149 2 = some 154 := by decide +kernel
theorem sr_149_3 : sref 149 3 = some 156 := by decide +kernel
theorem sr_162_1 : sref 162 1 = some 163 := by decide +kernel
theorem sr_162_3 : sref 162 3 = some 164 := by decide +kernel
theorem sr_162_5 : sref 162 5 = some 165 := by decide +kernel
theorem sr_162_6 : sref 162 6 = some 166 := by decide +kernel
theorem sr_162_7 : sref 162 7 = some 167 := by decide +kernel
theorem sr_162_8 : sref 162 8 = some 168 := by decide +kernel
theorem sr_162_9 : sref 162 9 = some 169 := by decide +kernel
theorem sr_162_19 : sref 162 19 = some 170 := by decide +kernel
theorem sr_162_20 : sref 162 20 = some 171 := by decide +kernel
theorem sr_162_21 : sref 162 21 = some 172 := by decide +kernel
theorem sr_162_22 : sref 162 22 = some 173 := by decide +kernel
theorem sr_162_23 : sref 162 23 = some 174 := by decide +kernel
theorem sr_162_25 : sref 162 25 = some 175 := by decide +kernel
theorem sr_162_27 : sref 162 27 = some 176 := by decide +kernel
theorem sr_162_28 : sref 162 28 = some 177 := by decide +kernel
theorem sr_162_29 : sref 162 29 = some 178 := by decide +kernel
theorem sr_162_31 : sref 162 31 = some 179 := by decide +kernel
theorem sr_162_32 : sref 162 32 = some 180 := by decide +kernel
theorem sr_162_33 : sref 162 33 = some 181 := by decide +kernel
theorem sr_162_34 : sref 162 34 = some 182 := by decide +kernel
theorem sr_162_35 : sref 162 35 = some 183 := by decide +kernel
theorem sr_162_38 : sref 162 38 = some 184 := by decide +kernel
theorem sr_162_39 : sref 162 39 = some 185 := by decide +kernel
theorem sr_162_40 : sref 162 40 = some 186 := by decide +kernel
theorem sr_162_41 : sref 162 41 = some 187 := by decide +kernel
theorem sr_162_42 : sref 162 42 = some 188 := by decide +kernel
theorem sr_162_43 : sref 162 43 = some 189 := by decide +kernel
theorem sr_162_44 : sref 162 44 = some 190 := by decide +kernel
theorem sr_162_46 : sref 162 46 = some 191 := by decide +kernel
theorem sr_162_47 : sref 162 47 = some 192 := by decide +kernel
theorem sr_0_9 : sref 0 9 = none := by decide +kernel
theorem sr_0_10 : sref 0 10 = none := by decide +kernel
theorem sr_0_11 : sref 0 11 = none := by decide +kernel
theorem sr_10_4 : sref 10 4 = none := by decide +kernel
theorem sr_10_5 : sref 10 5 = none := by decide +kernel
theorem sr_10_6 : sref 10 6 = none := by decide +kernel
theorem sr_10_7 : sref 10 7 = none := by decide +kernel
theorem sr_10_8 : sref 10 8 = none := by decide +kernel
theorem sr_17_4 : sref 17 4 = none := by decide +kernel
theorem sr_18_8 : sref 18 8 = none := by decide +kernel
theorem sr_35_4 : sref 35 4 = none := by decide +kernel
theorem sr_48_4 : sref 48 4 = none := by decide +kernel
theorem sr_48_5 : sref 48 5 = none := by decide +kernel
theorem sr_48_6 : sref 48 6 = none := by decide +kernel
theorem sr_48_7 : sref 48 7 = none := by decide +kernel
theorem sr_48_8 : sref 48 8 = none := by decide +kernel
theorem sr_51_4 : sref 51 4 = none := by decide +kernel
theorem sr_51_5 : sref 51 5 = none := by decide +kernel
theorem sr_51_6 : sref 51 6 = none := by decide +kernel
theorem sr_54_3 : sref 54 3 = none := by decide +kernel
theorem sr_69_4 : sref 69 4 = none := by decide +kernel
theorem sr_70_8 : sref 70 8 = none := by decide +kernel
theorem sr_87_4 : sref 87 4 = none := by decide +kernel
theorem sr_100_4 : sref 100 4 = none := by decide +kernel
theorem sr_101_8 : sref 101 8 = none := by decide +kernel
theorem sr_118_4 : sref 118 4 = none := by decide +kernel
theorem sr_131_4 : sref 131 4 = none := by decide +kernel
theorem sr_132_8 : sref 132 8 = none := by decide +kernel
theorem sr_149_4 : sref 149 4 = none := by decide +kernel
theorem sr_162_0 : sref 162 0 = none := by decide +kernel
theorem sr_162_2 : sref 162 2 = none := by decide +kernel
theorem sr_162_4 : sref 162 4 = none := by decide +kernel
theorem sr_162_10 : sref 162 10 = none := by decide +kernel
theorem sr_162_11 : sref 162 11 = none := by decide +kernel
theorem sr_162_12 : sref 162 12 = none := by decide +kernel
theorem sr_162_13 : sref 162 13 = none := by decide +kernel
theorem sr_162_14 : sref 162 14 = none := by decide +kernel
theorem sr_162_15 : sref 162 15 = none := by decide +kernel
theorem sr_162_16 : sref 162 16 = none := by decide +kernel
theorem sr_162_17 : sref 162 17 = none := by decide +kernel
theorem sr_162_18 : sref 162 18 = none := by decide +kernel
theorem sr_162_24 : sref 162 24 = none := by decide +kernel
theorem sr_162_26 : sref 162 26 = none := by decide +kernel
theorem sr_162_30 : sref 162 30 = none := by decide +kernel
theorem sr_162_36 : sref 162 36 = none := by decide +kernel
theorem sr_162_37 : sref 162 37 = none := by decide +kernel
theorem sr_162_45 : sref 162 45 = none := by decide +kernel
