/-! the constructors' tables, by program (wip/whole/gen_new.py) -/
def nT_0_0 : List nw_r := [(0, 0, 0, 0, 0, []), (1, 8, 3, 0, 0, [228, 120, 121]), (4, 0, 0, 0, 0, []), (5, 3, 1, 0, 12, []), (7, 6, 0, 0, 0, [138]), (9, 10, 9, 1, 0, [235]), (12, 0, 0, 0, 0, []), (13, 3, 1, 0, 12, []), (15, 6, 0, 0, 0, [138]), (17, 10, 15, 2, 0, [239]), (20, 0, 0, 0, 0, []), (21, 3, 1, 0, 12, []), (23, 6, 0, 0, 0, [138]), (25, 10, 18, 3, 0, [244]), (28, 0, 0, 0, 0, []), (29, 3, 1, 0, 12, []), (31, 6, 0, 0, 0, [138]), (33, 10, 21, 4, 0, [250])]
def nT_0_1 : List nw_r := [(36, 0, 0, 0, 0, []), (37, 3, 1, 0, 8, []), (39, 6, 0, 0, 0, [138]), (41, 10, 24, 6, 0, [258]), (44, 0, 0, 0, 0, []), (45, 3, 1, 0, 8, []), (47, 6, 0, 0, 0, [138]), (49, 10, 27, 7, 0, [260]), (52, 0, 0, 0, 0, []), (53, 3, 1, 0, 8, []), (55, 6, 0, 0, 0, [138]), (57, 10, 30, 9, 0, [266]), (60, 0, 0, 0, 0, []), (61, 3, 1, 0, 8, []), (63, 6, 0, 0, 0, [138]), (65, 10, 33, 10, 0, [268]), (68, 0, 0, 0, 0, []), (69, 3, 1, 0, 8, [])]
def nT_0_2 : List nw_r := [(71, 6, 0, 0, 0, [138]), (73, 10, 36, 11, 0, [270]), (76, 17, 0, 0, 0, [])]
def nT_0 : List nw_r := nT_0_0 ++ (nT_0_1 ++ (nT_0_2))
def nT_1_0 : List nw_r := [(0, 0, 0, 0, 0, []), (1, 8, 3, 0, 0, [175, 120, 121]), (4, 0, 0, 0, 0, []), (5, 0, 1, 0, 0, []), (6, 10, 9, 0, 0, [176]), (9, 17, 0, 0, 0, [])]
def nT_1 : List nw_r := nT_1_0
def nT_2_0 : List nw_r := [(0, 0, 0, 0, 0, []), (1, 8, 3, 0, 0, [440, 120, 121]), (4, 0, 0, 0, 0, []), (5, 5, 9, 8, 0, [441, 335, 103]), (8, 4, 0, 0, 0, []), (9, 18, 11, 8, 0, [0, 337, 103]), (12, 10, 12, 1, 0, [444]), (15, 0, 0, 0, 0, []), (16, 5, 9, 8, 0, [441, 335, 103]), (19, 4, 0, 0, 0, []), (20, 18, 11, 8, 0, [0, 337, 103]), (23, 10, 18, 2, 0, [445]), (26, 0, 0, 0, 0, []), (27, 3, 1, 0, 12, []), (29, 6, 0, 0, 0, [138]), (31, 10, 21, 3, 0, [446]), (34, 0, 0, 0, 0, []), (35, 3, 0, 0, 3, [])]
def nT_2_1 : List nw_r := [(36, 6, 0, 0, 0, [138]), (38, 10, 25, 4, 0, [447]), (41, 0, 0, 0, 0, []), (42, 0, 1, 0, 0, []), (43, 10, 28, 0, 0, [443]), (46, 17, 0, 0, 0, [])]
def nT_2 : List nw_r := nT_2_0 ++ (nT_2_1)
def nT_3_0 : List nw_r := [(0, 0, 0, 0, 0, []), (1, 8, 3, 0, 0, [465, 120, 121]), (4, 0, 0, 0, 0, []), (5, 5, 9, 8, 0, [466, 335, 103]), (8, 4, 0, 0, 0, []), (9, 18, 11, 8, 0, [0, 337, 103]), (12, 10, 12, 1, 0, [469]), (15, 0, 0, 0, 0, []), (16, 3, 2, 0, 192, []), (19, 6, 0, 0, 0, [138]), (21, 10, 18, 2, 0, [470]), (24, 0, 0, 0, 0, []), (25, 0, 1, 0, 0, []), (26, 10, 22, 0, 0, [468]), (29, 17, 0, 0, 0, [])]
def nT_3 : List nw_r := nT_3_0
def nT_4_0 : List nw_r := [(0, 0, 0, 0, 0, []), (1, 8, 1, 0, 0, [309, 120, 121]), (4, 0, 0, 0, 0, []), (5, 3, 1, 0, 12, []), (7, 6, 2, 0, 0, [332]), (9, 10, 9, 1, 0, [311]), (12, 0, 0, 0, 0, []), (13, 3, 1, 0, 13, []), (15, 6, 0, 0, 0, [138]), (17, 10, 13, 2, 0, [312]), (20, 0, 0, 0, 0, []), (21, 3, 2, 0, 400, []), (24, 6, 0, 0, 0, [138]), (26, 10, 19, 4, 0, [314]), (29, 0, 0, 0, 0, []), (30, 3, 2, 0, 400, []), (33, 6, 0, 0, 0, [138]), (35, 10, 22, 5, 0, [315])]
def nT_4_1 : List nw_r := [(38, 0, 0, 0, 0, []), (39, 3, 1, 0, 60, []), (41, 6, 3, 0, 0, [333]), (43, 10, 25, 6, 0, [316]), (46, 17, 0, 0, 0, [])]
def nT_4 : List nw_r := nT_4_0 ++ (nT_4_1)
def nT_5_0 : List nw_r := [(0, 0, 0, 0, 0, []), (1, 8, 3, 0, 0, [194, 120, 121]), (4, 0, 0, 0, 0, []), (5, 3, 2, 0, 400, []), (8, 6, 0, 0, 0, [138]), (10, 10, 11, 5, 0, [200]), (13, 0, 0, 0, 0, []), (14, 0, 1, 0, 0, []), (15, 10, 17, 0, 0, [195]), (18, 17, 0, 0, 0, [])]
def nT_5 : List nw_r := nT_5_0
def nT_6_0 : List nw_r := [(0, 0, 0, 0, 0, []), (1, 8, 3, 0, 0, [421, 120, 121]), (4, 0, 0, 0, 0, []), (5, 3, 2, 0, 192, []), (8, 6, 0, 0, 0, [138]), (10, 10, 9, 0, 0, [422]), (13, 0, 0, 0, 0, []), (14, 3, 0, 0, -1, []), (15, 10, 15, 1, 0, [423]), (18, 17, 0, 0, 0, [])]
def nT_6 : List nw_r := nT_6_0
def nT_7_0 : List nw_r := [(0, 0, 0, 0, 0, []), (1, 8, 3, 0, 0, [144, 120, 121]), (4, 0, 0, 0, 0, []), (5, 0, 1, 0, 0, []), (6, 10, 9, 0, 0, [145]), (9, 17, 0, 0, 0, [])]
def nT_7 : List nw_r := nT_7_0
def nT_8_0 : List nw_r := [(0, 0, 0, 0, 0, []), (1, 8, 3, 0, 0, [339, 120, 121]), (4, 0, 0, 0, 0, []), (5, 5, 9, 0, 0, [340, 224, 101]), (8, 4, 0, 0, 0, []), (9, 18, 11, 0, 0, [0, 226, 101]), (12, 10, 12, 0, 0, [342]), (15, 0, 0, 0, 0, []), (16, 3, 1, 0, 12, []), (18, 6, 0, 0, 0, [138]), (20, 10, 18, 6, 0, [358]), (23, 0, 0, 0, 0, []), (24, 3, 1, 0, 12, []), (26, 6, 0, 0, 0, [138]), (28, 10, 22, 7, 0, [360]), (31, 0, 0, 0, 0, []), (32, 3, 1, 0, 12, []), (34, 6, 0, 0, 0, [138])]
def nT_8_1 : List nw_r := [(36, 10, 25, 8, 0, [362]), (39, 0, 0, 0, 0, []), (40, 3, 1, 0, 12, []), (42, 6, 0, 0, 0, [138]), (44, 10, 28, 9, 0, [363]), (47, 0, 0, 0, 0, []), (48, 3, 1, 0, 12, []), (50, 6, 0, 0, 0, [138]), (52, 10, 31, 10, 0, [365]), (55, 0, 0, 0, 0, []), (56, 3, 1, 0, 12, []), (58, 6, 0, 0, 0, [138]), (60, 10, 34, 11, 0, [367]), (63, 0, 0, 0, 0, []), (64, 3, 1, 0, -2, []), (66, 10, 37, 13, 0, [372]), (69, 0, 0, 0, 0, []), (70, 3, 0, 0, -1, [])]
def nT_8_2 : List nw_r := [(71, 10, 41, 16, 0, [380]), (74, 17, 0, 0, 0, [])]
def nT_8 : List nw_r := nT_8_0 ++ (nT_8_1 ++ (nT_8_2))
def nT_9_0 : List nw_r := [(0, 0, 0, 0, 0, []), (1, 8, 1, 0, 0, [127, 120, 121]), (4, 0, 0, 0, 0, []), (5, 3, 2, 0, 400, []), (8, 6, 0, 0, 0, [138]), (10, 10, 9, 0, 0, [128]), (13, 17, 0, 0, 0, [])]
def nT_9 : List nw_r := nT_9_0
def nT_10_0 : List nw_r := [(0, 0, 0, 0, 0, []), (1, 8, 1, 0, 0, [119, 120, 121]), (4, 0, 0, 0, 0, []), (5, 5, 7, 9, 0, [122, 123, 97]), (8, 4, 0, 0, 0, []), (9, 18, 9, 9, 0, [0, 125, 97]), (12, 10, 10, 0, 0, [478]), (15, 5, 16, 7, 0, [139, 140, 98]), (18, 4, 0, 0, 0, []), (19, 0, 0, 0, 0, []), (20, 11, 10, 0, 0, [478]), (23, 9, 18, 7, 0, [141, 142, 98]), (26, 19, 1, 0, 0, []), (27, 0, 0, 0, 0, []), (28, 5, 21, 1, 0, [170, 171, 99]), (31, 4, 0, 0, 0, []), (32, 0, 1, 0, 0, []), (33, 9, 23, 1, 0, [172, 173, 99])]
def nT_10_1 : List nw_r := [(36, 10, 26, 1, 0, [479]), (39, 0, 0, 0, 0, []), (40, 5, 30, 5, 0, [189, 190, 100]), (43, 4, 0, 0, 0, []), (44, 0, 1, 0, 0, []), (45, 9, 32, 5, 0, [191, 192, 100]), (48, 10, 33, 2, 0, [480]), (51, 0, 0, 0, 0, []), (52, 5, 37, 0, 0, [223, 224, 101]), (55, 4, 0, 0, 0, []), (56, 18, 39, 0, 0, [0, 226, 101]), (59, 10, 40, 3, 0, [481]), (62, 0, 0, 0, 0, []), (63, 3, 1, 0, 6, []), (65, 7, 44, 4, 0, [303]), (68, 10, 46, 4, 0, [482]), (71, 3, 0, 0, 0, []), (72, 2, 2, 0, 0, [])]
def nT_10_2 : List nw_r := [(73, 1, 2, 0, 0, []), (74, 3, 1, 0, 6, []), (76, 15, 98, 0, 22, []), (79, 0, 0, 0, 0, []), (80, 11, 46, 4, 0, [482]), (83, 1, 2, 0, 0, []), (84, 5, 44, 4, 0, [303, 305, 102]), (87, 4, 0, 0, 0, []), (88, 18, 50, 4, 0, [0, 307, 102]), (91, 13, 0, 0, 0, []), (92, 14, 2, 0, 1, []), (95, 16, 73, 0, -22, []), (98, 0, 0, 0, 0, []), (99, 5, 51, 8, 0, [334, 335, 103]), (102, 4, 0, 0, 0, []), (103, 18, 53, 8, 0, [0, 337, 103]), (106, 10, 54, 6, 0, [484]), (109, 0, 0, 0, 0, [])]
def nT_10_3 : List nw_r := [(110, 5, 58, 6, 0, [416, 417, 104]), (113, 4, 0, 0, 0, []), (114, 18, 60, 6, 0, [0, 419, 104]), (117, 10, 61, 7, 0, [485]), (120, 0, 0, 0, 0, []), (121, 3, 0, 0, 4, []), (122, 7, 51, 5, 0, [334]), (125, 10, 65, 8, 0, [486]), (128, 0, 0, 0, 0, []), (129, 3, 0, 0, 4, []), (130, 7, 58, 6, 0, [416]), (133, 10, 69, 9, 0, [487]), (136, 0, 0, 0, 0, []), (137, 3, 0, 0, 4, []), (138, 6, 2, 0, 0, [332]), (140, 10, 73, 10, 0, [488]), (143, 3, 0, 0, 0, []), (144, 2, 2, 0, 0, [])]
def nT_10_4 : List nw_r := [(145, 1, 2, 0, 0, []), (146, 3, 0, 0, 4, []), (147, 15, 182, 0, 35, []), (150, 0, 0, 0, 0, []), (151, 11, 65, 8, 0, [486]), (154, 1, 2, 0, 0, []), (155, 5, 51, 8, 0, [334, 335, 103]), (158, 4, 0, 0, 0, []), (159, 18, 53, 8, 0, [0, 337, 103]), (162, 13, 0, 0, 0, []), (163, 0, 0, 0, 0, []), (164, 11, 69, 9, 0, [487]), (167, 1, 2, 0, 0, []), (168, 5, 58, 6, 0, [416, 417, 104]), (171, 4, 0, 0, 0, []), (172, 18, 60, 6, 0, [0, 419, 104]), (175, 13, 0, 0, 0, []), (176, 14, 2, 0, 1, [])]
def nT_10_5 : List nw_r := [(179, 16, 145, 0, -34, []), (182, 0, 0, 0, 0, []), (183, 5, 77, 2, 0, [435, 436, 105]), (186, 4, 0, 0, 0, []), (187, 0, 0, 0, 0, []), (188, 11, 54, 6, 0, [484]), (191, 9, 79, 2, 0, [437, 438, 105]), (194, 10, 82, 11, 0, [489]), (197, 0, 0, 0, 0, []), (198, 5, 86, 3, 0, [460, 461, 106]), (201, 4, 0, 0, 0, []), (202, 0, 0, 0, 0, []), (203, 11, 54, 6, 0, [484]), (206, 9, 88, 3, 0, [462, 463, 106]), (209, 10, 89, 12, 0, [490]), (212, 17, 0, 0, 0, [])]
def nT_10 : List nw_r := nT_10_0 ++ (nT_10_1 ++ (nT_10_2 ++ (nT_10_3 ++ (nT_10_4 ++ (nT_10_5)))))
def nT_11_0 : List nw_r := [(0, 0, 0, 0, 0, []), (1, 8, 1, 0, 0, [1128, 120, 121]), (4, 0, 0, 0, 0, []), (5, 3, 1, 0, 11, []), (7, 6, 0, 0, 0, [138]), (9, 10, 7, 1, 0, [1129]), (12, 0, 0, 0, 0, []), (13, 3, 1, 0, 12, []), (15, 6, 0, 0, 0, [138]), (17, 10, 13, 2, 0, [1130]), (20, 0, 0, 0, 0, []), (21, 3, 1, 0, 12, []), (23, 6, 0, 0, 0, [138]), (25, 10, 16, 3, 0, [1131]), (28, 0, 0, 0, 0, []), (29, 3, 1, 0, 12, []), (31, 6, 0, 0, 0, [138]), (33, 10, 19, 4, 0, [1132])]
def nT_11_1 : List nw_r := [(36, 0, 0, 0, 0, []), (37, 3, 1, 0, 12, []), (39, 6, 0, 0, 0, [138]), (41, 10, 22, 5, 0, [1133]), (44, 0, 0, 0, 0, []), (45, 3, 1, 0, 8, []), (47, 6, 0, 0, 0, [138]), (49, 10, 25, 6, 0, [1134]), (52, 0, 0, 0, 0, []), (53, 3, 1, 0, 8, []), (55, 6, 0, 0, 0, [138]), (57, 10, 28, 7, 0, [1135]), (60, 0, 0, 0, 0, []), (61, 3, 1, 0, 8, []), (63, 6, 0, 0, 0, [138]), (65, 10, 31, 8, 0, [1136]), (68, 0, 0, 0, 0, []), (69, 3, 1, 0, 8, [])]
def nT_11_2 : List nw_r := [(71, 6, 0, 0, 0, [138]), (73, 10, 34, 9, 0, [1137]), (76, 0, 0, 0, 0, []), (77, 3, 1, 0, 8, []), (79, 6, 0, 0, 0, [138]), (81, 10, 37, 10, 0, [1138]), (84, 0, 0, 0, 0, []), (85, 3, 0, 0, 4, []), (86, 6, 0, 0, 0, [138]), (88, 10, 40, 11, 0, [1139]), (91, 0, 0, 0, 0, []), (92, 3, 1, 0, 12, []), (94, 6, 0, 0, 0, [138]), (96, 10, 43, 12, 0, [1140]), (99, 0, 0, 0, 0, []), (100, 3, 1, 0, 12, []), (102, 6, 0, 0, 0, [138]), (104, 10, 46, 13, 0, [1141])]
def nT_11_3 : List nw_r := [(107, 0, 0, 0, 0, []), (108, 3, 1, 0, 12, []), (110, 6, 0, 0, 0, [138]), (112, 10, 49, 14, 0, [1142]), (115, 0, 0, 0, 0, []), (116, 3, 1, 0, 12, []), (118, 6, 0, 0, 0, [138]), (120, 10, 52, 15, 0, [1143]), (123, 0, 0, 0, 0, []), (124, 3, 1, 0, 8, []), (126, 6, 0, 0, 0, [138]), (128, 10, 55, 16, 0, [1144]), (131, 0, 0, 0, 0, []), (132, 3, 1, 0, 8, []), (134, 6, 0, 0, 0, [138]), (136, 10, 58, 17, 0, [1145]), (139, 0, 0, 0, 0, []), (140, 3, 1, 0, 8, [])]
def nT_11_4 : List nw_r := [(142, 6, 0, 0, 0, [138]), (144, 10, 61, 18, 0, [1146]), (147, 0, 0, 0, 0, []), (148, 3, 1, 0, 8, []), (150, 6, 0, 0, 0, [138]), (152, 10, 64, 19, 0, [1147]), (155, 0, 0, 0, 0, []), (156, 3, 1, 0, 8, []), (158, 6, 0, 0, 0, [138]), (160, 10, 67, 20, 0, [1148]), (163, 0, 0, 0, 0, []), (164, 3, 1, 0, 12, []), (166, 6, 0, 0, 0, [138]), (168, 10, 70, 21, 0, [1149]), (171, 0, 0, 0, 0, []), (172, 3, 1, 0, 12, []), (174, 6, 0, 0, 0, [138]), (176, 10, 73, 22, 0, [1150])]
def nT_11_5 : List nw_r := [(179, 0, 0, 0, 0, []), (180, 3, 1, 0, 12, []), (182, 6, 0, 0, 0, [138]), (184, 10, 76, 23, 0, [1151]), (187, 0, 0, 0, 0, []), (188, 3, 1, 0, 12, []), (190, 6, 0, 0, 0, [138]), (192, 10, 79, 24, 0, [1152]), (195, 0, 0, 0, 0, []), (196, 3, 2, 0, 192, []), (199, 6, 0, 0, 0, [138]), (201, 10, 82, 25, 0, [1153]), (204, 0, 0, 0, 0, []), (205, 3, 1, 0, 12, []), (207, 6, 0, 0, 0, [138]), (209, 10, 85, 26, 0, [1154]), (212, 0, 0, 0, 0, []), (213, 3, 1, 0, 12, [])]
def nT_11_6 : List nw_r := [(215, 6, 0, 0, 0, [138]), (217, 10, 88, 27, 0, [1155]), (220, 0, 0, 0, 0, []), (221, 3, 1, 0, 12, []), (223, 6, 0, 0, 0, [138]), (225, 10, 91, 28, 0, [1156]), (228, 0, 0, 0, 0, []), (229, 3, 0, 0, -1, []), (230, 10, 94, 29, 0, [1157]), (233, 0, 0, 0, 0, []), (234, 3, 1, 0, 10, []), (236, 10, 98, 39, 0, [1167]), (239, 0, 0, 0, 0, []), (240, 3, 2, 0, 400, []), (243, 6, 1, 0, 0, [689]), (245, 10, 101, 41, 0, [1169]), (248, 0, 0, 0, 0, []), (249, 3, 2, 0, 1800, [])]
def nT_11_7 : List nw_r := [(252, 6, 0, 0, 0, [138]), (254, 10, 105, 42, 0, [1170]), (257, 0, 0, 0, 0, []), (258, 3, 2, 0, 1800, []), (261, 6, 0, 0, 0, [138]), (263, 10, 108, 43, 0, [1171]), (266, 0, 0, 0, 0, []), (267, 3, 1, 0, 6, []), (269, 6, 0, 0, 0, [138]), (271, 10, 111, 44, 0, [1172]), (274, 0, 0, 0, 0, []), (275, 3, 1, 0, 72, []), (277, 6, 0, 0, 0, [138]), (279, 10, 114, 45, 0, [1173]), (282, 0, 0, 0, 0, []), (283, 3, 1, 0, 72, []), (285, 6, 0, 0, 0, [138]), (287, 10, 117, 46, 0, [1174])]
def nT_11_8 : List nw_r := [(290, 0, 0, 0, 0, []), (291, 3, 1, 0, 72, []), (293, 6, 0, 0, 0, [138]), (295, 10, 120, 47, 0, [1175]), (298, 0, 0, 0, 0, []), (299, 3, 2, 0, 402, []), (302, 6, 0, 0, 0, [138]), (304, 10, 123, 48, 0, [1176]), (307, 0, 0, 0, 0, []), (308, 3, 1, 0, 10, []), (310, 6, 3, 0, 0, [333]), (312, 10, 126, 49, 0, [1177]), (315, 0, 0, 0, 0, []), (316, 3, 2, 0, 300, []), (319, 6, 3, 0, 0, [333]), (321, 10, 130, 50, 0, [1178]), (324, 0, 0, 0, 0, []), (325, 3, 1, 0, 11, [])]
def nT_11_9 : List nw_r := [(327, 6, 0, 0, 0, [138]), (329, 10, 133, 51, 0, [1179]), (332, 0, 0, 0, 0, []), (333, 3, 1, 0, 12, []), (335, 6, 0, 0, 0, [138]), (337, 10, 136, 52, 0, [1180]), (340, 0, 0, 0, 0, []), (341, 3, 1, 0, 12, []), (343, 6, 0, 0, 0, [138]), (345, 10, 139, 53, 0, [1181]), (348, 0, 0, 0, 0, []), (349, 3, 1, 0, 12, []), (351, 6, 0, 0, 0, [138]), (353, 10, 142, 54, 0, [1182]), (356, 0, 0, 0, 0, []), (357, 3, 1, 0, 12, []), (359, 6, 0, 0, 0, [138]), (361, 10, 145, 55, 0, [1183])]
def nT_11_10 : List nw_r := [(364, 0, 0, 0, 0, []), (365, 3, 2, 0, 192, []), (368, 6, 0, 0, 0, [138]), (370, 10, 148, 56, 0, [1184]), (373, 0, 0, 0, 0, []), (374, 3, 1, 0, 12, []), (376, 6, 0, 0, 0, [138]), (378, 10, 151, 57, 0, [1185]), (381, 0, 0, 0, 0, []), (382, 3, 1, 0, 12, []), (384, 6, 0, 0, 0, [138]), (386, 10, 154, 58, 0, [1186]), (389, 0, 0, 0, 0, []), (390, 3, 1, 0, 12, []), (392, 6, 0, 0, 0, [138]), (394, 10, 157, 59, 0, [1187]), (397, 0, 0, 0, 0, []), (398, 3, 1, 0, 12, [])]
def nT_11_11 : List nw_r := [(400, 6, 0, 0, 0, [138]), (402, 10, 160, 62, 0, [1190]), (405, 0, 0, 0, 0, []), (406, 3, 2, 0, 1560, []), (409, 6, 0, 0, 0, [138]), (411, 10, 163, 63, 0, [1191]), (414, 0, 0, 0, 0, []), (415, 3, 0, 0, 4, []), (416, 6, 2, 0, 0, [332]), (418, 10, 166, 64, 0, [1192]), (421, 0, 0, 0, 0, []), (422, 11, 7, 1, 0, [1129]), (425, 3, 1, 0, 6, []), (427, 3, 1, 0, -2, []), (429, 12, 0, 0, 0, []), (430, 17, 0, 0, 0, [])]
def nT_11 : List nw_r := nT_11_0 ++ (nT_11_1 ++ (nT_11_2 ++ (nT_11_3 ++ (nT_11_4 ++ (nT_11_5 ++ (nT_11_6 ++ (nT_11_7 ++ (nT_11_8 ++ (nT_11_9 ++ (nT_11_10 ++ (nT_11_11)))))))))))
def nT (k : Nat) : List nw_r := zg [nT_0, nT_1, nT_2, nT_3, nT_4, nT_5, nT_6, nT_7, nT_8, nT_9, nT_10, nT_11] k []
def nY (k : Nat) : MethodName := zg [yX0_init, yX1_init, yX2_init, yX3_init, yX4_init, yX5_init, yX6_init, yX7_init, yX8_init, yX9_init, yX10_init, yX11_init] k yX0_init
def nB (k : Nat) : ByteArray := zg [cX0_init, cX1_init, cX2_init, cX3_init, cX4_init, cX5_init, cX6_init, cX7_init, cX8_init, cX9_init, cX10_init, cX11_init] k cX0_init
def nL (k : Nat) : Nat := zg [1, 2, 2, 2, 1, 2, 1, 2, 1, 1, 3, 1] k 0
def nP (k : Nat) : Nat := zg [0, 1, 1, 1, 0, 1, 0, 1, 0, 0, 0, 0] k 0
def nd (k : Nat) : Nat := zg [1, 1, 3, 3, 1, 1, 1, 1, 2, 1, 4, 1] k 0
def nWc (k : Nat) : Nat := zg [227, 174, 439, 464, 308, 193, 420, 143, 338, 126, 118, 1127] k 0
def nNW : List Cond := [.methodLinkNest RX10 9 yX9_init RX10, .methodLinkNest RX10 39 yX0_init RX10, .methodLinkNest RX10 50 yX4_init RX10, .methodLinkNest RX10 53 yX8_init RX10, .methodLinkNest RX10 60 yX6_init RX10, .methodLinkNest RX2 11 yX8_init RX10, .methodLinkNest RX3 11 yX8_init RX10, .methodLinkNest RX8 11 yX0_init RX10]
def nA (a : Nat) : ArrayType := match a with
  | 0 => .int
  | 1 => .byte
  | 2 => .boolean
  | _ => .long
def nwI (r : nw_r) : Instr × Nat := match r.2.1 with
  | 0 => (.aload_n ⟨r.2.2.1 % 4, Nat.mod_lt _ (by decide)⟩, 1)
  | 1 => (.iload_n ⟨r.2.2.1 % 4, Nat.mod_lt _ (by decide)⟩, 1)
  | 2 => (.istore_n ⟨r.2.2.1 % 4, Nat.mod_lt _ (by decide)⟩, 1)
  | 3 => (match r.2.2.1 with
    | 0 => (.iconst r.2.2.2.2.1, 1)
    | 1 => (.bipush r.2.2.2.2.1, 2)
    | _ => (.sipush r.2.2.2.2.1, 3))
  | 4 => (.dup, 1)
  | 5 => (.new r.2.2.1, 3)
  | 6 => (.newarray (nA r.2.2.1), 2)
  | 7 => (.anewarray r.2.2.1, 3)
  | 8 => (.invokespecial r.2.2.1, 3)
  | 9 => (.invokespecial r.2.2.1, 3)
  | 10 => (.putfield r.2.2.1, 3)
  | 11 => (.getfield r.2.2.1, 3)
  | 12 => (.iastore, 1)
  | 13 => (.aastore, 1)
  | 14 => (.iinc r.2.2.1 r.2.2.2.2.1, 3)
  | 15 => (.if_icmp .ge r.2.2.2.2.1, 3)
  | 16 => (.goto r.2.2.2.2.1, 3)
  | 18 => (.invokespecial r.2.2.1, 3)
  | 19 => (.astore_n ⟨r.2.2.1 % 4, Nat.mod_lt _ (by decide)⟩, 1)
  | _ => (.return_, 1)
def nqN (t : Nat) : String := match t with
  | 4 => RX4
  | 5 => RX8
  | _ => RX6
def nwk (y : Nat) (r : nw_r) : Bool := match r.2.1 with
  | 0 => Nat.blt r.2.2.1 4
  | 1 => Nat.blt r.2.2.1 4
  | 2 => Nat.blt r.2.2.1 (nL y) && Nat.blt r.2.2.1 4
  | 3 => (match r.2.2.1 with
    | 0 => true
    | 1 => decide ((Int8.ofInt r.2.2.2.2.1).toInt32 = Int32.ofInt r.2.2.2.2.1)
    | _ => decide ((Int16.ofInt r.2.2.2.2.1).toInt32 = Int32.ofInt r.2.2.2.2.1))
  | 5 => Nat.blt r.2.2.2.1 12 && zwd (zg r.2.2.2.2.2 0 0) (.classLink (nY y).cls r.2.2.1 (zcl r.2.2.2.1).1) && zwd (zg r.2.2.2.2.2 1 0) (.instantiable (zcl r.2.2.2.1).1 (zcl r.2.2.2.1).2.2) && zwd (zg r.2.2.2.2.2 2 0) (.initialized (zcl r.2.2.2.1).1)
  | 6 => Nat.blt r.2.2.1 4 && zwd (zg r.2.2.2.2.2 0 0) (.arrayClass (tyF r.2.2.1))
  | 7 => Nat.blt 3 r.2.2.2.1 && Nat.blt r.2.2.2.1 7 && zwd (zg r.2.2.2.2.2 0 0) (.classLink (nY y).cls r.2.2.1 (nqN r.2.2.2.1))
  | 8 => Nat.blt 0 (nd y) && zwd (zg r.2.2.2.2.2 0 0) (.methodLink (nY y).cls r.2.2.1 Lib.objectInit) && zwd (zg r.2.2.2.2.2 1 0) (.instanceMethod Lib.objectInit) && zwd (zg r.2.2.2.2.2 2 0) (.code Lib.objectInit ⟨#[0xb1]⟩ 1 none)
  | 9 => Nat.blt r.2.2.2.1 12 && Nat.blt (nd r.2.2.2.1) (nd y) && zwd (zg r.2.2.2.2.2 0 0) (.methodLink (nY y).cls r.2.2.1 (nY r.2.2.2.1)) && zwd (zg r.2.2.2.2.2 1 0) (.instanceMethod (nY r.2.2.2.1)) && zwd (zg r.2.2.2.2.2 2 0) (.initialized (nY r.2.2.2.1).cls)
  | 10 => Nat.blt r.2.2.2.1 (zfN y) && zwd (zg r.2.2.2.2.2 0 0) (.fieldLink (nY y).cls r.2.2.1 ((zcl y).2.1 r.2.2.2.1).1 ((zcl y).2.1 r.2.2.2.1).2.1 ((zcl y).2.1 r.2.2.2.1).2.2.1) && decide (((zcl y).2.1 r.2.2.2.1).1 = (nY y).cls)
  | 11 => Nat.blt r.2.2.2.1 (zfN y) && zwd (zg r.2.2.2.2.2 0 0) (.fieldLink (nY y).cls r.2.2.1 ((zcl y).2.1 r.2.2.2.1).1 ((zcl y).2.1 r.2.2.2.1).2.1 ((zcl y).2.1 r.2.2.2.1).2.2.1)
  | 14 => Nat.blt r.2.2.1 (nL y)
  | 15 => decide ((r.1 : Int) + r.2.2.2.2.1 = (r.2.2.1 : Int))
  | 16 => decide ((r.1 : Int) + r.2.2.2.2.1 = (r.2.2.1 : Int))
  | 18 => Nat.blt r.2.2.2.1 12 && Nat.blt (nd r.2.2.2.1) (nd y) && nNW.contains (.methodLinkNest (nY y).cls r.2.2.1 (nY r.2.2.2.1) RX10) && zwd (zg r.2.2.2.2.2 1 0) (.instanceMethod (nY r.2.2.2.1)) && zwd (zg r.2.2.2.2.2 2 0) (.initialized (nY r.2.2.2.1).cls)
  | 19 => Nat.blt r.2.2.1 (nL y) && Nat.blt r.2.2.1 4
  | _ => true
def nok (y : Nat) (r : nw_r) : Bool := decide (decode (nB y) r.1 = .ok (nwI r)) && nwk y r
def nsq : List nw_r → Bool
  | [] => true
  | r :: es => (decide (r.2.1 = 16) || decide (r.2.1 = 17) || (match es with | [] => false | q :: _ => decide (q.1 = r.1 + (nwI r).2))) && nsq es
/-- what the tables say of a constructor -/
def ncl (y : Nat) : Bool := zwd (nWc y) (Cond.code (nY y) (nB y) (nL y) none) && decide ((nY y).cls ≠ "java/lang/invoke/MethodHandle") && decide ((nY y).cls ≠ "java/lang/invoke/VarHandle") && decide ((parseMethodDescriptor (nY y).desc).map (fun d => d.parameters.length) = some (nP y)) && decide ((zcl y).1 = (nY y).cls) && plainName (nY y).cls && decide ((nY y).name = "<init>") && decide (nL y ≤ 3) && decide (nP y + 1 ≤ nL y) && decide (((List.range (zfN y)).map fun j => cV (nw_ad fun _ => 0) (nw_def (zcty y j))) = (List.range (zfN y)).map fun j => defaultValue (zcty y j))
theorem nall_app {α : Type} {p : α → Bool} {a b : List α} (ha : a.all p = true) (hb : b.all p = true) : (a ++ b).all p = true := by rw [List.all_append, ha, hb]; rfl
set_option maxRecDepth 1000000 in
theorem ncl_0 : ncl 0 = true := by decide +kernel
set_option maxRecDepth 1000000 in
theorem nok_0_0 : (nT_0_0).all (nok 0) = true := by decide +kernel
set_option maxRecDepth 1000000 in
theorem nok_0_1 : (nT_0_1).all (nok 0) = true := by decide +kernel
set_option maxRecDepth 1000000 in
theorem nok_0_2 : (nT_0_2).all (nok 0) = true := by decide +kernel
set_option maxRecDepth 1000000 in
theorem nsq_0 : nsq (nT 0) = true := by decide +kernel
theorem nok_0 : (nT_0).all (nok 0) = true := nall_app nok_0_0 (nall_app nok_0_1 (nok_0_2))
set_option maxRecDepth 1000000 in
theorem ncl_1 : ncl 1 = true := by decide +kernel
set_option maxRecDepth 1000000 in
theorem nok_1_0 : (nT_1_0).all (nok 1) = true := by decide +kernel
set_option maxRecDepth 1000000 in
theorem nsq_1 : nsq (nT 1) = true := by decide +kernel
theorem nok_1 : (nT_1).all (nok 1) = true := nok_1_0
set_option maxRecDepth 1000000 in
theorem ncl_2 : ncl 2 = true := by decide +kernel
set_option maxRecDepth 1000000 in
theorem nok_2_0 : (nT_2_0).all (nok 2) = true := by decide +kernel
set_option maxRecDepth 1000000 in
theorem nok_2_1 : (nT_2_1).all (nok 2) = true := by decide +kernel
set_option maxRecDepth 1000000 in
theorem nsq_2 : nsq (nT 2) = true := by decide +kernel
theorem nok_2 : (nT_2).all (nok 2) = true := nall_app nok_2_0 (nok_2_1)
set_option maxRecDepth 1000000 in
theorem ncl_3 : ncl 3 = true := by decide +kernel
set_option maxRecDepth 1000000 in
theorem nok_3_0 : (nT_3_0).all (nok 3) = true := by decide +kernel
set_option maxRecDepth 1000000 in
theorem nsq_3 : nsq (nT 3) = true := by decide +kernel
theorem nok_3 : (nT_3).all (nok 3) = true := nok_3_0
set_option maxRecDepth 1000000 in
theorem ncl_4 : ncl 4 = true := by decide +kernel
set_option maxRecDepth 1000000 in
theorem nok_4_0 : (nT_4_0).all (nok 4) = true := by decide +kernel
set_option maxRecDepth 1000000 in
theorem nok_4_1 : (nT_4_1).all (nok 4) = true := by decide +kernel
set_option maxRecDepth 1000000 in
theorem nsq_4 : nsq (nT 4) = true := by decide +kernel
theorem nok_4 : (nT_4).all (nok 4) = true := nall_app nok_4_0 (nok_4_1)
set_option maxRecDepth 1000000 in
theorem ncl_5 : ncl 5 = true := by decide +kernel
set_option maxRecDepth 1000000 in
theorem nok_5_0 : (nT_5_0).all (nok 5) = true := by decide +kernel
set_option maxRecDepth 1000000 in
theorem nsq_5 : nsq (nT 5) = true := by decide +kernel
theorem nok_5 : (nT_5).all (nok 5) = true := nok_5_0
set_option maxRecDepth 1000000 in
theorem ncl_6 : ncl 6 = true := by decide +kernel
set_option maxRecDepth 1000000 in
theorem nok_6_0 : (nT_6_0).all (nok 6) = true := by decide +kernel
set_option maxRecDepth 1000000 in
theorem nsq_6 : nsq (nT 6) = true := by decide +kernel
theorem nok_6 : (nT_6).all (nok 6) = true := nok_6_0
set_option maxRecDepth 1000000 in
theorem ncl_7 : ncl 7 = true := by decide +kernel
set_option maxRecDepth 1000000 in
theorem nok_7_0 : (nT_7_0).all (nok 7) = true := by decide +kernel
set_option maxRecDepth 1000000 in
theorem nsq_7 : nsq (nT 7) = true := by decide +kernel
theorem nok_7 : (nT_7).all (nok 7) = true := nok_7_0
set_option maxRecDepth 1000000 in
theorem ncl_8 : ncl 8 = true := by decide +kernel
set_option maxRecDepth 1000000 in
theorem nok_8_0 : (nT_8_0).all (nok 8) = true := by decide +kernel
set_option maxRecDepth 1000000 in
theorem nok_8_1 : (nT_8_1).all (nok 8) = true := by decide +kernel
set_option maxRecDepth 1000000 in
theorem nok_8_2 : (nT_8_2).all (nok 8) = true := by decide +kernel
set_option maxRecDepth 1000000 in
theorem nsq_8 : nsq (nT 8) = true := by decide +kernel
theorem nok_8 : (nT_8).all (nok 8) = true := nall_app nok_8_0 (nall_app nok_8_1 (nok_8_2))
set_option maxRecDepth 1000000 in
theorem ncl_9 : ncl 9 = true := by decide +kernel
set_option maxRecDepth 1000000 in
theorem nok_9_0 : (nT_9_0).all (nok 9) = true := by decide +kernel
set_option maxRecDepth 1000000 in
theorem nsq_9 : nsq (nT 9) = true := by decide +kernel
theorem nok_9 : (nT_9).all (nok 9) = true := nok_9_0
set_option maxRecDepth 1000000 in
theorem ncl_10 : ncl 10 = true := by decide +kernel
set_option maxRecDepth 1000000 in
theorem nok_10_0 : (nT_10_0).all (nok 10) = true := by decide +kernel
set_option maxRecDepth 1000000 in
theorem nok_10_1 : (nT_10_1).all (nok 10) = true := by decide +kernel
set_option maxRecDepth 1000000 in
theorem nok_10_2 : (nT_10_2).all (nok 10) = true := by decide +kernel
set_option maxRecDepth 1000000 in
theorem nok_10_3 : (nT_10_3).all (nok 10) = true := by decide +kernel
set_option maxRecDepth 1000000 in
theorem nok_10_4 : (nT_10_4).all (nok 10) = true := by decide +kernel
set_option maxRecDepth 1000000 in
theorem nok_10_5 : (nT_10_5).all (nok 10) = true := by decide +kernel
set_option maxRecDepth 1000000 in
theorem nsq_10 : nsq (nT 10) = true := by decide +kernel
theorem nok_10 : (nT_10).all (nok 10) = true := nall_app nok_10_0 (nall_app nok_10_1 (nall_app nok_10_2 (nall_app nok_10_3 (nall_app nok_10_4 (nok_10_5)))))
set_option maxRecDepth 1000000 in
theorem ncl_11 : ncl 11 = true := by decide +kernel
set_option maxRecDepth 1000000 in
theorem nok_11_0 : (nT_11_0).all (nok 11) = true := by decide +kernel
set_option maxRecDepth 1000000 in
theorem nok_11_1 : (nT_11_1).all (nok 11) = true := by decide +kernel
set_option maxRecDepth 1000000 in
theorem nok_11_2 : (nT_11_2).all (nok 11) = true := by decide +kernel
set_option maxRecDepth 1000000 in
theorem nok_11_3 : (nT_11_3).all (nok 11) = true := by decide +kernel
set_option maxRecDepth 1000000 in
theorem nok_11_4 : (nT_11_4).all (nok 11) = true := by decide +kernel
set_option maxRecDepth 1000000 in
theorem nok_11_5 : (nT_11_5).all (nok 11) = true := by decide +kernel
set_option maxRecDepth 1000000 in
theorem nok_11_6 : (nT_11_6).all (nok 11) = true := by decide +kernel
set_option maxRecDepth 1000000 in
theorem nok_11_7 : (nT_11_7).all (nok 11) = true := by decide +kernel
set_option maxRecDepth 1000000 in
theorem nok_11_8 : (nT_11_8).all (nok 11) = true := by decide +kernel
set_option maxRecDepth 1000000 in
theorem nok_11_9 : (nT_11_9).all (nok 11) = true := by decide +kernel
set_option maxRecDepth 1000000 in
theorem nok_11_10 : (nT_11_10).all (nok 11) = true := by decide +kernel
set_option maxRecDepth 1000000 in
theorem nok_11_11 : (nT_11_11).all (nok 11) = true := by decide +kernel
set_option maxRecDepth 1000000 in
theorem nsq_11 : nsq (nT 11) = true := by decide +kernel
theorem nok_11 : (nT_11).all (nok 11) = true := nall_app nok_11_0 (nall_app nok_11_1 (nall_app nok_11_2 (nall_app nok_11_3 (nall_app nok_11_4 (nall_app nok_11_5 (nall_app nok_11_6 (nall_app nok_11_7 (nall_app nok_11_8 (nall_app nok_11_9 (nall_app nok_11_10 (nok_11_11)))))))))))
theorem nch_at : ∀ k, k < 12 → (nT k).all (nok k) = true ∧ nsq (nT k) = true ∧ ncl k = true
  | 0, _ => ⟨nok_0, nsq_0, ncl_0⟩
  | 1, _ => ⟨nok_1, nsq_1, ncl_1⟩
  | 2, _ => ⟨nok_2, nsq_2, ncl_2⟩
  | 3, _ => ⟨nok_3, nsq_3, ncl_3⟩
  | 4, _ => ⟨nok_4, nsq_4, ncl_4⟩
  | 5, _ => ⟨nok_5, nsq_5, ncl_5⟩
  | 6, _ => ⟨nok_6, nsq_6, ncl_6⟩
  | 7, _ => ⟨nok_7, nsq_7, ncl_7⟩
  | 8, _ => ⟨nok_8, nsq_8, ncl_8⟩
  | 9, _ => ⟨nok_9, nsq_9, ncl_9⟩
  | 10, _ => ⟨nok_10, nsq_10, ncl_10⟩
  | 11, _ => ⟨nok_11, nsq_11, ncl_11⟩
  | n + 12, h => absurd h (by omega)
def nda (y : Nat) : List zAV := (List.range (zfN y)).map fun j => nw_def (zcty y j)
def nhd (av : List zAV) (n : Nat) : Bool := match av with
  | .inr (.inr (.inl _)) :: t => Nat.beq t.length n && t.all zc1
  | _ => false
/-- the machine: rows from here, the world, locals, stack, cells and slots so far -/
def nrun : Nat → Nat → List nw_r → List nw_C → List zAV → List zAV → Nat → Nat → Option (List nw_C × Nat × Nat)
  | 0, _, _, _, _, _, _, _ => none
  | _ + 1, _, [], _, _, _, _, _ => none
  | f + 1, y, (_, o, a, b, z, _) :: es, cs, L, st, kc, ks => match o with
    | 0 => zvR (zgt L a) fun k i => nrun f y es cs L (vR k i :: st) kc ks
    | 1 => zvI (zgt L a) fun x => nrun f y es cs L (vI x :: st) kc ks
    | 2 => zpI st fun x t => nrun f y es cs (zs1 L a (vI x)) t kc ks
    | 3 => nrun f y es cs L (vI (Int32.ofInt z) :: st) kc ks
    | 4 => zp1 st fun v t => gd (zc1 v) (nrun f y es cs L (v :: v :: t) kc ks)
    | 5 => gd (L.all (nw_v cs.length) && st.all (nw_v cs.length)) (nrun f y es (cs ++ [.inl (b, nda b)]) L (vR 0 cs.length :: st) (kc + 1) (ks + (zcl b).2.2))
    | 6 => zpI st fun x t => gd (L.all (nw_v cs.length) && t.all (nw_v cs.length) && decide (¬ x < 0) && Nat.ble x.toNatClampNeg 100000) (nrun f y es (cs ++ [.inr (.inl (a, x.toNatClampNeg, []))]) L (vR 0 cs.length :: t) (kc + 1) (ks + x.toNatClampNeg))
    | 7 => zpI st fun x t => gd (L.all (nw_v cs.length) && t.all (nw_v cs.length) && decide (¬ x < 0) && Nat.ble x.toNatClampNeg 100000) (nrun f y es (cs ++ [.inr (.inr (b, x.toNatClampNeg, []))]) L (vR 0 cs.length :: t) (kc + 1) (ks + x.toNatClampNeg))
    | 8 => zpR st fun _ _ t => gd t.isEmpty (nrun f y es cs L t kc ks)
    | 9 => gd (L.all (nw_v cs.length) && st.all (nw_v cs.length) && Nat.ble (zcs (st.drop (nP b + 1))) 8 && nhd (st.take (nP b + 1)).reverse (nP b)) (match nrun f b (nT b) cs (zloc (st.take (nP b + 1)).reverse (nL b)) [] 0 0 with
      | some q => nrun f y es q.1 L (st.drop (nP b + 1)) (kc + q.2.1) (ks + q.2.2)
      | none => none)
    | 10 => zp1 st fun v t => zpR t fun _ i t => match cs[i]? with
      | some (.inl q) => gd (Nat.beq q.1 y && nw_v cs.length v && nw_fit (zcty y b) v && Nat.blt b q.2.length) (nrun f y es (cs.set i (.inl (q.1, q.2.set b v))) L t kc ks)
      | _ => none
    | 11 => zpR st fun _ i t => match cs[i]? with
      | some (.inl q) => gd (Nat.beq q.1 y) (match q.2[b]? with
        | some v => nrun f y es cs L (v :: t) kc ks
        | none => none)
      | _ => none
    | 12 => zpI st fun x t => zpI t fun j t => zpR t fun _ i t => match cs[i]? with
      | some (.inr (.inl q)) => gd (Nat.beq q.1 0 && decide (¬ j < 0) && Nat.blt j.toNatClampNeg q.2.1) (nrun f y es (cs.set i (.inr (.inl (q.1, q.2.1, (j.toNatClampNeg, x) :: q.2.2)))) L t kc ks)
      | _ => none
    | 13 => zpR st fun _ v t => zpI t fun j t => zpR t fun _ i t => match cs[i]?, cs[v]? with
      | some (.inr (.inr q)), some (.inl u) => gd (Nat.blt u.1 12 && decide (tyF q.1 = .object (zcl u.1).1) && Nat.blt q.1 7 && decide (¬ j < 0) && Nat.blt j.toNatClampNeg q.2.1 && Nat.blt v cs.length) (nrun f y es (cs.set i (.inr (.inr (q.1, q.2.1, (j.toNatClampNeg, v) :: q.2.2)))) L t kc ks)
      | _, _ => none
    | 14 => zvI (zgt L a) fun x => nrun f y es cs (zs1 L a (vI (x + Int32.ofInt z))) st kc ks
    | 15 => zpI st fun x2 t => zpI t fun x1 t => if x1 < x2 then nrun f y es cs L t kc ks else nrun f y (nw_find a (nT y)) cs L t kc ks
    | 16 => nrun f y (nw_find a (nT y)) cs L st kc ks
    | 17 => gd st.isEmpty (some (cs, kc, ks))
    | 18 => gd (L.all (nw_v cs.length) && st.all (nw_v cs.length) && Nat.ble (zcs (st.drop (nP b + 1))) 8 && nhd (st.take (nP b + 1)).reverse (nP b)) (match nrun f b (nT b) cs (zloc (st.take (nP b + 1)).reverse (nL b)) [] 0 0 with
      | some q => nrun f y es q.1 L (st.drop (nP b + 1)) (kc + q.2.1) (ks + q.2.2)
      | none => none)
    | 19 => zpR st fun k i t => nrun f y es cs (zs1 L a (vR k i)) t kc ks
    | _ => none
def nres (y : Nat) (cs : List nw_C) : Option (List nw_C × Nat × Nat) := nrun 700 y (nT y) cs (zloc [vR 0 (cs.length - 1)] (nL y)) [] 0 0
