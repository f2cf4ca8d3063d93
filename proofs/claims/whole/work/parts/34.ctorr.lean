def fX10_init_107 (h : Hp) : Option Hp := if stB (uR (uR (uR (uR (uR (uI (uR (uR (uR (uR (uR (uR (uR (uR (uR (uR (uR (uR (uR (uR (uR (uR (uR (uR (uR (uR (uR (uR (uR (uR (uR (uR (uR (uR (uR (uR (uR (uR (uR (uR (uR (uR (uR (uI (uR (uI (uI (uI (uI (uI (uI (uI (uI (uI (uI (uI (uI (uI (uI (uI (uI (uI (uI (uI (uI (uI (uI (uI (uI (uI (uI (uI (uI (uI (uI (uI (uI (uI (uI (uI (uI (uI (uI (uI (uI (uI (uI (uI (uI (uI (uI (uI (uI (uI (uI (uI (uI (uI (uI (uI (uI (uI (uI (uI (uI (uI (uI (uI (uI (uI (uI (uI (uI (uI (uI (uI (uI (uI (uI (uI (uI (uI (uI (uI (uI (uI (uI (uI (uI (uI (uI (uI (uI (uI (uI (uI (uI (uI (uI (uI (uI (uI (uI (uI (uI (uI (uI (uI (uI (uI (uI (uI (uI (uI (uI (uI (uI (uI (uI (uI (uI (uI (uI (uI (uI (uI (uI (uI (uI (uI (uI (uR h 107 0 (some 108)) 109 (Int32.toNatClampNeg (0 : Int32)) (99 : Int32)) 109 (Int32.toNatClampNeg (1 : Int32)) (108 : Int32)) 109 (Int32.toNatClampNeg (2 : Int32)) (97 : Int32)) 109 (Int32.toNatClampNeg (3 : Int32)) (105 : Int32)) 109 (Int32.toNatClampNeg (4 : Int32)) (109 : Int32)) 109 (Int32.toNatClampNeg (5 : Int32)) (32 : Int32)) 109 (Int32.toNatClampNeg (6 : Int32)) (99 : Int32)) 109 (Int32.toNatClampNeg (7 : Int32)) (111 : Int32)) 109 (Int32.toNatClampNeg (8 : Int32)) (110 : Int32)) 109 (Int32.toNatClampNeg (9 : Int32)) (116 : Int32)) 109 (Int32.toNatClampNeg (10 : Int32)) (114 : Int32)) 109 (Int32.toNatClampNeg (11 : Int32)) (97 : Int32)) 109 (Int32.toNatClampNeg (12 : Int32)) (32 : Int32)) 109 (Int32.toNatClampNeg (13 : Int32)) (115 : Int32)) 109 (Int32.toNatClampNeg (14 : Int32)) (116 : Int32)) 109 (Int32.toNatClampNeg (15 : Int32)) (114 : Int32)) 109 (Int32.toNatClampNeg (16 : Int32)) (97 : Int32)) 109 (Int32.toNatClampNeg (17 : Int32)) (119 : Int32)) 109 (Int32.toNatClampNeg (18 : Int32)) (32 : Int32)) 109 (Int32.toNatClampNeg (19 : Int32)) (109 : Int32)) 109 (Int32.toNatClampNeg (20 : Int32)) (101 : Int32)) 109 (Int32.toNatClampNeg (21 : Int32)) (109 : Int32)) 109 (Int32.toNatClampNeg (22 : Int32)) (98 : Int32)) 109 (Int32.toNatClampNeg (23 : Int32)) (101 : Int32)) 109 (Int32.toNatClampNeg (24 : Int32)) (114 : Int32)) 109 (Int32.toNatClampNeg (25 : Int32)) (32 : Int32)) 109 (Int32.toNatClampNeg (26 : Int32)) (104 : Int32)) 109 (Int32.toNatClampNeg (27 : Int32)) (111 : Int32)) 109 (Int32.toNatClampNeg (28 : Int32)) (108 : Int32)) 109 (Int32.toNatClampNeg (29 : Int32)) (100 : Int32)) 109 (Int32.toNatClampNeg (30 : Int32)) (115 : Int32)) 109 (Int32.toNatClampNeg (31 : Int32)) (32 : Int32)) 109 (Int32.toNatClampNeg (32 : Int32)) (100 : Int32)) 109 (Int32.toNatClampNeg (33 : Int32)) (101 : Int32)) 109 (Int32.toNatClampNeg (34 : Int32)) (98 : Int32)) 109 (Int32.toNatClampNeg (35 : Int32)) (97 : Int32)) 109 (Int32.toNatClampNeg (36 : Int32)) (116 : Int32)) 109 (Int32.toNatClampNeg (37 : Int32)) (101 : Int32)) 109 (Int32.toNatClampNeg (38 : Int32)) (32 : Int32)) 109 (Int32.toNatClampNeg (39 : Int32)) (115 : Int32)) 109 (Int32.toNatClampNeg (40 : Int32)) (116 : Int32)) 109 (Int32.toNatClampNeg (41 : Int32)) (117 : Int32)) 109 (Int32.toNatClampNeg (42 : Int32)) (102 : Int32)) 109 (Int32.toNatClampNeg (43 : Int32)) (102 : Int32)) 109 (Int32.toNatClampNeg (44 : Int32)) (32 : Int32)) 109 (Int32.toNatClampNeg (45 : Int32)) (100 : Int32)) 109 (Int32.toNatClampNeg (46 : Int32)) (97 : Int32)) 109 (Int32.toNatClampNeg (47 : Int32)) (109 : Int32)) 109 (Int32.toNatClampNeg (48 : Int32)) (112 : Int32)) 109 (Int32.toNatClampNeg (49 : Int32)) (32 : Int32)) 109 (Int32.toNatClampNeg (50 : Int32)) (115 : Int32)) 109 (Int32.toNatClampNeg (51 : Int32)) (101 : Int32)) 109 (Int32.toNatClampNeg (52 : Int32)) (101 : Int32)) 109 (Int32.toNatClampNeg (53 : Int32)) (100 : Int32)) 109 (Int32.toNatClampNeg (54 : Int32)) (32 : Int32)) 109 (Int32.toNatClampNeg (55 : Int32)) (108 : Int32)) 109 (Int32.toNatClampNeg (56 : Int32)) (97 : Int32)) 109 (Int32.toNatClampNeg (57 : Int32)) (119 : Int32)) 109 (Int32.toNatClampNeg (58 : Int32)) (32 : Int32)) 109 (Int32.toNatClampNeg (59 : Int32)) (108 : Int32)) 109 (Int32.toNatClampNeg (60 : Int32)) (101 : Int32)) 109 (Int32.toNatClampNeg (61 : Int32)) (97 : Int32)) 109 (Int32.toNatClampNeg (62 : Int32)) (110 : Int32)) 109 (Int32.toNatClampNeg (63 : Int32)) (32 : Int32)) 109 (Int32.toNatClampNeg (64 : Int32)) (119 : Int32)) 109 (Int32.toNatClampNeg (65 : Int32)) (101 : Int32)) 109 (Int32.toNatClampNeg (66 : Int32)) (97 : Int32)) 109 (Int32.toNatClampNeg (67 : Int32)) (114 : Int32)) 109 (Int32.toNatClampNeg (68 : Int32)) (32 : Int32)) 109 (Int32.toNatClampNeg (69 : Int32)) (116 : Int32)) 109 (Int32.toNatClampNeg (70 : Int32)) (117 : Int32)) 109 (Int32.toNatClampNeg (71 : Int32)) (114 : Int32)) 109 (Int32.toNatClampNeg (72 : Int32)) (110 : Int32)) 109 (Int32.toNatClampNeg (73 : Int32)) (32 : Int32)) 109 (Int32.toNatClampNeg (74 : Int32)) (97 : Int32)) 109 (Int32.toNatClampNeg (75 : Int32)) (110 : Int32)) 109 (Int32.toNatClampNeg (76 : Int32)) (100 : Int32)) 109 (Int32.toNatClampNeg (77 : Int32)) (32 : Int32)) 109 (Int32.toNatClampNeg (78 : Int32)) (111 : Int32)) 109 (Int32.toNatClampNeg (79 : Int32)) (114 : Int32)) 109 (Int32.toNatClampNeg (80 : Int32)) (32 : Int32)) 109 (Int32.toNatClampNeg (81 : Int32)) (110 : Int32)) 109 (Int32.toNatClampNeg (82 : Int32)) (111 : Int32)) 109 (Int32.toNatClampNeg (83 : Int32)) (116 : Int32)) 109 (Int32.toNatClampNeg (84 : Int32)) (32 : Int32)) 109 (Int32.toNatClampNeg (85 : Int32)) (119 : Int32)) 109 (Int32.toNatClampNeg (86 : Int32)) (101 : Int32)) 109 (Int32.toNatClampNeg (87 : Int32)) (105 : Int32)) 109 (Int32.toNatClampNeg (88 : Int32)) (103 : Int32)) 109 (Int32.toNatClampNeg (89 : Int32)) (104 : Int32)) 109 (Int32.toNatClampNeg (90 : Int32)) (116 : Int32)) 109 (Int32.toNatClampNeg (91 : Int32)) (32 : Int32)) 109 (Int32.toNatClampNeg (92 : Int32)) (116 : Int32)) 109 (Int32.toNatClampNeg (93 : Int32)) (101 : Int32)) 109 (Int32.toNatClampNeg (94 : Int32)) (109 : Int32)) 109 (Int32.toNatClampNeg (95 : Int32)) (112 : Int32)) 109 (Int32.toNatClampNeg (96 : Int32)) (101 : Int32)) 109 (Int32.toNatClampNeg (97 : Int32)) (114 : Int32)) 109 (Int32.toNatClampNeg (98 : Int32)) (32 : Int32)) 109 (Int32.toNatClampNeg (99 : Int32)) (102 : Int32)) 109 (Int32.toNatClampNeg (100 : Int32)) (117 : Int32)) 109 (Int32.toNatClampNeg (101 : Int32)) (108 : Int32)) 109 (Int32.toNatClampNeg (102 : Int32)) (108 : Int32)) 109 (Int32.toNatClampNeg (103 : Int32)) (32 : Int32)) 109 (Int32.toNatClampNeg (104 : Int32)) (102 : Int32)) 109 (Int32.toNatClampNeg (105 : Int32)) (111 : Int32)) 109 (Int32.toNatClampNeg (106 : Int32)) (114 : Int32)) 109 (Int32.toNatClampNeg (107 : Int32)) (99 : Int32)) 109 (Int32.toNatClampNeg (108 : Int32)) (101 : Int32)) 109 (Int32.toNatClampNeg (109 : Int32)) (32 : Int32)) 109 (Int32.toNatClampNeg (110 : Int32)) (119 : Int32)) 109 (Int32.toNatClampNeg (111 : Int32)) (105 : Int32)) 109 (Int32.toNatClampNeg (112 : Int32)) (110 : Int32)) 109 (Int32.toNatClampNeg (113 : Int32)) (115 : Int32)) 109 (Int32.toNatClampNeg (114 : Int32)) (32 : Int32)) 109 (Int32.toNatClampNeg (115 : Int32)) (104 : Int32)) 109 (Int32.toNatClampNeg (116 : Int32)) (101 : Int32)) 109 (Int32.toNatClampNeg (117 : Int32)) (108 : Int32)) 109 (Int32.toNatClampNeg (118 : Int32)) (100 : Int32)) 109 (Int32.toNatClampNeg (119 : Int32)) (32 : Int32)) 109 (Int32.toNatClampNeg (120 : Int32)) (110 : Int32)) 109 (Int32.toNatClampNeg (121 : Int32)) (105 : Int32)) 109 (Int32.toNatClampNeg (122 : Int32)) (103 : Int32)) 109 (Int32.toNatClampNeg (123 : Int32)) (104 : Int32)) 109 (Int32.toNatClampNeg (124 : Int32)) (116 : Int32)) 109 (Int32.toNatClampNeg (125 : Int32)) (32 : Int32)) 107 3 (some 109)) 107 5 (-1 : Int32)) 107 26 (some 110)) 107 27 (some 111)) 107 28 (some 112)) 107 29 (some 113)) 107 30 (some 114)) 107 31 (some 115)) 107 32 (some 116)) 107 33 (some 117)) 107 34 (some 118)) 107 35 (some 119)) 107 36 (some 120)) 107 37 (some 121)) 107 38 (some 122)) 107 39 (some 123)) 107 40 (some 124)) 107 41 (some 125)) 107 42 (some 126)) 107 43 (some 127)) 107 44 (some 128)) 107 45 (some 129)) 107 46 (some 130)) 107 47 (some 131)) 107 48 (some 132)) 107 49 (some 133)) 107 50 (some 134)) 107 57 (some 135)) 107 58 (some 136)) 107 60 (some 137)) 107 61 (some 138)) 107 62 (some 139)) 107 63 (some 140)) 107 64 (some 141)) 107 65 (some 142)) 107 66 (some 143)) 107 73 (some 144)) 107 74 (some 145)) 107 75 (some 146)) 107 77 (-1 : Int32)) 107 78 (some 147)) 107 79 (some 148)) 107 81 (some 149)) 107 83 (some 150)) 107 84 (some 151)) then ((fX10_plain (uR (uR (uR (uR (uR (uI (uR (uR (uR (uR (uR (uR (uR (uR (uR (uR (uR (uR (uR (uR (uR (uR (uR (uR (uR (uR (uR (uR (uR (uR (uR (uR (uR (uR (uR (uR (uR (uR (uR (uR (uR (uR (uR (uI (uR (uI (uI (uI (uI (uI (uI (uI (uI (uI (uI (uI (uI (uI (uI (uI (uI (uI (uI (uI (uI (uI (uI (uI (uI (uI (uI (uI (uI (uI (uI (uI (uI (uI (uI (uI (uI (uI (uI (uI (uI (uI (uI (uI (uI (uI (uI (uI (uI (uI (uI (uI (uI (uI (uI (uI (uI (uI (uI (uI (uI (uI (uI (uI (uI (uI (uI (uI (uI (uI (uI (uI (uI (uI (uI (uI (uI (uI (uI (uI (uI (uI (uI (uI (uI (uI (uI (uI (uI (uI (uI (uI (uI (uI (uI (uI (uI (uI (uI (uI (uI (uI (uI (uI (uI (uI (uI (uI (uI (uI (uI (uI (uI (uI (uI (uI (uI (uI (uI (uI (uI (uI (uI (uI (uI (uI (uI (uR h 107 0 (some 108)) 109 (Int32.toNatClampNeg (0 : Int32)) (99 : Int32)) 109 (Int32.toNatClampNeg (1 : Int32)) (108 : Int32)) 109 (Int32.toNatClampNeg (2 : Int32)) (97 : Int32)) 109 (Int32.toNatClampNeg (3 : Int32)) (105 : Int32)) 109 (Int32.toNatClampNeg (4 : Int32)) (109 : Int32)) 109 (Int32.toNatClampNeg (5 : Int32)) (32 : Int32)) 109 (Int32.toNatClampNeg (6 : Int32)) (99 : Int32)) 109 (Int32.toNatClampNeg (7 : Int32)) (111 : Int32)) 109 (Int32.toNatClampNeg (8 : Int32)) (110 : Int32)) 109 (Int32.toNatClampNeg (9 : Int32)) (116 : Int32)) 109 (Int32.toNatClampNeg (10 : Int32)) (114 : Int32)) 109 (Int32.toNatClampNeg (11 : Int32)) (97 : Int32)) 109 (Int32.toNatClampNeg (12 : Int32)) (32 : Int32)) 109 (Int32.toNatClampNeg (13 : Int32)) (115 : Int32)) 109 (Int32.toNatClampNeg (14 : Int32)) (116 : Int32)) 109 (Int32.toNatClampNeg (15 : Int32)) (114 : Int32)) 109 (Int32.toNatClampNeg (16 : Int32)) (97 : Int32)) 109 (Int32.toNatClampNeg (17 : Int32)) (119 : Int32)) 109 (Int32.toNatClampNeg (18 : Int32)) (32 : Int32)) 109 (Int32.toNatClampNeg (19 : Int32)) (109 : Int32)) 109 (Int32.toNatClampNeg (20 : Int32)) (101 : Int32)) 109 (Int32.toNatClampNeg (21 : Int32)) (109 : Int32)) 109 (Int32.toNatClampNeg (22 : Int32)) (98 : Int32)) 109 (Int32.toNatClampNeg (23 : Int32)) (101 : Int32)) 109 (Int32.toNatClampNeg (24 : Int32)) (114 : Int32)) 109 (Int32.toNatClampNeg (25 : Int32)) (32 : Int32)) 109 (Int32.toNatClampNeg (26 : Int32)) (104 : Int32)) 109 (Int32.toNatClampNeg (27 : Int32)) (111 : Int32)) 109 (Int32.toNatClampNeg (28 : Int32)) (108 : Int32)) 109 (Int32.toNatClampNeg (29 : Int32)) (100 : Int32)) 109 (Int32.toNatClampNeg (30 : Int32)) (115 : Int32)) 109 (Int32.toNatClampNeg (31 : Int32)) (32 : Int32)) 109 (Int32.toNatClampNeg (32 : Int32)) (100 : Int32)) 109 (Int32.toNatClampNeg (33 : Int32)) (101 : Int32)) 109 (Int32.toNatClampNeg (34 : Int32)) (98 : Int32)) 109 (Int32.toNatClampNeg (35 : Int32)) (97 : Int32)) 109 (Int32.toNatClampNeg (36 : Int32)) (116 : Int32)) 109 (Int32.toNatClampNeg (37 : Int32)) (101 : Int32)) 109 (Int32.toNatClampNeg (38 : Int32)) (32 : Int32)) 109 (Int32.toNatClampNeg (39 : Int32)) (115 : Int32)) 109 (Int32.toNatClampNeg (40 : Int32)) (116 : Int32)) 109 (Int32.toNatClampNeg (41 : Int32)) (117 : Int32)) 109 (Int32.toNatClampNeg (42 : Int32)) (102 : Int32)) 109 (Int32.toNatClampNeg (43 : Int32)) (102 : Int32)) 109 (Int32.toNatClampNeg (44 : Int32)) (32 : Int32)) 109 (Int32.toNatClampNeg (45 : Int32)) (100 : Int32)) 109 (Int32.toNatClampNeg (46 : Int32)) (97 : Int32)) 109 (Int32.toNatClampNeg (47 : Int32)) (109 : Int32)) 109 (Int32.toNatClampNeg (48 : Int32)) (112 : Int32)) 109 (Int32.toNatClampNeg (49 : Int32)) (32 : Int32)) 109 (Int32.toNatClampNeg (50 : Int32)) (115 : Int32)) 109 (Int32.toNatClampNeg (51 : Int32)) (101 : Int32)) 109 (Int32.toNatClampNeg (52 : Int32)) (101 : Int32)) 109 (Int32.toNatClampNeg (53 : Int32)) (100 : Int32)) 109 (Int32.toNatClampNeg (54 : Int32)) (32 : Int32)) 109 (Int32.toNatClampNeg (55 : Int32)) (108 : Int32)) 109 (Int32.toNatClampNeg (56 : Int32)) (97 : Int32)) 109 (Int32.toNatClampNeg (57 : Int32)) (119 : Int32)) 109 (Int32.toNatClampNeg (58 : Int32)) (32 : Int32)) 109 (Int32.toNatClampNeg (59 : Int32)) (108 : Int32)) 109 (Int32.toNatClampNeg (60 : Int32)) (101 : Int32)) 109 (Int32.toNatClampNeg (61 : Int32)) (97 : Int32)) 109 (Int32.toNatClampNeg (62 : Int32)) (110 : Int32)) 109 (Int32.toNatClampNeg (63 : Int32)) (32 : Int32)) 109 (Int32.toNatClampNeg (64 : Int32)) (119 : Int32)) 109 (Int32.toNatClampNeg (65 : Int32)) (101 : Int32)) 109 (Int32.toNatClampNeg (66 : Int32)) (97 : Int32)) 109 (Int32.toNatClampNeg (67 : Int32)) (114 : Int32)) 109 (Int32.toNatClampNeg (68 : Int32)) (32 : Int32)) 109 (Int32.toNatClampNeg (69 : Int32)) (116 : Int32)) 109 (Int32.toNatClampNeg (70 : Int32)) (117 : Int32)) 109 (Int32.toNatClampNeg (71 : Int32)) (114 : Int32)) 109 (Int32.toNatClampNeg (72 : Int32)) (110 : Int32)) 109 (Int32.toNatClampNeg (73 : Int32)) (32 : Int32)) 109 (Int32.toNatClampNeg (74 : Int32)) (97 : Int32)) 109 (Int32.toNatClampNeg (75 : Int32)) (110 : Int32)) 109 (Int32.toNatClampNeg (76 : Int32)) (100 : Int32)) 109 (Int32.toNatClampNeg (77 : Int32)) (32 : Int32)) 109 (Int32.toNatClampNeg (78 : Int32)) (111 : Int32)) 109 (Int32.toNatClampNeg (79 : Int32)) (114 : Int32)) 109 (Int32.toNatClampNeg (80 : Int32)) (32 : Int32)) 109 (Int32.toNatClampNeg (81 : Int32)) (110 : Int32)) 109 (Int32.toNatClampNeg (82 : Int32)) (111 : Int32)) 109 (Int32.toNatClampNeg (83 : Int32)) (116 : Int32)) 109 (Int32.toNatClampNeg (84 : Int32)) (32 : Int32)) 109 (Int32.toNatClampNeg (85 : Int32)) (119 : Int32)) 109 (Int32.toNatClampNeg (86 : Int32)) (101 : Int32)) 109 (Int32.toNatClampNeg (87 : Int32)) (105 : Int32)) 109 (Int32.toNatClampNeg (88 : Int32)) (103 : Int32)) 109 (Int32.toNatClampNeg (89 : Int32)) (104 : Int32)) 109 (Int32.toNatClampNeg (90 : Int32)) (116 : Int32)) 109 (Int32.toNatClampNeg (91 : Int32)) (32 : Int32)) 109 (Int32.toNatClampNeg (92 : Int32)) (116 : Int32)) 109 (Int32.toNatClampNeg (93 : Int32)) (101 : Int32)) 109 (Int32.toNatClampNeg (94 : Int32)) (109 : Int32)) 109 (Int32.toNatClampNeg (95 : Int32)) (112 : Int32)) 109 (Int32.toNatClampNeg (96 : Int32)) (101 : Int32)) 109 (Int32.toNatClampNeg (97 : Int32)) (114 : Int32)) 109 (Int32.toNatClampNeg (98 : Int32)) (32 : Int32)) 109 (Int32.toNatClampNeg (99 : Int32)) (102 : Int32)) 109 (Int32.toNatClampNeg (100 : Int32)) (117 : Int32)) 109 (Int32.toNatClampNeg (101 : Int32)) (108 : Int32)) 109 (Int32.toNatClampNeg (102 : Int32)) (108 : Int32)) 109 (Int32.toNatClampNeg (103 : Int32)) (32 : Int32)) 109 (Int32.toNatClampNeg (104 : Int32)) (102 : Int32)) 109 (Int32.toNatClampNeg (105 : Int32)) (111 : Int32)) 109 (Int32.toNatClampNeg (106 : Int32)) (114 : Int32)) 109 (Int32.toNatClampNeg (107 : Int32)) (99 : Int32)) 109 (Int32.toNatClampNeg (108 : Int32)) (101 : Int32)) 109 (Int32.toNatClampNeg (109 : Int32)) (32 : Int32)) 109 (Int32.toNatClampNeg (110 : Int32)) (119 : Int32)) 109 (Int32.toNatClampNeg (111 : Int32)) (105 : Int32)) 109 (Int32.toNatClampNeg (112 : Int32)) (110 : Int32)) 109 (Int32.toNatClampNeg (113 : Int32)) (115 : Int32)) 109 (Int32.toNatClampNeg (114 : Int32)) (32 : Int32)) 109 (Int32.toNatClampNeg (115 : Int32)) (104 : Int32)) 109 (Int32.toNatClampNeg (116 : Int32)) (101 : Int32)) 109 (Int32.toNatClampNeg (117 : Int32)) (108 : Int32)) 109 (Int32.toNatClampNeg (118 : Int32)) (100 : Int32)) 109 (Int32.toNatClampNeg (119 : Int32)) (32 : Int32)) 109 (Int32.toNatClampNeg (120 : Int32)) (110 : Int32)) 109 (Int32.toNatClampNeg (121 : Int32)) (105 : Int32)) 109 (Int32.toNatClampNeg (122 : Int32)) (103 : Int32)) 109 (Int32.toNatClampNeg (123 : Int32)) (104 : Int32)) 109 (Int32.toNatClampNeg (124 : Int32)) (116 : Int32)) 109 (Int32.toNatClampNeg (125 : Int32)) (32 : Int32)) 107 3 (some 109)) 107 5 (-1 : Int32)) 107 26 (some 110)) 107 27 (some 111)) 107 28 (some 112)) 107 29 (some 113)) 107 30 (some 114)) 107 31 (some 115)) 107 32 (some 116)) 107 33 (some 117)) 107 34 (some 118)) 107 35 (some 119)) 107 36 (some 120)) 107 37 (some 121)) 107 38 (some 122)) 107 39 (some 123)) 107 40 (some 124)) 107 41 (some 125)) 107 42 (some 126)) 107 43 (some 127)) 107 44 (some 128)) 107 45 (some 129)) 107 46 (some 130)) 107 47 (some 131)) 107 48 (some 132)) 107 49 (some 133)) 107 50 (some 134)) 107 57 (some 135)) 107 58 (some 136)) 107 60 (some 137)) 107 61 (some 138)) 107 62 (some 139)) 107 63 (some 140)) 107 64 (some 141)) 107 65 (some 142)) 107 66 (some 143)) 107 73 (some 144)) 107 74 (some 145)) 107 75 (some 146)) 107 77 (-1 : Int32)) 107 78 (some 147)) 107 79 (some 148)) 107 81 (some 149)) 107 83 (some 150)) 107 84 (some 151))).bind (fun h_1 => (fX10_keepText h_1).bind (fun h_2 => some h_2))) else none
set_option maxRecDepth 100000 in
set_option maxHeartbeats 8000000 in
theorem c_X10_init_107 {l : Launch} {sb : State} {D : va_G} {ids : Nat → ClassId} (h r : Hp) (hr : fX10_init_107 h = some r) : jMc l yX10_init cX10_init 1 3 sb D ids shp 108 44 4409 [.ref 107] h (jQv sb D ids shp St 152 r) := by
  refine jMc_of (Qc := fun r => jQv sb D ids shp St 152 r) hr rfl rfl (Nat.le_of_ble_eq_true rfl) ?_
  intro p e s m args below meth c hC hret hin hs0
  unfold fX10_init_107
  refine j_aload_n hC 0 rfl rfl (dOk_at dt_X10_init_0 0 rfl) ?_
  refine j_objInit hC oiX10_1 ⟨Nat.le_of_ble_eq_true rfl, Nat.le_of_ble_eq_true rfl⟩ (Nat.le_of_ble_eq_true rfl) (dOk_at dt_X10_init_0 1 rfl) ?_
  refine j_aload_n hC 0 rfl rfl (dOk_at dt_X10_init_0 2 rfl) ?_
  refine j_sipush hC (v := (700 : Int32)) rfl (dOk_at dt_X10_init_0 3 rfl) ?_
  refine j_newaI (atype := .int) (n := 108) (t := 1) (ty := .int) (N := 700) hC aw_int rfl rfl (fun C q => by cases q) (show shp 108 = (20 + 1, 700) from rfl) rfl (by decide) (by decide +kernel) (by decide +kernel) (Nat.le_of_ble_eq_true rfl) (by omega) ⟨Nat.le_of_ble_eq_true rfl, Nat.le_of_ble_eq_true rfl⟩ (dOk_at dt_X10_init_0 4 rfl) ?_
  refine j_putRc (n := 109) hC hin flX10_7 (fun q hq _ => by cases hq; rfl) (show shp 107 = (10, 88) from rfl) (Nat.le_of_ble_eq_true rfl) (by decide) (by decide) (Or.inr ⟨_, rfl⟩) (dOk_at dt_X10_init_0 5 rfl) ?_
  refine j_aload_n hC 0 rfl rfl (dOk_at dt_X10_init_0 6 rfl) ?_
  refine j_bipush hC (v := (126 : Int32)) rfl (dOk_at dt_X10_init_0 7 rfl) ?_
  refine j_newaI (atype := .int) (n := 109) (t := 1) (ty := .int) (N := 126) hC aw_int rfl rfl (fun C q => by cases q) (show shp 109 = (20 + 1, 126) from rfl) rfl (by decide) (by decide +kernel) (by decide +kernel) (Nat.le_of_ble_eq_true rfl) (by omega) ⟨Nat.le_of_ble_eq_true rfl, Nat.le_of_ble_eq_true rfl⟩ (dOk_at dt_X10_init_0 8 rfl) ?_
  refine j_dupr hC (dOk_at dt_X10_init_0 9 rfl) ?_
  refine j_iconst hC (v := (0 : Int32)) rfl (dOk_at dt_X10_init_0 10 rfl) ?_
  refine j_bipush hC (v := (99 : Int32)) rfl (dOk_at dt_X10_init_0 11 rfl) ?_
  refine j_iastc (n := 110) hC (show shp 109 = (21, 126) from rfl) (Nat.le_of_ble_eq_true rfl) (by decide +kernel) (dOk_at dt_X10_init_0 12 rfl) ?_
  refine j_dupr hC (dOk_at dt_X10_init_0 13 rfl) ?_
  refine j_iconst hC (v := (1 : Int32)) rfl (dOk_at dt_X10_init_0 14 rfl) ?_
  refine j_bipush hC (v := (108 : Int32)) rfl (dOk_at dt_X10_init_0 15 rfl) ?_
  refine j_iastc (n := 110) hC (show shp 109 = (21, 126) from rfl) (Nat.le_of_ble_eq_true rfl) (by decide +kernel) (dOk_at dt_X10_init_0 16 rfl) ?_
  refine j_dupr hC (dOk_at dt_X10_init_0 17 rfl) ?_
  refine j_iconst hC (v := (2 : Int32)) rfl (dOk_at dt_X10_init_0 18 rfl) ?_
  refine j_bipush hC (v := (97 : Int32)) rfl (dOk_at dt_X10_init_0 19 rfl) ?_
  refine j_iastc (n := 110) hC (show shp 109 = (21, 126) from rfl) (Nat.le_of_ble_eq_true rfl) (by decide +kernel) (dOk_at dt_X10_init_0 20 rfl) ?_
  refine j_dupr hC (dOk_at dt_X10_init_0 21 rfl) ?_
  refine j_iconst hC (v := (3 : Int32)) rfl (dOk_at dt_X10_init_0 22 rfl) ?_
  refine j_bipush hC (v := (105 : Int32)) rfl (dOk_at dt_X10_init_0 23 rfl) ?_
  refine j_iastc (n := 110) hC (show shp 109 = (21, 126) from rfl) (Nat.le_of_ble_eq_true rfl) (by decide +kernel) (dOk_at dt_X10_init_0 24 rfl) ?_
  refine j_dupr hC (dOk_at dt_X10_init_0 25 rfl) ?_
  refine j_iconst hC (v := (4 : Int32)) rfl (dOk_at dt_X10_init_0 26 rfl) ?_
  refine j_bipush hC (v := (109 : Int32)) rfl (dOk_at dt_X10_init_0 27 rfl) ?_
  refine j_iastc (n := 110) hC (show shp 109 = (21, 126) from rfl) (Nat.le_of_ble_eq_true rfl) (by decide +kernel) (dOk_at dt_X10_init_0 28 rfl) ?_
  refine j_dupr hC (dOk_at dt_X10_init_0 29 rfl) ?_
  refine j_iconst hC (v := (5 : Int32)) rfl (dOk_at dt_X10_init_0 30 rfl) ?_
  refine j_bipush hC (v := (32 : Int32)) rfl (dOk_at dt_X10_init_0 31 rfl) ?_
  refine j_iastc (n := 110) hC (show shp 109 = (21, 126) from rfl) (Nat.le_of_ble_eq_true rfl) (by decide +kernel) (dOk_at dt_X10_init_0 32 rfl) ?_
  refine j_dupr hC (dOk_at dt_X10_init_0 33 rfl) ?_
  refine j_bipush hC (v := (6 : Int32)) rfl (dOk_at dt_X10_init_0 34 rfl) ?_
  refine j_bipush hC (v := (99 : Int32)) rfl (dOk_at dt_X10_init_0 35 rfl) ?_
  refine j_iastc (n := 110) hC (show shp 109 = (21, 126) from rfl) (Nat.le_of_ble_eq_true rfl) (by decide +kernel) (dOk_at dt_X10_init_0 36 rfl) ?_
  refine j_dupr hC (dOk_at dt_X10_init_0 37 rfl) ?_
  refine j_bipush hC (v := (7 : Int32)) rfl (dOk_at dt_X10_init_0 38 rfl) ?_
  refine j_bipush hC (v := (111 : Int32)) rfl (dOk_at dt_X10_init_0 39 rfl) ?_
  refine j_iastc (n := 110) hC (show shp 109 = (21, 126) from rfl) (Nat.le_of_ble_eq_true rfl) (by decide +kernel) (dOk_at dt_X10_init_1 0 rfl) ?_
  refine j_dupr hC (dOk_at dt_X10_init_1 1 rfl) ?_
  refine j_bipush hC (v := (8 : Int32)) rfl (dOk_at dt_X10_init_1 2 rfl) ?_
  refine j_bipush hC (v := (110 : Int32)) rfl (dOk_at dt_X10_init_1 3 rfl) ?_
  refine j_iastc (n := 110) hC (show shp 109 = (21, 126) from rfl) (Nat.le_of_ble_eq_true rfl) (by decide +kernel) (dOk_at dt_X10_init_1 4 rfl) ?_
  refine j_dupr hC (dOk_at dt_X10_init_1 5 rfl) ?_
  refine j_bipush hC (v := (9 : Int32)) rfl (dOk_at dt_X10_init_1 6 rfl) ?_
  refine j_bipush hC (v := (116 : Int32)) rfl (dOk_at dt_X10_init_1 7 rfl) ?_
  refine j_iastc (n := 110) hC (show shp 109 = (21, 126) from rfl) (Nat.le_of_ble_eq_true rfl) (by decide +kernel) (dOk_at dt_X10_init_1 8 rfl) ?_
  refine j_dupr hC (dOk_at dt_X10_init_1 9 rfl) ?_
  refine j_bipush hC (v := (10 : Int32)) rfl (dOk_at dt_X10_init_1 10 rfl) ?_
  refine j_bipush hC (v := (114 : Int32)) rfl (dOk_at dt_X10_init_1 11 rfl) ?_
  refine j_iastc (n := 110) hC (show shp 109 = (21, 126) from rfl) (Nat.le_of_ble_eq_true rfl) (by decide +kernel) (dOk_at dt_X10_init_1 12 rfl) ?_
  refine j_dupr hC (dOk_at dt_X10_init_1 13 rfl) ?_
  refine j_bipush hC (v := (11 : Int32)) rfl (dOk_at dt_X10_init_1 14 rfl) ?_
  refine j_bipush hC (v := (97 : Int32)) rfl (dOk_at dt_X10_init_1 15 rfl) ?_
  refine j_iastc (n := 110) hC (show shp 109 = (21, 126) from rfl) (Nat.le_of_ble_eq_true rfl) (by decide +kernel) (dOk_at dt_X10_init_1 16 rfl) ?_
  refine j_dupr hC (dOk_at dt_X10_init_1 17 rfl) ?_
  refine j_bipush hC (v := (12 : Int32)) rfl (dOk_at dt_X10_init_1 18 rfl) ?_
  refine j_bipush hC (v := (32 : Int32)) rfl (dOk_at dt_X10_init_1 19 rfl) ?_
  refine j_iastc (n := 110) hC (show shp 109 = (21, 126) from rfl) (Nat.le_of_ble_eq_true rfl) (by decide +kernel) (dOk_at dt_X10_init_1 20 rfl) ?_
  refine j_dupr hC (dOk_at dt_X10_init_1 21 rfl) ?_
  refine j_bipush hC (v := (13 : Int32)) rfl (dOk_at dt_X10_init_1 22 rfl) ?_
  refine j_bipush hC (v := (115 : Int32)) rfl (dOk_at dt_X10_init_1 23 rfl) ?_
  refine j_iastc (n := 110) hC (show shp 109 = (21, 126) from rfl) (Nat.le_of_ble_eq_true rfl) (by decide +kernel) (dOk_at dt_X10_init_1 24 rfl) ?_
  refine j_dupr hC (dOk_at dt_X10_init_1 25 rfl) ?_
  refine j_bipush hC (v := (14 : Int32)) rfl (dOk_at dt_X10_init_1 26 rfl) ?_
  refine j_bipush hC (v := (116 : Int32)) rfl (dOk_at dt_X10_init_1 27 rfl) ?_
  refine j_iastc (n := 110) hC (show shp 109 = (21, 126) from rfl) (Nat.le_of_ble_eq_true rfl) (by decide +kernel) (dOk_at dt_X10_init_1 28 rfl) ?_
  refine j_dupr hC (dOk_at dt_X10_init_1 29 rfl) ?_
  refine j_bipush hC (v := (15 : Int32)) rfl (dOk_at dt_X10_init_1 30 rfl) ?_
  refine j_bipush hC (v := (114 : Int32)) rfl (dOk_at dt_X10_init_1 31 rfl) ?_
  refine j_iastc (n := 110) hC (show shp 109 = (21, 126) from rfl) (Nat.le_of_ble_eq_true rfl) (by decide +kernel) (dOk_at dt_X10_init_1 32 rfl) ?_
  refine j_dupr hC (dOk_at dt_X10_init_1 33 rfl) ?_
  refine j_bipush hC (v := (16 : Int32)) rfl (dOk_at dt_X10_init_1 34 rfl) ?_
  refine j_bipush hC (v := (97 : Int32)) rfl (dOk_at dt_X10_init_1 35 rfl) ?_
  refine j_iastc (n := 110) hC (show shp 109 = (21, 126) from rfl) (Nat.le_of_ble_eq_true rfl) (by decide +kernel) (dOk_at dt_X10_init_1 36 rfl) ?_
  refine j_dupr hC (dOk_at dt_X10_init_1 37 rfl) ?_
  refine j_bipush hC (v := (17 : Int32)) rfl (dOk_at dt_X10_init_1 38 rfl) ?_
  refine j_bipush hC (v := (119 : Int32)) rfl (dOk_at dt_X10_init_1 39 rfl) ?_
  refine j_iastc (n := 110) hC (show shp 109 = (21, 126) from rfl) (Nat.le_of_ble_eq_true rfl) (by decide +kernel) (dOk_at dt_X10_init_2 0 rfl) ?_
  refine j_dupr hC (dOk_at dt_X10_init_2 1 rfl) ?_
  refine j_bipush hC (v := (18 : Int32)) rfl (dOk_at dt_X10_init_2 2 rfl) ?_
  refine j_bipush hC (v := (32 : Int32)) rfl (dOk_at dt_X10_init_2 3 rfl) ?_
  refine j_iastc (n := 110) hC (show shp 109 = (21, 126) from rfl) (Nat.le_of_ble_eq_true rfl) (by decide +kernel) (dOk_at dt_X10_init_2 4 rfl) ?_
  refine j_dupr hC (dOk_at dt_X10_init_2 5 rfl) ?_
  refine j_bipush hC (v := (19 : Int32)) rfl (dOk_at dt_X10_init_2 6 rfl) ?_
  refine j_bipush hC (v := (109 : Int32)) rfl (dOk_at dt_X10_init_2 7 rfl) ?_
  refine j_iastc (n := 110) hC (show shp 109 = (21, 126) from rfl) (Nat.le_of_ble_eq_true rfl) (by decide +kernel) (dOk_at dt_X10_init_2 8 rfl) ?_
  refine j_dupr hC (dOk_at dt_X10_init_2 9 rfl) ?_
  refine j_bipush hC (v := (20 : Int32)) rfl (dOk_at dt_X10_init_2 10 rfl) ?_
  refine j_bipush hC (v := (101 : Int32)) rfl (dOk_at dt_X10_init_2 11 rfl) ?_
  refine j_iastc (n := 110) hC (show shp 109 = (21, 126) from rfl) (Nat.le_of_ble_eq_true rfl) (by decide +kernel) (dOk_at dt_X10_init_2 12 rfl) ?_
  refine j_dupr hC (dOk_at dt_X10_init_2 13 rfl) ?_
  refine j_bipush hC (v := (21 : Int32)) rfl (dOk_at dt_X10_init_2 14 rfl) ?_
  refine j_bipush hC (v := (109 : Int32)) rfl (dOk_at dt_X10_init_2 15 rfl) ?_
  refine j_iastc (n := 110) hC (show shp 109 = (21, 126) from rfl) (Nat.le_of_ble_eq_true rfl) (by decide +kernel) (dOk_at dt_X10_init_2 16 rfl) ?_
  refine j_dupr hC (dOk_at dt_X10_init_2 17 rfl) ?_
  refine j_bipush hC (v := (22 : Int32)) rfl (dOk_at dt_X10_init_2 18 rfl) ?_
  refine j_bipush hC (v := (98 : Int32)) rfl (dOk_at dt_X10_init_2 19 rfl) ?_
  refine j_iastc (n := 110) hC (show shp 109 = (21, 126) from rfl) (Nat.le_of_ble_eq_true rfl) (by decide +kernel) (dOk_at dt_X10_init_2 20 rfl) ?_
  refine j_dupr hC (dOk_at dt_X10_init_2 21 rfl) ?_
  refine j_bipush hC (v := (23 : Int32)) rfl (dOk_at dt_X10_init_2 22 rfl) ?_
  refine j_bipush hC (v := (101 : Int32)) rfl (dOk_at dt_X10_init_2 23 rfl) ?_
  refine j_iastc (n := 110) hC (show shp 109 = (21, 126) from rfl) (Nat.le_of_ble_eq_true rfl) (by decide +kernel) (dOk_at dt_X10_init_2 24 rfl) ?_
  refine j_dupr hC (dOk_at dt_X10_init_2 25 rfl) ?_
  refine j_bipush hC (v := (24 : Int32)) rfl (dOk_at dt_X10_init_2 26 rfl) ?_
  refine j_bipush hC (v := (114 : Int32)) rfl (dOk_at dt_X10_init_2 27 rfl) ?_
  refine j_iastc (n := 110) hC (show shp 109 = (21, 126) from rfl) (Nat.le_of_ble_eq_true rfl) (by decide +kernel) (dOk_at dt_X10_init_2 28 rfl) ?_
  refine j_dupr hC (dOk_at dt_X10_init_2 29 rfl) ?_
  refine j_bipush hC (v := (25 : Int32)) rfl (dOk_at dt_X10_init_2 30 rfl) ?_
  refine j_bipush hC (v := (32 : Int32)) rfl (dOk_at dt_X10_init_2 31 rfl) ?_
  refine j_iastc (n := 110) hC (show shp 109 = (21, 126) from rfl) (Nat.le_of_ble_eq_true rfl) (by decide +kernel) (dOk_at dt_X10_init_2 32 rfl) ?_
  refine j_dupr hC (dOk_at dt_X10_init_2 33 rfl) ?_
  refine j_bipush hC (v := (26 : Int32)) rfl (dOk_at dt_X10_init_2 34 rfl) ?_
  refine j_bipush hC (v := (104 : Int32)) rfl (dOk_at dt_X10_init_2 35 rfl) ?_
  refine j_iastc (n := 110) hC (show shp 109 = (21, 126) from rfl) (Nat.le_of_ble_eq_true rfl) (by decide +kernel) (dOk_at dt_X10_init_2 36 rfl) ?_
  refine j_dupr hC (dOk_at dt_X10_init_2 37 rfl) ?_
  refine j_bipush hC (v := (27 : Int32)) rfl (dOk_at dt_X10_init_2 38 rfl) ?_
  refine j_bipush hC (v := (111 : Int32)) rfl (dOk_at dt_X10_init_2 39 rfl) ?_
  refine j_iastc (n := 110) hC (show shp 109 = (21, 126) from rfl) (Nat.le_of_ble_eq_true rfl) (by decide +kernel) (dOk_at dt_X10_init_3 0 rfl) ?_
  refine j_dupr hC (dOk_at dt_X10_init_3 1 rfl) ?_
  refine j_bipush hC (v := (28 : Int32)) rfl (dOk_at dt_X10_init_3 2 rfl) ?_
  refine j_bipush hC (v := (108 : Int32)) rfl (dOk_at dt_X10_init_3 3 rfl) ?_
  refine j_iastc (n := 110) hC (show shp 109 = (21, 126) from rfl) (Nat.le_of_ble_eq_true rfl) (by decide +kernel) (dOk_at dt_X10_init_3 4 rfl) ?_
  refine j_dupr hC (dOk_at dt_X10_init_3 5 rfl) ?_
  refine j_bipush hC (v := (29 : Int32)) rfl (dOk_at dt_X10_init_3 6 rfl) ?_
  refine j_bipush hC (v := (100 : Int32)) rfl (dOk_at dt_X10_init_3 7 rfl) ?_
  refine j_iastc (n := 110) hC (show shp 109 = (21, 126) from rfl) (Nat.le_of_ble_eq_true rfl) (by decide +kernel) (dOk_at dt_X10_init_3 8 rfl) ?_
  refine j_dupr hC (dOk_at dt_X10_init_3 9 rfl) ?_
  refine j_bipush hC (v := (30 : Int32)) rfl (dOk_at dt_X10_init_3 10 rfl) ?_
  refine j_bipush hC (v := (115 : Int32)) rfl (dOk_at dt_X10_init_3 11 rfl) ?_
  refine j_iastc (n := 110) hC (show shp 109 = (21, 126) from rfl) (Nat.le_of_ble_eq_true rfl) (by decide +kernel) (dOk_at dt_X10_init_3 12 rfl) ?_
  refine j_dupr hC (dOk_at dt_X10_init_3 13 rfl) ?_
  refine j_bipush hC (v := (31 : Int32)) rfl (dOk_at dt_X10_init_3 14 rfl) ?_
  refine j_bipush hC (v := (32 : Int32)) rfl (dOk_at dt_X10_init_3 15 rfl) ?_
  refine j_iastc (n := 110) hC (show shp 109 = (21, 126) from rfl) (Nat.le_of_ble_eq_true rfl) (by decide +kernel) (dOk_at dt_X10_init_3 16 rfl) ?_
  refine j_dupr hC (dOk_at dt_X10_init_3 17 rfl) ?_
  refine j_bipush hC (v := (32 : Int32)) rfl (dOk_at dt_X10_init_3 18 rfl) ?_
  refine j_bipush hC (v := (100 : Int32)) rfl (dOk_at dt_X10_init_3 19 rfl) ?_
  refine j_iastc (n := 110) hC (show shp 109 = (21, 126) from rfl) (Nat.le_of_ble_eq_true rfl) (by decide +kernel) (dOk_at dt_X10_init_3 20 rfl) ?_
  refine j_dupr hC (dOk_at dt_X10_init_3 21 rfl) ?_
  refine j_bipush hC (v := (33 : Int32)) rfl (dOk_at dt_X10_init_3 22 rfl) ?_
  refine j_bipush hC (v := (101 : Int32)) rfl (dOk_at dt_X10_init_3 23 rfl) ?_
  refine j_iastc (n := 110) hC (show shp 109 = (21, 126) from rfl) (Nat.le_of_ble_eq_true rfl) (by decide +kernel) (dOk_at dt_X10_init_3 24 rfl) ?_
  refine j_dupr hC (dOk_at dt_X10_init_3 25 rfl) ?_
  refine j_bipush hC (v := (34 : Int32)) rfl (dOk_at dt_X10_init_3 26 rfl) ?_
  refine j_bipush hC (v := (98 : Int32)) rfl (dOk_at dt_X10_init_3 27 rfl) ?_
  refine j_iastc (n := 110) hC (show shp 109 = (21, 126) from rfl) (Nat.le_of_ble_eq_true rfl) (by decide +kernel) (dOk_at dt_X10_init_3 28 rfl) ?_
  refine j_dupr hC (dOk_at dt_X10_init_3 29 rfl) ?_
  refine j_bipush hC (v := (35 : Int32)) rfl (dOk_at dt_X10_init_3 30 rfl) ?_
  refine j_bipush hC (v := (97 : Int32)) rfl (dOk_at dt_X10_init_3 31 rfl) ?_
  refine j_iastc (n := 110) hC (show shp 109 = (21, 126) from rfl) (Nat.le_of_ble_eq_true rfl) (by decide +kernel) (dOk_at dt_X10_init_3 32 rfl) ?_
  refine j_dupr hC (dOk_at dt_X10_init_3 33 rfl) ?_
  refine j_bipush hC (v := (36 : Int32)) rfl (dOk_at dt_X10_init_3 34 rfl) ?_
  refine j_bipush hC (v := (116 : Int32)) rfl (dOk_at dt_X10_init_3 35 rfl) ?_
  refine j_iastc (n := 110) hC (show shp 109 = (21, 126) from rfl) (Nat.le_of_ble_eq_true rfl) (by decide +kernel) (dOk_at dt_X10_init_3 36 rfl) ?_
  refine j_dupr hC (dOk_at dt_X10_init_3 37 rfl) ?_
  refine j_bipush hC (v := (37 : Int32)) rfl (dOk_at dt_X10_init_3 38 rfl) ?_
  refine j_bipush hC (v := (101 : Int32)) rfl (dOk_at dt_X10_init_3 39 rfl) ?_
  refine j_iastc (n := 110) hC (show shp 109 = (21, 126) from rfl) (Nat.le_of_ble_eq_true rfl) (by decide +kernel) (dOk_at dt_X10_init_4 0 rfl) ?_
  refine j_dupr hC (dOk_at dt_X10_init_4 1 rfl) ?_
  refine j_bipush hC (v := (38 : Int32)) rfl (dOk_at dt_X10_init_4 2 rfl) ?_
  refine j_bipush hC (v := (32 : Int32)) rfl (dOk_at dt_X10_init_4 3 rfl) ?_
  refine j_iastc (n := 110) hC (show shp 109 = (21, 126) from rfl) (Nat.le_of_ble_eq_true rfl) (by decide +kernel) (dOk_at dt_X10_init_4 4 rfl) ?_
  refine j_dupr hC (dOk_at dt_X10_init_4 5 rfl) ?_
  refine j_bipush hC (v := (39 : Int32)) rfl (dOk_at dt_X10_init_4 6 rfl) ?_
  refine j_bipush hC (v := (115 : Int32)) rfl (dOk_at dt_X10_init_4 7 rfl) ?_
  refine j_iastc (n := 110) hC (show shp 109 = (21, 126) from rfl) (Nat.le_of_ble_eq_true rfl) (by decide +kernel) (dOk_at dt_X10_init_4 8 rfl) ?_
  refine j_dupr hC (dOk_at dt_X10_init_4 9 rfl) ?_
  refine j_bipush hC (v := (40 : Int32)) rfl (dOk_at dt_X10_init_4 10 rfl) ?_
  refine j_bipush hC (v := (116 : Int32)) rfl (dOk_at dt_X10_init_4 11 rfl) ?_
  refine j_iastc (n := 110) hC (show shp 109 = (21, 126) from rfl) (Nat.le_of_ble_eq_true rfl) (by decide +kernel) (dOk_at dt_X10_init_4 12 rfl) ?_
  refine j_dupr hC (dOk_at dt_X10_init_4 13 rfl) ?_
  refine j_bipush hC (v := (41 : Int32)) rfl (dOk_at dt_X10_init_4 14 rfl) ?_
  refine j_bipush hC (v := (117 : Int32)) rfl (dOk_at dt_X10_init_4 15 rfl) ?_
  refine j_iastc (n := 110) hC (show shp 109 = (21, 126) from rfl) (Nat.le_of_ble_eq_true rfl) (by decide +kernel) (dOk_at dt_X10_init_4 16 rfl) ?_
  refine j_dupr hC (dOk_at dt_X10_init_4 17 rfl) ?_
  refine j_bipush hC (v := (42 : Int32)) rfl (dOk_at dt_X10_init_4 18 rfl) ?_
  refine j_bipush hC (v := (102 : Int32)) rfl (dOk_at dt_X10_init_4 19 rfl) ?_
  refine j_iastc (n := 110) hC (show shp 109 = (21, 126) from rfl) (Nat.le_of_ble_eq_true rfl) (by decide +kernel) (dOk_at dt_X10_init_4 20 rfl) ?_
  refine j_dupr hC (dOk_at dt_X10_init_4 21 rfl) ?_
  refine j_bipush hC (v := (43 : Int32)) rfl (dOk_at dt_X10_init_4 22 rfl) ?_
  refine j_bipush hC (v := (102 : Int32)) rfl (dOk_at dt_X10_init_4 23 rfl) ?_
  refine j_iastc (n := 110) hC (show shp 109 = (21, 126) from rfl) (Nat.le_of_ble_eq_true rfl) (by decide +kernel) (dOk_at dt_X10_init_4 24 rfl) ?_
  refine j_dupr hC (dOk_at dt_X10_init_4 25 rfl) ?_
  refine j_bipush hC (v := (44 : Int32)) rfl (dOk_at dt_X10_init_4 26 rfl) ?_
  refine j_bipush hC (v := (32 : Int32)) rfl (dOk_at dt_X10_init_4 27 rfl) ?_
  refine j_iastc (n := 110) hC (show shp 109 = (21, 126) from rfl) (Nat.le_of_ble_eq_true rfl) (by decide +kernel) (dOk_at dt_X10_init_4 28 rfl) ?_
  refine j_dupr hC (dOk_at dt_X10_init_4 29 rfl) ?_
  refine j_bipush hC (v := (45 : Int32)) rfl (dOk_at dt_X10_init_4 30 rfl) ?_
  refine j_bipush hC (v := (100 : Int32)) rfl (dOk_at dt_X10_init_4 31 rfl) ?_
  refine j_iastc (n := 110) hC (show shp 109 = (21, 126) from rfl) (Nat.le_of_ble_eq_true rfl) (by decide +kernel) (dOk_at dt_X10_init_4 32 rfl) ?_
  refine j_dupr hC (dOk_at dt_X10_init_4 33 rfl) ?_
  refine j_bipush hC (v := (46 : Int32)) rfl (dOk_at dt_X10_init_4 34 rfl) ?_
  refine j_bipush hC (v := (97 : Int32)) rfl (dOk_at dt_X10_init_4 35 rfl) ?_
  refine j_iastc (n := 110) hC (show shp 109 = (21, 126) from rfl) (Nat.le_of_ble_eq_true rfl) (by decide +kernel) (dOk_at dt_X10_init_4 36 rfl) ?_
  refine j_dupr hC (dOk_at dt_X10_init_4 37 rfl) ?_
  refine j_bipush hC (v := (47 : Int32)) rfl (dOk_at dt_X10_init_4 38 rfl) ?_
  refine j_bipush hC (v := (109 : Int32)) rfl (dOk_at dt_X10_init_4 39 rfl) ?_
  refine j_iastc (n := 110) hC (show shp 109 = (21, 126) from rfl) (Nat.le_of_ble_eq_true rfl) (by decide +kernel) (dOk_at dt_X10_init_5 0 rfl) ?_
  refine j_dupr hC (dOk_at dt_X10_init_5 1 rfl) ?_
  refine j_bipush hC (v := (48 : Int32)) rfl (dOk_at dt_X10_init_5 2 rfl) ?_
  refine j_bipush hC (v := (112 : Int32)) rfl (dOk_at dt_X10_init_5 3 rfl) ?_
  refine j_iastc (n := 110) hC (show shp 109 = (21, 126) from rfl) (Nat.le_of_ble_eq_true rfl) (by decide +kernel) (dOk_at dt_X10_init_5 4 rfl) ?_
  refine j_dupr hC (dOk_at dt_X10_init_5 5 rfl) ?_
  refine j_bipush hC (v := (49 : Int32)) rfl (dOk_at dt_X10_init_5 6 rfl) ?_
  refine j_bipush hC (v := (32 : Int32)) rfl (dOk_at dt_X10_init_5 7 rfl) ?_
  refine j_iastc (n := 110) hC (show shp 109 = (21, 126) from rfl) (Nat.le_of_ble_eq_true rfl) (by decide +kernel) (dOk_at dt_X10_init_5 8 rfl) ?_
  refine j_dupr hC (dOk_at dt_X10_init_5 9 rfl) ?_
  refine j_bipush hC (v := (50 : Int32)) rfl (dOk_at dt_X10_init_5 10 rfl) ?_
  refine j_bipush hC (v := (115 : Int32)) rfl (dOk_at dt_X10_init_5 11 rfl) ?_
  refine j_iastc (n := 110) hC (show shp 109 = (21, 126) from rfl) (Nat.le_of_ble_eq_true rfl) (by decide +kernel) (dOk_at dt_X10_init_5 12 rfl) ?_
  refine j_dupr hC (dOk_at dt_X10_init_5 13 rfl) ?_
  refine j_bipush hC (v := (51 : Int32)) rfl (dOk_at dt_X10_init_5 14 rfl) ?_
  refine j_bipush hC (v := (101 : Int32)) rfl (dOk_at dt_X10_init_5 15 rfl) ?_
  refine j_iastc (n := 110) hC (show shp 109 = (21, 126) from rfl) (Nat.le_of_ble_eq_true rfl) (by decide +kernel) (dOk_at dt_X10_init_5 16 rfl) ?_
  refine j_dupr hC (dOk_at dt_X10_init_5 17 rfl) ?_
  refine j_bipush hC (v := (52 : Int32)) rfl (dOk_at dt_X10_init_5 18 rfl) ?_
  refine j_bipush hC (v := (101 : Int32)) rfl (dOk_at dt_X10_init_5 19 rfl) ?_
  refine j_iastc (n := 110) hC (show shp 109 = (21, 126) from rfl) (Nat.le_of_ble_eq_true rfl) (by decide +kernel) (dOk_at dt_X10_init_5 20 rfl) ?_
  refine j_dupr hC (dOk_at dt_X10_init_5 21 rfl) ?_
  refine j_bipush hC (v := (53 : Int32)) rfl (dOk_at dt_X10_init_5 22 rfl) ?_
  refine j_bipush hC (v := (100 : Int32)) rfl (dOk_at dt_X10_init_5 23 rfl) ?_
  refine j_iastc (n := 110) hC (show shp 109 = (21, 126) from rfl) (Nat.le_of_ble_eq_true rfl) (by decide +kernel) (dOk_at dt_X10_init_5 24 rfl) ?_
  refine j_dupr hC (dOk_at dt_X10_init_5 25 rfl) ?_
  refine j_bipush hC (v := (54 : Int32)) rfl (dOk_at dt_X10_init_5 26 rfl) ?_
  refine j_bipush hC (v := (32 : Int32)) rfl (dOk_at dt_X10_init_5 27 rfl) ?_
  refine j_iastc (n := 110) hC (show shp 109 = (21, 126) from rfl) (Nat.le_of_ble_eq_true rfl) (by decide +kernel) (dOk_at dt_X10_init_5 28 rfl) ?_
  refine j_dupr hC (dOk_at dt_X10_init_5 29 rfl) ?_
  refine j_bipush hC (v := (55 : Int32)) rfl (dOk_at dt_X10_init_5 30 rfl) ?_
  refine j_bipush hC (v := (108 : Int32)) rfl (dOk_at dt_X10_init_5 31 rfl) ?_
  refine j_iastc (n := 110) hC (show shp 109 = (21, 126) from rfl) (Nat.le_of_ble_eq_true rfl) (by decide +kernel) (dOk_at dt_X10_init_5 32 rfl) ?_
  refine j_dupr hC (dOk_at dt_X10_init_5 33 rfl) ?_
  refine j_bipush hC (v := (56 : Int32)) rfl (dOk_at dt_X10_init_5 34 rfl) ?_
  refine j_bipush hC (v := (97 : Int32)) rfl (dOk_at dt_X10_init_5 35 rfl) ?_
  refine j_iastc (n := 110) hC (show shp 109 = (21, 126) from rfl) (Nat.le_of_ble_eq_true rfl) (by decide +kernel) (dOk_at dt_X10_init_5 36 rfl) ?_
  refine j_dupr hC (dOk_at dt_X10_init_5 37 rfl) ?_
  refine j_bipush hC (v := (57 : Int32)) rfl (dOk_at dt_X10_init_5 38 rfl) ?_
  refine j_bipush hC (v := (119 : Int32)) rfl (dOk_at dt_X10_init_5 39 rfl) ?_
  refine j_iastc (n := 110) hC (show shp 109 = (21, 126) from rfl) (Nat.le_of_ble_eq_true rfl) (by decide +kernel) (dOk_at dt_X10_init_6 0 rfl) ?_
  refine j_dupr hC (dOk_at dt_X10_init_6 1 rfl) ?_
  refine j_bipush hC (v := (58 : Int32)) rfl (dOk_at dt_X10_init_6 2 rfl) ?_
  refine j_bipush hC (v := (32 : Int32)) rfl (dOk_at dt_X10_init_6 3 rfl) ?_
  refine j_iastc (n := 110) hC (show shp 109 = (21, 126) from rfl) (Nat.le_of_ble_eq_true rfl) (by decide +kernel) (dOk_at dt_X10_init_6 4 rfl) ?_
  refine j_dupr hC (dOk_at dt_X10_init_6 5 rfl) ?_
  refine j_bipush hC (v := (59 : Int32)) rfl (dOk_at dt_X10_init_6 6 rfl) ?_
  refine j_bipush hC (v := (108 : Int32)) rfl (dOk_at dt_X10_init_6 7 rfl) ?_
  refine j_iastc (n := 110) hC (show shp 109 = (21, 126) from rfl) (Nat.le_of_ble_eq_true rfl) (by decide +kernel) (dOk_at dt_X10_init_6 8 rfl) ?_
  refine j_dupr hC (dOk_at dt_X10_init_6 9 rfl) ?_
  refine j_bipush hC (v := (60 : Int32)) rfl (dOk_at dt_X10_init_6 10 rfl) ?_
  refine j_bipush hC (v := (101 : Int32)) rfl (dOk_at dt_X10_init_6 11 rfl) ?_
  refine j_iastc (n := 110) hC (show shp 109 = (21, 126) from rfl) (Nat.le_of_ble_eq_true rfl) (by decide +kernel) (dOk_at dt_X10_init_6 12 rfl) ?_
  refine j_dupr hC (dOk_at dt_X10_init_6 13 rfl) ?_
  refine j_bipush hC (v := (61 : Int32)) rfl (dOk_at dt_X10_init_6 14 rfl) ?_
  refine j_bipush hC (v := (97 : Int32)) rfl (dOk_at dt_X10_init_6 15 rfl) ?_
  refine j_iastc (n := 110) hC (show shp 109 = (21, 126) from rfl) (Nat.le_of_ble_eq_true rfl) (by decide +kernel) (dOk_at dt_X10_init_6 16 rfl) ?_
  refine j_dupr hC (dOk_at dt_X10_init_6 17 rfl) ?_
  refine j_bipush hC (v := (62 : Int32)) rfl (dOk_at dt_X10_init_6 18 rfl) ?_
  refine j_bipush hC (v := (110 : Int32)) rfl (dOk_at dt_X10_init_6 19 rfl) ?_
  refine j_iastc (n := 110) hC (show shp 109 = (21, 126) from rfl) (Nat.le_of_ble_eq_true rfl) (by decide +kernel) (dOk_at dt_X10_init_6 20 rfl) ?_
  refine j_dupr hC (dOk_at dt_X10_init_6 21 rfl) ?_
  refine j_bipush hC (v := (63 : Int32)) rfl (dOk_at dt_X10_init_6 22 rfl) ?_
  refine j_bipush hC (v := (32 : Int32)) rfl (dOk_at dt_X10_init_6 23 rfl) ?_
  refine j_iastc (n := 110) hC (show shp 109 = (21, 126) from rfl) (Nat.le_of_ble_eq_true rfl) (by decide +kernel) (dOk_at dt_X10_init_6 24 rfl) ?_
  refine j_dupr hC (dOk_at dt_X10_init_6 25 rfl) ?_
  refine j_bipush hC (v := (64 : Int32)) rfl (dOk_at dt_X10_init_6 26 rfl) ?_
  refine j_bipush hC (v := (119 : Int32)) rfl (dOk_at dt_X10_init_6 27 rfl) ?_
  refine j_iastc (n := 110) hC (show shp 109 = (21, 126) from rfl) (Nat.le_of_ble_eq_true rfl) (by decide +kernel) (dOk_at dt_X10_init_6 28 rfl) ?_
  refine j_dupr hC (dOk_at dt_X10_init_6 29 rfl) ?_
  refine j_bipush hC (v := (65 : Int32)) rfl (dOk_at dt_X10_init_6 30 rfl) ?_
  refine j_bipush hC (v := (101 : Int32)) rfl (dOk_at dt_X10_init_6 31 rfl) ?_
  refine j_iastc (n := 110) hC (show shp 109 = (21, 126) from rfl) (Nat.le_of_ble_eq_true rfl) (by decide +kernel) (dOk_at dt_X10_init_6 32 rfl) ?_
  refine j_dupr hC (dOk_at dt_X10_init_6 33 rfl) ?_
  refine j_bipush hC (v := (66 : Int32)) rfl (dOk_at dt_X10_init_6 34 rfl) ?_
  refine j_bipush hC (v := (97 : Int32)) rfl (dOk_at dt_X10_init_6 35 rfl) ?_
  refine j_iastc (n := 110) hC (show shp 109 = (21, 126) from rfl) (Nat.le_of_ble_eq_true rfl) (by decide +kernel) (dOk_at dt_X10_init_6 36 rfl) ?_
  refine j_dupr hC (dOk_at dt_X10_init_6 37 rfl) ?_
  refine j_bipush hC (v := (67 : Int32)) rfl (dOk_at dt_X10_init_6 38 rfl) ?_
  refine j_bipush hC (v := (114 : Int32)) rfl (dOk_at dt_X10_init_6 39 rfl) ?_
  refine j_iastc (n := 110) hC (show shp 109 = (21, 126) from rfl) (Nat.le_of_ble_eq_true rfl) (by decide +kernel) (dOk_at dt_X10_init_7 0 rfl) ?_
  refine j_dupr hC (dOk_at dt_X10_init_7 1 rfl) ?_
  refine j_bipush hC (v := (68 : Int32)) rfl (dOk_at dt_X10_init_7 2 rfl) ?_
  refine j_bipush hC (v := (32 : Int32)) rfl (dOk_at dt_X10_init_7 3 rfl) ?_
  refine j_iastc (n := 110) hC (show shp 109 = (21, 126) from rfl) (Nat.le_of_ble_eq_true rfl) (by decide +kernel) (dOk_at dt_X10_init_7 4 rfl) ?_
  refine j_dupr hC (dOk_at dt_X10_init_7 5 rfl) ?_
  refine j_bipush hC (v := (69 : Int32)) rfl (dOk_at dt_X10_init_7 6 rfl) ?_
  refine j_bipush hC (v := (116 : Int32)) rfl (dOk_at dt_X10_init_7 7 rfl) ?_
  refine j_iastc (n := 110) hC (show shp 109 = (21, 126) from rfl) (Nat.le_of_ble_eq_true rfl) (by decide +kernel) (dOk_at dt_X10_init_7 8 rfl) ?_
  refine j_dupr hC (dOk_at dt_X10_init_7 9 rfl) ?_
  refine j_bipush hC (v := (70 : Int32)) rfl (dOk_at dt_X10_init_7 10 rfl) ?_
  refine j_bipush hC (v := (117 : Int32)) rfl (dOk_at dt_X10_init_7 11 rfl) ?_
  refine j_iastc (n := 110) hC (show shp 109 = (21, 126) from rfl) (Nat.le_of_ble_eq_true rfl) (by decide +kernel) (dOk_at dt_X10_init_7 12 rfl) ?_
  refine j_dupr hC (dOk_at dt_X10_init_7 13 rfl) ?_
  refine j_bipush hC (v := (71 : Int32)) rfl (dOk_at dt_X10_init_7 14 rfl) ?_
  refine j_bipush hC (v := (114 : Int32)) rfl (dOk_at dt_X10_init_7 15 rfl) ?_
  refine j_iastc (n := 110) hC (show shp 109 = (21, 126) from rfl) (Nat.le_of_ble_eq_true rfl) (by decide +kernel) (dOk_at dt_X10_init_7 16 rfl) ?_
  refine j_dupr hC (dOk_at dt_X10_init_7 17 rfl) ?_
  refine j_bipush hC (v := (72 : Int32)) rfl (dOk_at dt_X10_init_7 18 rfl) ?_
  refine j_bipush hC (v := (110 : Int32)) rfl (dOk_at dt_X10_init_7 19 rfl) ?_
  refine j_iastc (n := 110) hC (show shp 109 = (21, 126) from rfl) (Nat.le_of_ble_eq_true rfl) (by decide +kernel) (dOk_at dt_X10_init_7 20 rfl) ?_
  refine j_dupr hC (dOk_at dt_X10_init_7 21 rfl) ?_
  refine j_bipush hC (v := (73 : Int32)) rfl (dOk_at dt_X10_init_7 22 rfl) ?_
  refine j_bipush hC (v := (32 : Int32)) rfl (dOk_at dt_X10_init_7 23 rfl) ?_
  refine j_iastc (n := 110) hC (show shp 109 = (21, 126) from rfl) (Nat.le_of_ble_eq_true rfl) (by decide +kernel) (dOk_at dt_X10_init_7 24 rfl) ?_
  refine j_dupr hC (dOk_at dt_X10_init_7 25 rfl) ?_
  refine j_bipush hC (v := (74 : Int32)) rfl (dOk_at dt_X10_init_7 26 rfl) ?_
  refine j_bipush hC (v := (97 : Int32)) rfl (dOk_at dt_X10_init_7 27 rfl) ?_
  refine j_iastc (n := 110) hC (show shp 109 = (21, 126) from rfl) (Nat.le_of_ble_eq_true rfl) (by decide +kernel) (dOk_at dt_X10_init_7 28 rfl) ?_
  refine j_dupr hC (dOk_at dt_X10_init_7 29 rfl) ?_
  refine j_bipush hC (v := (75 : Int32)) rfl (dOk_at dt_X10_init_7 30 rfl) ?_
  refine j_bipush hC (v := (110 : Int32)) rfl (dOk_at dt_X10_init_7 31 rfl) ?_
  refine j_iastc (n := 110) hC (show shp 109 = (21, 126) from rfl) (Nat.le_of_ble_eq_true rfl) (by decide +kernel) (dOk_at dt_X10_init_7 32 rfl) ?_
  refine j_dupr hC (dOk_at dt_X10_init_7 33 rfl) ?_
  refine j_bipush hC (v := (76 : Int32)) rfl (dOk_at dt_X10_init_7 34 rfl) ?_
  refine j_bipush hC (v := (100 : Int32)) rfl (dOk_at dt_X10_init_7 35 rfl) ?_
  refine j_iastc (n := 110) hC (show shp 109 = (21, 126) from rfl) (Nat.le_of_ble_eq_true rfl) (by decide +kernel) (dOk_at dt_X10_init_7 36 rfl) ?_
  refine j_dupr hC (dOk_at dt_X10_init_7 37 rfl) ?_
  refine j_bipush hC (v := (77 : Int32)) rfl (dOk_at dt_X10_init_7 38 rfl) ?_
  refine j_bipush hC (v := (32 : Int32)) rfl (dOk_at dt_X10_init_7 39 rfl) ?_
  refine j_iastc (n := 110) hC (show shp 109 = (21, 126) from rfl) (Nat.le_of_ble_eq_true rfl) (by decide +kernel) (dOk_at dt_X10_init_8 0 rfl) ?_
  refine j_dupr hC (dOk_at dt_X10_init_8 1 rfl) ?_
  refine j_bipush hC (v := (78 : Int32)) rfl (dOk_at dt_X10_init_8 2 rfl) ?_
  refine j_bipush hC (v := (111 : Int32)) rfl (dOk_at dt_X10_init_8 3 rfl) ?_
  refine j_iastc (n := 110) hC (show shp 109 = (21, 126) from rfl) (Nat.le_of_ble_eq_true rfl) (by decide +kernel) (dOk_at dt_X10_init_8 4 rfl) ?_
  refine j_dupr hC (dOk_at dt_X10_init_8 5 rfl) ?_
  refine j_bipush hC (v := (79 : Int32)) rfl (dOk_at dt_X10_init_8 6 rfl) ?_
  refine j_bipush hC (v := (114 : Int32)) rfl (dOk_at dt_X10_init_8 7 rfl) ?_
  refine j_iastc (n := 110) hC (show shp 109 = (21, 126) from rfl) (Nat.le_of_ble_eq_true rfl) (by decide +kernel) (dOk_at dt_X10_init_8 8 rfl) ?_
  refine j_dupr hC (dOk_at dt_X10_init_8 9 rfl) ?_
  refine j_bipush hC (v := (80 : Int32)) rfl (dOk_at dt_X10_init_8 10 rfl) ?_
  refine j_bipush hC (v := (32 : Int32)) rfl (dOk_at dt_X10_init_8 11 rfl) ?_
  refine j_iastc (n := 110) hC (show shp 109 = (21, 126) from rfl) (Nat.le_of_ble_eq_true rfl) (by decide +kernel) (dOk_at dt_X10_init_8 12 rfl) ?_
  refine j_dupr hC (dOk_at dt_X10_init_8 13 rfl) ?_
  refine j_bipush hC (v := (81 : Int32)) rfl (dOk_at dt_X10_init_8 14 rfl) ?_
  refine j_bipush hC (v := (110 : Int32)) rfl (dOk_at dt_X10_init_8 15 rfl) ?_
  refine j_iastc (n := 110) hC (show shp 109 = (21, 126) from rfl) (Nat.le_of_ble_eq_true rfl) (by decide +kernel) (dOk_at dt_X10_init_8 16 rfl) ?_
  refine j_dupr hC (dOk_at dt_X10_init_8 17 rfl) ?_
  refine j_bipush hC (v := (82 : Int32)) rfl (dOk_at dt_X10_init_8 18 rfl) ?_
  refine j_bipush hC (v := (111 : Int32)) rfl (dOk_at dt_X10_init_8 19 rfl) ?_
  refine j_iastc (n := 110) hC (show shp 109 = (21, 126) from rfl) (Nat.le_of_ble_eq_true rfl) (by decide +kernel) (dOk_at dt_X10_init_8 20 rfl) ?_
  refine j_dupr hC (dOk_at dt_X10_init_8 21 rfl) ?_
  refine j_bipush hC (v := (83 : Int32)) rfl (dOk_at dt_X10_init_8 22 rfl) ?_
  refine j_bipush hC (v := (116 : Int32)) rfl (dOk_at dt_X10_init_8 23 rfl) ?_
  refine j_iastc (n := 110) hC (show shp 109 = (21, 126) from rfl) (Nat.le_of_ble_eq_true rfl) (by decide +kernel) (dOk_at dt_X10_init_8 24 rfl) ?_
  refine j_dupr hC (dOk_at dt_X10_init_8 25 rfl) ?_
  refine j_bipush hC (v := (84 : Int32)) rfl (dOk_at dt_X10_init_8 26 rfl) ?_
  refine j_bipush hC (v := (32 : Int32)) rfl (dOk_at dt_X10_init_8 27 rfl) ?_
  refine j_iastc (n := 110) hC (show shp 109 = (21, 126) from rfl) (Nat.le_of_ble_eq_true rfl) (by decide +kernel) (dOk_at dt_X10_init_8 28 rfl) ?_
  refine j_dupr hC (dOk_at dt_X10_init_8 29 rfl) ?_
  refine j_bipush hC (v := (85 : Int32)) rfl (dOk_at dt_X10_init_8 30 rfl) ?_
  refine j_bipush hC (v := (119 : Int32)) rfl (dOk_at dt_X10_init_8 31 rfl) ?_
  refine j_iastc (n := 110) hC (show shp 109 = (21, 126) from rfl) (Nat.le_of_ble_eq_true rfl) (by decide +kernel) (dOk_at dt_X10_init_8 32 rfl) ?_
  refine j_dupr hC (dOk_at dt_X10_init_8 33 rfl) ?_
  refine j_bipush hC (v := (86 : Int32)) rfl (dOk_at dt_X10_init_8 34 rfl) ?_
  refine j_bipush hC (v := (101 : Int32)) rfl (dOk_at dt_X10_init_8 35 rfl) ?_
  refine j_iastc (n := 110) hC (show shp 109 = (21, 126) from rfl) (Nat.le_of_ble_eq_true rfl) (by decide +kernel) (dOk_at dt_X10_init_8 36 rfl) ?_
  refine j_dupr hC (dOk_at dt_X10_init_8 37 rfl) ?_
  refine j_bipush hC (v := (87 : Int32)) rfl (dOk_at dt_X10_init_8 38 rfl) ?_
  refine j_bipush hC (v := (105 : Int32)) rfl (dOk_at dt_X10_init_8 39 rfl) ?_
  refine j_iastc (n := 110) hC (show shp 109 = (21, 126) from rfl) (Nat.le_of_ble_eq_true rfl) (by decide +kernel) (dOk_at dt_X10_init_9 0 rfl) ?_
  refine j_dupr hC (dOk_at dt_X10_init_9 1 rfl) ?_
  refine j_bipush hC (v := (88 : Int32)) rfl (dOk_at dt_X10_init_9 2 rfl) ?_
  refine j_bipush hC (v := (103 : Int32)) rfl (dOk_at dt_X10_init_9 3 rfl) ?_
  refine j_iastc (n := 110) hC (show shp 109 = (21, 126) from rfl) (Nat.le_of_ble_eq_true rfl) (by decide +kernel) (dOk_at dt_X10_init_9 4 rfl) ?_
  refine j_dupr hC (dOk_at dt_X10_init_9 5 rfl) ?_
  refine j_bipush hC (v := (89 : Int32)) rfl (dOk_at dt_X10_init_9 6 rfl) ?_
  refine j_bipush hC (v := (104 : Int32)) rfl (dOk_at dt_X10_init_9 7 rfl) ?_
  refine j_iastc (n := 110) hC (show shp 109 = (21, 126) from rfl) (Nat.le_of_ble_eq_true rfl) (by decide +kernel) (dOk_at dt_X10_init_9 8 rfl) ?_
  refine j_dupr hC (dOk_at dt_X10_init_9 9 rfl) ?_
  refine j_bipush hC (v := (90 : Int32)) rfl (dOk_at dt_X10_init_9 10 rfl) ?_
  refine j_bipush hC (v := (116 : Int32)) rfl (dOk_at dt_X10_init_9 11 rfl) ?_
  refine j_iastc (n := 110) hC (show shp 109 = (21, 126) from rfl) (Nat.le_of_ble_eq_true rfl) (by decide +kernel) (dOk_at dt_X10_init_9 12 rfl) ?_
  refine j_dupr hC (dOk_at dt_X10_init_9 13 rfl) ?_
  refine j_bipush hC (v := (91 : Int32)) rfl (dOk_at dt_X10_init_9 14 rfl) ?_
  refine j_bipush hC (v := (32 : Int32)) rfl (dOk_at dt_X10_init_9 15 rfl) ?_
  refine j_iastc (n := 110) hC (show shp 109 = (21, 126) from rfl) (Nat.le_of_ble_eq_true rfl) (by decide +kernel) (dOk_at dt_X10_init_9 16 rfl) ?_
  refine j_dupr hC (dOk_at dt_X10_init_9 17 rfl) ?_
  refine j_bipush hC (v := (92 : Int32)) rfl (dOk_at dt_X10_init_9 18 rfl) ?_
  refine j_bipush hC (v := (116 : Int32)) rfl (dOk_at dt_X10_init_9 19 rfl) ?_
  refine j_iastc (n := 110) hC (show shp 109 = (21, 126) from rfl) (Nat.le_of_ble_eq_true rfl) (by decide +kernel) (dOk_at dt_X10_init_9 20 rfl) ?_
  refine j_dupr hC (dOk_at dt_X10_init_9 21 rfl) ?_
  refine j_bipush hC (v := (93 : Int32)) rfl (dOk_at dt_X10_init_9 22 rfl) ?_
  refine j_bipush hC (v := (101 : Int32)) rfl (dOk_at dt_X10_init_9 23 rfl) ?_
  refine j_iastc (n := 110) hC (show shp 109 = (21, 126) from rfl) (Nat.le_of_ble_eq_true rfl) (by decide +kernel) (dOk_at dt_X10_init_9 24 rfl) ?_
  refine j_dupr hC (dOk_at dt_X10_init_9 25 rfl) ?_
  refine j_bipush hC (v := (94 : Int32)) rfl (dOk_at dt_X10_init_9 26 rfl) ?_
  refine j_bipush hC (v := (109 : Int32)) rfl (dOk_at dt_X10_init_9 27 rfl) ?_
  refine j_iastc (n := 110) hC (show shp 109 = (21, 126) from rfl) (Nat.le_of_ble_eq_true rfl) (by decide +kernel) (dOk_at dt_X10_init_9 28 rfl) ?_
  refine j_dupr hC (dOk_at dt_X10_init_9 29 rfl) ?_
  refine j_bipush hC (v := (95 : Int32)) rfl (dOk_at dt_X10_init_9 30 rfl) ?_
  refine j_bipush hC (v := (112 : Int32)) rfl (dOk_at dt_X10_init_9 31 rfl) ?_
  refine j_iastc (n := 110) hC (show shp 109 = (21, 126) from rfl) (Nat.le_of_ble_eq_true rfl) (by decide +kernel) (dOk_at dt_X10_init_9 32 rfl) ?_
  refine j_dupr hC (dOk_at dt_X10_init_9 33 rfl) ?_
  refine j_bipush hC (v := (96 : Int32)) rfl (dOk_at dt_X10_init_9 34 rfl) ?_
  refine j_bipush hC (v := (101 : Int32)) rfl (dOk_at dt_X10_init_9 35 rfl) ?_
  refine j_iastc (n := 110) hC (show shp 109 = (21, 126) from rfl) (Nat.le_of_ble_eq_true rfl) (by decide +kernel) (dOk_at dt_X10_init_9 36 rfl) ?_
  refine j_dupr hC (dOk_at dt_X10_init_9 37 rfl) ?_
  refine j_bipush hC (v := (97 : Int32)) rfl (dOk_at dt_X10_init_9 38 rfl) ?_
  refine j_bipush hC (v := (114 : Int32)) rfl (dOk_at dt_X10_init_9 39 rfl) ?_
  refine j_iastc (n := 110) hC (show shp 109 = (21, 126) from rfl) (Nat.le_of_ble_eq_true rfl) (by decide +kernel) (dOk_at dt_X10_init_10 0 rfl) ?_
  refine j_dupr hC (dOk_at dt_X10_init_10 1 rfl) ?_
  refine j_bipush hC (v := (98 : Int32)) rfl (dOk_at dt_X10_init_10 2 rfl) ?_
  refine j_bipush hC (v := (32 : Int32)) rfl (dOk_at dt_X10_init_10 3 rfl) ?_
  refine j_iastc (n := 110) hC (show shp 109 = (21, 126) from rfl) (Nat.le_of_ble_eq_true rfl) (by decide +kernel) (dOk_at dt_X10_init_10 4 rfl) ?_
  refine j_dupr hC (dOk_at dt_X10_init_10 5 rfl) ?_
  refine j_bipush hC (v := (99 : Int32)) rfl (dOk_at dt_X10_init_10 6 rfl) ?_
  refine j_bipush hC (v := (102 : Int32)) rfl (dOk_at dt_X10_init_10 7 rfl) ?_
  refine j_iastc (n := 110) hC (show shp 109 = (21, 126) from rfl) (Nat.le_of_ble_eq_true rfl) (by decide +kernel) (dOk_at dt_X10_init_10 8 rfl) ?_
  refine j_dupr hC (dOk_at dt_X10_init_10 9 rfl) ?_
  refine j_bipush hC (v := (100 : Int32)) rfl (dOk_at dt_X10_init_10 10 rfl) ?_
  refine j_bipush hC (v := (117 : Int32)) rfl (dOk_at dt_X10_init_10 11 rfl) ?_
  refine j_iastc (n := 110) hC (show shp 109 = (21, 126) from rfl) (Nat.le_of_ble_eq_true rfl) (by decide +kernel) (dOk_at dt_X10_init_10 12 rfl) ?_
  refine j_dupr hC (dOk_at dt_X10_init_10 13 rfl) ?_
  refine j_bipush hC (v := (101 : Int32)) rfl (dOk_at dt_X10_init_10 14 rfl) ?_
  refine j_bipush hC (v := (108 : Int32)) rfl (dOk_at dt_X10_init_10 15 rfl) ?_
  refine j_iastc (n := 110) hC (show shp 109 = (21, 126) from rfl) (Nat.le_of_ble_eq_true rfl) (by decide +kernel) (dOk_at dt_X10_init_10 16 rfl) ?_
  refine j_dupr hC (dOk_at dt_X10_init_10 17 rfl) ?_
  refine j_bipush hC (v := (102 : Int32)) rfl (dOk_at dt_X10_init_10 18 rfl) ?_
  refine j_bipush hC (v := (108 : Int32)) rfl (dOk_at dt_X10_init_10 19 rfl) ?_
  refine j_iastc (n := 110) hC (show shp 109 = (21, 126) from rfl) (Nat.le_of_ble_eq_true rfl) (by decide +kernel) (dOk_at dt_X10_init_10 20 rfl) ?_
  refine j_dupr hC (dOk_at dt_X10_init_10 21 rfl) ?_
  refine j_bipush hC (v := (103 : Int32)) rfl (dOk_at dt_X10_init_10 22 rfl) ?_
  refine j_bipush hC (v := (32 : Int32)) rfl (dOk_at dt_X10_init_10 23 rfl) ?_
  refine j_iastc (n := 110) hC (show shp 109 = (21, 126) from rfl) (Nat.le_of_ble_eq_true rfl) (by decide +kernel) (dOk_at dt_X10_init_10 24 rfl) ?_
  refine j_dupr hC (dOk_at dt_X10_init_10 25 rfl) ?_
  refine j_bipush hC (v := (104 : Int32)) rfl (dOk_at dt_X10_init_10 26 rfl) ?_
  refine j_bipush hC (v := (102 : Int32)) rfl (dOk_at dt_X10_init_10 27 rfl) ?_
  refine j_iastc (n := 110) hC (show shp 109 = (21, 126) from rfl) (Nat.le_of_ble_eq_true rfl) (by decide +kernel) (dOk_at dt_X10_init_10 28 rfl) ?_
  refine j_dupr hC (dOk_at dt_X10_init_10 29 rfl) ?_
  refine j_bipush hC (v := (105 : Int32)) rfl (dOk_at dt_X10_init_10 30 rfl) ?_
  refine j_bipush hC (v := (111 : Int32)) rfl (dOk_at dt_X10_init_10 31 rfl) ?_
  refine j_iastc (n := 110) hC (show shp 109 = (21, 126) from rfl) (Nat.le_of_ble_eq_true rfl) (by decide +kernel) (dOk_at dt_X10_init_10 32 rfl) ?_
  refine j_dupr hC (dOk_at dt_X10_init_10 33 rfl) ?_
  refine j_bipush hC (v := (106 : Int32)) rfl (dOk_at dt_X10_init_10 34 rfl) ?_
  refine j_bipush hC (v := (114 : Int32)) rfl (dOk_at dt_X10_init_10 35 rfl) ?_
  refine j_iastc (n := 110) hC (show shp 109 = (21, 126) from rfl) (Nat.le_of_ble_eq_true rfl) (by decide +kernel) (dOk_at dt_X10_init_10 36 rfl) ?_
  refine j_dupr hC (dOk_at dt_X10_init_10 37 rfl) ?_
  refine j_bipush hC (v := (107 : Int32)) rfl (dOk_at dt_X10_init_10 38 rfl) ?_
  refine j_bipush hC (v := (99 : Int32)) rfl (dOk_at dt_X10_init_10 39 rfl) ?_
  refine j_iastc (n := 110) hC (show shp 109 = (21, 126) from rfl) (Nat.le_of_ble_eq_true rfl) (by decide +kernel) (dOk_at dt_X10_init_11 0 rfl) ?_
  refine j_dupr hC (dOk_at dt_X10_init_11 1 rfl) ?_
  refine j_bipush hC (v := (108 : Int32)) rfl (dOk_at dt_X10_init_11 2 rfl) ?_
  refine j_bipush hC (v := (101 : Int32)) rfl (dOk_at dt_X10_init_11 3 rfl) ?_
  refine j_iastc (n := 110) hC (show shp 109 = (21, 126) from rfl) (Nat.le_of_ble_eq_true rfl) (by decide +kernel) (dOk_at dt_X10_init_11 4 rfl) ?_
  refine j_dupr hC (dOk_at dt_X10_init_11 5 rfl) ?_
  refine j_bipush hC (v := (109 : Int32)) rfl (dOk_at dt_X10_init_11 6 rfl) ?_
  refine j_bipush hC (v := (32 : Int32)) rfl (dOk_at dt_X10_init_11 7 rfl) ?_
  refine j_iastc (n := 110) hC (show shp 109 = (21, 126) from rfl) (Nat.le_of_ble_eq_true rfl) (by decide +kernel) (dOk_at dt_X10_init_11 8 rfl) ?_
  refine j_dupr hC (dOk_at dt_X10_init_11 9 rfl) ?_
  refine j_bipush hC (v := (110 : Int32)) rfl (dOk_at dt_X10_init_11 10 rfl) ?_
  refine j_bipush hC (v := (119 : Int32)) rfl (dOk_at dt_X10_init_11 11 rfl) ?_
  refine j_iastc (n := 110) hC (show shp 109 = (21, 126) from rfl) (Nat.le_of_ble_eq_true rfl) (by decide +kernel) (dOk_at dt_X10_init_11 12 rfl) ?_
  refine j_dupr hC (dOk_at dt_X10_init_11 13 rfl) ?_
  refine j_bipush hC (v := (111 : Int32)) rfl (dOk_at dt_X10_init_11 14 rfl) ?_
  refine j_bipush hC (v := (105 : Int32)) rfl (dOk_at dt_X10_init_11 15 rfl) ?_
  refine j_iastc (n := 110) hC (show shp 109 = (21, 126) from rfl) (Nat.le_of_ble_eq_true rfl) (by decide +kernel) (dOk_at dt_X10_init_11 16 rfl) ?_
  refine j_dupr hC (dOk_at dt_X10_init_11 17 rfl) ?_
  refine j_bipush hC (v := (112 : Int32)) rfl (dOk_at dt_X10_init_11 18 rfl) ?_
  refine j_bipush hC (v := (110 : Int32)) rfl (dOk_at dt_X10_init_11 19 rfl) ?_
  refine j_iastc (n := 110) hC (show shp 109 = (21, 126) from rfl) (Nat.le_of_ble_eq_true rfl) (by decide +kernel) (dOk_at dt_X10_init_11 20 rfl) ?_
  refine j_dupr hC (dOk_at dt_X10_init_11 21 rfl) ?_
  refine j_bipush hC (v := (113 : Int32)) rfl (dOk_at dt_X10_init_11 22 rfl) ?_
  refine j_bipush hC (v := (115 : Int32)) rfl (dOk_at dt_X10_init_11 23 rfl) ?_
  refine j_iastc (n := 110) hC (show shp 109 = (21, 126) from rfl) (Nat.le_of_ble_eq_true rfl) (by decide +kernel) (dOk_at dt_X10_init_11 24 rfl) ?_
  refine j_dupr hC (dOk_at dt_X10_init_11 25 rfl) ?_
  refine j_bipush hC (v := (114 : Int32)) rfl (dOk_at dt_X10_init_11 26 rfl) ?_
  refine j_bipush hC (v := (32 : Int32)) rfl (dOk_at dt_X10_init_11 27 rfl) ?_
  refine j_iastc (n := 110) hC (show shp 109 = (21, 126) from rfl) (Nat.le_of_ble_eq_true rfl) (by decide +kernel) (dOk_at dt_X10_init_11 28 rfl) ?_
  refine j_dupr hC (dOk_at dt_X10_init_11 29 rfl) ?_
  refine j_bipush hC (v := (115 : Int32)) rfl (dOk_at dt_X10_init_11 30 rfl) ?_
  refine j_bipush hC (v := (104 : Int32)) rfl (dOk_at dt_X10_init_11 31 rfl) ?_
  refine j_iastc (n := 110) hC (show shp 109 = (21, 126) from rfl) (Nat.le_of_ble_eq_true rfl) (by decide +kernel) (dOk_at dt_X10_init_11 32 rfl) ?_
  refine j_dupr hC (dOk_at dt_X10_init_11 33 rfl) ?_
  refine j_bipush hC (v := (116 : Int32)) rfl (dOk_at dt_X10_init_11 34 rfl) ?_
  refine j_bipush hC (v := (101 : Int32)) rfl (dOk_at dt_X10_init_11 35 rfl) ?_
  refine j_iastc (n := 110) hC (show shp 109 = (21, 126) from rfl) (Nat.le_of_ble_eq_true rfl) (by decide +kernel) (dOk_at dt_X10_init_11 36 rfl) ?_
  refine j_dupr hC (dOk_at dt_X10_init_11 37 rfl) ?_
  refine j_bipush hC (v := (117 : Int32)) rfl (dOk_at dt_X10_init_11 38 rfl) ?_
  refine j_bipush hC (v := (108 : Int32)) rfl (dOk_at dt_X10_init_11 39 rfl) ?_
  refine j_iastc (n := 110) hC (show shp 109 = (21, 126) from rfl) (Nat.le_of_ble_eq_true rfl) (by decide +kernel) (dOk_at dt_X10_init_12 0 rfl) ?_
  refine j_dupr hC (dOk_at dt_X10_init_12 1 rfl) ?_
  refine j_bipush hC (v := (118 : Int32)) rfl (dOk_at dt_X10_init_12 2 rfl) ?_
  refine j_bipush hC (v := (100 : Int32)) rfl (dOk_at dt_X10_init_12 3 rfl) ?_
  refine j_iastc (n := 110) hC (show shp 109 = (21, 126) from rfl) (Nat.le_of_ble_eq_true rfl) (by decide +kernel) (dOk_at dt_X10_init_12 4 rfl) ?_
  refine j_dupr hC (dOk_at dt_X10_init_12 5 rfl) ?_
  refine j_bipush hC (v := (119 : Int32)) rfl (dOk_at dt_X10_init_12 6 rfl) ?_
  refine j_bipush hC (v := (32 : Int32)) rfl (dOk_at dt_X10_init_12 7 rfl) ?_
  refine j_iastc (n := 110) hC (show shp 109 = (21, 126) from rfl) (Nat.le_of_ble_eq_true rfl) (by decide +kernel) (dOk_at dt_X10_init_12 8 rfl) ?_
  refine j_dupr hC (dOk_at dt_X10_init_12 9 rfl) ?_
  refine j_bipush hC (v := (120 : Int32)) rfl (dOk_at dt_X10_init_12 10 rfl) ?_
  refine j_bipush hC (v := (110 : Int32)) rfl (dOk_at dt_X10_init_12 11 rfl) ?_
  refine j_iastc (n := 110) hC (show shp 109 = (21, 126) from rfl) (Nat.le_of_ble_eq_true rfl) (by decide +kernel) (dOk_at dt_X10_init_12 12 rfl) ?_
  refine j_dupr hC (dOk_at dt_X10_init_12 13 rfl) ?_
  refine j_bipush hC (v := (121 : Int32)) rfl (dOk_at dt_X10_init_12 14 rfl) ?_
  refine j_bipush hC (v := (105 : Int32)) rfl (dOk_at dt_X10_init_12 15 rfl) ?_
  refine j_iastc (n := 110) hC (show shp 109 = (21, 126) from rfl) (Nat.le_of_ble_eq_true rfl) (by decide +kernel) (dOk_at dt_X10_init_12 16 rfl) ?_
  refine j_dupr hC (dOk_at dt_X10_init_12 17 rfl) ?_
  refine j_bipush hC (v := (122 : Int32)) rfl (dOk_at dt_X10_init_12 18 rfl) ?_
  refine j_bipush hC (v := (103 : Int32)) rfl (dOk_at dt_X10_init_12 19 rfl) ?_
  refine j_iastc (n := 110) hC (show shp 109 = (21, 126) from rfl) (Nat.le_of_ble_eq_true rfl) (by decide +kernel) (dOk_at dt_X10_init_12 20 rfl) ?_
  refine j_dupr hC (dOk_at dt_X10_init_12 21 rfl) ?_
  refine j_bipush hC (v := (123 : Int32)) rfl (dOk_at dt_X10_init_12 22 rfl) ?_
  refine j_bipush hC (v := (104 : Int32)) rfl (dOk_at dt_X10_init_12 23 rfl) ?_
  refine j_iastc (n := 110) hC (show shp 109 = (21, 126) from rfl) (Nat.le_of_ble_eq_true rfl) (by decide +kernel) (dOk_at dt_X10_init_12 24 rfl) ?_
  refine j_dupr hC (dOk_at dt_X10_init_12 25 rfl) ?_
  refine j_bipush hC (v := (124 : Int32)) rfl (dOk_at dt_X10_init_12 26 rfl) ?_
  refine j_bipush hC (v := (116 : Int32)) rfl (dOk_at dt_X10_init_12 27 rfl) ?_
  refine j_iastc (n := 110) hC (show shp 109 = (21, 126) from rfl) (Nat.le_of_ble_eq_true rfl) (by decide +kernel) (dOk_at dt_X10_init_12 28 rfl) ?_
  refine j_dupr hC (dOk_at dt_X10_init_12 29 rfl) ?_
  refine j_bipush hC (v := (125 : Int32)) rfl (dOk_at dt_X10_init_12 30 rfl) ?_
  refine j_bipush hC (v := (32 : Int32)) rfl (dOk_at dt_X10_init_12 31 rfl) ?_
  refine j_iastc (n := 110) hC (show shp 109 = (21, 126) from rfl) (Nat.le_of_ble_eq_true rfl) (by decide +kernel) (dOk_at dt_X10_init_12 32 rfl) ?_
  refine j_putRc (n := 110) hC hin flX10_13 (fun q hq _ => by cases hq; rfl) (show shp 107 = (10, 88) from rfl) (Nat.le_of_ble_eq_true rfl) (by decide) (by decide) (Or.inr ⟨_, rfl⟩) (dOk_at dt_X10_init_12 33 rfl) ?_
  refine j_aload_n hC 0 rfl rfl (dOk_at dt_X10_init_12 34 rfl) ?_
  refine j_iconst hC (v := (-1 : Int32)) rfl (dOk_at dt_X10_init_12 35 rfl) ?_
  refine j_putIc (n := 110) hC hin flX10_16 (fun q hq _ => by cases hq; rfl) (show shp 107 = (10, 88) from rfl) (Nat.le_of_ble_eq_true rfl) (by decide) (by decide) rfl (dOk_at dt_X10_init_12 36 rfl) ?_
  refine j_aload_n hC 0 rfl rfl (dOk_at dt_X10_init_12 37 rfl) ?_
  refine j_iconst hC (v := (2 : Int32)) rfl (dOk_at dt_X10_init_12 38 rfl) ?_
  refine j_newaI (atype := .boolean) (n := 110) (t := 3) (ty := .boolean) (N := 2) hC aw_boolean rfl rfl (fun C q => by cases q) (show shp 110 = (20 + 3, 2) from rfl) rfl (by decide) (by decide +kernel) (by decide +kernel) (Nat.le_of_ble_eq_true rfl) (by omega) ⟨Nat.le_of_ble_eq_true rfl, Nat.le_of_ble_eq_true rfl⟩ (dOk_at dt_X10_init_12 39 rfl) ?_
  refine j_putRc (n := 111) hC hin flX10_20 (fun q hq _ => by cases hq; rfl) (show shp 107 = (10, 88) from rfl) (Nat.le_of_ble_eq_true rfl) (by decide) (by decide) (Or.inr ⟨_, rfl⟩) (dOk_at dt_X10_init_13 0 rfl) ?_
  refine j_aload_n hC 0 rfl rfl (dOk_at dt_X10_init_13 1 rfl) ?_
  refine j_iconst hC (v := (4 : Int32)) rfl (dOk_at dt_X10_init_13 2 rfl) ?_
  refine j_newaI (atype := .int) (n := 111) (t := 1) (ty := .int) (N := 4) hC aw_int rfl rfl (fun C q => by cases q) (show shp 111 = (20 + 1, 4) from rfl) rfl (by decide) (by decide +kernel) (by decide +kernel) (Nat.le_of_ble_eq_true rfl) (by omega) ⟨Nat.le_of_ble_eq_true rfl, Nat.le_of_ble_eq_true rfl⟩ (dOk_at dt_X10_init_13 3 rfl) ?_
  refine j_putRc (n := 112) hC hin flX10_24 (fun q hq _ => by cases hq; rfl) (show shp 107 = (10, 88) from rfl) (Nat.le_of_ble_eq_true rfl) (by decide) (by decide) (Or.inr ⟨_, rfl⟩) (dOk_at dt_X10_init_13 4 rfl) ?_
  refine j_aload_n hC 0 rfl rfl (dOk_at dt_X10_init_13 5 rfl) ?_
  refine j_bipush hC (v := (16 : Int32)) rfl (dOk_at dt_X10_init_13 6 rfl) ?_
  refine j_newaI (atype := .int) (n := 112) (t := 1) (ty := .int) (N := 16) hC aw_int rfl rfl (fun C q => by cases q) (show shp 112 = (20 + 1, 16) from rfl) rfl (by decide) (by decide +kernel) (by decide +kernel) (Nat.le_of_ble_eq_true rfl) (by omega) ⟨Nat.le_of_ble_eq_true rfl, Nat.le_of_ble_eq_true rfl⟩ (dOk_at dt_X10_init_13 7 rfl) ?_
  refine j_putRc (n := 113) hC hin flX10_27 (fun q hq _ => by cases hq; rfl) (show shp 107 = (10, 88) from rfl) (Nat.le_of_ble_eq_true rfl) (by decide) (by decide) (Or.inr ⟨_, rfl⟩) (dOk_at dt_X10_init_13 8 rfl) ?_
  refine j_aload_n hC 0 rfl rfl (dOk_at dt_X10_init_13 9 rfl) ?_
  refine j_bipush hC (v := (16 : Int32)) rfl (dOk_at dt_X10_init_13 10 rfl) ?_
  refine j_newaI (atype := .int) (n := 113) (t := 1) (ty := .int) (N := 16) hC aw_int rfl rfl (fun C q => by cases q) (show shp 113 = (20 + 1, 16) from rfl) rfl (by decide) (by decide +kernel) (by decide +kernel) (Nat.le_of_ble_eq_true rfl) (by omega) ⟨Nat.le_of_ble_eq_true rfl, Nat.le_of_ble_eq_true rfl⟩ (dOk_at dt_X10_init_13 11 rfl) ?_
  refine j_putRc (n := 114) hC hin flX10_30 (fun q hq _ => by cases hq; rfl) (show shp 107 = (10, 88) from rfl) (Nat.le_of_ble_eq_true rfl) (by decide) (by decide) (Or.inr ⟨_, rfl⟩) (dOk_at dt_X10_init_13 12 rfl) ?_
  refine j_aload_n hC 0 rfl rfl (dOk_at dt_X10_init_13 13 rfl) ?_
  refine j_bipush hC (v := (16 : Int32)) rfl (dOk_at dt_X10_init_13 14 rfl) ?_
  refine j_newaI (atype := .int) (n := 114) (t := 1) (ty := .int) (N := 16) hC aw_int rfl rfl (fun C q => by cases q) (show shp 114 = (20 + 1, 16) from rfl) rfl (by decide) (by decide +kernel) (by decide +kernel) (Nat.le_of_ble_eq_true rfl) (by omega) ⟨Nat.le_of_ble_eq_true rfl, Nat.le_of_ble_eq_true rfl⟩ (dOk_at dt_X10_init_13 15 rfl) ?_
  refine j_putRc (n := 115) hC hin flX10_33 (fun q hq _ => by cases hq; rfl) (show shp 107 = (10, 88) from rfl) (Nat.le_of_ble_eq_true rfl) (by decide) (by decide) (Or.inr ⟨_, rfl⟩) (dOk_at dt_X10_init_13 16 rfl) ?_
  refine j_aload_n hC 0 rfl rfl (dOk_at dt_X10_init_13 17 rfl) ?_
  refine j_bipush hC (v := (32 : Int32)) rfl (dOk_at dt_X10_init_13 18 rfl) ?_
  refine j_newaI (atype := .int) (n := 115) (t := 1) (ty := .int) (N := 32) hC aw_int rfl rfl (fun C q => by cases q) (show shp 115 = (20 + 1, 32) from rfl) rfl (by decide) (by decide +kernel) (by decide +kernel) (Nat.le_of_ble_eq_true rfl) (by omega) ⟨Nat.le_of_ble_eq_true rfl, Nat.le_of_ble_eq_true rfl⟩ (dOk_at dt_X10_init_13 19 rfl) ?_
  refine j_putRc (n := 116) hC hin flX10_36 (fun q hq _ => by cases hq; rfl) (show shp 107 = (10, 88) from rfl) (Nat.le_of_ble_eq_true rfl) (by decide) (by decide) (Or.inr ⟨_, rfl⟩) (dOk_at dt_X10_init_13 20 rfl) ?_
  refine j_aload_n hC 0 rfl rfl (dOk_at dt_X10_init_13 21 rfl) ?_
  refine j_bipush hC (v := (32 : Int32)) rfl (dOk_at dt_X10_init_13 22 rfl) ?_
  refine j_newaI (atype := .int) (n := 116) (t := 1) (ty := .int) (N := 32) hC aw_int rfl rfl (fun C q => by cases q) (show shp 116 = (20 + 1, 32) from rfl) rfl (by decide) (by decide +kernel) (by decide +kernel) (Nat.le_of_ble_eq_true rfl) (by omega) ⟨Nat.le_of_ble_eq_true rfl, Nat.le_of_ble_eq_true rfl⟩ (dOk_at dt_X10_init_13 23 rfl) ?_
  refine j_putRc (n := 117) hC hin flX10_39 (fun q hq _ => by cases hq; rfl) (show shp 107 = (10, 88) from rfl) (Nat.le_of_ble_eq_true rfl) (by decide) (by decide) (Or.inr ⟨_, rfl⟩) (dOk_at dt_X10_init_13 24 rfl) ?_
  refine j_aload_n hC 0 rfl rfl (dOk_at dt_X10_init_13 25 rfl) ?_
  refine j_bipush hC (v := (10 : Int32)) rfl (dOk_at dt_X10_init_13 26 rfl) ?_
  refine j_newaI (atype := .int) (n := 117) (t := 1) (ty := .int) (N := 10) hC aw_int rfl rfl (fun C q => by cases q) (show shp 117 = (20 + 1, 10) from rfl) rfl (by decide) (by decide +kernel) (by decide +kernel) (Nat.le_of_ble_eq_true rfl) (by omega) ⟨Nat.le_of_ble_eq_true rfl, Nat.le_of_ble_eq_true rfl⟩ (dOk_at dt_X10_init_13 27 rfl) ?_
  refine j_putRc (n := 118) hC hin flX10_42 (fun q hq _ => by cases hq; rfl) (show shp 107 = (10, 88) from rfl) (Nat.le_of_ble_eq_true rfl) (by decide) (by decide) (Or.inr ⟨_, rfl⟩) (dOk_at dt_X10_init_13 28 rfl) ?_
  refine j_aload_n hC 0 rfl rfl (dOk_at dt_X10_init_13 29 rfl) ?_
  refine j_bipush hC (v := (10 : Int32)) rfl (dOk_at dt_X10_init_13 30 rfl) ?_
  refine j_newaI (atype := .int) (n := 118) (t := 1) (ty := .int) (N := 10) hC aw_int rfl rfl (fun C q => by cases q) (show shp 118 = (20 + 1, 10) from rfl) rfl (by decide) (by decide +kernel) (by decide +kernel) (Nat.le_of_ble_eq_true rfl) (by omega) ⟨Nat.le_of_ble_eq_true rfl, Nat.le_of_ble_eq_true rfl⟩ (dOk_at dt_X10_init_13 31 rfl) ?_
  refine j_putRc (n := 119) hC hin flX10_45 (fun q hq _ => by cases hq; rfl) (show shp 107 = (10, 88) from rfl) (Nat.le_of_ble_eq_true rfl) (by decide) (by decide) (Or.inr ⟨_, rfl⟩) (dOk_at dt_X10_init_13 32 rfl) ?_
  refine j_aload_n hC 0 rfl rfl (dOk_at dt_X10_init_13 33 rfl) ?_
  refine j_bipush hC (v := (10 : Int32)) rfl (dOk_at dt_X10_init_13 34 rfl) ?_
  refine j_newaI (atype := .int) (n := 119) (t := 1) (ty := .int) (N := 10) hC aw_int rfl rfl (fun C q => by cases q) (show shp 119 = (20 + 1, 10) from rfl) rfl (by decide) (by decide +kernel) (by decide +kernel) (Nat.le_of_ble_eq_true rfl) (by omega) ⟨Nat.le_of_ble_eq_true rfl, Nat.le_of_ble_eq_true rfl⟩ (dOk_at dt_X10_init_13 35 rfl) ?_
  refine j_putRc (n := 120) hC hin flX10_48 (fun q hq _ => by cases hq; rfl) (show shp 107 = (10, 88) from rfl) (Nat.le_of_ble_eq_true rfl) (by decide) (by decide) (Or.inr ⟨_, rfl⟩) (dOk_at dt_X10_init_13 36 rfl) ?_
  refine j_aload_n hC 0 rfl rfl (dOk_at dt_X10_init_13 37 rfl) ?_
  refine j_bipush hC (v := (10 : Int32)) rfl (dOk_at dt_X10_init_13 38 rfl) ?_
  refine j_newaI (atype := .int) (n := 120) (t := 1) (ty := .int) (N := 10) hC aw_int rfl rfl (fun C q => by cases q) (show shp 120 = (20 + 1, 10) from rfl) rfl (by decide) (by decide +kernel) (by decide +kernel) (Nat.le_of_ble_eq_true rfl) (by omega) ⟨Nat.le_of_ble_eq_true rfl, Nat.le_of_ble_eq_true rfl⟩ (dOk_at dt_X10_init_13 39 rfl) ?_
  refine j_putRc (n := 121) hC hin flX10_51 (fun q hq _ => by cases hq; rfl) (show shp 107 = (10, 88) from rfl) (Nat.le_of_ble_eq_true rfl) (by decide) (by decide) (Or.inr ⟨_, rfl⟩) (dOk_at dt_X10_init_14 0 rfl) ?_
  refine j_aload_n hC 0 rfl rfl (dOk_at dt_X10_init_14 1 rfl) ?_
  refine j_bipush hC (v := (10 : Int32)) rfl (dOk_at dt_X10_init_14 2 rfl) ?_
  refine j_newaI (atype := .int) (n := 121) (t := 1) (ty := .int) (N := 10) hC aw_int rfl rfl (fun C q => by cases q) (show shp 121 = (20 + 1, 10) from rfl) rfl (by decide) (by decide +kernel) (by decide +kernel) (Nat.le_of_ble_eq_true rfl) (by omega) ⟨Nat.le_of_ble_eq_true rfl, Nat.le_of_ble_eq_true rfl⟩ (dOk_at dt_X10_init_14 3 rfl) ?_
  refine j_putRc (n := 122) hC hin flX10_54 (fun q hq _ => by cases hq; rfl) (show shp 107 = (10, 88) from rfl) (Nat.le_of_ble_eq_true rfl) (by decide) (by decide) (Or.inr ⟨_, rfl⟩) (dOk_at dt_X10_init_14 4 rfl) ?_
  refine j_aload_n hC 0 rfl rfl (dOk_at dt_X10_init_14 5 rfl) ?_
  refine j_bipush hC (v := (24 : Int32)) rfl (dOk_at dt_X10_init_14 6 rfl) ?_
  refine j_newaI (atype := .int) (n := 122) (t := 1) (ty := .int) (N := 24) hC aw_int rfl rfl (fun C q => by cases q) (show shp 122 = (20 + 1, 24) from rfl) rfl (by decide) (by decide +kernel) (by decide +kernel) (Nat.le_of_ble_eq_true rfl) (by omega) ⟨Nat.le_of_ble_eq_true rfl, Nat.le_of_ble_eq_true rfl⟩ (dOk_at dt_X10_init_14 7 rfl) ?_
  refine j_putRc (n := 123) hC hin flX10_57 (fun q hq _ => by cases hq; rfl) (show shp 107 = (10, 88) from rfl) (Nat.le_of_ble_eq_true rfl) (by decide) (by decide) (Or.inr ⟨_, rfl⟩) (dOk_at dt_X10_init_14 8 rfl) ?_
  refine j_aload_n hC 0 rfl rfl (dOk_at dt_X10_init_14 9 rfl) ?_
  refine j_bipush hC (v := (24 : Int32)) rfl (dOk_at dt_X10_init_14 10 rfl) ?_
  refine j_newaI (atype := .int) (n := 123) (t := 1) (ty := .int) (N := 24) hC aw_int rfl rfl (fun C q => by cases q) (show shp 123 = (20 + 1, 24) from rfl) rfl (by decide) (by decide +kernel) (by decide +kernel) (Nat.le_of_ble_eq_true rfl) (by omega) ⟨Nat.le_of_ble_eq_true rfl, Nat.le_of_ble_eq_true rfl⟩ (dOk_at dt_X10_init_14 11 rfl) ?_
  refine j_putRc (n := 124) hC hin flX10_60 (fun q hq _ => by cases hq; rfl) (show shp 107 = (10, 88) from rfl) (Nat.le_of_ble_eq_true rfl) (by decide) (by decide) (Or.inr ⟨_, rfl⟩) (dOk_at dt_X10_init_14 12 rfl) ?_
  refine j_aload_n hC 0 rfl rfl (dOk_at dt_X10_init_14 13 rfl) ?_
  refine j_bipush hC (v := (24 : Int32)) rfl (dOk_at dt_X10_init_14 14 rfl) ?_
  refine j_newaI (atype := .int) (n := 124) (t := 1) (ty := .int) (N := 24) hC aw_int rfl rfl (fun C q => by cases q) (show shp 124 = (20 + 1, 24) from rfl) rfl (by decide) (by decide +kernel) (by decide +kernel) (Nat.le_of_ble_eq_true rfl) (by omega) ⟨Nat.le_of_ble_eq_true rfl, Nat.le_of_ble_eq_true rfl⟩ (dOk_at dt_X10_init_14 15 rfl) ?_
  refine j_putRc (n := 125) hC hin flX10_63 (fun q hq _ => by cases hq; rfl) (show shp 107 = (10, 88) from rfl) (Nat.le_of_ble_eq_true rfl) (by decide) (by decide) (Or.inr ⟨_, rfl⟩) (dOk_at dt_X10_init_14 16 rfl) ?_
  refine j_aload_n hC 0 rfl rfl (dOk_at dt_X10_init_14 17 rfl) ?_
  refine j_bipush hC (v := (12 : Int32)) rfl (dOk_at dt_X10_init_14 18 rfl) ?_
  refine j_newaI (atype := .int) (n := 125) (t := 1) (ty := .int) (N := 12) hC aw_int rfl rfl (fun C q => by cases q) (show shp 125 = (20 + 1, 12) from rfl) rfl (by decide) (by decide +kernel) (by decide +kernel) (Nat.le_of_ble_eq_true rfl) (by omega) ⟨Nat.le_of_ble_eq_true rfl, Nat.le_of_ble_eq_true rfl⟩ (dOk_at dt_X10_init_14 19 rfl) ?_
  refine j_putRc (n := 126) hC hin flX10_66 (fun q hq _ => by cases hq; rfl) (show shp 107 = (10, 88) from rfl) (Nat.le_of_ble_eq_true rfl) (by decide) (by decide) (Or.inr ⟨_, rfl⟩) (dOk_at dt_X10_init_14 20 rfl) ?_
  refine j_aload_n hC 0 rfl rfl (dOk_at dt_X10_init_14 21 rfl) ?_
  refine j_bipush hC (v := (12 : Int32)) rfl (dOk_at dt_X10_init_14 22 rfl) ?_
  refine j_newaI (atype := .int) (n := 126) (t := 1) (ty := .int) (N := 12) hC aw_int rfl rfl (fun C q => by cases q) (show shp 126 = (20 + 1, 12) from rfl) rfl (by decide) (by decide +kernel) (by decide +kernel) (Nat.le_of_ble_eq_true rfl) (by omega) ⟨Nat.le_of_ble_eq_true rfl, Nat.le_of_ble_eq_true rfl⟩ (dOk_at dt_X10_init_14 23 rfl) ?_
  refine j_putRc (n := 127) hC hin flX10_69 (fun q hq _ => by cases hq; rfl) (show shp 107 = (10, 88) from rfl) (Nat.le_of_ble_eq_true rfl) (by decide) (by decide) (Or.inr ⟨_, rfl⟩) (dOk_at dt_X10_init_14 24 rfl) ?_
  refine j_aload_n hC 0 rfl rfl (dOk_at dt_X10_init_14 25 rfl) ?_
  refine j_bipush hC (v := (6 : Int32)) rfl (dOk_at dt_X10_init_14 26 rfl) ?_
  refine j_newaI (atype := .boolean) (n := 127) (t := 3) (ty := .boolean) (N := 6) hC aw_boolean rfl rfl (fun C q => by cases q) (show shp 127 = (20 + 3, 6) from rfl) rfl (by decide) (by decide +kernel) (by decide +kernel) (Nat.le_of_ble_eq_true rfl) (by omega) ⟨Nat.le_of_ble_eq_true rfl, Nat.le_of_ble_eq_true rfl⟩ (dOk_at dt_X10_init_14 27 rfl) ?_
  refine j_putRc (n := 128) hC hin flX10_72 (fun q hq _ => by cases hq; rfl) (show shp 107 = (10, 88) from rfl) (Nat.le_of_ble_eq_true rfl) (by decide) (by decide) (Or.inr ⟨_, rfl⟩) (dOk_at dt_X10_init_14 28 rfl) ?_
  refine j_aload_n hC 0 rfl rfl (dOk_at dt_X10_init_14 29 rfl) ?_
  refine j_bipush hC (v := (6 : Int32)) rfl (dOk_at dt_X10_init_14 30 rfl) ?_
  refine j_newaI (atype := .int) (n := 128) (t := 1) (ty := .int) (N := 6) hC aw_int rfl rfl (fun C q => by cases q) (show shp 128 = (20 + 1, 6) from rfl) rfl (by decide) (by decide +kernel) (by decide +kernel) (Nat.le_of_ble_eq_true rfl) (by omega) ⟨Nat.le_of_ble_eq_true rfl, Nat.le_of_ble_eq_true rfl⟩ (dOk_at dt_X10_init_14 31 rfl) ?_
  refine j_putRc (n := 129) hC hin flX10_75 (fun q hq _ => by cases hq; rfl) (show shp 107 = (10, 88) from rfl) (Nat.le_of_ble_eq_true rfl) (by decide) (by decide) (Or.inr ⟨_, rfl⟩) (dOk_at dt_X10_init_14 32 rfl) ?_
  refine j_aload_n hC 0 rfl rfl (dOk_at dt_X10_init_14 33 rfl) ?_
  refine j_bipush hC (v := (6 : Int32)) rfl (dOk_at dt_X10_init_14 34 rfl) ?_
  refine j_newaI (atype := .int) (n := 129) (t := 1) (ty := .int) (N := 6) hC aw_int rfl rfl (fun C q => by cases q) (show shp 129 = (20 + 1, 6) from rfl) rfl (by decide) (by decide +kernel) (by decide +kernel) (Nat.le_of_ble_eq_true rfl) (by omega) ⟨Nat.le_of_ble_eq_true rfl, Nat.le_of_ble_eq_true rfl⟩ (dOk_at dt_X10_init_14 35 rfl) ?_
  refine j_putRc (n := 130) hC hin flX10_78 (fun q hq _ => by cases hq; rfl) (show shp 107 = (10, 88) from rfl) (Nat.le_of_ble_eq_true rfl) (by decide) (by decide) (Or.inr ⟨_, rfl⟩) (dOk_at dt_X10_init_14 36 rfl) ?_
  refine j_aload_n hC 0 rfl rfl (dOk_at dt_X10_init_14 37 rfl) ?_
  refine j_sipush hC (v := (128 : Int32)) rfl (dOk_at dt_X10_init_14 38 rfl) ?_
  refine j_newaI (atype := .int) (n := 130) (t := 1) (ty := .int) (N := 128) hC aw_int rfl rfl (fun C q => by cases q) (show shp 130 = (20 + 1, 128) from rfl) rfl (by decide) (by decide +kernel) (by decide +kernel) (Nat.le_of_ble_eq_true rfl) (by omega) ⟨Nat.le_of_ble_eq_true rfl, Nat.le_of_ble_eq_true rfl⟩ (dOk_at dt_X10_init_14 39 rfl) ?_
  refine j_putRc (n := 131) hC hin flX10_81 (fun q hq _ => by cases hq; rfl) (show shp 107 = (10, 88) from rfl) (Nat.le_of_ble_eq_true rfl) (by decide) (by decide) (Or.inr ⟨_, rfl⟩) (dOk_at dt_X10_init_15 0 rfl) ?_
  refine j_aload_n hC 0 rfl rfl (dOk_at dt_X10_init_15 1 rfl) ?_
  refine j_sipush hC (v := (128 : Int32)) rfl (dOk_at dt_X10_init_15 2 rfl) ?_
  refine j_newaI (atype := .int) (n := 131) (t := 1) (ty := .int) (N := 128) hC aw_int rfl rfl (fun C q => by cases q) (show shp 131 = (20 + 1, 128) from rfl) rfl (by decide) (by decide +kernel) (by decide +kernel) (Nat.le_of_ble_eq_true rfl) (by omega) ⟨Nat.le_of_ble_eq_true rfl, Nat.le_of_ble_eq_true rfl⟩ (dOk_at dt_X10_init_15 3 rfl) ?_
  refine j_putRc (n := 132) hC hin flX10_84 (fun q hq _ => by cases hq; rfl) (show shp 107 = (10, 88) from rfl) (Nat.le_of_ble_eq_true rfl) (by decide) (by decide) (Or.inr ⟨_, rfl⟩) (dOk_at dt_X10_init_15 4 rfl) ?_
  refine j_aload_n hC 0 rfl rfl (dOk_at dt_X10_init_15 5 rfl) ?_
  refine j_sipush hC (v := (128 : Int32)) rfl (dOk_at dt_X10_init_15 6 rfl) ?_
  refine j_newaI (atype := .int) (n := 132) (t := 1) (ty := .int) (N := 128) hC aw_int rfl rfl (fun C q => by cases q) (show shp 132 = (20 + 1, 128) from rfl) rfl (by decide) (by decide +kernel) (by decide +kernel) (Nat.le_of_ble_eq_true rfl) (by omega) ⟨Nat.le_of_ble_eq_true rfl, Nat.le_of_ble_eq_true rfl⟩ (dOk_at dt_X10_init_15 7 rfl) ?_
  refine j_putRc (n := 133) hC hin flX10_87 (fun q hq _ => by cases hq; rfl) (show shp 107 = (10, 88) from rfl) (Nat.le_of_ble_eq_true rfl) (by decide) (by decide) (Or.inr ⟨_, rfl⟩) (dOk_at dt_X10_init_15 8 rfl) ?_
  refine j_aload_n hC 0 rfl rfl (dOk_at dt_X10_init_15 9 rfl) ?_
  refine j_bipush hC (v := (96 : Int32)) rfl (dOk_at dt_X10_init_15 10 rfl) ?_
  refine j_newaI (atype := .int) (n := 133) (t := 1) (ty := .int) (N := 96) hC aw_int rfl rfl (fun C q => by cases q) (show shp 133 = (20 + 1, 96) from rfl) rfl (by decide) (by decide +kernel) (by decide +kernel) (Nat.le_of_ble_eq_true rfl) (by omega) ⟨Nat.le_of_ble_eq_true rfl, Nat.le_of_ble_eq_true rfl⟩ (dOk_at dt_X10_init_15 11 rfl) ?_
  refine j_putRc (n := 134) hC hin flX10_90 (fun q hq _ => by cases hq; rfl) (show shp 107 = (10, 88) from rfl) (Nat.le_of_ble_eq_true rfl) (by decide) (by decide) (Or.inr ⟨_, rfl⟩) (dOk_at dt_X10_init_15 12 rfl) ?_
  refine j_aload_n hC 0 rfl rfl (dOk_at dt_X10_init_15 13 rfl) ?_
  refine j_bipush hC (v := (96 : Int32)) rfl (dOk_at dt_X10_init_15 14 rfl) ?_
  refine j_newaI (atype := .int) (n := 134) (t := 1) (ty := .int) (N := 96) hC aw_int rfl rfl (fun C q => by cases q) (show shp 134 = (20 + 1, 96) from rfl) rfl (by decide) (by decide +kernel) (by decide +kernel) (Nat.le_of_ble_eq_true rfl) (by omega) ⟨Nat.le_of_ble_eq_true rfl, Nat.le_of_ble_eq_true rfl⟩ (dOk_at dt_X10_init_15 15 rfl) ?_
  refine j_putRc (n := 135) hC hin flX10_93 (fun q hq _ => by cases hq; rfl) (show shp 107 = (10, 88) from rfl) (Nat.le_of_ble_eq_true rfl) (by decide) (by decide) (Or.inr ⟨_, rfl⟩) (dOk_at dt_X10_init_15 16 rfl) ?_
  refine j_aload_n hC 0 rfl rfl (dOk_at dt_X10_init_15 17 rfl) ?_
  refine j_bipush hC (v := (7 : Int32)) rfl (dOk_at dt_X10_init_15 18 rfl) ?_
  refine j_newaJ (n := 135) (N := 7) hC aw_long (show shp 135 = (22, 7) from rfl) (by decide +kernel) (by decide +kernel) (Nat.le_of_ble_eq_true rfl) (by omega) ⟨Nat.le_of_ble_eq_true rfl, Nat.le_of_ble_eq_true rfl⟩ (dOk_at dt_X10_init_15 19 rfl) ?_
  refine j_putRc (n := 136) hC hin flX10_96 (fun q hq _ => by cases hq; rfl) (show shp 107 = (10, 88) from rfl) (Nat.le_of_ble_eq_true rfl) (by decide) (by decide) (Or.inr ⟨_, rfl⟩) (dOk_at dt_X10_init_15 20 rfl) ?_
  refine j_aload_n hC 0 rfl rfl (dOk_at dt_X10_init_15 21 rfl) ?_
  refine j_bipush hC (v := (64 : Int32)) rfl (dOk_at dt_X10_init_15 22 rfl) ?_
  refine j_newaJ (n := 136) (N := 64) hC aw_long (show shp 136 = (22, 64) from rfl) (by decide +kernel) (by decide +kernel) (Nat.le_of_ble_eq_true rfl) (by omega) ⟨Nat.le_of_ble_eq_true rfl, Nat.le_of_ble_eq_true rfl⟩ (dOk_at dt_X10_init_15 23 rfl) ?_
  refine j_putRc (n := 137) hC hin flX10_100 (fun q hq _ => by cases hq; rfl) (show shp 107 = (10, 88) from rfl) (Nat.le_of_ble_eq_true rfl) (by decide) (by decide) (Or.inr ⟨_, rfl⟩) (dOk_at dt_X10_init_15 24 rfl) ?_
  refine j_aload_n hC 0 rfl rfl (dOk_at dt_X10_init_15 25 rfl) ?_
  refine j_bipush hC (v := (10 : Int32)) rfl (dOk_at dt_X10_init_15 26 rfl) ?_
  refine j_newaI (atype := .int) (n := 137) (t := 1) (ty := .int) (N := 10) hC aw_int rfl rfl (fun C q => by cases q) (show shp 137 = (20 + 1, 10) from rfl) rfl (by decide) (by decide +kernel) (by decide +kernel) (Nat.le_of_ble_eq_true rfl) (by omega) ⟨Nat.le_of_ble_eq_true rfl, Nat.le_of_ble_eq_true rfl⟩ (dOk_at dt_X10_init_15 27 rfl) ?_
  refine j_putRc (n := 138) hC hin flX10_103 (fun q hq _ => by cases hq; rfl) (show shp 107 = (10, 88) from rfl) (Nat.le_of_ble_eq_true rfl) (by decide) (by decide) (Or.inr ⟨_, rfl⟩) (dOk_at dt_X10_init_15 28 rfl) ?_
  refine j_aload_n hC 0 rfl rfl (dOk_at dt_X10_init_15 29 rfl) ?_
  refine j_bipush hC (v := (10 : Int32)) rfl (dOk_at dt_X10_init_15 30 rfl) ?_
  refine j_newaI (atype := .boolean) (n := 138) (t := 3) (ty := .boolean) (N := 10) hC aw_boolean rfl rfl (fun C q => by cases q) (show shp 138 = (20 + 3, 10) from rfl) rfl (by decide) (by decide +kernel) (by decide +kernel) (Nat.le_of_ble_eq_true rfl) (by omega) ⟨Nat.le_of_ble_eq_true rfl, Nat.le_of_ble_eq_true rfl⟩ (dOk_at dt_X10_init_15 31 rfl) ?_
  refine j_putRc (n := 139) hC hin flX10_106 (fun q hq _ => by cases hq; rfl) (show shp 107 = (10, 88) from rfl) (Nat.le_of_ble_eq_true rfl) (by decide) (by decide) (Or.inr ⟨_, rfl⟩) (dOk_at dt_X10_init_15 32 rfl) ?_
  refine j_aload_n hC 0 rfl rfl (dOk_at dt_X10_init_15 33 rfl) ?_
  refine j_bipush hC (v := (10 : Int32)) rfl (dOk_at dt_X10_init_15 34 rfl) ?_
  refine j_newaI (atype := .int) (n := 139) (t := 1) (ty := .int) (N := 10) hC aw_int rfl rfl (fun C q => by cases q) (show shp 139 = (20 + 1, 10) from rfl) rfl (by decide) (by decide +kernel) (by decide +kernel) (Nat.le_of_ble_eq_true rfl) (by omega) ⟨Nat.le_of_ble_eq_true rfl, Nat.le_of_ble_eq_true rfl⟩ (dOk_at dt_X10_init_15 35 rfl) ?_
  refine j_putRc (n := 140) hC hin flX10_109 (fun q hq _ => by cases hq; rfl) (show shp 107 = (10, 88) from rfl) (Nat.le_of_ble_eq_true rfl) (by decide) (by decide) (Or.inr ⟨_, rfl⟩) (dOk_at dt_X10_init_15 36 rfl) ?_
  refine j_aload_n hC 0 rfl rfl (dOk_at dt_X10_init_15 37 rfl) ?_
  refine j_bipush hC (v := (10 : Int32)) rfl (dOk_at dt_X10_init_15 38 rfl) ?_
  refine j_newaI (atype := .int) (n := 140) (t := 1) (ty := .int) (N := 10) hC aw_int rfl rfl (fun C q => by cases q) (show shp 140 = (20 + 1, 10) from rfl) rfl (by decide) (by decide +kernel) (by decide +kernel) (Nat.le_of_ble_eq_true rfl) (by omega) ⟨Nat.le_of_ble_eq_true rfl, Nat.le_of_ble_eq_true rfl⟩ (dOk_at dt_X10_init_15 39 rfl) ?_
  refine j_putRc (n := 141) hC hin flX10_112 (fun q hq _ => by cases hq; rfl) (show shp 107 = (10, 88) from rfl) (Nat.le_of_ble_eq_true rfl) (by decide) (by decide) (Or.inr ⟨_, rfl⟩) (dOk_at dt_X10_init_16 0 rfl) ?_
  refine j_aload_n hC 0 rfl rfl (dOk_at dt_X10_init_16 1 rfl) ?_
  refine j_bipush hC (v := (10 : Int32)) rfl (dOk_at dt_X10_init_16 2 rfl) ?_
  refine j_newaI (atype := .int) (n := 141) (t := 1) (ty := .int) (N := 10) hC aw_int rfl rfl (fun C q => by cases q) (show shp 141 = (20 + 1, 10) from rfl) rfl (by decide) (by decide +kernel) (by decide +kernel) (Nat.le_of_ble_eq_true rfl) (by omega) ⟨Nat.le_of_ble_eq_true rfl, Nat.le_of_ble_eq_true rfl⟩ (dOk_at dt_X10_init_16 3 rfl) ?_
  refine j_putRc (n := 142) hC hin flX10_115 (fun q hq _ => by cases hq; rfl) (show shp 107 = (10, 88) from rfl) (Nat.le_of_ble_eq_true rfl) (by decide) (by decide) (Or.inr ⟨_, rfl⟩) (dOk_at dt_X10_init_16 4 rfl) ?_
  refine j_aload_n hC 0 rfl rfl (dOk_at dt_X10_init_16 5 rfl) ?_
  refine j_iconst hC (v := (2 : Int32)) rfl (dOk_at dt_X10_init_16 6 rfl) ?_
  refine j_newaI (atype := .int) (n := 142) (t := 1) (ty := .int) (N := 2) hC aw_int rfl rfl (fun C q => by cases q) (show shp 142 = (20 + 1, 2) from rfl) rfl (by decide) (by decide +kernel) (by decide +kernel) (Nat.le_of_ble_eq_true rfl) (by omega) ⟨Nat.le_of_ble_eq_true rfl, Nat.le_of_ble_eq_true rfl⟩ (dOk_at dt_X10_init_16 7 rfl) ?_
  refine j_putRc (n := 143) hC hin flX10_118 (fun q hq _ => by cases hq; rfl) (show shp 107 = (10, 88) from rfl) (Nat.le_of_ble_eq_true rfl) (by decide) (by decide) (Or.inr ⟨_, rfl⟩) (dOk_at dt_X10_init_16 8 rfl) ?_
  refine j_aload_n hC 0 rfl rfl (dOk_at dt_X10_init_16 9 rfl) ?_
  refine j_iconst hC (v := (2 : Int32)) rfl (dOk_at dt_X10_init_16 10 rfl) ?_
  refine j_newaI (atype := .int) (n := 143) (t := 1) (ty := .int) (N := 2) hC aw_int rfl rfl (fun C q => by cases q) (show shp 143 = (20 + 1, 2) from rfl) rfl (by decide) (by decide +kernel) (by decide +kernel) (Nat.le_of_ble_eq_true rfl) (by omega) ⟨Nat.le_of_ble_eq_true rfl, Nat.le_of_ble_eq_true rfl⟩ (dOk_at dt_X10_init_16 11 rfl) ?_
  refine j_putRc (n := 144) hC hin flX10_121 (fun q hq _ => by cases hq; rfl) (show shp 107 = (10, 88) from rfl) (Nat.le_of_ble_eq_true rfl) (by decide) (by decide) (Or.inr ⟨_, rfl⟩) (dOk_at dt_X10_init_16 12 rfl) ?_
  refine j_aload_n hC 0 rfl rfl (dOk_at dt_X10_init_16 13 rfl) ?_
  refine j_sipush hC (v := (2048 : Int32)) rfl (dOk_at dt_X10_init_16 14 rfl) ?_
  refine j_newaI (atype := .boolean) (n := 144) (t := 3) (ty := .boolean) (N := 2048) hC aw_boolean rfl rfl (fun C q => by cases q) (show shp 144 = (20 + 3, 2048) from rfl) rfl (by decide) (by decide +kernel) (by decide +kernel) (Nat.le_of_ble_eq_true rfl) (by omega) ⟨Nat.le_of_ble_eq_true rfl, Nat.le_of_ble_eq_true rfl⟩ (dOk_at dt_X10_init_16 15 rfl) ?_
  refine j_putRc (n := 145) hC hin flX10_124 (fun q hq _ => by cases hq; rfl) (show shp 107 = (10, 88) from rfl) (Nat.le_of_ble_eq_true rfl) (by decide) (by decide) (Or.inr ⟨_, rfl⟩) (dOk_at dt_X10_init_16 16 rfl) ?_
  refine j_aload_n hC 0 rfl rfl (dOk_at dt_X10_init_16 17 rfl) ?_
  refine j_iconst hC (v := (2 : Int32)) rfl (dOk_at dt_X10_init_16 18 rfl) ?_
  refine j_newaI (atype := .int) (n := 145) (t := 1) (ty := .int) (N := 2) hC aw_int rfl rfl (fun C q => by cases q) (show shp 145 = (20 + 1, 2) from rfl) rfl (by decide) (by decide +kernel) (by decide +kernel) (Nat.le_of_ble_eq_true rfl) (by omega) ⟨Nat.le_of_ble_eq_true rfl, Nat.le_of_ble_eq_true rfl⟩ (dOk_at dt_X10_init_16 19 rfl) ?_
  refine j_putRc (n := 146) hC hin flX10_127 (fun q hq _ => by cases hq; rfl) (show shp 107 = (10, 88) from rfl) (Nat.le_of_ble_eq_true rfl) (by decide) (by decide) (Or.inr ⟨_, rfl⟩) (dOk_at dt_X10_init_16 20 rfl) ?_
  refine j_aload_n hC 0 rfl rfl (dOk_at dt_X10_init_16 21 rfl) ?_
  refine j_iconst hC (v := (5 : Int32)) rfl (dOk_at dt_X10_init_16 22 rfl) ?_
  refine j_newaI (atype := .int) (n := 146) (t := 1) (ty := .int) (N := 5) hC aw_int rfl rfl (fun C q => by cases q) (show shp 146 = (20 + 1, 5) from rfl) rfl (by decide) (by decide +kernel) (by decide +kernel) (Nat.le_of_ble_eq_true rfl) (by omega) ⟨Nat.le_of_ble_eq_true rfl, Nat.le_of_ble_eq_true rfl⟩ (dOk_at dt_X10_init_16 23 rfl) ?_
  refine j_putRc (n := 147) hC hin flX10_130 (fun q hq _ => by cases hq; rfl) (show shp 107 = (10, 88) from rfl) (Nat.le_of_ble_eq_true rfl) (by decide) (by decide) (Or.inr ⟨_, rfl⟩) (dOk_at dt_X10_init_16 24 rfl) ?_
  refine j_aload_n hC 0 rfl rfl (dOk_at dt_X10_init_16 25 rfl) ?_
  refine j_iconst hC (v := (-1 : Int32)) rfl (dOk_at dt_X10_init_16 26 rfl) ?_
  refine j_putIc (n := 147) hC hin flX10_133 (fun q hq _ => by cases hq; rfl) (show shp 107 = (10, 88) from rfl) (Nat.le_of_ble_eq_true rfl) (by decide) (by decide) rfl (dOk_at dt_X10_init_16 27 rfl) ?_
  refine j_aload_n hC 0 rfl rfl (dOk_at dt_X10_init_16 28 rfl) ?_
  refine j_bipush hC (v := (96 : Int32)) rfl (dOk_at dt_X10_init_16 29 rfl) ?_
  refine j_newaI (atype := .int) (n := 147) (t := 1) (ty := .int) (N := 96) hC aw_int rfl rfl (fun C q => by cases q) (show shp 147 = (20 + 1, 96) from rfl) rfl (by decide) (by decide +kernel) (by decide +kernel) (Nat.le_of_ble_eq_true rfl) (by omega) ⟨Nat.le_of_ble_eq_true rfl, Nat.le_of_ble_eq_true rfl⟩ (dOk_at dt_X10_init_16 30 rfl) ?_
  refine j_putRc (n := 148) hC hin flX10_136 (fun q hq _ => by cases hq; rfl) (show shp 107 = (10, 88) from rfl) (Nat.le_of_ble_eq_true rfl) (by decide) (by decide) (Or.inr ⟨_, rfl⟩) (dOk_at dt_X10_init_16 31 rfl) ?_
  refine j_aload_n hC 0 rfl rfl (dOk_at dt_X10_init_16 32 rfl) ?_
  refine j_bipush hC (v := (24 : Int32)) rfl (dOk_at dt_X10_init_16 33 rfl) ?_
  refine j_newaI (atype := .boolean) (n := 148) (t := 3) (ty := .boolean) (N := 24) hC aw_boolean rfl rfl (fun C q => by cases q) (show shp 148 = (20 + 3, 24) from rfl) rfl (by decide) (by decide +kernel) (by decide +kernel) (Nat.le_of_ble_eq_true rfl) (by omega) ⟨Nat.le_of_ble_eq_true rfl, Nat.le_of_ble_eq_true rfl⟩ (dOk_at dt_X10_init_16 34 rfl) ?_
  refine j_putRc (n := 149) hC hin flX10_139 (fun q hq _ => by cases hq; rfl) (show shp 107 = (10, 88) from rfl) (Nat.le_of_ble_eq_true rfl) (by decide) (by decide) (Or.inr ⟨_, rfl⟩) (dOk_at dt_X10_init_16 35 rfl) ?_
  refine j_aload_n hC 0 rfl rfl (dOk_at dt_X10_init_16 36 rfl) ?_
  refine j_sipush hC (v := (400 : Int32)) rfl (dOk_at dt_X10_init_16 37 rfl) ?_
  refine j_newaI (atype := .int) (n := 149) (t := 1) (ty := .int) (N := 400) hC aw_int rfl rfl (fun C q => by cases q) (show shp 149 = (20 + 1, 400) from rfl) rfl (by decide) (by decide +kernel) (by decide +kernel) (Nat.le_of_ble_eq_true rfl) (by omega) ⟨Nat.le_of_ble_eq_true rfl, Nat.le_of_ble_eq_true rfl⟩ (dOk_at dt_X10_init_16 38 rfl) ?_
  refine j_putRc (n := 150) hC hin flX10_142 (fun q hq _ => by cases hq; rfl) (show shp 107 = (10, 88) from rfl) (Nat.le_of_ble_eq_true rfl) (by decide) (by decide) (Or.inr ⟨_, rfl⟩) (dOk_at dt_X10_init_16 39 rfl) ?_
  refine j_aload_n hC 0 rfl rfl (dOk_at dt_X10_init_17 0 rfl) ?_
  refine j_bipush hC (v := (20 : Int32)) rfl (dOk_at dt_X10_init_17 1 rfl) ?_
  refine j_newaI (atype := .int) (n := 150) (t := 1) (ty := .int) (N := 20) hC aw_int rfl rfl (fun C q => by cases q) (show shp 150 = (20 + 1, 20) from rfl) rfl (by decide) (by decide +kernel) (by decide +kernel) (Nat.le_of_ble_eq_true rfl) (by omega) ⟨Nat.le_of_ble_eq_true rfl, Nat.le_of_ble_eq_true rfl⟩ (dOk_at dt_X10_init_17 2 rfl) ?_
  refine j_putRc (n := 151) hC hin flX10_145 (fun q hq _ => by cases hq; rfl) (show shp 107 = (10, 88) from rfl) (Nat.le_of_ble_eq_true rfl) (by decide) (by decide) (Or.inr ⟨_, rfl⟩) (dOk_at dt_X10_init_17 3 rfl) ?_
  refine j_aload_n hC 0 rfl rfl (dOk_at dt_X10_init_17 4 rfl) ?_
  refine j_iconst hC (v := (5 : Int32)) rfl (dOk_at dt_X10_init_17 5 rfl) ?_
  refine j_newaI (atype := .boolean) (n := 151) (t := 3) (ty := .boolean) (N := 5) hC aw_boolean rfl rfl (fun C q => by cases q) (show shp 151 = (20 + 3, 5) from rfl) rfl (by decide) (by decide +kernel) (by decide +kernel) (Nat.le_of_ble_eq_true rfl) (by omega) ⟨Nat.le_of_ble_eq_true rfl, Nat.le_of_ble_eq_true rfl⟩ (dOk_at dt_X10_init_17 6 rfl) ?_
  refine j_putRc (n := 152) hC hin flX10_148 (fun q hq _ => by cases hq; rfl) (show shp 107 = (10, 88) from rfl) (Nat.le_of_ble_eq_true rfl) (by decide) (by decide) (Or.inr ⟨_, rfl⟩) (dOk_at dt_X10_init_17 7 rfl) ?_
  refine j_aload_n hC 0 rfl rfl (dOk_at dt_X10_init_17 8 rfl) ?_
  refine j_toSt ?_
  refine j_callVv (n := 152) hC clX10_151 (fun r0 hr0 => c_X10_plain (Nat.le_refl 152) _ r0 hr0) (show shp 107 = (10, 88) from rfl) (Nat.le_of_ble_eq_true rfl) (by decide) rfl rfl ⟨Nat.le_of_ble_eq_true rfl, Nat.le_of_ble_eq_true rfl⟩ ⟨Nat.le_of_ble_eq_true rfl, Nat.le_of_ble_eq_true rfl⟩ (As := []) (st := []) rfl (Nat.le_of_ble_eq_true rfl) (dOk_at dt_X10_init_17 9 rfl) (fun h_1 _ => ?_)
  refine j_aload_n hC 0 rfl rfl (dOk_at dt_X10_init_17 10 rfl) ?_
  refine j_callVv (n := 152) hC clX10_154 (fun r0 hr0 => c_X10_keepText (Nat.le_refl 152) _ r0 hr0) (show shp 107 = (10, 88) from rfl) (Nat.le_of_ble_eq_true rfl) (by decide) rfl rfl ⟨Nat.le_of_ble_eq_true rfl, Nat.le_of_ble_eq_true rfl⟩ ⟨Nat.le_of_ble_eq_true rfl, Nat.le_of_ble_eq_true rfl⟩ (As := []) (st := []) rfl (Nat.le_of_ble_eq_true rfl) (dOk_at dt_X10_init_17 11 rfl) (fun h_2 _ => ?_)
  exact j_vret hC hret (dOk_at dt_X10_init_17 12 rfl)
