/-! THE MAKING MACHINE: the constructors -/
/-- a constructor: its method; 'new' (pool index, class, three words); 'invokespecial' (pool index, kind: 0 Object's, 1 by link, 2 by nest link; constructor, parameters, three words); int[][] (pool index, word) -/
abbrev aMk : Type := aM × List (Nat × Nat × Nat × Nat × Nat) × List (Nat × Nat × Nat × Nat × Nat × Nat × Nat) × List (Nat × Nat)
/-! THE CONSTRUCTORS as the making machine reads them -/
def aNestM : List Cond := [.methodLinkNest "HalfDone" 9 ⟨"HalfDone$Tape", "<init>", "()V"⟩ "HalfDone", .methodLinkNest "HalfDone" 34 ⟨"HalfDone$Laws", "<init>", "()V"⟩ "HalfDone", .methodLinkNest "HalfDone" 41 ⟨"HalfDone$Beginnings", "<init>", "()V"⟩ "HalfDone", .methodLinkNest "HalfDone" 48 ⟨"HalfDone$Endings", "<init>", "()V"⟩ "HalfDone", .methodLinkNest "HalfDone" 55 ⟨"HalfDone$Past", "<init>", "()V"⟩ "HalfDone", .methodLinkNest "HalfDone" 62 ⟨"HalfDone$Dealer", "<init>", "()V"⟩ "HalfDone", .methodLinkNest "HalfDone" 78 ⟨"HalfDone$Game", "<init>", "()V"⟩ "HalfDone", .methodLinkNest "HalfDone" 85 ⟨"HalfDone$Estate", "<init>", "()V"⟩ "HalfDone"]
def aL_X0_init : List (Nat × Instr × Nat) := [(0, .aload_n 0, 1), (1, .invokespecial 3, 3), (4, .aload_n 0, 1), (5, .iconst 5, 1), (6, .bipush 12, 2), (8, .multianewarray 9 2, 4), (12, .putfield 11, 3), (15, .aload_n 0, 1), (16, .iconst 5, 1), (17, .newarray .int, 2), (19, .putfield 16, 3), (22, .return_, 1)]
def aM_X0_init : aM := (yX0_init, cX0_init, 1, none, aC_RX0, aL_X0_init, 238)
def aK_X0_init : aMk := (aM_X0_init, [], [(3, 0, 0, 0, 239, 146, 147)], [(9, 240)])
def aL_X1_init : List (Nat × Instr × Nat) := [(0, .aload_n 0, 1), (1, .invokespecial 3, 3), (4, .aload_n 0, 1), (5, .bipush 6, 2), (7, .newarray .int, 2), (9, .putfield 9, 3), (12, .aload_n 0, 1), (13, .bipush 64, 2), (15, .newarray .int, 2), (17, .putfield 15, 3), (20, .aload_n 0, 1), (21, .bipush 64, 2), (23, .newarray .int, 2), (25, .putfield 18, 3), (28, .aload_n 0, 1), (29, .bipush 64, 2), (31, .newarray .int, 2), (33, .putfield 21, 3), (36, .aload_n 0, 1), (37, .bipush 64, 2), (39, .newarray .int, 2), (41, .putfield 24, 3), (44, .return_, 1)]
def aM_X1_init : aM := (yX1_init, cX1_init, 1, none, aC_RX1, aL_X1_init, 302)
def aK_X1_init : aMk := (aM_X1_init, [], [(3, 0, 0, 0, 303, 146, 147)], [])
def aL_X2_init : List (Nat × Instr × Nat) := [(0, .aload_n 0, 1), (1, .invokespecial 3, 3), (4, .aload_n 0, 1), (5, .bipush 6, 2), (7, .newarray .int, 2), (9, .putfield 9, 3), (12, .aload_n 0, 1), (13, .bipush 6, 2), (15, .newarray .int, 2), (17, .putfield 15, 3), (20, .aload_n 0, 1), (21, .bipush 6, 2), (23, .newarray .int, 2), (25, .putfield 18, 3), (28, .aload_n 0, 1), (29, .bipush 54, 2), (31, .newarray .int, 2), (33, .putfield 21, 3), (36, .aload_n 0, 1), (37, .bipush 54, 2), (39, .newarray .int, 2), (41, .putfield 24, 3), (44, .aload_n 0, 1), (45, .sipush 832, 3), (48, .newarray .int, 2), (50, .putfield 27, 3), (53, .aload_n 0, 1), (54, .bipush 64, 2), (56, .newarray .int, 2), (58, .putfield 30, 3), (61, .aload_n 0, 1), (62, .sipush 832, 3), (65, .newarray .int, 2), (67, .putfield 33, 3), (70, .aload_n 0, 1), (71, .aload_n 1, 1), (72, .putfield 36, 3), (75, .return_, 1)]
def aM_X2_init : aM := (yX2_init, cX2_init, 2, none, aC_RX2, aL_X2_init, 330)
def aK_X2_init : aMk := (aM_X2_init, [], [(3, 0, 0, 0, 331, 146, 147)], [])
def aL_X3_init : List (Nat × Instr × Nat) := [(0, .aload_n 0, 1), (1, .invokespecial 3, 3), (4, .aload_n 0, 1), (5, .bipush 12, 2), (7, .newarray .int, 2), (9, .putfield 9, 3), (12, .aload_n 0, 1), (13, .bipush 12, 2), (15, .newarray .int, 2), (17, .putfield 15, 3), (20, .aload_n 0, 1), (21, .bipush 12, 2), (23, .newarray .int, 2), (25, .putfield 18, 3), (28, .return_, 1)]
def aM_X3_init : aM := (yX3_init, cX3_init, 1, none, aC_RX3, aL_X3_init, 258)
def aK_X3_init : aMk := (aM_X3_init, [], [(3, 0, 0, 0, 259, 146, 147)], [])
def aL_X4_init : List (Nat × Instr × Nat) := [(0, .aload_n 0, 1), (1, .invokespecial 3, 3), (4, .aload_n 0, 1), (5, .bipush 6, 2), (7, .newarray .int, 2), (9, .putfield 9, 3), (12, .aload_n 0, 1), (13, .bipush 6, 2), (15, .newarray .int, 2), (17, .putfield 15, 3), (20, .aload_n 0, 1), (21, .bipush 6, 2), (23, .newarray .int, 2), (25, .putfield 18, 3), (28, .aload_n 0, 1), (29, .bipush 48, 2), (31, .newarray .int, 2), (33, .putfield 21, 3), (36, .aload_n 0, 1), (37, .bipush 48, 2), (39, .newarray .int, 2), (41, .putfield 24, 3), (44, .aload_n 0, 1), (45, .bipush 6, 2), (47, .newarray .int, 2), (49, .putfield 27, 3), (52, .aload_n 0, 1), (53, .iconst 5, 1), (54, .newarray .int, 2), (56, .putfield 30, 3), (59, .aload_n 0, 1), (60, .iconst 5, 1), (61, .newarray .int, 2), (63, .putfield 33, 3), (66, .aload_n 0, 1), (67, .bipush 67, 2), (69, .newarray .int, 2), (71, .putfield 36, 3), (74, .return_, 1)]
def aM_X4_init : aM := (yX4_init, cX4_init, 1, none, aC_RX4, aL_X4_init, 392)
def aK_X4_init : aMk := (aM_X4_init, [], [(3, 0, 0, 0, 393, 146, 147)], [])
def aL_X5_init : List (Nat × Instr × Nat) := [(0, .aload_n 0, 1), (1, .invokespecial 3, 3), (4, .aload_n 0, 1), (5, .bipush 7, 2), (7, .newarray .int, 2), (9, .putfield 9, 3), (12, .aload_n 0, 1), (13, .iconst 4, 1), (14, .newarray .int, 2), (16, .putfield 15, 3), (19, .aload_n 0, 1), (20, .bipush 24, 2), (22, .newarray .int, 2), (24, .putfield 18, 3), (27, .aload_n 0, 1), (28, .bipush 24, 2), (30, .newarray .int, 2), (32, .putfield 21, 3), (35, .aload_n 0, 1), (36, .bipush 6, 2), (38, .newarray .int, 2), (40, .putfield 24, 3), (43, .return_, 1)]
def aM_X5_init : aM := (yX5_init, cX5_init, 1, none, aC_RX5, aL_X5_init, 364)
def aK_X5_init : aMk := (aM_X5_init, [], [(3, 0, 0, 0, 365, 146, 147)], [])
def aL_X6_init : List (Nat × Instr × Nat) := [(0, .aload_n 0, 1), (1, .invokespecial 3, 3), (4, .aload_n 0, 1), (5, .sipush 240, 3), (8, .newarray .int, 2), (10, .putfield 9, 3), (13, .aload_n 0, 1), (14, .aload_n 1, 1), (15, .putfield 15, 3), (18, .return_, 1)]
def aM_X6_init : aM := (yX6_init, cX6_init, 2, none, aC_RX6, aL_X6_init, 189)
def aK_X6_init : aMk := (aM_X6_init, [], [(3, 0, 0, 0, 190, 146, 147)], [])
def aL_X7_init : List (Nat × Instr × Nat) := [(0, .aload_n 0, 1), (1, .invokespecial 5, 3), (4, .aload_n 0, 1), (5, .bipush 6, 2), (7, .sipush 240, 3), (10, .multianewarray 11 2, 4), (14, .putfield 13, 3), (17, .aload_n 0, 1), (18, .bipush 6, 2), (20, .newarray .int, 2), (22, .putfield 16, 3), (25, .aload_n 0, 1), (26, .bipush 8, 2), (28, .newarray .int, 2), (30, .putfield 20, 3), (33, .aload_n 0, 1), (34, .bipush 64, 2), (36, .newarray .int, 2), (38, .putfield 23, 3), (41, .aload_n 0, 1), (42, .bipush 6, 2), (44, .sipush 160, 3), (47, .multianewarray 11 2, 4), (51, .putfield 26, 3), (54, .return_, 1)]
def aM_X7_init : aM := (yX7_init, cX7_init, 1, none, aC_RX7, aL_X7_init, 207)
def aK_X7_init : aMk := (aM_X7_init, [], [(5, 0, 0, 0, 208, 146, 147)], [(11, 209)])
def aL_X8_init : List (Nat × Instr × Nat) := [(0, .aload_n 0, 1), (1, .invokespecial 3, 3), (4, .aload_n 0, 1), (5, .bipush 40, 2), (7, .bipush 67, 2), (9, .multianewarray 9 2, 4), (13, .putfield 11, 3), (16, .aload_n 0, 1), (17, .bipush 67, 2), (19, .newarray .int, 2), (21, .putfield 16, 3), (24, .return_, 1)]
def aM_X8_init : aM := (yX8_init, cX8_init, 1, none, aC_RX8, aL_X8_init, 278)
def aK_X8_init : aMk := (aM_X8_init, [], [(3, 0, 0, 0, 279, 146, 147)], [(9, 280)])
def aL_X9_init : List (Nat × Instr × Nat) := [(0, .aload_n 0, 1), (1, .invokespecial 3, 3), (4, .aload_n 0, 1), (5, .sipush 240, 3), (8, .newarray .int, 2), (10, .putfield 9, 3), (13, .return_, 1)]
def aM_X9_init : aM := (yX9_init, cX9_init, 1, none, aC_RX9, aL_X9_init, 152)
def aK_X9_init : aMk := (aM_X9_init, [], [(3, 0, 0, 0, 153, 146, 147)], [])
def aL_X10_init : List (Nat × Instr × Nat) := [(0, .aload_n 0, 1), (1, .invokespecial 3, 3), (4, .aload_n 0, 1), (5, .aload_n 1, 1), (6, .putfield 9, 3), (9, .return_, 1)]
def aM_X10_init : aM := (yX10_init, cX10_init, 2, none, aC_RX10, aL_X10_init, 179)
def aK_X10_init : aMk := (aM_X10_init, [], [(3, 0, 0, 0, 180, 146, 147)], [])
def aL_X11_init : List (Nat × Instr × Nat) := [(0, .aload_n 0, 1), (1, .invokespecial 1, 3), (4, .aload_n 0, 1), (5, .new 7, 3), (8, .dup, 1), (9, .invokespecial 9, 3), (12, .putfield 10, 3), (15, .aload_n 0, 1), (16, .new 16, 3), (19, .dup, 1), (20, .aload_n 0, 1), (21, .getfield 10, 3), (24, .invokespecial 18, 3), (27, .putfield 21, 3), (30, .aload_n 0, 1), (31, .new 25, 3), (34, .dup, 1), (35, .aload_n 0, 1), (36, .getfield 10, 3), (39, .invokespecial 27, 3), (42, .putfield 28, 3), (45, .aload_n 0, 1), (46, .new 32, 3), (49, .dup, 1), (50, .invokespecial 34, 3), (53, .putfield 35, 3), (56, .aload_n 0, 1), (57, .new 39, 3), (60, .dup, 1), (61, .invokespecial 41, 3), (64, .putfield 42, 3), (67, .aload_n 0, 1), (68, .new 46, 3), (71, .dup, 1), (72, .invokespecial 48, 3), (75, .putfield 49, 3), (78, .aload_n 0, 1), (79, .new 53, 3), (82, .dup, 1), (83, .invokespecial 55, 3), (86, .putfield 56, 3), (89, .aload_n 0, 1), (90, .new 60, 3), (93, .dup, 1), (94, .invokespecial 62, 3), (97, .putfield 63, 3), (100, .aload_n 0, 1), (101, .new 67, 3), (104, .dup, 1), (105, .aload_n 0, 1), (106, .getfield 63, 3), (109, .invokespecial 69, 3), (112, .putfield 72, 3), (115, .aload_n 0, 1), (116, .new 76, 3), (119, .dup, 1), (120, .invokespecial 78, 3), (123, .putfield 79, 3), (126, .aload_n 0, 1), (127, .new 83, 3), (130, .dup, 1), (131, .invokespecial 85, 3), (134, .putfield 86, 3), (137, .aload_n 0, 1), (138, .new 83, 3), (141, .dup, 1), (142, .invokespecial 85, 3), (145, .putfield 90, 3), (148, .aload_n 0, 1), (149, .iconst (-1), 1), (150, .putfield 93, 3), (153, .return_, 1)]
def aM_X11_init : aM := (yX11_init, cX11_init, 1, none, aC_RX11, aL_X11_init, 144)
def aK_X11_init : aMk := (aM_X11_init, [(7, 9, 148, 149, 116), (16, 10, 175, 176, 117), (25, 6, 185, 186, 118), (32, 7, 203, 204, 119), (39, 0, 234, 235, 120), (46, 3, 254, 255, 121), (53, 8, 274, 275, 122), (60, 1, 298, 299, 123), (67, 2, 326, 327, 124), (76, 5, 360, 361, 125), (83, 4, 388, 389, 126)], [(1, 0, 0, 0, 145, 146, 147), (9, 2, 9, 0, 0, 151, 116), (18, 1, 10, 1, 177, 178, 117), (27, 1, 6, 1, 187, 188, 118), (34, 2, 7, 0, 0, 206, 119), (41, 2, 0, 0, 0, 237, 120), (48, 2, 3, 0, 0, 257, 121), (55, 2, 8, 0, 0, 277, 122), (62, 2, 1, 0, 0, 301, 123), (69, 1, 2, 1, 328, 329, 124), (78, 2, 5, 0, 0, 363, 125), (85, 2, 4, 0, 0, 391, 126)], [])
def aL_X12_init : List (Nat × Instr × Nat) := [(0, .aload_n 0, 1), (1, .invokespecial 3, 3), (4, .aload_n 0, 1), (5, .sipush 240, 3), (8, .newarray .byte, 2), (10, .putfield 9, 3), (13, .aload_n 0, 1), (14, .sipush 1440, 3), (17, .newarray .byte, 2), (19, .putfield 13, 3), (22, .aload_n 0, 1), (23, .bipush 6, 2), (25, .newarray .int, 2), (27, .putfield 16, 3), (30, .aload_n 0, 1), (31, .sipush 128, 3), (34, .newarray .int, 2), (36, .putfield 20, 3), (39, .aload_n 0, 1), (40, .aload_n 0, 1), (41, .getfield 9, 3), (44, .putfield 23, 3), (47, .aload_n 0, 1), (48, .ldc 26, 2), (50, .putfield 28, 3), (53, .aload_n 0, 1), (54, .ldc 32, 2), (56, .putfield 34, 3), (59, .aload_n 0, 1), (60, .bipush 24, 2), (62, .newarray .int, 2), (64, .putfield 37, 3), (67, .aload_n 0, 1), (68, .bipush 24, 2), (70, .newarray .int, 2), (72, .putfield 40, 3), (75, .aload_n 0, 1), (76, .bipush 96, 2), (78, .newarray .int, 2), (80, .putfield 43, 3), (83, .aload_n 0, 1), (84, .bipush 96, 2), (86, .newarray .int, 2), (88, .putfield 46, 3), (91, .aload_n 0, 1), (92, .bipush 36, 2), (94, .newarray .int, 2), (96, .putfield 49, 3), (99, .aload_n 0, 1), (100, .bipush 36, 2), (102, .newarray .int, 2), (104, .putfield 52, 3), (107, .aload_n 0, 1), (108, .iconst 5, 1), (109, .newarray .int, 2), (111, .putfield 55, 3), (114, .aload_n 0, 1), (115, .iconst 5, 1), (116, .newarray .int, 2), (118, .putfield 58, 3), (121, .aload_n 0, 1), (122, .bipush 60, 2), (124, .newarray .int, 2), (126, .putfield 61, 3), (129, .aload_n 0, 1), (130, .iconst 5, 1), (131, .newarray .int, 2), (133, .putfield 64, 3), (136, .aload_n 0, 1), (137, .bipush 67, 2), (139, .newarray .int, 2), (141, .putfield 67, 3), (144, .aload_n 0, 1), (145, .iconst (-1), 1), (146, .putfield 70, 3), (149, .aload_n 0, 1), (150, .sipush 2680, 3), (153, .newarray .int, 2), (155, .putfield 74, 3), (158, .aload_n 0, 1), (159, .iconst 5, 1), (160, .newarray .int, 2), (162, .putfield 77, 3), (165, .aload_n 0, 1), (166, .bipush 6, 2), (168, .newarray .int, 2), (170, .putfield 80, 3), (173, .aload_n 0, 1), (174, .sipush 384, 3), (177, .newarray .boolean, 2), (179, .putfield 83, 3), (182, .aload_n 0, 1), (183, .bipush 6, 2), (185, .newarray .int, 2), (187, .putfield 87, 3), (190, .aload_n 0, 1), (191, .bipush 6, 2), (193, .newarray .int, 2), (195, .putfield 90, 3), (198, .aload_n 0, 1), (199, .bipush 6, 2), (201, .newarray .int, 2), (203, .putfield 93, 3), (206, .aload_n 0, 1), (207, .bipush 6, 2), (209, .newarray .int, 2), (211, .putfield 96, 3), (214, .aload_n 0, 1), (215, .bipush 6, 2), (217, .newarray .int, 2), (219, .putfield 99, 3), (222, .aload_n 0, 1), (223, .bipush 6, 2), (225, .newarray .int, 2), (227, .putfield 102, 3), (230, .aload_n 0, 1), (231, .bipush 12, 2), (233, .newarray .int, 2), (235, .putfield 105, 3), (238, .aload_n 0, 1), (239, .bipush 12, 2), (241, .newarray .int, 2), (243, .putfield 108, 3), (246, .aload_n 0, 1), (247, .bipush 12, 2), (249, .newarray .int, 2), (251, .putfield 111, 3), (254, .aload_n 0, 1), (255, .bipush 67, 2), (257, .newarray .int, 2), (259, .putfield 114, 3), (262, .return_, 1)]
def aM_X12_init : aM := (yX12_init, cX12_init, 1, none, aC_RX12, aL_X12_init, 1347)
def aK_X12_init : aMk := (aM_X12_init, [], [(3, 0, 0, 0, 1348, 146, 147)], [])
def aK_law : aMk := (aM_law, [(8, 11, 140, 141, 115), (16, 12, 1343, 1344, 127)], [(15, 1, 11, 0, 142, 143, 115), (18, 1, 12, 0, 1345, 1346, 127)], [])
def aCt : List aMk := [aK_X0_init, aK_X1_init, aK_X2_init, aK_X3_init, aK_X4_init, aK_X5_init, aK_X6_init, aK_X7_init, aK_X8_init, aK_X9_init, aK_X10_init, aK_X11_init, aK_X12_init]
def aDfL : List (List Value) := [[.null, .null, .int 0], [.null, .null, .null, .null, .null, .int 0], [.null, .null, .null, .null, .null, .null, .null, .null, .null], [.null, .null, .null, .int 0], [.null, .null, .null, .null, .null, .null, .null, .null, .null, .int 0, .int 0, .int 0], [.null, .null, .null, .null, .null, .int 0, .int 0], [.null, .null, .int 0], [.null, .null, .null, .null, .null, .int 0, .int 0], [.null, .null, .int 0, .int 0, .int 0], [.null, .int 0, .int 0, .int 0], [.null], [.null, .null, .null, .null, .null, .null, .null, .null, .null, .null, .null, .null, .int 0], [.int 0, .null, .null, .null, .null, .null, .int 0, .int 0, .int 0, .int 0, .int 0, .int 0, .int 0, .int 0, .int 0, .null, .null, .int 0, .null, .null, .null, .null, .null, .null, .null, .null, .int 0, .int 0, .int 0, .int 0, .int 0, .int 0, .null, .null, .int 0, .null, .int 0, .null, .int 0, .null, .long 0, .null, .null, .null, .null, .int 0, .null, .null, .null, .int 0, .null, .int 0, .int 0, .int 0, .null, .null, .null, .int 0, .null, .int 0]]
def aDf (ci : Nat) : Nat → Value := fun k => (aDfL.getD ci []).getD k .null
def aFr (lo : Nat) (v : Value) : Bool := match v with
  | .ref a => Nat.blt a lo || Nat.ble 1000 a
  | _ => true
def aFrC (lo : Nat) (f : Nat → Value) (sh : aSh) : Bool := match sh with
  | .inl ci => (List.range (aNf ci)).all (fun k => aFr lo (f k))
  | .inr (t, n) => match Nat.beq t 4 with
    | true => (List.range n).all (fun j => aFr lo (f j))
    | false => true
def aFrS (lo : Nat) (σ : aSt) : Nat → List aSh → Bool
  | _, [] => true
  | i, sh :: r => aFrC lo (σ i) sh && aFrS lo σ (i + 1) r
def aFrA (lv st : List Value) (σ : aSt) (S : List aSh) : Bool := lv.all (aFr S.length) && (st.all (aFr S.length) && (aFrS S.length σ 0 S && Nat.blt S.length 900))
/-- a new cell -/
def aNw (σ : aSt) (a : Nat) (g : Nat → Value) : aSt := fun b j => if b = a then g j else σ b j
/-- a new array of arrays of ints, and these -/
def aNw2 (σ : aSt) (a n : Nat) : aSt := fun b j => if b = a then (if j < n then .ref (a + 1 + j) else .null) else (if b < a then σ b j else .int 0)
def aTc (t : ArrayType) : Option Nat := match t with
  | .int => some 0
  | .byte => some 1
  | .boolean => some 2
  | .long => some 3
  | _ => none
def aZr (t : Nat) : Value := match t with
  | 3 => .long 0
  | _ => .int 0
def aMkE (X : aXt) (C : List aMk) : Nat → Nat → aMk → Nat → List Value → List Value → aSt → List aSh → Nat → Option (aSt × List aSh × Nat)
  | 0, _, _, _, _, _, _, _, _ => none
  | f + 1, d, M, pc, lv, st, σ, S, k => match aFd (aCo M.1) pc with
    | none => none
    | some q => match q.1 with
      | .return_ => match st with
        | [] => some (σ, S, k)
        | _ => none
      | .new i => match aFrA lv st σ S with
        | false => none
        | true => match aFd M.2.1 i with
          | none => none
          | some (ci, _) => aMkE X C f d M (pc + 3) lv (.ref S.length :: st) (aNw σ S.length (aDf ci)) (S ++ [.inl ci]) (k + aNf ci)
      | .newarray t => match aFrA lv st σ S with
        | false => none
        | true => match st with
          | .int n :: r => match aTc t with
            | none => none
            | some tc => if (¬ n < 0) ∧ n.toNatClampNeg ≤ 10000 then aMkE X C f d M (pc + 2) lv (.ref S.length :: r) (aNw σ S.length (fun _ => aZr tc)) (S ++ [.inr (tc, n.toNatClampNeg)]) (k + n.toNatClampNeg) else none
          | _ => none
      | .multianewarray i dm => match aFrA lv st σ S with
        | false => none
        | true => match st with
          | .int n2 :: .int n1 :: r => match aFd M.2.2.2 i with
            | none => none
            | some _ => if (((¬ n1 < 0) ∧ ¬ n2 < 0) ∧ dm = 2) ∧ ((n1.toNatClampNeg ≤ 60 ∧ n2.toNatClampNeg ≤ 1000) ∧ S[2]? = some (.inr (0, 240))) then aMkE X C f d M (pc + 4) lv (.ref S.length :: r) (aNw2 σ S.length n1.toNatClampNeg) (S ++ (.inr (4, n1.toNatClampNeg) :: List.replicate n1.toNatClampNeg (.inr (0, n2.toNatClampNeg)))) (k + n1.toNatClampNeg + n1.toNatClampNeg * n2.toNatClampNeg) else none
          | _ => none
      | .invokespecial i => match aFd M.2.2.1 i with
        | none => none
        | some (kd, K, n, _) => match Nat.beq kd 0 with
          | true => match st with
            | .ref _ :: r => match Nat.ble (aCat r) 8 with
              | true => aMkE X C f d M (pc + 3) lv r σ S k
              | false => none
            | _ => none
          | false => match aFrA lv st σ S with
            | false => none
            | true => match aTk n [] st with
              | some (as, .ref a :: r) => match Nat.ble (aCat r) 8 with
                | false => none
                | true => match d with
                  | 0 => none
                  | d' + 1 => match C[K]? with
                    | none => none
                    | some M' => match Nat.ble (aArg (.ref a :: as)).length (aML M'.1) with
                      | false => none
                      | true => match aMkE X C f d' M' 0 (aEnt M'.1 (.ref a :: as)) [] σ S 0 with
                        | none => none
                        | some (σ2, S2, k2) => match Nat.blt S2.length 1000 with
                          | false => none
                          | true => aMkE X C f (d' + 1) M (pc + 3) lv r σ2 S2 (k + k2)
              | _ => none
      | .putfield i => match st with
        | v :: .ref a :: r => match aFd (aCs M.1).2.1 i with
          | none => none
          | some (ci, j, kd, _) => match S[a]? with
            | some (.inl cj) => match Nat.beq ci cj && (Nat.beq kd 9) with
              | true => match v with
                | .ref b => aMkE X C f d M (pc + 3) lv r (aUp σ a j (.ref b)) S k
                | _ => none
              | false => match Nat.beq ci cj && aOk kd v with
                | true => aMkE X C f d M (pc + 3) lv r (aUp σ a j v) S k
                | false => none
            | _ => none
        | _ => none
      | ins => match aIns X S M.1 pc ins lv st σ with
        | some (.inl z) => aMkE X C f d M z.1 z.2.1 z.2.2.1 z.2.2.2 S k
        | _ => none
def aLv0 : List Value := [.ref 1000, .null, .null, .null, .null, .null, .null]
/-- the law's head, up to its loop: by the machine, the two objects and the long[1] -/
def aX0 : aXt := fun _ => none
def aH0 : Option (aSt × List aSh × Nat) := aMkE aX0 aCt 4000 3 aK_X11_init 0 (aEnt aM_X11_init [.ref 0]) [] (aNw (fun _ _ => .null) 0 (aDf 11)) [.inl 11] 13
set_option maxRecDepth 100000 in
theorem aH0_ok : (aH0.map (fun q => decide (q.2.1 = aS.take 120) && Nat.beq q.2.2 8524)) = some true := by decide +kernel
