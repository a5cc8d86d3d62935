def am_kX6_wordNumber : List (Nat × Instr) := [(0, .aload_n 0), (1, .ldc 79), (3, .invokevirtual 81), (6, .ifCond .eq 5), (9, .iconst 0), (10, .ireturn), (11, .aload_n 0), (12, .ldc 85),
  (14, .invokevirtual 81), (17, .ifCond .eq 5), (20, .iconst 1), (21, .ireturn), (22, .aload_n 0), (23, .ldc 87), (25, .invokevirtual 81), (28, .ifCond .eq 5),
  (31, .iconst 2), (32, .ireturn), (33, .aload_n 0), (34, .ldc 89), (36, .invokevirtual 81), (39, .ifCond .eq 5), (42, .iconst 3), (43, .ireturn),
  (44, .aload_n 0), (45, .ldc 91), (47, .invokevirtual 81), (50, .ifCond .eq 5), (53, .iconst 4), (54, .ireturn), (55, .aload_n 0), (56, .ldc 93),
  (58, .invokevirtual 81), (61, .ifCond .eq 7), (64, .iconst 5), (65, .goto 4), (68, .iconst (-1)), (69, .ireturn)]
def am_kX6_spells : List (Nat × Instr) := [(0, .aload_n 0), (1, .getfield 30), (4, .aload_n 0), (5, .getfield 46), (8, .isub), (9, .aload_n 1), (10, .invokevirtual 95), (13, .if_icmp .eq 5),
  (16, .iconst 0), (17, .ireturn), (18, .iconst 0), (19, .istore_n 2), (20, .iload_n 2), (21, .aload_n 1), (22, .invokevirtual 95), (25, .if_icmp .ge 29),
  (28, .aload_n 0), (29, .aload_n 0), (30, .getfield 46), (33, .iload_n 2), (34, .iadd), (35, .invokevirtual 49), (38, .aload_n 1), (39, .iload_n 2),
  (40, .invokevirtual 100), (43, .if_icmp .eq 5), (46, .iconst 0), (47, .ireturn), (48, .iinc 2 1), (51, .goto (-31)), (54, .iconst 1), (55, .ireturn)]
def am_kX6_take : List (Nat × Instr) := [(0, .aload_n 0), (1, .getfield 33), (4, .tableswitch 189 0 6 #[44, 70, 86, 106, 118, 161, 183]), (48, .aload_n 0), (49, .aload_n 0), (50, .getfield 39), (53, .iconst 1), (54, .if_icmp .ne 14),
  (57, .aload_n 0), (58, .getfield 66), (61, .ifCond .ne 7), (64, .iconst 1), (65, .goto 4), (68, .iconst 0), (69, .iconst 1), (70, .invokevirtual 104),
  (73, .ireturn), (74, .aload_n 0), (75, .aload_n 0), (76, .getfield 66), (79, .putfield 108), (82, .aload_n 0), (83, .iconst 1), (84, .iconst 4),
  (85, .iconst 2), (86, .invokevirtual 111), (89, .ireturn), (90, .aload_n 1), (91, .aload_n 0), (92, .getfield 108), (95, .aload_n 0), (96, .getfield 66),
  (99, .invokevirtual 115), (102, .aload_n 0), (103, .iconst 1), (104, .iconst 4), (105, .iconst 3), (106, .invokevirtual 111), (109, .ireturn), (110, .aload_n 0),
  (111, .aload_n 0), (112, .bipush 59), (114, .invokevirtual 119), (117, .iconst 4), (118, .invokevirtual 104), (121, .ireturn), (122, .aload_n 0), (123, .aload_n 0),
  (124, .getfield 66), (127, .putfield 123), (130, .aload_n 0), (131, .aload_n 0), (132, .getfield 39), (135, .iconst 1), (136, .if_icmp .ne 23), (139, .aload_n 0),
  (140, .getfield 66), (143, .iconst 1), (144, .if_icmp .lt 15), (147, .aload_n 0), (148, .getfield 66), (151, .iconst 3), (152, .if_icmp .gt 7), (155, .iconst 1),
  (156, .goto 4), (159, .iconst 0), (160, .iconst 5), (161, .invokevirtual 104), (164, .ireturn), (165, .aload_n 0), (166, .aload_n 0), (167, .getfield 66),
  (170, .putfield 126), (173, .aload_n 0), (174, .iconst 0), (175, .aload_n 1), (176, .invokevirtual 129), (179, .iconst 1), (180, .isub), (181, .bipush 6),
  (183, .invokevirtual 111), (186, .ireturn), (187, .aload_n 0), (188, .aload_n 1), (189, .invokevirtual 132), (192, .ireturn), (193, .aload_n 0), (194, .aload_n 0),
  (195, .bipush 59), (197, .invokevirtual 119), (200, .ifCond .ne 12), (203, .aload_n 0), (204, .bipush 44), (206, .invokevirtual 119), (209, .ifCond .eq 7), (212, .iconst 1),
  (213, .goto 4), (216, .iconst 0), (217, .aload_n 0), (218, .bipush 59), (220, .invokevirtual 119), (223, .ifCond .eq 7), (226, .iconst 4), (227, .goto 4),
  (230, .iconst 5), (231, .invokevirtual 104), (234, .ireturn)]
def am_kX6_isSign : List (Nat × Instr) := [(0, .aload_n 0), (1, .getfield 39), (4, .iconst 3), (5, .if_icmp .ne 15), (8, .aload_n 0), (9, .getfield 66), (12, .iload_n 1), (13, .if_icmp .ne 7),
  (16, .iconst 1), (17, .goto 4), (20, .iconst 0), (21, .ireturn)]
def am_kX6_expect : List (Nat × Instr) := [(0, .aload_n 0), (1, .iload_n 2), (2, .putfield 33), (5, .iload_n 1), (6, .ifCond .eq 7), (9, .iconst 0), (10, .goto 4), (13, .iconst 1),
  (14, .ireturn)]
def am_kX6_takeNumber : List (Nat × Instr) := [(0, .aload_n 0), (1, .getfield 39), (4, .iconst 2), (5, .if_icmp .eq 5), (8, .iconst 1), (9, .ireturn), (10, .aload_n 0), (11, .iload_n 3),
  (12, .putfield 33), (15, .aload_n 0), (16, .getfield 66), (19, .iload_n 1), (20, .if_icmp .lt 11), (23, .aload_n 0), (24, .getfield 66), (27, .iload_n 2),
  (28, .if_icmp .le 7), (31, .iconst 2), (32, .goto 4), (35, .iconst 0), (36, .ireturn)]
def am_kX6_takeSide : List (Nat × Instr) := [(0, .aload_n 0), (1, .getfield 39), (4, .iconst 1), (5, .if_icmp .ne 19), (8, .aload_n 0), (9, .getfield 66), (12, .iconst 4), (13, .if_icmp .eq 13),
  (16, .aload_n 0), (17, .getfield 66), (20, .iconst 5), (21, .if_icmp .eq 5), (24, .iconst 1), (25, .ireturn), (26, .aload_n 1), (27, .aload_n 0),
  (28, .getfield 126), (31, .aload_n 0), (32, .getfield 66), (35, .iconst 4), (36, .if_icmp .ne 7), (39, .iconst 0), (40, .goto 4), (43, .iconst 1),
  (44, .invokevirtual 135), (47, .istore_n 2), (48, .iload_n 2), (49, .iconst (-1)), (50, .if_icmp .ne 5), (53, .iconst 3), (54, .ireturn), (55, .aload_n 1),
  (56, .iload_n 2), (57, .invokevirtual 138), (60, .ifCond .eq 5), (63, .iconst 4), (64, .ireturn), (65, .aload_n 1), (66, .iload_n 2), (67, .aload_n 0),
  (68, .getfield 123), (71, .invokevirtual 141), (74, .aload_n 0), (75, .bipush 7), (77, .putfield 33), (80, .iconst 0), (81, .ireturn)]
def am_kX7_init : List (Nat × Instr) := [(0, .aload_n 0), (1, .invokespecial 3), (4, .aload_n 0), (5, .new 9), (8, .dup), (9, .invokespecial 11), (12, .putfield 12), (15, .aload_n 0),
  (16, .bipush 64), (18, .newarray .int), (20, .putfield 18), (23, .aload_n 0), (24, .bipush 64), (26, .newarray .int), (28, .putfield 22), (31, .aload_n 0),
  (32, .bipush 64), (34, .newarray .int), (36, .putfield 25), (39, .aload_n 0), (40, .bipush 64), (42, .newarray .int), (44, .putfield 28), (47, .aload_n 0),
  (48, .bipush 65), (50, .newarray .int), (52, .putfield 31), (55, .aload_n 0), (56, .bipush 48), (58, .newarray .int), (60, .putfield 34), (63, .aload_n 0),
  (64, .bipush 48), (66, .newarray .int), (68, .putfield 37), (71, .aload_n 0), (72, .bipush 48), (74, .newarray .int), (76, .putfield 40), (79, .aload_n 0),
  (80, .bipush 48), (82, .newarray .int), (84, .putfield 43), (87, .aload_n 0), (88, .bipush 65), (90, .newarray .int), (92, .putfield 46), (95, .aload_n 0),
  (96, .bipush 24), (98, .newarray .int), (100, .putfield 49), (103, .aload_n 0), (104, .bipush 24), (106, .newarray .int), (108, .putfield 52), (111, .aload_n 0),
  (112, .bipush 64), (114, .newarray .int), (116, .putfield 55), (119, .return_)]
def am_kX7_follow : List (Nat × Instr) := [(0, .aload_n 0), (1, .getfield 12), (4, .aload_n 1), (5, .invokevirtual 58), (8, .ifCond .eq 4), (11, .return_), (12, .aload_n 0), (13, .getfield 12),
  (16, .aload_n 1), (17, .invokevirtual 62), (20, .aload_n 0), (21, .iconst 0), (22, .putfield 66), (25, .aload_n 0), (26, .iconst 0), (27, .putfield 70),
  (30, .aload_n 0), (31, .iconst 0), (32, .putfield 73), (35, .aload_n 0), (36, .getfield 18), (39, .iconst (-1)), (40, .invokestatic 76), (43, .aload_n 0),
  (44, .getfield 49), (47, .iconst (-1)), (48, .invokestatic 76), (51, .aload_n 0), (52, .getfield 52), (55, .iconst (-1)), (56, .invokestatic 76), (59, .iconst 0),
  (60, .istore_n 2), (61, .iload_n 2), (62, .iconst 4), (63, .aload_n 0), (64, .getfield 12), (67, .invokevirtual 82), (70, .imul), (71, .if_icmp .ge 26),
  (74, .aload_n 0), (75, .getfield 18), (78, .iload_n 2), (79, .invokestatic 86), (82, .iconst (-1)), (83, .if_icmp .ne 8), (86, .aload_n 0), (87, .iload_n 2),
  (88, .invokevirtual 90), (91, .iinc 2 1), (94, .goto (-33)), (97, .aload_n 0), (98, .getfield 31), (101, .aload_n 0), (102, .getfield 66), (105, .aload_n 0),
  (106, .getfield 70), (109, .invokestatic 94), (112, .aload_n 0), (113, .getfield 46), (116, .aload_n 0), (117, .getfield 66), (120, .aload_n 0), (121, .getfield 73),
  (124, .invokestatic 94), (127, .return_)]
def am_kX7_followFrom : List (Nat × Instr) := [(0, .aload_n 0), (1, .getfield 31), (4, .aload_n 0), (5, .getfield 66), (8, .aload_n 0), (9, .getfield 70), (12, .invokestatic 94), (15, .aload_n 0),
  (16, .getfield 46), (19, .aload_n 0), (20, .getfield 66), (23, .aload_n 0), (24, .getfield 73), (27, .invokestatic 94), (30, .iload_n 1), (31, .istore_n 2),
  (32, .iconst 1), (33, .istore_n 3), (34, .iconst 0), (35, .istore 4), (37, .iload 4), (39, .bipush 64), (41, .if_icmp .ge 166), (44, .aload_n 0),
  (45, .iload_n 2), (46, .iload 4), (48, .iload_n 3), (49, .invokevirtual 98), (52, .iload_n 2), (53, .iconst 2), (54, .ishr), (55, .istore 5),
  (57, .iload_n 3), (58, .ifCond .eq 9), (61, .iload_n 2), (62, .iconst 1), (63, .iadd), (64, .goto 4), (67, .iload_n 2), (68, .iconst 3),
  (69, .iand), (70, .istore 6), (72, .aload_n 0), (73, .getfield 12), (76, .iload 5), (78, .iload 6), (80, .invokevirtual 102), (83, .istore 7),
  (85, .iload 6), (87, .istore 8), (89, .iload 7), (91, .iconst (-1)), (92, .if_icmp .eq 35), (95, .aload_n 0), (96, .getfield 12), (99, .iload 7),
  (101, .invokevirtual 106), (104, .iconst 2), (105, .if_icmp .eq 22), (108, .aload_n 0), (109, .getfield 12), (112, .iload 5), (114, .iload 6), (116, .invokevirtual 110),
  (119, .istore 5), (121, .iload 6), (123, .iconst 2), (124, .ixor), (125, .istore 8), (127, .aload_n 0), (128, .getfield 12), (131, .iload 7),
  (133, .invokevirtual 113), (136, .ifCond .eq 36), (139, .aload_n 0), (140, .iload 7), (142, .iload_n 3), (143, .ifCond .eq 9), (146, .iload_n 2), (147, .iconst 3),
  (148, .iand), (149, .goto 8), (152, .iload_n 2), (153, .iconst 1), (154, .iadd), (155, .iconst 3), (156, .iand), (157, .iload 6),
  (159, .invokevirtual 117), (162, .iload_n 3), (163, .ifCond .ne 7), (166, .iconst 1), (167, .goto 4), (170, .iconst 0), (171, .istore_n 3), (172, .iconst 4),
  (173, .iload 5), (175, .imul), (176, .iload_n 3), (177, .ifCond .eq 8), (180, .iload 8), (182, .goto 9), (185, .iload 8), (187, .iconst 3),
  (188, .iadd), (189, .iconst 3), (190, .iand), (191, .iadd), (192, .istore_n 2), (193, .iload_n 2), (194, .iload_n 1), (195, .if_icmp .ne 6),
  (198, .goto 9), (201, .iinc 4 1), (204, .goto (-167)), (207, .aload_n 0), (208, .dup), (209, .getfield 66), (212, .iconst 1), (213, .iadd),
  (214, .putfield 66), (217, .return_)]
def am_kX7_note : List (Nat × Instr) := [(0, .aload_n 0), (1, .getfield 18), (4, .iload_n 1), (5, .aload_n 0), (6, .getfield 66), (9, .invokestatic 94), (12, .aload_n 0), (13, .getfield 22),
  (16, .iload_n 1), (17, .iload_n 2), (18, .invokestatic 94), (21, .aload_n 0), (22, .getfield 25), (25, .iload_n 1), (26, .iload_n 3), (27, .ifCond .eq 7),
  (30, .iconst 1), (31, .goto 4), (34, .iconst (-1)), (35, .invokestatic 94), (38, .aload_n 0), (39, .getfield 28), (42, .aload_n 0), (43, .getfield 70),
  (46, .iload_n 1), (47, .invokestatic 94), (50, .aload_n 0), (51, .dup), (52, .getfield 70), (55, .iconst 1), (56, .iadd), (57, .putfield 70),
  (60, .return_)]
def am_kX7_pass : List (Nat × Instr) := [(0, .getstatic 121), (3, .iload_n 3), (4, .iconst 3), (5, .iand), (6, .iaload), (7, .getstatic 121), (10, .iload_n 2), (11, .iconst 3),
  (12, .iand), (13, .iaload), (14, .isub), (15, .istore 4), (17, .getstatic 124), (20, .iload_n 3), (21, .iconst 3), (22, .iand),
  (23, .iaload), (24, .getstatic 124), (27, .iload_n 2), (28, .iconst 3), (29, .iand), (30, .iaload), (31, .isub), (32, .istore 5),
  (34, .iload 4), (36, .iload 5), (38, .if_icmp .ne 7), (41, .iconst 1), (42, .goto 4), (45, .iconst 0), (46, .istore 6), (48, .iload 6),
  (50, .aload_n 0), (51, .getfield 12), (54, .iload_n 1), (55, .invokevirtual 127), (58, .ifCond .ne 7), (61, .iconst 1), (62, .goto 4), (65, .iconst 0),
  (66, .if_icmp .ne 7), (69, .iconst 1), (70, .goto 4), (73, .iconst 0), (74, .istore 7), (76, .aload_n 0), (77, .getfield 12), (80, .iload_n 1),
  (81, .invokevirtual 106), (84, .iconst 1), (85, .if_icmp .ne 15), (88, .iload 7), (90, .ifCond .ne 7), (93, .iconst 1), (94, .goto 4), (97, .iconst 0),
  (98, .istore 7), (100, .iload 7), (102, .ifCond .eq 10), (105, .aload_n 0), (106, .getfield 49), (109, .goto 7), (112, .aload_n 0), (113, .getfield 52),
  (116, .iload_n 1), (117, .aload_n 0), (118, .getfield 73), (121, .invokestatic 94), (124, .aload_n 0), (125, .getfield 34), (128, .aload_n 0), (129, .getfield 73),
  (132, .iload_n 1), (133, .invokestatic 94), (136, .aload_n 0), (137, .getfield 37), (140, .aload_n 0), (141, .getfield 73), (144, .aload_n 0), (145, .getfield 66),
  (148, .invokestatic 94), (151, .aload_n 0), (152, .getfield 40), (155, .aload_n 0), (156, .getfield 73), (159, .iload 4), (161, .invokestatic 94), (164, .aload_n 0),
  (165, .getfield 43), (168, .aload_n 0), (169, .getfield 73), (172, .iload 5), (174, .invokestatic 94), (177, .aload_n 0), (178, .dup), (179, .getfield 73),
  (182, .iconst 1), (183, .iadd), (184, .putfield 73), (187, .return_)]
def am_kX7_strands : List (Nat × Instr) := [(0, .aload_n 0), (1, .getfield 66), (4, .ireturn)]
def am_kX7_hasStrand : List (Nat × Instr) := [(0, .iload_n 1), (1, .ifCond .lt 15), (4, .iload_n 1), (5, .aload_n 0), (6, .getfield 66), (9, .if_icmp .ge 7), (12, .iconst 1), (13, .goto 4),
  (16, .iconst 0), (17, .ireturn)]
def am_kX7_strandAt : List (Nat × Instr) := [(0, .aload_n 0), (1, .getfield 18), (4, .iload_n 1), (5, .invokestatic 86), (8, .ireturn)]
def am_kX7_placeAt : List (Nat × Instr) := [(0, .aload_n 0), (1, .getfield 22), (4, .iload_n 1), (5, .invokestatic 86), (8, .ireturn)]
def am_kX7_paintAt : List (Nat × Instr) := [(0, .aload_n 0), (1, .getfield 22), (4, .iload_n 1), (5, .invokestatic 86), (8, .iconst 1), (9, .iand), (10, .ireturn)]
def am_kX7_paintIn : List (Nat × Instr) := [(0, .iconst 0), (1, .istore_n 2), (2, .iconst 0), (3, .istore_n 3), (4, .iload_n 3), (5, .iconst 4), (6, .if_icmp .ge 21), (9, .iload_n 2),
  (10, .aload_n 0), (11, .iconst 4), (12, .iload_n 1), (13, .imul), (14, .iload_n 3), (15, .iadd), (16, .invokevirtual 130), (19, .iadd),
  (20, .istore_n 2), (21, .iinc 3 1), (24, .goto (-20)), (27, .iload_n 2), (28, .ireturn)]
def am_kX7_cornersOn : List (Nat × Instr) := [(0, .aload_n 0), (1, .getfield 31), (4, .iload_n 1), (5, .iconst 1), (6, .iadd), (7, .invokestatic 86), (10, .aload_n 0), (11, .getfield 31),
  (14, .iload_n 1), (15, .invokestatic 86), (18, .isub), (19, .ireturn)]
def am_kX7_cornerOn : List (Nat × Instr) := [(0, .iload_n 2), (1, .ifCond .lt 12), (4, .iload_n 2), (5, .aload_n 0), (6, .iload_n 1), (7, .invokevirtual 133), (10, .if_icmp .lt 7), (13, .iconst (-1)),
  (14, .goto 20), (17, .aload_n 0), (18, .getfield 28), (21, .aload_n 0), (22, .getfield 31), (25, .iload_n 1), (26, .invokestatic 86), (29, .iload_n 2),
  (30, .iadd), (31, .invokestatic 86), (34, .ireturn)]
def am_kX7_passesOn : List (Nat × Instr) := [(0, .aload_n 0), (1, .getfield 46), (4, .iload_n 1), (5, .iconst 1), (6, .iadd), (7, .invokestatic 86), (10, .aload_n 0), (11, .getfield 46),
  (14, .iload_n 1), (15, .invokestatic 86), (18, .isub), (19, .ireturn)]
def am_kX7_edgePassed : List (Nat × Instr) := [(0, .iload_n 2), (1, .ifCond .lt 12), (4, .iload_n 2), (5, .aload_n 0), (6, .iload_n 1), (7, .invokevirtual 136), (10, .if_icmp .lt 7), (13, .iconst (-1)),
  (14, .goto 20), (17, .aload_n 0), (18, .getfield 34), (21, .aload_n 0), (22, .getfield 46), (25, .iload_n 1), (26, .invokestatic 86), (29, .iload_n 2),
  (30, .iadd), (31, .invokestatic 86), (34, .ireturn)]
def am_kX7_isOverAt : List (Nat × Instr) := [(0, .aload_n 0), (1, .getfield 49), (4, .aload_n 0), (5, .iload_n 1), (6, .iload_n 2), (7, .invokevirtual 139), (10, .invokestatic 86), (13, .aload_n 0),
  (14, .getfield 46), (17, .iload_n 1), (18, .invokestatic 86), (21, .iload_n 2), (22, .iadd), (23, .if_icmp .ne 7), (26, .iconst 1), (27, .goto 4),
  (30, .iconst 0), (31, .ireturn)]
def am_kX7_overStrand : List (Nat × Instr) := [(0, .aload_n 0), (1, .getfield 37), (4, .aload_n 0), (5, .getfield 49), (8, .iload_n 1), (9, .invokestatic 86), (12, .invokestatic 86), (15, .ireturn)]
def am_kX7_underStrand : List (Nat × Instr) := [(0, .aload_n 0), (1, .getfield 37), (4, .aload_n 0), (5, .getfield 52), (8, .iload_n 1), (9, .invokestatic 86), (12, .invokestatic 86), (15, .ireturn)]
def am_kX7_ownerOf : List (Nat × Instr) := [(0, .aload_n 0), (1, .iload_n 1), (2, .invokevirtual 142), (5, .istore_n 2), (6, .iload_n 2), (7, .aload_n 0), (8, .iload_n 1), (9, .invokevirtual 145),
  (12, .if_icmp .ne 7), (15, .iload_n 2), (16, .goto 4), (19, .iconst (-1)), (20, .ireturn)]
def am_kX7_edges : List (Nat × Instr) := [(0, .aload_n 0), (1, .getfield 12), (4, .invokevirtual 148), (7, .ireturn)]
def am_kX7_signOf : List (Nat × Instr) := [(0, .aload_n 0), (1, .getfield 12), (4, .iload_n 1), (5, .invokevirtual 113), (8, .ifCond .ne 5), (11, .iconst 0), (12, .ireturn), (13, .aload_n 0),
  (14, .getfield 49), (17, .iload_n 1), (18, .invokestatic 86), (21, .istore_n 2), (22, .aload_n 0), (23, .getfield 52), (26, .iload_n 1), (27, .invokestatic 86),
  (30, .istore_n 3), (31, .aload_n 0), (32, .getfield 43), (35, .iload_n 2), (36, .invokestatic 86), (39, .aload_n 0), (40, .getfield 40), (43, .iload_n 3),
  (44, .invokestatic 86), (47, .imul), (48, .aload_n 0), (49, .getfield 40), (52, .iload_n 2), (53, .invokestatic 86), (56, .aload_n 0), (57, .getfield 43),
  (60, .iload_n 3), (61, .invokestatic 86), (64, .imul), (65, .isub), (66, .istore 4), (68, .iload 4), (70, .ifCond .le 7), (73, .iconst 1),
  (74, .goto 4), (77, .iconst (-1)), (78, .ireturn)]
def am_kX7_signsOfAll : List (Nat × Instr) := [(0, .iconst 0), (1, .istore_n 1), (2, .iconst 0), (3, .istore_n 2), (4, .iload_n 2), (5, .aload_n 0), (6, .getfield 12), (9, .invokevirtual 148),
  (12, .if_icmp .ge 17), (15, .iload_n 1), (16, .aload_n 0), (17, .iload_n 2), (18, .invokevirtual 151), (21, .iadd), (22, .istore_n 1), (23, .iinc 2 1),
  (26, .goto (-22)), (29, .iload_n 1), (30, .ireturn)]
def am_kX7_crossesOver : List (Nat × Instr) := [(0, .iconst 0), (1, .istore_n 3), (2, .iconst 0), (3, .istore 4), (5, .iload 4), (7, .aload_n 0), (8, .getfield 12), (11, .invokevirtual 148),
  (14, .if_icmp .ge 32), (17, .aload_n 0), (18, .iload 4), (20, .invokevirtual 142), (23, .iload_n 1), (24, .if_icmp .ne 16), (27, .aload_n 0), (28, .iload 4),
  (30, .invokevirtual 145), (33, .iload_n 2), (34, .if_icmp .ne 6), (37, .iinc 3 1), (40, .iinc 4 1), (43, .goto (-38)), (46, .iload_n 3), (47, .ireturn)]
def am_kX7_signsOver : List (Nat × Instr) := [(0, .iconst 0), (1, .istore_n 3), (2, .iconst 0), (3, .istore 4), (5, .iload 4), (7, .aload_n 0), (8, .getfield 12), (11, .invokevirtual 148),
  (14, .if_icmp .ge 38), (17, .aload_n 0), (18, .iload 4), (20, .invokevirtual 142), (23, .iload_n 1), (24, .if_icmp .ne 22), (27, .aload_n 0), (28, .iload 4),
  (30, .invokevirtual 145), (33, .iload_n 2), (34, .if_icmp .ne 12), (37, .iload_n 3), (38, .aload_n 0), (39, .iload 4), (41, .invokevirtual 151), (44, .iadd),
  (45, .istore_n 3), (46, .iinc 4 1), (49, .goto (-44)), (52, .iload_n 3), (53, .ireturn)]
def am_kX7_goesInTurn : List (Nat × Instr) := [(0, .aload_n 0), (1, .iload_n 1), (2, .invokevirtual 136), (5, .istore_n 2), (6, .iconst 0), (7, .istore_n 3), (8, .iload_n 3), (9, .iload_n 2),
  (10, .if_icmp .ge 43), (13, .iload_n 3), (14, .iconst 1), (15, .iadd), (16, .iload_n 2), (17, .if_icmp .ge 9), (20, .iload_n 3), (21, .iconst 1),
  (22, .iadd), (23, .goto 4), (26, .iconst 0), (27, .istore 4), (29, .aload_n 0), (30, .iload_n 1), (31, .iload_n 3), (32, .invokevirtual 154),
  (35, .aload_n 0), (36, .iload_n 1), (37, .iload 4), (39, .invokevirtual 154), (42, .if_icmp .ne 5), (45, .iconst 0), (46, .ireturn), (47, .iinc 3 1),
  (50, .goto (-42)), (53, .iconst 1), (54, .ireturn)]
def am_kX7_areInTurn : List (Nat × Instr) := [(0, .aload_n 0), (1, .iload_n 1), (2, .aload_n 0), (3, .getfield 49), (6, .iload_n 2), (7, .invokestatic 86), (10, .invokevirtual 158), (13, .aload_n 0),
  (14, .iload_n 1), (15, .aload_n 0), (16, .getfield 52), (19, .iload_n 2), (20, .invokestatic 86), (23, .invokevirtual 158), (26, .if_icmp .eq 7), (29, .iconst 1),
  (30, .goto 4), (33, .iconst 0), (34, .ireturn)]
def am_kX7_isBetween : List (Nat × Instr) := [(0, .iload_n 2), (1, .aload_n 0), (2, .getfield 49), (5, .iload_n 1), (6, .invokestatic 86), (9, .if_icmp .le 7), (12, .iconst 1), (13, .goto 4),
  (16, .iconst 0), (17, .iload_n 2), (18, .aload_n 0), (19, .getfield 52), (22, .iload_n 1), (23, .invokestatic 86), (26, .if_icmp .le 7), (29, .iconst 1),
  (30, .goto 4), (33, .iconst 0), (34, .if_icmp .eq 7), (37, .iconst 1), (38, .goto 4), (41, .iconst 0), (42, .ireturn)]
def am_kX7_cellsOn : List (Nat × Instr) := [(0, .iconst 0), (1, .istore_n 2), (2, .iconst 0), (3, .istore_n 3), (4, .iload_n 3), (5, .aload_n 0), (6, .iload_n 1), (7, .invokevirtual 133),
  (10, .if_icmp .ge 22), (13, .iload_n 2), (14, .iconst 1), (15, .aload_n 0), (16, .iload_n 1), (17, .iload_n 3), (18, .invokevirtual 161), (21, .iconst 2),
  (22, .ishr), (23, .ishl), (24, .ior), (25, .istore_n 2), (26, .iinc 3 1), (29, .goto (-25)), (32, .iload_n 2), (33, .ireturn)]
def am_kX7_turnsRound : List (Nat × Instr) := [(0, .aload_n 0), (1, .getfield 12), (4, .iload_n 2), (5, .invokevirtual 164), (8, .istore_n 3), (9, .aload_n 0), (10, .getfield 12), (13, .iload_n 2),
  (14, .invokevirtual 167), (17, .istore 4), (19, .iconst 0), (20, .istore 5), (22, .iconst 0), (23, .istore 6), (25, .iload 6), (27, .aload_n 0),
  (28, .iload_n 1), (29, .invokevirtual 133), (32, .if_icmp .ge 106), (35, .aload_n 0), (36, .iload_n 1), (37, .iload 6), (39, .invokevirtual 161), (42, .istore 7),
  (44, .aload_n 0), (45, .getfield 12), (48, .iload 7), (50, .iconst 2), (51, .ishr), (52, .invokevirtual 167), (55, .istore 8), (57, .aload_n 0),
  (58, .getfield 12), (61, .iload 7), (63, .iconst 2), (64, .ishr), (65, .invokevirtual 164), (68, .iload_n 3), (69, .if_icmp .eq 6), (72, .goto 60),
  (75, .iload 7), (77, .iconst 3), (78, .iand), (79, .ifCond .ne 24), (82, .iload 8), (84, .iload 4), (86, .if_icmp .lt 17), (89, .iload 5),
  (91, .aload_n 0), (92, .getfield 25), (95, .iload 7), (97, .invokestatic 86), (100, .iadd), (101, .istore 5), (103, .iload 7), (105, .iconst 3),
  (106, .iand), (107, .iconst 3), (108, .if_icmp .ne 24), (111, .iload 8), (113, .iload 4), (115, .if_icmp .le 17), (118, .iload 5), (120, .aload_n 0),
  (121, .getfield 25), (124, .iload 7), (126, .invokestatic 86), (129, .isub), (130, .istore 5), (132, .iinc 6 1), (135, .goto (-110)), (138, .iload 5),
  (140, .ireturn)]
def am_kX7_pieces : List (Nat × Instr) := [(0, .iconst 0), (1, .istore_n 1), (2, .iload_n 1), (3, .aload_n 0), (4, .getfield 66), (7, .if_icmp .ge 18), (10, .aload_n 0), (11, .getfield 55),
  (14, .iload_n 1), (15, .iload_n 1), (16, .invokestatic 94), (19, .iinc 1 1), (22, .goto (-20)), (25, .aload_n 0), (26, .getfield 66), (29, .istore_n 1),
  (30, .iconst 0), (31, .istore_n 2), (32, .iload_n 2), (33, .aload_n 0), (34, .getfield 12), (37, .invokevirtual 148), (40, .if_icmp .ge 40), (43, .aload_n 0),
  (44, .getfield 12), (47, .iload_n 2), (48, .invokevirtual 113), (51, .ifCond .eq 23), (54, .aload_n 0), (55, .aload_n 0), (56, .iload_n 2), (57, .invokevirtual 142),
  (60, .aload_n 0), (61, .iload_n 2), (62, .invokevirtual 145), (65, .invokevirtual 170), (68, .ifCond .eq 6), (71, .iinc 1 (-1)), (74, .iinc 2 1), (77, .goto (-45)),
  (80, .iload_n 1), (81, .ireturn)]
def am_kX7_joinPieces : List (Nat × Instr) := [(0, .aload_n 0), (1, .getfield 55), (4, .iload_n 1), (5, .invokestatic 86), (8, .istore_n 3), (9, .aload_n 0), (10, .getfield 55), (13, .iload_n 2),
  (14, .invokestatic 86), (17, .istore 4), (19, .iconst 0), (20, .istore 5), (22, .iload 5), (24, .aload_n 0), (25, .getfield 66), (28, .if_icmp .ge 33),
  (31, .aload_n 0), (32, .getfield 55), (35, .iload 5), (37, .invokestatic 86), (40, .iload 4), (42, .if_icmp .ne 13), (45, .aload_n 0), (46, .getfield 55),
  (49, .iload 5), (51, .iload_n 3), (52, .invokestatic 94), (55, .iinc 5 1), (58, .goto (-36)), (61, .iload_n 3), (62, .iload 4), (64, .if_icmp .eq 7),
  (67, .iconst 1), (68, .goto 4), (71, .iconst 0), (72, .ireturn)]
def am_kX7_firstOfTwo : List (Nat × Instr) := [(0, .iconst 0), (1, .istore_n 1), (2, .iload_n 1), (3, .aload_n 0), (4, .getfield 12), (7, .invokevirtual 148), (10, .if_icmp .ge 35), (13, .aload_n 0),
  (14, .getfield 12), (17, .iload_n 1), (18, .invokevirtual 113), (21, .ifCond .eq 18), (24, .aload_n 0), (25, .iload_n 1), (26, .invokevirtual 142), (29, .aload_n 0),
  (30, .iload_n 1), (31, .invokevirtual 145), (34, .if_icmp .eq 5), (37, .iload_n 1), (38, .ireturn), (39, .iinc 1 1), (42, .goto (-40)), (45, .iconst (-1)),
  (46, .ireturn)]
def am_kX7_firstKink : List (Nat × Instr) := [(0, .iconst 0), (1, .istore_n 1), (2, .iload_n 1), (3, .aload_n 0), (4, .getfield 12), (7, .invokevirtual 148), (10, .if_icmp .ge 19), (13, .aload_n 0),
  (14, .iload_n 1), (15, .invokevirtual 173), (18, .ifCond .eq 5), (21, .iload_n 1), (22, .ireturn), (23, .iinc 1 1), (26, .goto (-24)), (29, .iconst (-1)),
  (30, .ireturn)]
def am_kX7_isKink : List (Nat × Instr) := [(0, .aload_n 0), (1, .iload_n 1), (2, .invokevirtual 176), (5, .istore_n 2), (6, .iload_n 2), (7, .iconst (-1)), (8, .if_icmp .ne 5), (11, .iconst 0),
  (12, .ireturn), (13, .aload_n 0), (14, .getfield 49), (17, .iload_n 1), (18, .invokestatic 86), (21, .aload_n 0), (22, .getfield 52), (25, .iload_n 1),
  (26, .invokestatic 86), (29, .isub), (30, .invokestatic 179), (33, .istore_n 3), (34, .iload_n 3), (35, .iconst 1), (36, .if_icmp .eq 14), (39, .iload_n 3),
  (40, .aload_n 0), (41, .iload_n 2), (42, .invokevirtual 136), (45, .iconst 1), (46, .isub), (47, .if_icmp .ne 7), (50, .iconst 1), (51, .goto 4),
  (54, .iconst 0), (55, .ireturn)]
def am_kX8_init : List (Nat × Instr) := [(0, .aload_n 0), (1, .invokespecial 1), (4, .aload_n 0), (5, .iconst 3), (6, .anewarray 9), (9, .putfield 11), (12, .aload_n 0), (13, .new 9),
  (16, .dup), (17, .invokespecial 15), (20, .putfield 16), (23, .aload_n 0), (24, .new 9), (27, .dup), (28, .invokespecial 15), (31, .putfield 20),
  (34, .aload_n 0), (35, .new 23), (38, .dup), (39, .invokespecial 25), (42, .putfield 26), (45, .aload_n 0), (46, .new 30), (49, .dup),
  (50, .invokespecial 32), (53, .putfield 33), (56, .aload_n 0), (57, .new 37), (60, .dup), (61, .invokespecial 39), (64, .putfield 40), (67, .aload_n 0),
  (68, .new 44), (71, .dup), (72, .invokespecial 46), (75, .putfield 47), (78, .aload_n 0), (79, .new 51), (82, .dup), (83, .invokespecial 53),
  (86, .putfield 54), (89, .aload_n 0), (90, .new 58), (93, .dup), (94, .invokespecial 60), (97, .putfield 61), (100, .aload_n 0), (101, .new 65),
  (104, .dup), (105, .invokespecial 67), (108, .putfield 68), (111, .iconst 0), (112, .istore_n 1), (113, .iload_n 1), (114, .iconst 3), (115, .if_icmp .ge 22),
  (118, .aload_n 0), (119, .getfield 11), (122, .iload_n 1), (123, .new 9), (126, .dup), (127, .invokespecial 15), (130, .aastore), (131, .iinc 1 1),
  (134, .goto (-21)), (137, .return_)]
def am_kX8_feed : List (Nat × Instr) := [(0, .aload_n 0), (1, .getfield 54), (4, .bipush 20), (6, .invokevirtual 72), (9, .ifCond .ne 5), (12, .iconst (-1)), (13, .ireturn), (14, .aload_n 0),
  (15, .getfield 54), (18, .iload_n 1), (19, .invokevirtual 76), (22, .aload_n 0), (23, .getfield 54), (26, .iload_n 2), (27, .invokevirtual 76), (30, .aload_n 0),
  (31, .getfield 54), (34, .iload_n 3), (35, .invokevirtual 76), (38, .aload_n 0), (39, .getfield 54), (42, .iload 4), (44, .invokevirtual 76), (47, .aload_n 0),
  (48, .getfield 54), (51, .iload 5), (53, .invokevirtual 76), (56, .aload_n 0), (57, .getfield 54), (60, .invokevirtual 80), (63, .ireturn)]
def am_kX8_end : List (Nat × Instr) := [(0, .aload_n 0), (1, .getfield 54), (4, .iload_n 1), (5, .invokevirtual 84), (8, .ifCond .eq 7), (11, .iload_n 1), (12, .goto 4), (15, .iconst (-1)),
  (16, .ireturn)]
def am_kX8_told : List (Nat × Instr) := [(0, .iload_n 1), (1, .invokestatic 87), (4, .ifCond .ne 6), (7, .bipush (-2)), (9, .ireturn), (10, .aload_n 0), (11, .getfield 54), (14, .aload_n 0),
  (15, .getfield 16), (18, .invokevirtual 90), (21, .ifCond .ne 6), (24, .bipush (-4)), (26, .ireturn), (27, .aload_n 0), (28, .iload_n 1), (29, .invokevirtual 94),
  (32, .aload_n 0), (33, .iload_n 1), (34, .invokevirtual 97), (37, .ireturn)]
def am_kX8_fault : List (Nat × Instr) := [(0, .iload_n 1), (1, .ifCond .ne 11), (4, .aload_n 0), (5, .getfield 54), (8, .invokevirtual 101), (11, .ireturn), (12, .iload_n 1), (13, .iconst 1),
  (14, .if_icmp .ne 13), (17, .aload_n 0), (18, .getfield 54), (21, .invokevirtual 104), (24, .goto 4), (27, .iconst (-1)), (28, .ireturn)]
def am_kX8_count : List (Nat × Instr) := [(0, .iload_n 1), (1, .tableswitch 60 0 3 #[31, 36, 44, 52]), (32, .aload_n 0), (33, .invokevirtual 107), (36, .ireturn), (37, .aload_n 0), (38, .getfield 68), (41, .invokevirtual 110),
  (44, .ireturn), (45, .aload_n 0), (46, .getfield 54), (49, .invokevirtual 80), (52, .ireturn), (53, .aload_n 0), (54, .getfield 61), (57, .invokevirtual 111),
  (60, .ireturn), (61, .iconst (-1)), (62, .ireturn)]
def am_kX8_look : List (Nat × Instr) := [(0, .aload_n 0), (1, .iload_n 1), (2, .invokevirtual 112), (5, .astore_n 3), (6, .aload_n 3), (7, .ifnonnull 6), (10, .bipush (-2)), (12, .ireturn),
  (13, .iload_n 2), (14, .tableswitch 103 0 8 #[50, 55, 60, 65, 70, 76, 82, 88, 94]), (64, .aload_n 3), (65, .invokevirtual 116), (68, .ireturn), (69, .aload_n 3), (70, .invokevirtual 119), (73, .ireturn),
  (74, .aload_n 3), (75, .invokevirtual 122), (78, .ireturn), (79, .aload_n 3), (80, .invokevirtual 125), (83, .ireturn), (84, .aload_n 3), (85, .iconst 1),
  (86, .invokevirtual 128), (89, .ireturn), (90, .aload_n 3), (91, .iconst 2), (92, .invokevirtual 128), (95, .ireturn), (96, .aload_n 3), (97, .iconst 3),
  (98, .invokevirtual 128), (101, .ireturn), (102, .aload_n 0), (103, .iload_n 1), (104, .invokevirtual 97), (107, .ireturn), (108, .aload_n 0), (109, .aload_n 3),
  (110, .invokevirtual 131), (113, .invokevirtual 135), (116, .ireturn), (117, .bipush (-2)), (119, .ireturn)]
def am_kX8_edge : List (Nat × Instr) := [(0, .aload_n 0), (1, .iload_n 1), (2, .invokevirtual 112), (5, .astore_n 3), (6, .aload_n 3), (7, .ifnull 11), (10, .aload_n 3), (11, .iload_n 2),
  (12, .invokevirtual 138), (15, .ifCond .ne 8), (18, .bipush (-2)), (20, .goto 8), (23, .aload_n 3), (24, .iload_n 2), (25, .invokevirtual 141), (28, .ireturn)]
def am_kX8_name : List (Nat × Instr) := [(0, .aload_n 0), (1, .iload_n 1), (2, .invokevirtual 112), (5, .astore 4), (7, .aload 4), (9, .ifnull 19), (12, .aload 4), (14, .iload_n 2),
  (15, .invokevirtual 138), (18, .ifCond .eq 10), (21, .iload_n 3), (22, .invokestatic 144), (25, .ifCond .ne 6), (28, .bipush (-2)), (30, .ireturn), (31, .iload_n 3),
  (32, .ifCond .ne 12), (35, .aload 4), (37, .iload_n 2), (38, .invokevirtual 147), (41, .goto 9), (44, .aload 4), (46, .iload_n 2), (47, .invokevirtual 150),
  (50, .ireturn)]
def am_kX8_edgeOf : List (Nat × Instr) := [(0, .aload_n 0), (1, .iload_n 1), (2, .invokevirtual 112), (5, .astore 4), (7, .aload 4), (9, .ifnull 19), (12, .aload 4), (14, .iload_n 2),
  (15, .invokevirtual 153), (18, .ifCond .eq 10), (21, .iload_n 3), (22, .invokestatic 144), (25, .ifCond .ne 6), (28, .bipush (-2)), (30, .ireturn), (31, .aload 4),
  (33, .iload_n 2), (34, .iload_n 3), (35, .invokevirtual 156), (38, .ireturn)]
def am_kX8_strand : List (Nat × Instr) := [(0, .aload_n 0), (1, .iload_n 1), (2, .iload_n 2), (3, .iload_n 3), (4, .invokevirtual 160), (7, .astore 4), (9, .aload 4), (11, .ifnonnull 8),
  (14, .bipush (-2)), (16, .goto 13), (19, .aload 4), (21, .iconst 4), (22, .iload_n 2), (23, .imul), (24, .iload_n 3), (25, .iadd),
  (26, .invokevirtual 164), (29, .ireturn)]
def am_kX8_place : List (Nat × Instr) := [(0, .aload_n 0), (1, .iload_n 1), (2, .iload_n 2), (3, .iload_n 3), (4, .invokevirtual 160), (7, .astore 4), (9, .aload 4), (11, .ifnonnull 8),
  (14, .bipush (-2)), (16, .goto 13), (19, .aload 4), (21, .iconst 4), (22, .iload_n 2), (23, .imul), (24, .iload_n 3), (25, .iadd),
  (26, .invokevirtual 167), (29, .ireturn)]
def am_kX8_walk : List (Nat × Instr) := [(0, .aload_n 0), (1, .iload_n 1), (2, .iload_n 2), (3, .invokevirtual 170), (6, .astore 4), (8, .aload 4), (10, .ifnull 7), (13, .iload_n 3),
  (14, .ifCond .ge 8), (17, .bipush (-2)), (19, .goto 10), (22, .aload 4), (24, .iload_n 2), (25, .iload_n 3), (26, .invokevirtual 174), (29, .ireturn)]
def am_kX8_length : List (Nat × Instr) := [(0, .aload_n 0), (1, .iload_n 1), (2, .iload_n 2), (3, .invokevirtual 170), (6, .astore_n 3), (7, .aload_n 3), (8, .ifnonnull 8), (11, .bipush (-2)),
  (13, .goto 8), (16, .aload_n 3), (17, .iload_n 2), (18, .invokevirtual 177), (21, .ireturn)]
def am_kX8_meets : List (Nat × Instr) := [(0, .aload_n 0), (1, .iload_n 1), (2, .iload_n 2), (3, .invokevirtual 170), (6, .astore 4), (8, .aload 4), (10, .ifnull 12), (13, .aload 4),
  (15, .iload_n 3), (16, .invokevirtual 180), (19, .ifCond .ne 6), (22, .bipush (-2)), (24, .ireturn), (25, .aload 4), (27, .iload_n 2), (28, .iload_n 3),
  (29, .invokevirtual 183), (32, .istore 5), (34, .iload_n 2), (35, .iload_n 3), (36, .if_icmp .ne 8), (39, .iload 5), (41, .goto 13), (44, .iload 5),
  (46, .aload 4), (48, .iload_n 3), (49, .iload_n 2), (50, .invokevirtual 183), (53, .iadd), (54, .ireturn)]
def am_kX8_over : List (Nat × Instr) := [(0, .aload_n 0), (1, .iload_n 1), (2, .iload_n 2), (3, .invokevirtual 170), (6, .astore 4), (8, .aload 4), (10, .ifnull 12), (13, .aload 4),
  (15, .iload_n 3), (16, .invokevirtual 180), (19, .ifCond .ne 8), (22, .bipush (-2)), (24, .goto 10), (27, .aload 4), (29, .iload_n 2), (30, .iload_n 3),
  (31, .invokevirtual 183), (34, .ireturn)]
def am_kX8_sign : List (Nat × Instr) := [(0, .aload_n 0), (1, .iload_n 1), (2, .invokevirtual 112), (5, .astore_n 3), (6, .aload_n 3), (7, .ifnull 11), (10, .aload_n 3), (11, .iload_n 2),
  (12, .invokevirtual 138), (15, .ifCond .ne 6), (18, .bipush (-2)), (20, .ireturn), (21, .aload_n 0), (22, .aload_n 3), (23, .invokevirtual 131), (26, .iload_n 2),
  (27, .invokevirtual 186), (30, .istore 4), (32, .iload 4), (34, .ifCond .ne 5), (37, .iconst (-1)), (38, .ireturn), (39, .iload 4), (41, .ifCond .le 7),
  (44, .iconst 1), (45, .goto 4), (48, .iconst 0), (49, .ireturn)]
def am_kX8_twist : List (Nat × Instr) := [(0, .aload_n 0), (1, .iload_n 1), (2, .iload_n 2), (3, .invokevirtual 170), (6, .astore_n 3), (7, .aload_n 3), (8, .ifnonnull 9), (11, .sipush (-1000)),
  (14, .goto 9), (17, .aload_n 3), (18, .iload_n 2), (19, .iload_n 2), (20, .invokevirtual 189), (23, .ireturn)]
def am_kX8_link : List (Nat × Instr) := [(0, .aload_n 0), (1, .iload_n 1), (2, .iload_n 2), (3, .invokevirtual 170), (6, .astore 4), (8, .aload 4), (10, .ifnull 17), (13, .aload 4),
  (15, .iload_n 3), (16, .invokevirtual 180), (19, .ifCond .eq 8), (22, .iload_n 2), (23, .iload_n 3), (24, .if_icmp .ne 7), (27, .sipush (-1000)), (30, .ireturn),
  (31, .aload 4), (33, .iload_n 2), (34, .iload_n 3), (35, .invokevirtual 189), (38, .aload 4), (40, .iload_n 3), (41, .iload_n 2), (42, .invokevirtual 189),
  (45, .iadd), (46, .iconst 2), (47, .idiv), (48, .ireturn)]
def am_kX8_alternates : List (Nat × Instr) := [(0, .aload_n 0), (1, .iload_n 1), (2, .iload_n 2), (3, .invokevirtual 170), (6, .astore_n 3), (7, .aload_n 3), (8, .ifnonnull 6), (11, .bipush (-2)),
  (13, .ireturn), (14, .aload_n 3), (15, .iload_n 2), (16, .invokevirtual 192), (19, .ifCond .eq 7), (22, .iconst 1), (23, .goto 4), (26, .iconst 0),
  (27, .ireturn)]
def am_kX8_passed : List (Nat × Instr) := [(0, .aload_n 0), (1, .iload_n 1), (2, .iload_n 2), (3, .invokevirtual 170), (6, .astore 4), (8, .aload 4), (10, .ifnull 7), (13, .iload_n 3),
  (14, .ifCond .ge 8), (17, .bipush (-2)), (19, .goto 10), (22, .aload 4), (24, .iload_n 2), (25, .iload_n 3), (26, .invokevirtual 195), (29, .ireturn)]
def am_kX8_interlaced : List (Nat × Instr) := [(0, .aload_n 0), (1, .iload_n 1), (2, .invokevirtual 112), (5, .astore 4), (7, .aload 4), (9, .ifnull 21), (12, .aload 4), (14, .iload_n 2),
  (15, .invokevirtual 138), (18, .ifCond .eq 12), (21, .aload 4), (23, .iload_n 3), (24, .invokevirtual 138), (27, .ifCond .ne 6), (30, .bipush (-2)), (32, .ireturn),
  (33, .aload_n 0), (34, .aload 4), (36, .invokevirtual 131), (39, .astore 5), (41, .aload 5), (43, .iload_n 2), (44, .invokevirtual 198), (47, .istore 6),
  (49, .iload_n 2), (50, .iload_n 3), (51, .if_icmp .eq 20), (54, .iload 6), (56, .iconst (-1)), (57, .if_icmp .eq 14), (60, .iload 6), (62, .aload 5),
  (64, .iload_n 3), (65, .invokevirtual 198), (68, .if_icmp .eq 5), (71, .iconst (-1)), (72, .ireturn), (73, .aload 5), (75, .iload_n 2), (76, .iload_n 3),
  (77, .invokevirtual 201), (80, .ifCond .eq 7), (83, .iconst 1), (84, .goto 4), (87, .iconst 0), (88, .ireturn)]
def am_kX8_visits : List (Nat × Instr) := [(0, .aload_n 0), (1, .iload_n 1), (2, .iload_n 2), (3, .invokevirtual 170), (6, .astore_n 3), (7, .aload_n 3), (8, .ifnonnull 8), (11, .bipush (-2)),
  (13, .goto 8), (16, .aload_n 3), (17, .iload_n 2), (18, .invokevirtual 205), (21, .ireturn)]
def am_kX8_winds : List (Nat × Instr) := [(0, .aload_n 0), (1, .iload_n 1), (2, .iload_n 2), (3, .invokevirtual 170), (6, .astore 4), (8, .aload 4), (10, .ifnull 12), (13, .aload_n 0),
  (14, .iload_n 1), (15, .iload_n 3), (16, .invokevirtual 208), (19, .ifCond .ne 7), (22, .sipush (-1000)), (25, .ireturn), (26, .aload 4), (28, .iload_n 2),
  (29, .iload_n 3), (30, .invokevirtual 210), (33, .ireturn)]
def am_kX8_paint : List (Nat × Instr) := [(0, .aload_n 0), (1, .iload_n 1), (2, .iload_n 2), (3, .iload_n 3), (4, .invokevirtual 160), (7, .astore 4), (9, .aload 4), (11, .ifnonnull 8),
  (14, .bipush (-2)), (16, .goto 13), (19, .aload 4), (21, .iconst 4), (22, .iload_n 2), (23, .imul), (24, .iload_n 3), (25, .iadd),
  (26, .invokevirtual 213), (29, .ireturn)]
def am_kX8_painted : List (Nat × Instr) := [(0, .aload_n 0), (1, .iload_n 1), (2, .invokevirtual 112), (5, .astore 4), (7, .aload 4), (9, .ifnull 10), (12, .iload_n 2), (13, .invokestatic 144),
  (16, .ifCond .ne 6), (19, .bipush (-2)), (21, .ireturn), (22, .iload_n 3), (23, .ifCond .lt 24), (26, .iload_n 3), (27, .iload_n 2), (28, .ifCond .ne 11),
  (31, .aload 4), (33, .invokevirtual 116), (36, .goto 8), (39, .aload 4), (41, .invokevirtual 119), (44, .if_icmp .lt 6), (47, .bipush (-2)), (49, .ireturn),
  (50, .aload_n 0), (51, .aload 4), (53, .invokevirtual 131), (56, .astore 5), (58, .iconst 0), (59, .istore 6), (61, .iconst 0), (62, .istore 7),
  (64, .iload 7), (66, .aload 4), (68, .invokevirtual 216), (71, .if_icmp .ge 46), (74, .iload_n 2), (75, .ifCond .ne 13), (78, .aload 4), (80, .iload 7),
  (82, .invokevirtual 219), (85, .goto 10), (88, .aload 4), (90, .iload 7), (92, .invokevirtual 222), (95, .iload_n 3), (96, .if_icmp .ne 15), (99, .iload 6),
  (101, .aload 5), (103, .iload 7), (105, .invokevirtual 225), (108, .iadd), (109, .istore 6), (111, .iinc 7 1), (114, .goto (-50)), (117, .iload 6),
  (119, .ireturn)]
def am_kX8_loops : List (Nat × Instr) := [(0, .aload_n 0), (1, .iload_n 1), (2, .invokevirtual 112), (5, .astore 4), (7, .aload 4), (9, .ifnull 15), (12, .lload_n 2), (13, .aload 4),
  (15, .invokevirtual 125), (18, .lushr), (19, .lconst 0), (20, .lcmp), (21, .ifCond .eq 6), (24, .bipush (-2)), (26, .ireturn), (27, .aload_n 0),
  (28, .getfield 16), (31, .aload 4), (33, .invokevirtual 228), (36, .iconst 0), (37, .istore 5), (39, .iconst 0), (40, .istore 6), (42, .iload 6),
  (44, .aload 4), (46, .invokevirtual 122), (49, .if_icmp .ge 47), (52, .aload 4), (54, .iload 6), (56, .invokevirtual 232), (59, .ifCond .eq 31), (62, .aload_n 0),
  (63, .getfield 16), (66, .iload 6), (68, .lload_n 2), (69, .iload 5), (71, .lushr), (72, .lconst 1), (73, .land), (74, .lconst 1),
  (75, .lcmp), (76, .ifCond .ne 7), (79, .iconst 3), (80, .goto 4), (83, .iconst 2), (84, .invokevirtual 235), (87, .iinc 5 1), (90, .iinc 6 1),
  (93, .goto (-51)), (96, .aload_n 0), (97, .aload_n 0), (98, .getfield 16), (101, .invokevirtual 131), (104, .invokevirtual 239), (107, .ireturn)]
def am_kX8_settings : List (Nat × Instr) := [(0, .aload_n 0), (1, .iload_n 1), (2, .invokevirtual 112), (5, .astore_n 3), (6, .aload_n 3), (7, .ifnull 7), (10, .iload_n 2), (11, .ifCond .ge 6),
  (14, .bipush (-2)), (16, .ireturn), (17, .aload_n 3), (18, .invokevirtual 125), (21, .bipush 12), (23, .if_icmp .le 6), (26, .bipush (-5)), (28, .ireturn),
  (29, .aload_n 0), (30, .getfield 33), (33, .aload_n 3), (34, .invokevirtual 242), (37, .aload_n 0), (38, .getfield 33), (41, .iload_n 2), (42, .invokevirtual 245),
  (45, .ireturn)]
def am_kX8_bracket : List (Nat × Instr) := [(0, .aload_n 0), (1, .iload_n 1), (2, .invokevirtual 112), (5, .astore_n 3), (6, .aload_n 3), (7, .ifnull 11), (10, .aload_n 3), (11, .iload_n 2),
  (12, .invokestatic 248), (15, .ifCond .ne 7), (18, .ldc2_w 252), (21, .lreturn), (22, .aload_n 0), (23, .getfield 33), (26, .aload_n 3), (27, .invokevirtual 242),
  (30, .aload_n 0), (31, .getfield 33), (34, .iload_n 2), (35, .invokevirtual 254), (38, .lreturn)]
def am_kX8_smooth : List (Nat × Instr) := [(0, .aload_n 0), (1, .iload_n 1), (2, .invokevirtual 112), (5, .astore_n 3), (6, .aload_n 3), (7, .ifnull 11), (10, .aload_n 3), (11, .iload_n 2),
  (12, .invokestatic 248), (15, .ifCond .ne 7), (18, .ldc2_w 252), (21, .lreturn), (22, .aload_n 0), (23, .getfield 33), (26, .aload_n 3), (27, .invokevirtual 242),
  (30, .aload_n 0), (31, .aload_n 3), (32, .invokevirtual 131), (35, .invokevirtual 258), (38, .istore 4), (40, .aload_n 0), (41, .getfield 33), (44, .iload_n 2),
  (45, .iconst 3), (46, .iload 4), (48, .imul), (49, .iadd), (50, .invokevirtual 254), (53, .lstore 5), (55, .iload 4), (57, .iconst 1),
  (58, .iand), (59, .ifCond .ne 8), (62, .lload 5), (64, .goto 6), (67, .lload 5), (69, .lneg), (70, .lreturn)]
def am_kX8_trees : List (Nat × Instr) := [(0, .aload_n 0), (1, .iload_n 1), (2, .invokevirtual 112), (5, .astore_n 2), (6, .aload_n 2), (7, .ifnonnull 9), (10, .ldc2_w 261), (13, .goto 11),
  (16, .aload_n 0), (17, .getfield 47), (20, .aload_n 2), (21, .invokevirtual 263), (24, .lreturn)]
def am_kX8_colours : List (Nat × Instr) := [(0, .aload_n 0), (1, .iload_n 1), (2, .invokevirtual 112), (5, .astore_n 3), (6, .aload_n 3), (7, .ifnull 10), (10, .iload_n 2), (11, .invokestatic 267),
  (14, .ifCond .ne 6), (17, .bipush (-2)), (19, .ireturn), (20, .aload_n 0), (21, .getfield 40), (24, .aload_n 0), (25, .aload_n 3), (26, .invokevirtual 131),
  (29, .iload_n 2), (30, .invokevirtual 270), (33, .ireturn)]
def am_kX8_needs : List (Nat × Instr) := [(0, .aload_n 0), (1, .iload_n 1), (2, .invokevirtual 112), (5, .astore_n 2), (6, .aload_n 2), (7, .ifnonnull 6), (10, .bipush (-2)), (12, .ireturn),
  (13, .aload_n 0), (14, .aload_n 2), (15, .invokevirtual 131), (18, .astore_n 3), (19, .aload_n 3), (20, .invokevirtual 135), (23, .iconst 1), (24, .if_icmp .ne 12),
  (27, .aload_n 3), (28, .invokevirtual 239), (31, .iconst 1), (32, .isub), (33, .goto 4), (36, .iconst (-1)), (37, .ireturn)]
def am_kX8_oneLine : List (Nat × Instr) := [(0, .aload_n 0), (1, .iload_n 1), (2, .invokevirtual 112), (5, .astore_n 2), (6, .aload_n 2), (7, .ifnonnull 6), (10, .bipush (-2)), (12, .ireturn),
  (13, .aload_n 0), (14, .getfield 16), (17, .aload_n 2), (18, .invokevirtual 228), (21, .iconst 0), (22, .istore_n 3), (23, .iconst 0), (24, .istore 4),
  (26, .iload 4), (28, .bipush 24), (30, .if_icmp .ge 44), (33, .aload_n 0), (34, .aload_n 0), (35, .getfield 16), (38, .invokevirtual 131), (41, .invokevirtual 274),
  (44, .istore 5), (46, .iload 5), (48, .iconst (-1)), (49, .if_icmp .ne 6), (52, .goto 22), (55, .aload_n 0), (56, .getfield 16), (59, .iload 5),
  (61, .iconst 2), (62, .invokevirtual 235), (65, .iinc 3 1), (68, .iinc 4 1), (71, .goto (-45)), (74, .aload_n 0), (75, .aload_n 0), (76, .getfield 16),
  (79, .invokevirtual 131), (82, .invokevirtual 239), (85, .iconst 1), (86, .if_icmp .le 6), (89, .bipush (-6)), (91, .ireturn), (92, .aload_n 0), (93, .iload_n 1),
  (94, .invokevirtual 94), (97, .iload_n 3), (98, .ireturn)]
def am_kX8_eases : List (Nat × Instr) := [(0, .aload_n 0), (1, .iload_n 1), (2, .invokevirtual 112), (5, .astore_n 2), (6, .aload_n 2), (7, .ifnonnull 6), (10, .bipush (-2)), (12, .ireturn),
  (13, .aload_n 0), (14, .getfield 16), (17, .aload_n 2), (18, .invokevirtual 228), (21, .aload_n 0), (22, .aload_n 0), (23, .getfield 16), (26, .invokevirtual 131),
  (29, .invokevirtual 239), (32, .istore_n 3), (33, .iconst 0), (34, .istore 4), (36, .iconst 0), (37, .istore 5), (39, .iload 5), (41, .bipush 24),
  (43, .if_icmp .ge 69), (46, .aload_n 0), (47, .aload_n 0), (48, .getfield 16), (51, .invokevirtual 131), (54, .invokevirtual 277), (57, .istore 6), (59, .iload 6),
  (61, .iconst (-1)), (62, .if_icmp .ne 6), (65, .goto 47), (68, .aload_n 0), (69, .getfield 16), (72, .iload 6), (74, .iconst 2), (75, .invokevirtual 235),
  (78, .aload_n 0), (79, .aload_n 0), (80, .getfield 16), (83, .invokevirtual 131), (86, .invokevirtual 239), (89, .iload_n 3), (90, .if_icmp .eq 13), (93, .aload_n 0),
  (94, .getfield 16), (97, .iload 6), (99, .iconst 3), (100, .invokevirtual 235), (103, .iinc 4 1), (106, .iinc 5 1), (109, .goto (-70)), (112, .aload_n 0),
  (113, .iload_n 1), (114, .invokevirtual 94), (117, .iload 4), (119, .ireturn)]
def am_kX8_sets : List (Nat × Instr) := [(0, .aload_n 0), (1, .iload_n 1), (2, .invokevirtual 112), (5, .astore 4), (7, .aload 4), (9, .ifnull 19), (12, .aload 4), (14, .iload_n 2),
  (15, .invokevirtual 138), (18, .ifCond .eq 10), (21, .iload_n 3), (22, .invokestatic 280), (25, .ifCond .ne 6), (28, .bipush (-2)), (30, .ireturn), (31, .aload 4),
  (33, .iload_n 2), (34, .invokevirtual 141), (37, .istore 5), (39, .aload_n 0), (40, .getfield 16), (43, .aload 4), (45, .invokevirtual 228), (48, .aload_n 0),
  (49, .getfield 16), (52, .iload_n 2), (53, .iload_n 3), (54, .invokevirtual 235), (57, .aload_n 0), (58, .iload_n 1), (59, .invokevirtual 94), (62, .iload 5),
  (64, .ireturn)]
def am_kX8_all : List (Nat × Instr) := [(0, .aload_n 0), (1, .iload_n 1), (2, .invokevirtual 112), (5, .astore 4), (7, .aload 4), (9, .ifnull 17), (12, .iload_n 2), (13, .invokestatic 280),
  (16, .ifCond .eq 10), (19, .iload_n 3), (20, .invokestatic 280), (23, .ifCond .ne 6), (26, .bipush (-2)), (28, .ireturn), (29, .iload_n 2), (30, .iload_n 3),
  (31, .if_icmp .ne 5), (34, .iconst 0), (35, .ireturn), (36, .aload_n 0), (37, .getfield 16), (40, .aload 4), (42, .invokevirtual 228), (45, .iconst 0),
  (46, .istore 5), (48, .iconst 0), (49, .istore 6), (51, .iload 6), (53, .aload 4), (55, .invokevirtual 122), (58, .if_icmp .ge 33), (61, .aload 4),
  (63, .iload 6), (65, .invokevirtual 141), (68, .iload_n 2), (69, .if_icmp .ne 16), (72, .aload_n 0), (73, .getfield 16), (76, .iload 6), (78, .iload_n 3),
  (79, .invokevirtual 235), (82, .iinc 5 1), (85, .iinc 6 1), (88, .goto (-37)), (91, .aload_n 0), (92, .iload_n 1), (93, .invokevirtual 94), (96, .iload 5),
  (98, .ireturn)]
def am_kX8_under : List (Nat × Instr) := [(0, .aload_n 0), (1, .iload_n 1), (2, .invokevirtual 112), (5, .astore_n 2), (6, .aload_n 2), (7, .ifnonnull 6), (10, .bipush (-2)), (12, .ireturn),
  (13, .aload_n 0), (14, .getfield 16), (17, .aload_n 2), (18, .invokevirtual 228), (21, .iconst 0), (22, .istore_n 3), (23, .iload_n 3), (24, .aload_n 2),
  (25, .invokevirtual 122), (28, .if_icmp .ge 25), (31, .aload_n 0), (32, .getfield 16), (35, .iload_n 3), (36, .aload_n 2), (37, .iload_n 3), (38, .invokevirtual 141),
  (41, .invokestatic 283), (44, .invokevirtual 235), (47, .iinc 3 1), (50, .goto (-27)), (53, .aload_n 0), (54, .iload_n 1), (55, .invokevirtual 94), (58, .aload_n 2),
  (59, .invokevirtual 125), (62, .ireturn)]
def am_kX8_quarter : List (Nat × Instr) := [(0, .aload_n 0), (1, .iload_n 1), (2, .invokevirtual 112), (5, .astore_n 2), (6, .aload_n 2), (7, .ifnonnull 6), (10, .bipush (-2)), (12, .ireturn),
  (13, .aload_n 0), (14, .getfield 16), (17, .aload_n 2), (18, .invokevirtual 286), (21, .aload_n 0), (22, .iload_n 1), (23, .invokevirtual 94), (26, .aload_n 2),
  (27, .invokevirtual 116), (30, .ireturn)]
def am_kX8_mirror : List (Nat × Instr) := [(0, .aload_n 0), (1, .iload_n 1), (2, .invokevirtual 112), (5, .astore_n 2), (6, .aload_n 2), (7, .ifnonnull 6), (10, .bipush (-2)), (12, .ireturn),
  (13, .aload_n 0), (14, .getfield 16), (17, .aload_n 2), (18, .invokevirtual 289), (21, .aload_n 0), (22, .iload_n 1), (23, .invokevirtual 94), (26, .aload_n 0),
  (27, .iload_n 1), (28, .invokevirtual 97), (31, .ireturn)]
def am_kX8_beside : List (Nat × Instr) := [(0, .aload_n 0), (1, .iload_n 1), (2, .invokevirtual 112), (5, .astore 5), (7, .aload_n 0), (8, .iload_n 2), (9, .invokevirtual 112), (12, .astore 6),
  (14, .aload 5), (16, .ifnull 23), (19, .aload 6), (21, .ifnull 18), (24, .iload_n 3), (25, .invokestatic 280), (28, .ifCond .eq 11), (31, .iload 4),
  (33, .invokestatic 87), (36, .ifCond .ne 6), (39, .bipush (-2)), (41, .ireturn), (42, .aload 5), (44, .invokevirtual 119), (47, .aload 6), (49, .invokevirtual 119),
  (52, .iadd), (53, .istore 7), (55, .iload 7), (57, .iconst 4), (58, .if_icmp .le 6), (61, .bipush (-5)), (63, .ireturn), (64, .aload 5),
  (66, .invokevirtual 116), (69, .aload 6), (71, .invokevirtual 116), (74, .if_icmp .eq 6), (77, .bipush (-6)), (79, .ireturn), (80, .aload_n 0), (81, .getfield 16),
  (84, .aload 5), (86, .invokevirtual 116), (89, .iload 7), (91, .invokevirtual 292), (94, .aload_n 0), (95, .getfield 16), (98, .aload 5), (100, .iconst 0),
  (101, .invokevirtual 295), (104, .aload_n 0), (105, .getfield 16), (108, .aload 6), (110, .aload 5), (112, .invokevirtual 119), (115, .invokevirtual 295), (118, .iconst 0),
  (119, .istore 8), (121, .iload 8), (123, .aload_n 0), (124, .getfield 16), (127, .invokevirtual 116), (130, .if_icmp .ge 38), (133, .aload_n 0), (134, .getfield 16),
  (137, .aload_n 0), (138, .getfield 16), (141, .iload 8), (143, .iload 7), (145, .imul), (146, .aload 5), (148, .invokevirtual 119), (151, .iadd),
  (152, .iconst 1), (153, .isub), (154, .iconst 0), (155, .invokevirtual 156), (158, .iload_n 3), (159, .invokevirtual 235), (162, .iinc 8 1), (165, .goto (-44)),
  (168, .aload_n 0), (169, .iload 4), (171, .invokevirtual 94), (174, .iload 7), (176, .ireturn)]
def am_kX8_alike : List (Nat × Instr) := [(0, .aload_n 0), (1, .iload_n 1), (2, .invokevirtual 112), (5, .astore_n 3), (6, .aload_n 0), (7, .iload_n 2), (8, .invokevirtual 112), (11, .astore 4),
  (13, .aload_n 3), (14, .ifnull 8), (17, .aload 4), (19, .ifnonnull 6), (22, .bipush (-2)), (24, .ireturn), (25, .aload_n 0), (26, .getfield 16),
  (29, .aload_n 3), (30, .invokevirtual 228), (33, .iconst 0), (34, .istore 5), (36, .iload 5), (38, .bipush 8), (40, .if_icmp .ge 65), (43, .aload_n 0),
  (44, .getfield 16), (47, .aload 4), (49, .invokevirtual 299), (52, .ifCond .eq 5), (55, .iconst 1), (56, .ireturn), (57, .iload 5), (59, .iconst 3),
  (60, .if_icmp .ne 17), (63, .aload_n 0), (64, .getfield 20), (67, .aload_n 0), (68, .getfield 16), (71, .invokevirtual 289), (74, .goto 14), (77, .aload_n 0),
  (78, .getfield 20), (81, .aload_n 0), (82, .getfield 16), (85, .invokevirtual 286), (88, .aload_n 0), (89, .getfield 16), (92, .aload_n 0), (93, .getfield 20),
  (96, .invokevirtual 228), (99, .iinc 5 1), (102, .goto (-66)), (105, .iconst 0), (106, .ireturn)]
def am_kX8_same : List (Nat × Instr) := [(0, .aload_n 0), (1, .iload_n 1), (2, .invokevirtual 112), (5, .astore_n 3), (6, .aload_n 3), (7, .ifnull 12), (10, .iload_n 2), (11, .ifCond .lt 8),
  (14, .iload_n 2), (15, .iconst 3), (16, .if_icmp .le 6), (19, .bipush (-2)), (21, .ireturn), (22, .iload_n 2), (23, .iconst 2), (24, .if_icmp .ne 28),
  (27, .aload_n 0), (28, .getfield 16), (31, .aload_n 3), (32, .invokevirtual 289), (35, .aload_n 0), (36, .getfield 16), (39, .aload_n 3), (40, .invokevirtual 299),
  (43, .ifCond .eq 7), (46, .iconst 1), (47, .goto 4), (50, .iconst 0), (51, .ireturn), (52, .aload_n 0), (53, .getfield 16), (56, .aload_n 3),
  (57, .invokevirtual 286), (60, .iload_n 2), (61, .ifCond .eq 25), (64, .aload_n 0), (65, .getfield 20), (68, .aload_n 0), (69, .getfield 16), (72, .invokevirtual 286),
  (75, .aload_n 0), (76, .getfield 16), (79, .aload_n 0), (80, .getfield 20), (83, .invokevirtual 228), (86, .iload_n 2), (87, .iconst 3), (88, .if_icmp .ne 14),
  (91, .aload_n 0), (92, .getfield 16), (95, .aload_n 0), (96, .getfield 20), (99, .invokevirtual 289), (102, .aload_n 0), (103, .getfield 16), (106, .aload_n 3),
  (107, .invokevirtual 299), (110, .ifCond .eq 7), (113, .iconst 1), (114, .goto 4), (117, .iconst 0), (118, .ireturn)]
