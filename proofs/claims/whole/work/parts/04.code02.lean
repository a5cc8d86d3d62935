def am_kX8_plain : List (Nat × Instr) := [(0, .iload_n 1), (1, .iconst 1), (2, .if_icmp .lt 22), (5, .iload_n 1), (6, .sipush 9999), (9, .if_icmp .gt 15), (12, .iload_n 2), (13, .iconst 1),
  (14, .if_icmp .lt 10), (17, .iload_n 2), (18, .sipush 9999), (21, .if_icmp .le 6), (24, .bipush (-2)), (26, .ireturn), (27, .iload_n 1), (28, .istore_n 3),
  (29, .iload_n 2), (30, .istore 4), (32, .iconst 0), (33, .istore 5), (35, .iload 5), (37, .sipush 9999), (40, .if_icmp .gt 27), (43, .iload 4),
  (45, .ifCond .eq 22), (48, .iload_n 3), (49, .iload 4), (51, .irem), (52, .istore 6), (54, .iload 4), (56, .istore_n 3), (57, .iload 6),
  (59, .istore 4), (61, .iinc 5 1), (64, .goto (-29)), (67, .iload_n 3), (68, .ireturn)]
def am_kX8_drops : List (Nat × Instr) := [(0, .iload_n 1), (1, .invokestatic 87), (4, .ifCond .ne 6), (7, .bipush (-2)), (9, .ireturn), (10, .aload_n 0), (11, .iload_n 1), (12, .invokevirtual 112),
  (15, .ifnonnull 5), (18, .iconst 0), (19, .ireturn), (20, .aload_n 0), (21, .getfield 16), (24, .invokevirtual 302), (27, .aload_n 0), (28, .iload_n 1),
  (29, .invokevirtual 94), (32, .iconst 1), (33, .ireturn)]
def am_kX8_undo : List (Nat × Instr) := [(0, .aload_n 0), (1, .getfield 68), (4, .invokevirtual 305), (7, .istore_n 1), (8, .iload_n 1), (9, .invokestatic 87), (12, .ifCond .ne 5), (15, .iconst (-1)),
  (16, .ireturn), (17, .aload_n 0), (18, .getfield 68), (21, .aload_n 0), (22, .getfield 11), (25, .iload_n 1), (26, .aaload), (27, .invokevirtual 308),
  (30, .aload_n 0), (31, .getfield 68), (34, .invokevirtual 110), (37, .ireturn)]
def am_kX8_tell : List (Nat × Instr) := [(0, .aload_n 0), (1, .iload_n 1), (2, .invokevirtual 112), (5, .astore_n 3), (6, .aload_n 3), (7, .ifnull 10), (10, .iload_n 2), (11, .invokestatic 144),
  (14, .ifCond .ne 6), (17, .bipush (-2)), (19, .ireturn), (20, .iload_n 2), (21, .ifCond .ne 14), (24, .aload_n 0), (25, .getfield 61), (28, .aload_n 3),
  (29, .invokevirtual 311), (32, .goto 16), (35, .aload_n 0), (36, .getfield 61), (39, .aload_n 0), (40, .aload_n 3), (41, .invokevirtual 131), (44, .aload_n 3),
  (45, .invokevirtual 314), (48, .aload_n 0), (49, .getfield 61), (52, .invokevirtual 111), (55, .ireturn)]
def am_kX8_octet : List (Nat × Instr) := [(0, .aload_n 0), (1, .getfield 61), (4, .iload_n 1), (5, .invokevirtual 318), (8, .ireturn)]
def am_kX8_isSlot : List (Nat × Instr) := [(0, .iload_n 0), (1, .ifCond .lt 12), (4, .iload_n 0), (5, .iconst 3), (6, .if_icmp .ge 7), (9, .iconst 1), (10, .goto 4), (13, .iconst 0),
  (14, .ireturn)]
def am_kX8_isBit : List (Nat × Instr) := [(0, .iload_n 0), (1, .ifCond .eq 8), (4, .iload_n 0), (5, .iconst 1), (6, .if_icmp .ne 7), (9, .iconst 1), (10, .goto 4), (13, .iconst 0),
  (14, .ireturn)]
def am_kX8_isKind : List (Nat × Instr) := [(0, .iload_n 0), (1, .ifCond .lt 12), (4, .iload_n 0), (5, .iconst 3), (6, .if_icmp .gt 7), (9, .iconst 1), (10, .goto 4), (13, .iconst 0),
  (14, .ireturn)]
def am_kX8_isSmallPrime : List (Nat × Instr) := [(0, .iload_n 0), (1, .iconst 2), (2, .if_icmp .eq 31), (5, .iload_n 0), (6, .iconst 3), (7, .if_icmp .eq 26), (10, .iload_n 0), (11, .iconst 5),
  (12, .if_icmp .eq 21), (15, .iload_n 0), (16, .bipush 7), (18, .if_icmp .eq 15), (21, .iload_n 0), (22, .bipush 11), (24, .if_icmp .eq 9), (27, .iload_n 0),
  (28, .bipush 13), (30, .if_icmp .ne 7), (33, .iconst 1), (34, .goto 4), (37, .iconst 0), (38, .ireturn)]
def am_kX8_hasTerm : List (Nat × Instr) := [(0, .iload_n 1), (1, .bipush (-100)), (3, .if_icmp .lt 22), (6, .iload_n 1), (7, .bipush 100), (9, .if_icmp .gt 16), (12, .aload_n 0), (13, .invokevirtual 125),
  (16, .bipush 12), (18, .if_icmp .gt 7), (21, .iconst 1), (22, .goto 4), (25, .iconst 0), (26, .ireturn)]
def am_kX8_turnedOver : List (Nat × Instr) := [(0, .iload_n 0), (1, .ifCond .ne 5), (4, .iconst 1), (5, .ireturn), (6, .iload_n 0), (7, .iconst 1), (8, .if_icmp .ne 7), (11, .iconst 0),
  (12, .goto 4), (15, .iload_n 0), (16, .ireturn)]
def am_kX8_at : List (Nat × Instr) := [(0, .iload_n 1), (1, .ifCond .lt 15), (4, .iload_n 1), (5, .aload_n 0), (6, .arraylength), (7, .if_icmp .ge 9), (10, .aload_n 0), (11, .iload_n 1),
  (12, .iaload), (13, .goto 4), (16, .iconst (-1)), (17, .ireturn)]
def am_kX8_put : List (Nat × Instr) := [(0, .iload_n 1), (1, .ifCond .lt 13), (4, .iload_n 1), (5, .aload_n 0), (6, .arraylength), (7, .if_icmp .ge 7), (10, .aload_n 0), (11, .iload_n 1),
  (12, .iload_n 2), (13, .iastore), (14, .return_)]
def am_kX8_gridIn : List (Nat × Instr) := [(0, .iload_n 1), (1, .invokestatic 87), (4, .ifCond .eq 15), (7, .aload_n 0), (8, .getfield 11), (11, .iload_n 1), (12, .aaload), (13, .invokevirtual 116),
  (16, .ifCond .ne 5), (19, .aconst_null), (20, .areturn), (21, .aload_n 0), (22, .getfield 11), (25, .iload_n 1), (26, .aaload), (27, .areturn)]
def am_kX8_hasCell : List (Nat × Instr) := [(0, .aload_n 0), (1, .iload_n 1), (2, .invokevirtual 112), (5, .astore_n 3), (6, .aload_n 3), (7, .ifnull 15), (10, .aload_n 3), (11, .iload_n 2),
  (12, .invokevirtual 153), (15, .ifCond .eq 7), (18, .iconst 1), (19, .goto 4), (22, .iconst 0), (23, .ireturn)]
def am_kX8_traceOf : List (Nat × Instr) := [(0, .aload_n 0), (1, .getfield 26), (4, .aload_n 1), (5, .invokevirtual 321), (8, .aload_n 0), (9, .getfield 26), (12, .areturn)]
def am_kX8_traceOfCorner : List (Nat × Instr) := [(0, .aload_n 0), (1, .iload_n 1), (2, .iload_n 2), (3, .invokevirtual 208), (6, .ifCond .eq 12), (9, .iload_n 3), (10, .ifCond .lt 8), (13, .iload_n 3),
  (14, .iconst 3), (15, .if_icmp .le 5), (18, .aconst_null), (19, .areturn), (20, .aload_n 0), (21, .getfield 26), (24, .aload_n 0), (25, .getfield 11),
  (28, .iload_n 1), (29, .aaload), (30, .invokevirtual 321), (33, .aload_n 0), (34, .getfield 26), (37, .areturn)]
def am_kX8_traceOfStrand : List (Nat × Instr) := [(0, .aload_n 0), (1, .iload_n 1), (2, .invokevirtual 112), (5, .astore_n 3), (6, .aload_n 3), (7, .ifnonnull 5), (10, .aconst_null), (11, .areturn),
  (12, .aload_n 0), (13, .getfield 26), (16, .aload_n 3), (17, .invokevirtual 321), (20, .aload_n 0), (21, .getfield 26), (24, .iload_n 2), (25, .invokevirtual 180),
  (28, .ifCond .eq 10), (31, .aload_n 0), (32, .getfield 26), (35, .goto 4), (38, .aconst_null), (39, .areturn)]
def am_kX8_strandsOf : List (Nat × Instr) := [(0, .aload_n 0), (1, .iload_n 1), (2, .invokevirtual 112), (5, .astore_n 2), (6, .aload_n 2), (7, .ifnonnull 5), (10, .iconst 0), (11, .ireturn),
  (12, .aload_n 0), (13, .getfield 26), (16, .aload_n 2), (17, .invokevirtual 321), (20, .aload_n 0), (21, .getfield 26), (24, .invokevirtual 239), (27, .ireturn)]
def am_kX8_slotsInUse : List (Nat × Instr) := [(0, .iconst 0), (1, .istore_n 1), (2, .iconst 0), (3, .istore_n 2), (4, .iload_n 2), (5, .iconst 3), (6, .if_icmp .ge 23), (9, .aload_n 0),
  (10, .iload_n 2), (11, .invokevirtual 112), (14, .ifnull 9), (17, .iload_n 1), (18, .iconst 1), (19, .iload_n 2), (20, .ishl), (21, .ior),
  (22, .istore_n 1), (23, .iinc 2 1), (26, .goto (-22)), (29, .iload_n 1), (30, .ireturn)]
def am_kX8_become : List (Nat × Instr) := [(0, .iload_n 1), (1, .invokestatic 87), (4, .ifCond .eq 19), (7, .aload_n 0), (8, .getfield 11), (11, .iload_n 1), (12, .aaload), (13, .aload_n 0),
  (14, .getfield 16), (17, .invokevirtual 299), (20, .ifCond .eq 4), (23, .return_), (24, .aload_n 0), (25, .getfield 68), (28, .iload_n 1), (29, .aload_n 0),
  (30, .getfield 11), (33, .iload_n 1), (34, .aaload), (35, .invokevirtual 324), (38, .aload_n 0), (39, .getfield 11), (42, .iload_n 1), (43, .aaload),
  (44, .aload_n 0), (45, .getfield 16), (48, .invokevirtual 228), (51, .return_)]
def am_kX9_in : List (Nat × Instr) := [(0, .lload_n 0), (1, .lload_n 2), (2, .lcmp), (3, .ifCond .lt 14), (6, .lload_n 0), (7, .lload 4), (9, .lcmp), (10, .ifCond .gt 7),
  (13, .iconst 1), (14, .goto 4), (17, .iconst 0), (18, .ireturn)]
def am_kX9_init : List (Nat × Instr) := [(0, .aload_n 0), (1, .invokespecial 1), (4, .aload_n 0), (5, .bipush 78), (7, .newarray .int), (9, .putfield 7), (12, .aload_n 0), (13, .bipush 78),
  (15, .newarray .int), (17, .putfield 13), (20, .aload_n 0), (21, .sipush 780), (24, .newarray .int), (26, .putfield 16), (29, .aload_n 0), (30, .bipush 24),
  (32, .newarray .int), (34, .putfield 19), (37, .aload_n 0), (38, .bipush 24), (40, .newarray .int), (42, .putfield 22), (45, .aload_n 0), (46, .bipush 24),
  (48, .newarray .int), (50, .putfield 25), (53, .aload_n 0), (54, .bipush 32), (56, .newarray .int), (58, .putfield 28), (61, .aload_n 0), (62, .bipush 64),
  (64, .newarray .int), (66, .putfield 31), (69, .aload_n 0), (70, .bipush 64), (72, .newarray .int), (74, .putfield 34), (77, .aload_n 0), (78, .bipush 64),
  (80, .newarray .boolean), (82, .putfield 37), (85, .aload_n 0), (86, .bipush 64), (88, .newarray .int), (90, .putfield 41), (93, .aload_n 0), (94, .bipush 65),
  (96, .newarray .int), (98, .putfield 44), (101, .aload_n 0), (102, .bipush 24), (104, .newarray .int), (106, .putfield 47), (109, .aload_n 0), (110, .bipush 24),
  (112, .newarray .int), (114, .putfield 50), (117, .aload_n 0), (118, .bipush 24), (120, .newarray .int), (122, .putfield 53), (125, .aload_n 0), (126, .bipush 24),
  (128, .newarray .int), (130, .putfield 56), (133, .aload_n 0), (134, .bipush 24), (136, .newarray .int), (138, .putfield 59), (141, .aload_n 0), (142, .bipush 24),
  (144, .newarray .int), (146, .putfield 62), (149, .aload_n 0), (150, .bipush 24), (152, .newarray .int), (154, .putfield 65), (157, .aload_n 0), (158, .bipush 24),
  (160, .newarray .int), (162, .putfield 68), (165, .aload_n 0), (166, .bipush 48), (168, .newarray .int), (170, .putfield 71), (173, .aload_n 0), (174, .bipush 48),
  (176, .newarray .boolean), (178, .putfield 74), (181, .aload_n 0), (182, .bipush 65), (184, .newarray .int), (186, .putfield 77), (189, .aload_n 0), (190, .sipush 400),
  (193, .newarray .int), (195, .putfield 80), (198, .aload_n 0), (199, .iconst (-1)), (200, .putfield 83), (203, .aload_n 0), (204, .bipush 24), (206, .newarray .int),
  (208, .putfield 87), (211, .aload_n 0), (212, .sipush 1625), (215, .newarray .int), (217, .putfield 90), (220, .aload_n 0), (221, .sipush 241), (224, .newarray .long),
  (226, .putfield 93), (229, .aload_n 0), (230, .sipush 241), (233, .newarray .long), (235, .putfield 97), (238, .aload_n 0), (239, .sipush 241), (242, .newarray .long),
  (244, .putfield 100), (247, .aload_n 0), (248, .bipush 16), (250, .newarray .int), (252, .putfield 103), (255, .aload_n 0), (256, .sipush 256), (259, .newarray .long),
  (261, .putfield 106), (264, .aload_n 0), (265, .bipush 48), (267, .newarray .int), (269, .putfield 109), (272, .aload_n 0), (273, .sipush 1152), (276, .newarray .int),
  (278, .putfield 112), (281, .aload_n 0), (282, .bipush 32), (284, .newarray .int), (286, .putfield 115), (289, .aload_n 0), (290, .bipush 32), (292, .newarray .int),
  (294, .putfield 118), (297, .aload_n 0), (298, .sipush 1000), (301, .newarray .int), (303, .putfield 121), (306, .return_)]
def am_kX9_isSlot : List (Nat × Instr) := [(0, .iload_n 0), (1, .i2l), (2, .lconst 0), (3, .ldc2_w 124), (6, .invokestatic 126), (9, .ireturn)]
def am_kX9_isGrid : List (Nat × Instr) := [(0, .iload_n 1), (1, .invokestatic 130), (4, .ifCond .eq 19), (7, .aload_n 0), (8, .getfield 7), (11, .bipush 26), (13, .iload_n 1), (14, .imul),
  (15, .iaload), (16, .ifCond .le 7), (19, .iconst 1), (20, .goto 4), (23, .iconst 0), (24, .ireturn)]
def am_kX9_remembers : List (Nat × Instr) := [(0, .iconst 0), (1, .istore_n 1), (2, .iload_n 1), (3, .bipush 78), (5, .if_icmp .ge 21), (8, .aload_n 0), (9, .getfield 13), (12, .iload_n 1),
  (13, .aload_n 0), (14, .getfield 7), (17, .iload_n 1), (18, .iaload), (19, .iastore), (20, .iinc 1 1), (23, .goto (-21)), (26, .return_)]
def am_kX9_keeps : List (Nat × Instr) := [(0, .aload_n 0), (1, .getfield 134), (4, .bipush 10), (6, .if_icmp .ne 43), (9, .iconst 0), (10, .istore_n 2), (11, .iload_n 2), (12, .sipush 702),
  (15, .if_icmp .ge 24), (18, .aload_n 0), (19, .getfield 16), (22, .iload_n 2), (23, .aload_n 0), (24, .getfield 16), (27, .iload_n 2), (28, .bipush 78),
  (30, .iadd), (31, .iaload), (32, .iastore), (33, .iinc 2 1), (36, .goto (-25)), (39, .aload_n 0), (40, .dup), (41, .getfield 134),
  (44, .iconst 1), (45, .isub), (46, .putfield 134), (49, .iconst 0), (50, .istore_n 2), (51, .iload_n 2), (52, .bipush 78), (54, .if_icmp .ge 29),
  (57, .aload_n 0), (58, .getfield 16), (61, .bipush 78), (63, .aload_n 0), (64, .getfield 134), (67, .imul), (68, .iload_n 2), (69, .iadd),
  (70, .aload_n 0), (71, .getfield 13), (74, .iload_n 2), (75, .iaload), (76, .iastore), (77, .iinc 2 1), (80, .goto (-29)), (83, .aload_n 0),
  (84, .dup), (85, .getfield 134), (88, .iconst 1), (89, .iadd), (90, .putfield 134), (93, .iload_n 1), (94, .ireturn)]
def am_kX9_undo : List (Nat × Instr) := [(0, .aload_n 0), (1, .getfield 134), (4, .ifCond .ne 5), (7, .iconst (-1)), (8, .ireturn), (9, .aload_n 0), (10, .dup), (11, .getfield 134),
  (14, .iconst 1), (15, .isub), (16, .putfield 134), (19, .iconst 0), (20, .istore_n 1), (21, .iload_n 1), (22, .bipush 78), (24, .if_icmp .ge 29),
  (27, .aload_n 0), (28, .getfield 7), (31, .iload_n 1), (32, .aload_n 0), (33, .getfield 16), (36, .bipush 78), (38, .aload_n 0), (39, .getfield 134),
  (42, .imul), (43, .iload_n 1), (44, .iadd), (45, .iaload), (46, .iastore), (47, .iinc 1 1), (50, .goto (-29)), (53, .aload_n 0),
  (54, .getfield 134), (57, .ireturn)]
def am_kX9_drops : List (Nat × Instr) := [(0, .iload_n 1), (1, .invokestatic 130), (4, .ifCond .ne 6), (7, .bipush (-2)), (9, .ireturn), (10, .aload_n 0), (11, .iload_n 1), (12, .invokevirtual 137),
  (15, .ifCond .ne 5), (18, .iconst 0), (19, .ireturn), (20, .aload_n 0), (21, .invokevirtual 140), (24, .iconst 0), (25, .istore_n 2), (26, .iload_n 2),
  (27, .bipush 26), (29, .if_icmp .ge 21), (32, .aload_n 0), (33, .getfield 7), (36, .bipush 26), (38, .iload_n 1), (39, .imul), (40, .iload_n 2),
  (41, .iadd), (42, .iconst 0), (43, .iastore), (44, .iinc 2 1), (47, .goto (-21)), (50, .aload_n 0), (51, .iconst 1), (52, .invokevirtual 143),
  (55, .ireturn)]
def am_kX9_shapes : List (Nat × Instr) := [(0, .aload_n 0), (1, .iload_n 1), (2, .putfield 147), (5, .aload_n 0), (6, .iload_n 2), (7, .putfield 150), (10, .aload_n 0), (11, .iconst 0),
  (12, .putfield 153), (15, .iconst 0), (16, .istore_n 3), (17, .iload_n 3), (18, .iload_n 1), (19, .iload_n 2), (20, .imul), (21, .if_icmp .ge 122),
  (24, .iconst 0), (25, .istore 4), (27, .iload 4), (29, .iconst 2), (30, .if_icmp .ge 107), (33, .iload 4), (35, .ifCond .ne 20), (38, .iload_n 3),
  (39, .iload_n 2), (40, .irem), (41, .iload_n 2), (42, .iconst 1), (43, .isub), (44, .if_icmp .ge 7), (47, .iconst 1), (48, .goto 21),
  (51, .iconst 0), (52, .goto 17), (55, .iload_n 3), (56, .iload_n 2), (57, .idiv), (58, .iload_n 1), (59, .iconst 1), (60, .isub),
  (61, .if_icmp .ge 7), (64, .iconst 1), (65, .goto 4), (68, .iconst 0), (69, .istore 5), (71, .aload_n 0), (72, .getfield 28), (75, .iconst 2),
  (76, .iload_n 3), (77, .imul), (78, .iload 4), (80, .iadd), (81, .iload 5), (83, .ifCond .eq 10), (86, .aload_n 0), (87, .getfield 153),
  (90, .goto 4), (93, .iconst (-1)), (94, .iastore), (95, .iload 5), (97, .ifCond .eq 34), (100, .aload_n 0), (101, .getfield 22), (104, .aload_n 0),
  (105, .getfield 153), (108, .iload_n 3), (109, .iastore), (110, .aload_n 0), (111, .getfield 25), (114, .aload_n 0), (115, .getfield 153), (118, .iload 4),
  (120, .iastore), (121, .aload_n 0), (122, .dup), (123, .getfield 153), (126, .iconst 1), (127, .iadd), (128, .putfield 153), (131, .iinc 4 1),
  (134, .goto (-107)), (137, .iinc 3 1), (140, .goto (-123)), (143, .return_)]
def am_kX9_lays : List (Nat × Instr) := [(0, .aload_n 0), (1, .aload_n 0), (2, .getfield 7), (5, .bipush 26), (7, .iload_n 1), (8, .imul), (9, .iaload), (10, .aload_n 0),
  (11, .getfield 7), (14, .bipush 26), (16, .iload_n 1), (17, .imul), (18, .iconst 1), (19, .iadd), (20, .iaload), (21, .invokevirtual 156),
  (24, .iconst 0), (25, .istore_n 2), (26, .iload_n 2), (27, .aload_n 0), (28, .getfield 153), (31, .if_icmp .ge 28), (34, .aload_n 0), (35, .getfield 19),
  (38, .iload_n 2), (39, .aload_n 0), (40, .getfield 7), (43, .bipush 26), (45, .iload_n 1), (46, .imul), (47, .iconst 2), (48, .iadd),
  (49, .iload_n 2), (50, .iadd), (51, .iaload), (52, .iastore), (53, .iinc 2 1), (56, .goto (-30)), (59, .return_)]
def am_kX9_puts : List (Nat × Instr) := [(0, .aload_n 0), (1, .invokevirtual 140), (4, .aload_n 0), (5, .getfield 7), (8, .bipush 26), (10, .iload_n 1), (11, .imul), (12, .iaload),
  (13, .aload_n 0), (14, .getfield 147), (17, .if_icmp .ne 25), (20, .aload_n 0), (21, .getfield 7), (24, .bipush 26), (26, .iload_n 1), (27, .imul),
  (28, .iconst 1), (29, .iadd), (30, .iaload), (31, .aload_n 0), (32, .getfield 150), (35, .if_icmp .ne 7), (38, .iconst 1), (39, .goto 4),
  (42, .iconst 0), (43, .istore_n 3), (44, .aload_n 0), (45, .getfield 7), (48, .bipush 26), (50, .iload_n 1), (51, .imul), (52, .aload_n 0),
  (53, .getfield 147), (56, .iastore), (57, .aload_n 0), (58, .getfield 7), (61, .bipush 26), (63, .iload_n 1), (64, .imul), (65, .iconst 1),
  (66, .iadd), (67, .aload_n 0), (68, .getfield 150), (71, .iastore), (72, .iconst 0), (73, .istore 4), (75, .iload 4), (77, .bipush 24),
  (79, .if_icmp .ge 76), (82, .iload 4), (84, .aload_n 0), (85, .getfield 153), (88, .if_icmp .ge 13), (91, .aload_n 0), (92, .getfield 19), (95, .iload 4),
  (97, .iaload), (98, .goto 4), (101, .iconst 0), (102, .istore 5), (104, .iload_n 3), (105, .ifCond .eq 26), (108, .aload_n 0), (109, .getfield 7),
  (112, .bipush 26), (114, .iload_n 1), (115, .imul), (116, .iconst 2), (117, .iadd), (118, .iload 4), (120, .iadd), (121, .iaload),
  (122, .iload 5), (124, .if_icmp .ne 7), (127, .iconst 1), (128, .goto 4), (131, .iconst 0), (132, .istore_n 3), (133, .aload_n 0), (134, .getfield 7),
  (137, .bipush 26), (139, .iload_n 1), (140, .imul), (141, .iconst 2), (142, .iadd), (143, .iload 4), (145, .iadd), (146, .iload 5),
  (148, .iastore), (149, .iinc 4 1), (152, .goto (-77)), (155, .iload_n 3), (156, .ifCond .eq 7), (159, .iload_n 2), (160, .goto 8), (163, .aload_n 0),
  (164, .iload_n 2), (165, .invokevirtual 143), (168, .ireturn)]
def am_kX9_cells : List (Nat × Instr) := [(0, .aload_n 0), (1, .getfield 147), (4, .aload_n 0), (5, .getfield 150), (8, .imul), (9, .ireturn)]
def am_kX9_isCross : List (Nat × Instr) := [(0, .iload_n 0), (1, .ifCond .eq 8), (4, .iload_n 0), (5, .iconst 1), (6, .if_icmp .ne 7), (9, .iconst 1), (10, .goto 4), (13, .iconst 0),
  (14, .ireturn)]
def am_kX9_many : List (Nat × Instr) := [(0, .iconst 0), (1, .istore_n 2), (2, .iconst 0), (3, .istore_n 3), (4, .iload_n 3), (5, .aload_n 0), (6, .getfield 153), (9, .if_icmp .ge 27),
  (12, .iload_n 2), (13, .aload_n 0), (14, .getfield 19), (17, .iload_n 3), (18, .iaload), (19, .iload_n 1), (20, .if_icmp .ne 7), (23, .iconst 1),
  (24, .goto 4), (27, .iconst 0), (28, .iadd), (29, .istore_n 2), (30, .iinc 3 1), (33, .goto (-29)), (36, .iload_n 2), (37, .ireturn)]
def am_kX9_crosses : List (Nat × Instr) := [(0, .aload_n 0), (1, .iconst 0), (2, .invokevirtual 160), (5, .aload_n 0), (6, .iconst 1), (7, .invokevirtual 160), (10, .iadd), (11, .ireturn)]
def am_kX9_behind : List (Nat × Instr) := [(0, .aload_n 0), (1, .getfield 22), (4, .iload_n 1), (5, .iaload), (6, .aload_n 0), (7, .getfield 25), (10, .iload_n 1), (11, .iaload),
  (12, .iconst 1), (13, .if_icmp .ne 10), (16, .aload_n 0), (17, .getfield 150), (20, .goto 4), (23, .iconst 1), (24, .iadd), (25, .ireturn)]
def am_kX9_edgeOfSide : List (Nat × Instr) := [(0, .iload_n 2), (1, .iconst 1), (2, .if_icmp .ne 12), (5, .aload_n 0), (6, .getfield 28), (9, .iconst 2), (10, .iload_n 1), (11, .imul),
  (12, .iaload), (13, .ireturn), (14, .iload_n 2), (15, .iconst 2), (16, .if_icmp .ne 14), (19, .aload_n 0), (20, .getfield 28), (23, .iconst 2),
  (24, .iload_n 1), (25, .imul), (26, .iconst 1), (27, .iadd), (28, .iaload), (29, .ireturn), (30, .iload_n 2), (31, .iconst 3),
  (32, .if_icmp .ne 27), (35, .iload_n 1), (36, .aload_n 0), (37, .getfield 150), (40, .irem), (41, .ifCond .le 16), (44, .aload_n 0), (45, .getfield 28),
  (48, .iconst 2), (49, .iload_n 1), (50, .iconst 1), (51, .isub), (52, .imul), (53, .iaload), (54, .goto 4), (57, .iconst (-1)),
  (58, .ireturn), (59, .iload_n 1), (60, .aload_n 0), (61, .getfield 150), (64, .if_icmp .lt 21), (67, .aload_n 0), (68, .getfield 28), (71, .iconst 2),
  (72, .iload_n 1), (73, .aload_n 0), (74, .getfield 150), (77, .isub), (78, .imul), (79, .iconst 1), (80, .iadd), (81, .iaload),
  (82, .goto 4), (85, .iconst (-1)), (86, .ireturn)]
def am_kX9_goesOn : List (Nat × Instr) := [(0, .iload_n 1), (1, .iconst 4), (2, .idiv), (3, .istore_n 3), (4, .iload_n 1), (5, .iconst 4), (6, .irem), (7, .istore 4),
  (9, .iload_n 2), (10, .ifCond .eq 12), (13, .iload 4), (15, .iconst 1), (16, .iadd), (17, .iconst 4), (18, .irem), (19, .goto 5),
  (22, .iload 4), (24, .istore 5), (26, .aload_n 0), (27, .aload_n 0), (28, .iload_n 3), (29, .iload 5), (31, .invokevirtual 163), (34, .putfield 167),
  (37, .aload_n 0), (38, .getfield 167), (41, .iconst (-1)), (42, .if_icmp .ne 7), (45, .iconst 2), (46, .goto 12), (49, .aload_n 0), (50, .getfield 19),
  (53, .aload_n 0), (54, .getfield 167), (57, .iaload), (58, .istore 6), (60, .iload 6), (62, .iconst 2), (63, .if_icmp .ne 32), (66, .aload_n 0),
  (67, .iconst 4), (68, .iload_n 3), (69, .imul), (70, .iload_n 2), (71, .ifCond .eq 8), (74, .iload 5), (76, .goto 9), (79, .iload 5),
  (81, .iconst 3), (82, .iadd), (83, .iconst 4), (84, .irem), (85, .iadd), (86, .putfield 170), (89, .aload_n 0), (90, .iload_n 2),
  (91, .putfield 173), (94, .return_), (95, .aload_n 0), (96, .getfield 22), (99, .aload_n 0), (100, .getfield 167), (103, .iaload), (104, .iload_n 3),
  (105, .if_icmp .ne 14), (108, .aload_n 0), (109, .aload_n 0), (110, .getfield 167), (113, .invokevirtual 177), (116, .goto 12), (119, .aload_n 0), (120, .getfield 22),
  (123, .aload_n 0), (124, .getfield 167), (127, .iaload), (128, .istore 7), (130, .iload 5), (132, .iconst 2), (133, .iadd), (134, .iconst 4),
  (135, .irem), (136, .istore 8), (138, .iload 6), (140, .iconst 3), (141, .if_icmp .ne 7), (144, .iload_n 2), (145, .goto 12), (148, .iload_n 2),
  (149, .ifCond .ne 7), (152, .iconst 1), (153, .goto 4), (156, .iconst 0), (157, .istore 9), (159, .aload_n 0), (160, .iconst 4), (161, .iload 7),
  (163, .imul), (164, .iload 9), (166, .ifCond .eq 8), (169, .iload 8), (171, .goto 9), (174, .iload 8), (176, .iconst 3), (177, .iadd),
  (178, .iconst 4), (179, .irem), (180, .iadd), (181, .putfield 170), (184, .aload_n 0), (185, .iload 9), (187, .putfield 173), (190, .return_)]
def am_kX9_goes : List (Nat × Instr) := [(0, .iconst 4), (1, .aload_n 0), (2, .invokevirtual 180), (5, .imul), (6, .istore_n 1), (7, .iconst 0), (8, .istore_n 2), (9, .iload_n 2),
  (10, .iload_n 1), (11, .if_icmp .ge 16), (14, .aload_n 0), (15, .getfield 31), (18, .iload_n 2), (19, .iconst (-1)), (20, .iastore), (21, .iinc 2 1),
  (24, .goto (-15)), (27, .aload_n 0), (28, .iconst 0), (29, .putfield 184), (32, .iconst 0), (33, .istore_n 2), (34, .iconst 0), (35, .istore_n 3),
  (36, .iload_n 3), (37, .iload_n 1), (38, .if_icmp .ge 131), (41, .aload_n 0), (42, .getfield 31), (45, .iload_n 3), (46, .iaload), (47, .iconst (-1)),
  (48, .if_icmp .eq 6), (51, .goto 112), (54, .aload_n 0), (55, .getfield 44), (58, .aload_n 0), (59, .getfield 184), (62, .iload_n 2), (63, .iastore),
  (64, .iload_n 3), (65, .istore 4), (67, .iconst 1), (68, .istore 5), (70, .aload_n 0), (71, .getfield 31), (74, .iload 4), (76, .iaload),
  (77, .iconst (-1)), (78, .if_icmp .ne 75), (81, .aload_n 0), (82, .getfield 31), (85, .iload 4), (87, .aload_n 0), (88, .getfield 184), (91, .iastore),
  (92, .aload_n 0), (93, .getfield 34), (96, .iload 4), (98, .iload_n 2), (99, .aload_n 0), (100, .getfield 44), (103, .aload_n 0), (104, .getfield 184),
  (107, .iaload), (108, .isub), (109, .iastore), (110, .aload_n 0), (111, .getfield 37), (114, .iload 4), (116, .iload 5), (118, .bastore),
  (119, .aload_n 0), (120, .getfield 41), (123, .iload_n 2), (124, .iload 4), (126, .iastore), (127, .iinc 2 1), (130, .aload_n 0), (131, .iload 4),
  (133, .iload 5), (135, .invokevirtual 187), (138, .aload_n 0), (139, .getfield 170), (142, .istore 4), (144, .aload_n 0), (145, .getfield 173), (148, .istore 5),
  (150, .goto (-80)), (153, .aload_n 0), (154, .dup), (155, .getfield 184), (158, .iconst 1), (159, .iadd), (160, .putfield 184), (163, .iinc 3 1),
  (166, .goto (-130)), (169, .aload_n 0), (170, .getfield 44), (173, .aload_n 0), (174, .getfield 184), (177, .iload_n 2), (178, .iastore), (179, .return_)]
def am_kX9_lengthOf : List (Nat × Instr) := [(0, .aload_n 0), (1, .getfield 44), (4, .iload_n 1), (5, .iconst 1), (6, .iadd), (7, .iaload), (8, .aload_n 0), (9, .getfield 44),
  (12, .iload_n 1), (13, .iaload), (14, .isub), (15, .ireturn)]
def am_kX9_laysPassings : List (Nat × Instr) := [(0, .aload_n 0), (1, .invokevirtual 191), (4, .iconst 0), (5, .istore_n 1), (6, .iconst 0), (7, .istore_n 2), (8, .iload_n 2), (9, .aload_n 0),
  (10, .getfield 184), (13, .if_icmp .ge 101), (16, .aload_n 0), (17, .getfield 77), (20, .iload_n 2), (21, .iload_n 1), (22, .iastore), (23, .aload_n 0),
  (24, .getfield 44), (27, .iload_n 2), (28, .iaload), (29, .istore_n 3), (30, .iload_n 3), (31, .aload_n 0), (32, .getfield 44), (35, .iload_n 2),
  (36, .iconst 1), (37, .iadd), (38, .iaload), (39, .if_icmp .ge 69), (42, .aload_n 0), (43, .getfield 41), (46, .iload_n 3), (47, .iaload),
  (48, .istore 4), (50, .aload_n 0), (51, .iload 4), (53, .aload_n 0), (54, .getfield 37), (57, .iload 4), (59, .baload), (60, .invokevirtual 187),
  (63, .aload_n 0), (64, .getfield 167), (67, .iconst (-1)), (68, .if_icmp .eq 34), (71, .aload_n 0), (72, .getfield 19), (75, .aload_n 0), (76, .getfield 167),
  (79, .iaload), (80, .invokestatic 194), (83, .ifCond .ne 6), (86, .goto 16), (89, .aload_n 0), (90, .iload 4), (92, .aload_n 0), (93, .getfield 167),
  (96, .iload_n 2), (97, .iload_n 1), (98, .invokevirtual 197), (101, .istore_n 1), (102, .iinc 3 1), (105, .goto (-75)), (108, .iinc 2 1), (111, .goto (-103)),
  (114, .aload_n 0), (115, .getfield 77), (118, .aload_n 0), (119, .getfield 184), (122, .iload_n 1), (123, .iastore), (124, .return_)]
def am_kX9_passes : List (Nat × Instr) := [(0, .iload_n 1), (1, .iconst 4), (2, .idiv), (3, .aload_n 0), (4, .getfield 22), (7, .iload_n 2), (8, .iaload), (9, .if_icmp .ne 7),
  (12, .iconst 1), (13, .goto 4), (16, .iconst 0), (17, .istore 5), (19, .iload_n 1), (20, .iconst 4), (21, .irem), (22, .istore 6),
  (24, .aload_n 0), (25, .getfield 25), (28, .iload_n 2), (29, .iaload), (30, .ifCond .ne 64), (33, .iload 5), (35, .ifCond .eq 16), (38, .iload 6),
  (40, .ifCond .ne 7), (43, .iconst 1), (44, .goto 18), (47, .iconst 0), (48, .goto 14), (51, .iload 6), (53, .iconst 2), (54, .if_icmp .ne 7),
  (57, .iconst 1), (58, .goto 4), (61, .iconst 0), (62, .istore 7), (64, .iload 5), (66, .ifCond .eq 7), (69, .iconst 1), (70, .goto 4),
  (73, .iconst (-1)), (74, .istore 8), (76, .iload 7), (78, .ifCond .eq 8), (81, .iload 8), (83, .goto 6), (86, .iload 8), (88, .ineg),
  (89, .istore 9), (91, .goto 61), (94, .iload 5), (96, .ifCond .eq 17), (99, .iload 6), (101, .iconst 2), (102, .if_icmp .ne 7), (105, .iconst 1),
  (106, .goto 17), (109, .iconst 0), (110, .goto 13), (113, .iload 6), (115, .ifCond .ne 7), (118, .iconst 1), (119, .goto 4), (122, .iconst 0),
  (123, .istore 7), (125, .iload 5), (127, .ifCond .eq 7), (130, .iconst 1), (131, .goto 4), (134, .iconst (-1)), (135, .istore 9), (137, .iload 7),
  (139, .ifCond .eq 8), (142, .iload 9), (144, .goto 6), (147, .iload 9), (149, .ineg), (150, .istore 8), (152, .aload_n 0), (153, .getfield 25),
  (156, .iload_n 2), (157, .iaload), (158, .ifCond .ne 8), (161, .iload 7), (163, .goto 13), (166, .iload 7), (168, .ifCond .ne 7), (171, .iconst 1),
  (172, .goto 4), (175, .iconst 0), (176, .aload_n 0), (177, .getfield 19), (180, .iload_n 2), (181, .iaload), (182, .ifCond .ne 7), (185, .iconst 1),
  (186, .goto 4), (189, .iconst 0), (190, .if_icmp .ne 7), (193, .iconst 1), (194, .goto 4), (197, .iconst 0), (198, .istore 10), (200, .iload 10),
  (202, .ifCond .eq 37), (205, .aload_n 0), (206, .getfield 47), (209, .iload_n 2), (210, .iload_n 3), (211, .iastore), (212, .aload_n 0), (213, .getfield 53),
  (216, .iload_n 2), (217, .iload 4), (219, .iastore), (220, .aload_n 0), (221, .getfield 59), (224, .iload_n 2), (225, .iload 8), (227, .iastore),
  (228, .aload_n 0), (229, .getfield 62), (232, .iload_n 2), (233, .iload 9), (235, .iastore), (236, .goto 34), (239, .aload_n 0), (240, .getfield 50),
  (243, .iload_n 2), (244, .iload_n 3), (245, .iastore), (246, .aload_n 0), (247, .getfield 56), (250, .iload_n 2), (251, .iload 4), (253, .iastore),
  (254, .aload_n 0), (255, .getfield 65), (258, .iload_n 2), (259, .iload 8), (261, .iastore), (262, .aload_n 0), (263, .getfield 68), (266, .iload_n 2),
  (267, .iload 9), (269, .iastore), (270, .aload_n 0), (271, .getfield 71), (274, .iload 4), (276, .iload_n 2), (277, .iastore), (278, .aload_n 0),
  (279, .getfield 74), (282, .iload 4), (284, .iload 10), (286, .bastore), (287, .iload 4), (289, .iconst 1), (290, .iadd), (291, .ireturn)]
def am_kX9_signOf : List (Nat × Instr) := [(0, .aload_n 0), (1, .getfield 65), (4, .iload_n 1), (5, .iaload), (6, .aload_n 0), (7, .getfield 62), (10, .iload_n 1), (11, .iaload),
  (12, .ineg), (13, .imul), (14, .aload_n 0), (15, .getfield 68), (18, .iload_n 1), (19, .iaload), (20, .aload_n 0), (21, .getfield 59),
  (24, .iload_n 1), (25, .iaload), (26, .imul), (27, .iadd), (28, .ifCond .ge 7), (31, .iconst 1), (32, .goto 4), (35, .iconst (-1)),
  (36, .ireturn)]
def am_kX9_piecesOf : List (Nat × Instr) := [(0, .bipush 64), (2, .newarray .int), (4, .astore_n 1), (5, .iconst 0), (6, .istore_n 2), (7, .iload_n 2), (8, .aload_n 0), (9, .getfield 184),
  (12, .if_icmp .ge 13), (15, .aload_n 1), (16, .iload_n 2), (17, .iload_n 2), (18, .iastore), (19, .iinc 2 1), (22, .goto (-15)), (25, .aload_n 0),
  (26, .getfield 184), (29, .istore_n 2), (30, .iconst 0), (31, .istore_n 3), (32, .iload_n 3), (33, .aload_n 0), (34, .getfield 153), (37, .if_icmp .ge 106),
  (40, .aload_n 0), (41, .getfield 19), (44, .iload_n 3), (45, .iaload), (46, .invokestatic 194), (49, .ifCond .eq 88), (52, .aload_n 1), (53, .aload_n 0),
  (54, .getfield 47), (57, .iload_n 3), (58, .iaload), (59, .iaload), (60, .aload_n 1), (61, .aload_n 0), (62, .getfield 50), (65, .iload_n 3),
  (66, .iaload), (67, .iaload), (68, .if_icmp .ne 6), (71, .goto 66), (74, .aload_n 1), (75, .aload_n 0), (76, .getfield 47), (79, .iload_n 3),
  (80, .iaload), (81, .iaload), (82, .istore 4), (84, .aload_n 1), (85, .aload_n 0), (86, .getfield 50), (89, .iload_n 3), (90, .iaload),
  (91, .iaload), (92, .istore 5), (94, .iconst 0), (95, .istore 6), (97, .iload 6), (99, .aload_n 0), (100, .getfield 184), (103, .if_icmp .ge 31),
  (106, .aload_n 1), (107, .iload 6), (109, .aload_n 1), (110, .iload 6), (112, .iaload), (113, .iload 4), (115, .if_icmp .ne 8), (118, .iload 5),
  (120, .goto 7), (123, .aload_n 1), (124, .iload 6), (126, .iaload), (127, .iastore), (128, .iinc 6 1), (131, .goto (-34)), (134, .iinc 2 (-1)),
  (137, .iinc 3 1), (140, .goto (-108)), (143, .iload_n 2), (144, .ireturn)]
def am_kX9_isLaid : List (Nat × Instr) := [(0, .aload_n 0), (1, .iload_n 1), (2, .invokevirtual 137), (5, .ifCond .ne 5), (8, .iconst 0), (9, .ireturn), (10, .aload_n 0), (11, .iload_n 1),
  (12, .invokevirtual 201), (15, .aload_n 0), (16, .invokevirtual 205), (19, .iconst 1), (20, .ireturn)]
def am_kX9_isStrand : List (Nat × Instr) := [(0, .aload_n 0), (1, .iload_n 1), (2, .invokevirtual 208), (5, .ifCond .eq 23), (8, .iload_n 2), (9, .i2l), (10, .lconst 0), (11, .aload_n 0),
  (12, .getfield 184), (15, .iconst 1), (16, .isub), (17, .i2l), (18, .invokestatic 126), (21, .ifCond .eq 7), (24, .iconst 1), (25, .goto 4),
  (28, .iconst 0), (29, .ireturn)]
def am_kX9_isCorner : List (Nat × Instr) := [(0, .aload_n 0), (1, .iload_n 1), (2, .invokevirtual 208), (5, .ifCond .eq 35), (8, .iload_n 2), (9, .i2l), (10, .lconst 0), (11, .aload_n 0),
  (12, .invokevirtual 180), (15, .iconst 1), (16, .isub), (17, .i2l), (18, .invokestatic 126), (21, .ifCond .eq 19), (24, .iload_n 3), (25, .i2l),
  (26, .lconst 0), (27, .ldc2_w 211), (30, .invokestatic 126), (33, .ifCond .eq 7), (36, .iconst 1), (37, .goto 4), (40, .iconst 0), (41, .ireturn)]
def am_kX9_isEdge : List (Nat × Instr) := [(0, .aload_n 0), (1, .iload_n 1), (2, .invokevirtual 208), (5, .ifCond .eq 23), (8, .iload_n 2), (9, .i2l), (10, .lconst 0), (11, .aload_n 0),
  (12, .getfield 153), (15, .iconst 1), (16, .isub), (17, .i2l), (18, .invokestatic 126), (21, .ifCond .eq 7), (24, .iconst 1), (25, .goto 4),
  (28, .iconst 0), (29, .ireturn)]
def am_kX9_feed : List (Nat × Instr) := [(0, .aload_n 0), (1, .getfield 213), (4, .sipush 380), (7, .if_icmp .le 5), (10, .iconst (-1)), (11, .ireturn), (12, .iconst 5), (13, .newarray .int),
  (15, .dup), (16, .iconst 0), (17, .iload_n 1), (18, .iastore), (19, .dup), (20, .iconst 1), (21, .iload_n 2), (22, .iastore),
  (23, .dup), (24, .iconst 2), (25, .iload_n 3), (26, .iastore), (27, .dup), (28, .iconst 3), (29, .iload 4), (31, .iastore),
  (32, .dup), (33, .iconst 4), (34, .iload 5), (36, .iastore), (37, .astore 6), (39, .iconst 0), (40, .istore 7), (42, .iload 7),
  (44, .bipush 20), (46, .if_icmp .ge 43), (49, .aload_n 0), (50, .getfield 80), (53, .aload_n 0), (54, .getfield 213), (57, .iload 7), (59, .iadd),
  (60, .aload 6), (62, .iload 7), (64, .iconst 4), (65, .idiv), (66, .iaload), (67, .bipush 24), (69, .bipush 8), (71, .iload 7),
  (73, .iconst 4), (74, .irem), (75, .imul), (76, .isub), (77, .iushr), (78, .sipush 255), (81, .iand), (82, .iastore),
  (83, .iinc 7 1), (86, .goto (-44)), (89, .aload_n 0), (90, .dup), (91, .getfield 213), (94, .bipush 20), (96, .iadd), (97, .putfield 213),
  (100, .aload_n 0), (101, .getfield 213), (104, .ireturn)]
def am_kX9_end : List (Nat × Instr) := [(0, .iload_n 1), (1, .i2l), (2, .lconst 0), (3, .aload_n 0), (4, .getfield 213), (7, .i2l), (8, .invokestatic 126), (11, .ifCond .ne 5),
  (14, .iconst (-1)), (15, .ireturn), (16, .aload_n 0), (17, .iload_n 1), (18, .putfield 213), (21, .iload_n 1), (22, .ireturn)]
def am_kX9_isAt : List (Nat × Instr) := [(0, .aload_n 0), (1, .getfield 216), (4, .aload_n 0), (5, .getfield 213), (8, .if_icmp .ge 27), (11, .aload_n 0), (12, .getfield 80), (15, .aload_n 0),
  (16, .getfield 216), (19, .iaload), (20, .i2l), (21, .iload_n 1), (22, .i2l), (23, .iload_n 2), (24, .i2l), (25, .invokestatic 126),
  (28, .ifCond .eq 7), (31, .iconst 1), (32, .goto 4), (35, .iconst 0), (36, .ireturn)]
def am_kX9_next : List (Nat × Instr) := [(0, .aload_n 0), (1, .bipush 32), (3, .bipush 32), (5, .invokevirtual 219), (8, .ifCond .ne 14), (11, .aload_n 0), (12, .bipush 10), (14, .bipush 10),
  (16, .invokevirtual 219), (19, .ifCond .eq 16), (22, .aload_n 0), (23, .dup), (24, .getfield 216), (27, .iconst 1), (28, .iadd), (29, .putfield 216),
  (32, .goto (-32)), (35, .aload_n 0), (36, .aload_n 0), (37, .getfield 216), (40, .putfield 223), (43, .aload_n 0), (44, .iconst 0), (45, .putfield 226),
  (48, .aload_n 0), (49, .getfield 216), (52, .aload_n 0), (53, .getfield 213), (56, .if_icmp .ne 11), (59, .aload_n 0), (60, .iconst 0), (61, .putfield 229),
  (64, .goto 128), (67, .aload_n 0), (68, .bipush 97), (70, .bipush 122), (72, .invokevirtual 219), (75, .ifCond .eq 32), (78, .aload_n 0), (79, .iconst 1),
  (80, .putfield 229), (83, .aload_n 0), (84, .bipush 97), (86, .bipush 122), (88, .invokevirtual 219), (91, .ifCond .eq 101), (94, .aload_n 0), (95, .dup),
  (96, .getfield 216), (99, .iconst 1), (100, .iadd), (101, .putfield 216), (104, .goto (-21)), (107, .aload_n 0), (108, .bipush 48), (110, .bipush 57),
  (112, .invokevirtual 219), (115, .ifCond .eq 62), (118, .aload_n 0), (119, .iconst 2), (120, .putfield 229), (123, .aload_n 0), (124, .bipush 48), (126, .bipush 57),
  (128, .invokevirtual 219), (131, .ifCond .eq 61), (134, .aload_n 0), (135, .sipush 1000), (138, .bipush 10), (140, .aload_n 0), (141, .getfield 226), (144, .imul),
  (145, .aload_n 0), (146, .getfield 80), (149, .aload_n 0), (150, .getfield 216), (153, .iaload), (154, .iadd), (155, .bipush 48), (157, .isub),
  (158, .invokestatic 232), (161, .putfield 226), (164, .aload_n 0), (165, .dup), (166, .getfield 216), (169, .iconst 1), (170, .iadd), (171, .putfield 216),
  (174, .goto (-51)), (177, .aload_n 0), (178, .iconst 3), (179, .putfield 229), (182, .aload_n 0), (183, .dup), (184, .getfield 216), (187, .iconst 1),
  (188, .iadd), (189, .putfield 216), (192, .return_)]
def am_kX9_faults : List (Nat × Instr) := [(0, .aload_n 0), (1, .getfield 237), (4, .ifCond .ne 21), (7, .aload_n 0), (8, .iconst 1), (9, .putfield 237), (12, .aload_n 0), (13, .iload_n 1),
  (14, .putfield 240), (17, .aload_n 0), (18, .aload_n 0), (19, .getfield 223), (22, .putfield 83), (25, .return_)]
def am_kX9_passes_ : List (Nat × Instr) := [(0, .aload_n 0), (1, .getfield 237), (4, .ifCond .ne 7), (7, .aload_n 0), (8, .invokevirtual 243), (11, .return_)]
def am_kX9_isWord : List (Nat × Instr) := [(0, .aload_n 0), (1, .getfield 237), (4, .ifCond .ne 31), (7, .aload_n 0), (8, .getfield 229), (11, .iconst 1), (12, .if_icmp .ne 23), (15, .aload_n 0),
  (16, .getfield 216), (19, .aload_n 0), (20, .getfield 223), (23, .isub), (24, .aload_n 1), (25, .invokevirtual 246), (28, .if_icmp .ne 7), (31, .iconst 1),
  (32, .goto 4), (35, .iconst 0), (36, .istore_n 2), (37, .iconst 0), (38, .istore_n 3), (39, .iload_n 3), (40, .aload_n 1), (41, .invokevirtual 246),
  (44, .if_icmp .ge 38), (47, .iload_n 2), (48, .ifCond .eq 34), (51, .aload_n 0), (52, .getfield 80), (55, .aload_n 0), (56, .getfield 223), (59, .iload_n 3),
  (60, .iadd), (61, .iaload), (62, .aload_n 1), (63, .iload_n 3), (64, .invokevirtual 251), (67, .if_icmp .ne 7), (70, .iconst 1), (71, .goto 4),
  (74, .iconst 0), (75, .istore_n 2), (76, .iinc 3 1), (79, .goto (-40)), (82, .iload_n 2), (83, .ireturn)]
def am_kX9_must : List (Nat × Instr) := [(0, .iload_n 1), (1, .ifCond .ne 8), (4, .aload_n 0), (5, .iconst 1), (6, .invokevirtual 255), (9, .aload_n 0), (10, .invokevirtual 258), (13, .return_)]
def am_kX9_isSign : List (Nat × Instr) := [(0, .aload_n 0), (1, .getfield 237), (4, .ifCond .ne 28), (7, .aload_n 0), (8, .getfield 229), (11, .iconst 3), (12, .if_icmp .ne 20), (15, .aload_n 0),
  (16, .getfield 80), (19, .aload_n 0), (20, .getfield 223), (23, .iaload), (24, .iload_n 1), (25, .if_icmp .ne 7), (28, .iconst 1), (29, .goto 4),
  (32, .iconst 0), (33, .ireturn)]
def am_kX9_number : List (Nat × Instr) := [(0, .aload_n 0), (1, .getfield 237), (4, .ifCond .eq 5), (7, .iload_n 1), (8, .ireturn), (9, .aload_n 0), (10, .getfield 226), (13, .istore_n 3),
  (14, .aload_n 0), (15, .getfield 229), (18, .iconst 2), (19, .if_icmp .eq 11), (22, .aload_n 0), (23, .iconst 1), (24, .invokevirtual 255), (27, .goto 20),
  (30, .iload_n 3), (31, .i2l), (32, .iload_n 1), (33, .i2l), (34, .iload_n 2), (35, .i2l), (36, .invokestatic 126), (39, .ifCond .ne 8),
  (42, .aload_n 0), (43, .iconst 2), (44, .invokevirtual 255), (47, .aload_n 0), (48, .invokevirtual 258), (51, .aload_n 0), (52, .getfield 237), (55, .ifCond .eq 7),
  (58, .iload_n 1), (59, .goto 4), (62, .iload_n 3), (63, .ireturn)]
def am_kX9_readsEdge : List (Nat × Instr) := [(0, .aload_n 0), (1, .iconst 0), (2, .aload_n 0), (3, .invokevirtual 180), (6, .iconst 1), (7, .isub), (8, .invokevirtual 260), (11, .istore_n 2),
  (12, .aload_n 0), (13, .ldc_w 263), (16, .invokevirtual 265), (19, .istore_n 3), (20, .aload_n 0), (21, .getfield 237), (24, .ifCond .ne 22), (27, .iload_n 3),
  (28, .ifCond .ne 18), (31, .aload_n 0), (32, .ldc_w 269), (35, .invokevirtual 265), (38, .ifCond .ne 8), (41, .aload_n 0), (42, .iconst 1), (43, .invokevirtual 255),
  (46, .aload_n 0), (47, .getfield 237), (50, .ifCond .eq 7), (53, .iconst (-1)), (54, .goto 21), (57, .aload_n 0), (58, .getfield 28), (61, .iconst 2),
  (62, .iload_n 2), (63, .imul), (64, .iload_n 3), (65, .ifCond .eq 7), (68, .iconst 1), (69, .goto 4), (72, .iconst 0), (73, .iadd),
  (74, .iaload), (75, .istore 4), (77, .aload_n 0), (78, .getfield 237), (81, .ifCond .ne 17), (84, .iload 4), (86, .iconst (-1)), (87, .if_icmp .ne 11),
  (90, .aload_n 0), (91, .iconst 3), (92, .invokevirtual 255), (95, .goto 25), (98, .aload_n 0), (99, .getfield 237), (102, .ifCond .ne 18), (105, .aload_n 0),
  (106, .getfield 19), (109, .iload 4), (111, .iaload), (112, .ifCond .eq 8), (115, .aload_n 0), (116, .iconst 4), (117, .invokevirtual 255), (120, .aload_n 0),
  (121, .invokevirtual 258), (124, .aload_n 0), (125, .getfield 237), (128, .ifCond .ne 11), (131, .aload_n 0), (132, .getfield 19), (135, .iload 4), (137, .iload_n 1),
  (138, .iastore), (139, .return_)]
def am_kX9_readsLine : List (Nat × Instr) := [(0, .aload_n 0), (1, .ldc_w 271), (4, .invokevirtual 265), (7, .ifCond .eq 7), (10, .iconst 1), (11, .goto 18), (14, .aload_n 0), (15, .ldc_w 273),
  (18, .invokevirtual 265), (21, .ifCond .eq 7), (24, .iconst 2), (25, .goto 4), (28, .iconst 3), (29, .istore_n 1), (30, .aload_n 0), (31, .iload_n 1),
  (32, .iconst 3), (33, .if_icmp .ne 13), (36, .aload_n 0), (37, .ldc_w 275), (40, .invokevirtual 265), (43, .ifCond .eq 7), (46, .iconst 1), (47, .goto 4),
  (50, .iconst 0), (51, .invokevirtual 277), (54, .aload_n 0), (55, .iload_n 1), (56, .invokevirtual 281), (59, .aload_n 0), (60, .bipush 44), (62, .invokevirtual 284),
  (65, .ifCond .eq 15), (68, .aload_n 0), (69, .invokevirtual 243), (72, .aload_n 0), (73, .iload_n 1), (74, .invokevirtual 281), (77, .goto (-18)), (80, .aload_n 0),
  (81, .aload_n 0), (82, .bipush 59), (84, .invokevirtual 284), (87, .invokevirtual 277), (90, .return_)]
def am_kX9_told : List (Nat × Instr) := [(0, .iload_n 1), (1, .invokestatic 130), (4, .ifCond .ne 6), (7, .bipush (-2)), (9, .ireturn), (10, .aload_n 0), (11, .iconst 0), (12, .putfield 240),
  (15, .aload_n 0), (16, .iconst (-1)), (17, .putfield 83), (20, .aload_n 0), (21, .iconst 0), (22, .putfield 237), (25, .aload_n 0), (26, .iconst 0),
  (27, .putfield 216), (30, .aload_n 0), (31, .invokevirtual 243), (34, .aload_n 0), (35, .aload_n 0), (36, .ldc_w 287), (39, .invokevirtual 265), (42, .invokevirtual 277),
  (45, .aload_n 0), (46, .iconst 1), (47, .iconst 4), (48, .invokevirtual 260), (51, .istore_n 2), (52, .aload_n 0), (53, .iconst 1), (54, .iconst 4),
  (55, .invokevirtual 260), (58, .istore_n 3), (59, .aload_n 0), (60, .aload_n 0), (61, .bipush 59), (63, .invokevirtual 284), (66, .invokevirtual 277), (69, .aload_n 0),
  (70, .iload_n 2), (71, .iload_n 3), (72, .invokevirtual 156), (75, .iconst 0), (76, .istore 4), (78, .iload 4), (80, .bipush 24), (82, .if_icmp .ge 17),
  (85, .aload_n 0), (86, .getfield 19), (89, .iload 4), (91, .iconst 0), (92, .iastore), (93, .iinc 4 1), (96, .goto (-18)), (99, .aload_n 0),
  (100, .getfield 237), (103, .ifCond .ne 17), (106, .aload_n 0), (107, .getfield 229), (110, .ifCond .eq 10), (113, .aload_n 0), (114, .invokevirtual 289), (117, .goto (-18)),
  (120, .aload_n 0), (121, .iconst 0), (122, .putfield 213), (125, .aload_n 0), (126, .getfield 237), (129, .ifCond .eq 6), (132, .bipush (-4)), (134, .ireturn),
  (135, .aload_n 0), (136, .invokevirtual 191), (139, .aload_n 0), (140, .iload_n 1), (141, .aload_n 0), (142, .getfield 184), (145, .invokevirtual 292), (148, .ireturn)]
def am_kX9_fault : List (Nat × Instr) := [(0, .iload_n 1), (1, .ifCond .ne 10), (4, .aload_n 0), (5, .getfield 240), (8, .goto 16), (11, .iload_n 1), (12, .iconst 1), (13, .if_icmp .ne 10),
  (16, .aload_n 0), (17, .getfield 83), (20, .goto 4), (23, .iconst (-1)), (24, .ireturn)]
def am_kX9_count : List (Nat × Instr) := [(0, .iconst 0), (1, .istore_n 2), (2, .iconst 0), (3, .istore_n 3), (4, .iload_n 3), (5, .iconst 3), (6, .if_icmp .ge 27), (9, .iload_n 2),
  (10, .aload_n 0), (11, .iload_n 3), (12, .invokevirtual 137), (15, .ifCond .eq 9), (18, .iconst 1), (19, .iload_n 3), (20, .ishl), (21, .goto 4),
  (24, .iconst 0), (25, .ior), (26, .istore_n 2), (27, .iinc 3 1), (30, .goto (-26)), (33, .iload_n 1), (34, .tableswitch 47 0 3 #[30, 32, 37, 42]), (64, .iload_n 2),
  (65, .ireturn), (66, .aload_n 0), (67, .getfield 134), (70, .ireturn), (71, .aload_n 0), (72, .getfield 213), (75, .ireturn), (76, .aload_n 0),
  (77, .getfield 295), (80, .ireturn), (81, .iconst (-1)), (82, .ireturn)]
def am_kX9_look : List (Nat × Instr) := [(0, .iload_n 2), (1, .i2l), (2, .lconst 0), (3, .ldc2_w 298), (6, .invokestatic 126), (9, .ifCond .eq 11), (12, .aload_n 0), (13, .iload_n 1),
  (14, .invokevirtual 208), (17, .ifCond .ne 6), (20, .bipush (-2)), (22, .ireturn), (23, .iload_n 2), (24, .tableswitch 91 0 7 #[48, 53, 58, 63, 68, 74, 80, 86]), (72, .aload_n 0), (73, .getfield 147),
  (76, .ireturn), (77, .aload_n 0), (78, .getfield 150), (81, .ireturn), (82, .aload_n 0), (83, .getfield 153), (86, .ireturn), (87, .aload_n 0),
  (88, .invokevirtual 300), (91, .ireturn), (92, .aload_n 0), (93, .iconst 1), (94, .invokevirtual 160), (97, .ireturn), (98, .aload_n 0), (99, .iconst 2),
  (100, .invokevirtual 160), (103, .ireturn), (104, .aload_n 0), (105, .iconst 3), (106, .invokevirtual 160), (109, .ireturn), (110, .aload_n 0), (111, .getfield 184),
  (114, .ireturn), (115, .aload_n 0), (116, .invokevirtual 303), (119, .ireturn)]
def am_kX9_edge : List (Nat × Instr) := [(0, .aload_n 0), (1, .iload_n 1), (2, .iload_n 2), (3, .invokevirtual 306), (6, .ifCond .eq 12), (9, .aload_n 0), (10, .getfield 19), (13, .iload_n 2),
  (14, .iaload), (15, .goto 5), (18, .bipush (-2)), (20, .ireturn)]
def am_kX9_name : List (Nat × Instr) := [(0, .aload_n 0), (1, .iload_n 1), (2, .iload_n 2), (3, .invokevirtual 306), (6, .ifCond .eq 35), (9, .iload_n 3), (10, .i2l), (11, .lconst 0),
  (12, .lconst 1), (13, .invokestatic 126), (16, .ifCond .eq 25), (19, .iload_n 3), (20, .ifCond .ne 12), (23, .aload_n 0), (24, .getfield 22), (27, .iload_n 2),
  (28, .iaload), (29, .goto 14), (32, .aload_n 0), (33, .getfield 25), (36, .iload_n 2), (37, .iaload), (38, .goto 5), (41, .bipush (-2)),
  (43, .ireturn)]
def am_kX9_edgeOf : List (Nat × Instr) := [(0, .aload_n 0), (1, .iload_n 1), (2, .iload_n 2), (3, .iconst 0), (4, .invokevirtual 309), (7, .ifCond .eq 26), (10, .iload_n 3), (11, .i2l),
  (12, .lconst 0), (13, .lconst 1), (14, .invokestatic 126), (17, .ifCond .eq 16), (20, .aload_n 0), (21, .getfield 28), (24, .iconst 2), (25, .iload_n 2),
  (26, .imul), (27, .iload_n 3), (28, .iadd), (29, .iaload), (30, .goto 5), (33, .bipush (-2)), (35, .ireturn)]
def am_kX9_strand : List (Nat × Instr) := [(0, .aload_n 0), (1, .iload_n 1), (2, .iload_n 2), (3, .iload_n 3), (4, .invokevirtual 309), (7, .ifCond .eq 16), (10, .aload_n 0), (11, .getfield 31),
  (14, .iconst 4), (15, .iload_n 2), (16, .imul), (17, .iload_n 3), (18, .iadd), (19, .iaload), (20, .goto 5), (23, .bipush (-2)),
  (25, .ireturn)]
def am_kX9_place : List (Nat × Instr) := [(0, .aload_n 0), (1, .iload_n 1), (2, .iload_n 2), (3, .iload_n 3), (4, .invokevirtual 309), (7, .ifCond .eq 16), (10, .aload_n 0), (11, .getfield 34),
  (14, .iconst 4), (15, .iload_n 2), (16, .imul), (17, .iload_n 3), (18, .iadd), (19, .iaload), (20, .goto 5), (23, .bipush (-2)),
  (25, .ireturn)]
def am_kX9_walk : List (Nat × Instr) := [(0, .aload_n 0), (1, .iload_n 1), (2, .iload_n 2), (3, .invokevirtual 313), (6, .ifCond .eq 7), (9, .iload_n 3), (10, .ifCond .ge 6), (13, .bipush (-2)),
  (15, .ireturn), (16, .iload_n 3), (17, .aload_n 0), (18, .iload_n 2), (19, .invokevirtual 316), (22, .if_icmp .ge 19), (25, .aload_n 0), (26, .getfield 41),
  (29, .aload_n 0), (30, .getfield 44), (33, .iload_n 2), (34, .iaload), (35, .iload_n 3), (36, .iadd), (37, .iaload), (38, .goto 4),
  (41, .iconst (-1)), (42, .ireturn)]
def am_kX9_length : List (Nat × Instr) := [(0, .aload_n 0), (1, .iload_n 1), (2, .iload_n 2), (3, .invokevirtual 313), (6, .ifCond .eq 11), (9, .aload_n 0), (10, .iload_n 2), (11, .invokevirtual 316),
  (14, .goto 5), (17, .bipush (-2)), (19, .ireturn)]
def am_kX9_areStrands : List (Nat × Instr) := [(0, .aload_n 0), (1, .iload_n 1), (2, .iload_n 2), (3, .invokevirtual 313), (6, .ifCond .eq 23), (9, .iload_n 3), (10, .i2l), (11, .lconst 0),
  (12, .aload_n 0), (13, .getfield 184), (16, .iconst 1), (17, .isub), (18, .i2l), (19, .invokestatic 126), (22, .ifCond .eq 7), (25, .iconst 1),
  (26, .goto 4), (29, .iconst 0), (30, .ireturn)]
def am_kX9_isOf : List (Nat × Instr) := [(0, .aload_n 0), (1, .getfield 19), (4, .iload_n 1), (5, .iaload), (6, .invokestatic 194), (9, .ifCond .eq 47), (12, .aload_n 0), (13, .getfield 47),
  (16, .iload_n 1), (17, .iaload), (18, .iload_n 2), (19, .if_icmp .ne 13), (22, .aload_n 0), (23, .getfield 50), (26, .iload_n 1), (27, .iaload),
  (28, .iload_n 3), (29, .if_icmp .eq 23), (32, .aload_n 0), (33, .getfield 47), (36, .iload_n 1), (37, .iaload), (38, .iload_n 3), (39, .if_icmp .ne 17),
  (42, .aload_n 0), (43, .getfield 50), (46, .iload_n 1), (47, .iaload), (48, .iload_n 2), (49, .if_icmp .ne 7), (52, .iconst 1), (53, .goto 4),
  (56, .iconst 0), (57, .ireturn)]
def am_kX9_meets : List (Nat × Instr) := [(0, .aload_n 0), (1, .iload_n 1), (2, .iload_n 2), (3, .iload_n 3), (4, .invokevirtual 319), (7, .ifCond .ne 6), (10, .bipush (-2)), (12, .ireturn),
  (13, .iconst 0), (14, .istore 4), (16, .iconst 0), (17, .istore 5), (19, .iload 5), (21, .aload_n 0), (22, .getfield 153), (25, .if_icmp .ge 30),
  (28, .iload 4), (30, .aload_n 0), (31, .iload 5), (33, .iload_n 2), (34, .iload_n 3), (35, .invokevirtual 322), (38, .ifCond .eq 7), (41, .iconst 1),
  (42, .goto 4), (45, .iconst 0), (46, .iadd), (47, .istore 4), (49, .iinc 5 1), (52, .goto (-33)), (55, .iload 4), (57, .ireturn)]
def am_kX9_over : List (Nat × Instr) := [(0, .aload_n 0), (1, .iload_n 1), (2, .iload_n 2), (3, .iload_n 3), (4, .invokevirtual 319), (7, .ifCond .ne 6), (10, .bipush (-2)), (12, .ireturn),
  (13, .iconst 0), (14, .istore 4), (16, .iconst 0), (17, .istore 5), (19, .iload 5), (21, .aload_n 0), (22, .getfield 153), (25, .if_icmp .ge 41),
  (28, .iload 4), (30, .aload_n 0), (31, .iload 5), (33, .iload_n 2), (34, .iload_n 3), (35, .invokevirtual 322), (38, .ifCond .eq 18), (41, .aload_n 0),
  (42, .getfield 47), (45, .iload 5), (47, .iaload), (48, .iload_n 2), (49, .if_icmp .ne 7), (52, .iconst 1), (53, .goto 4), (56, .iconst 0),
  (57, .iadd), (58, .istore 4), (60, .iinc 5 1), (63, .goto (-44)), (66, .iload 4), (68, .ireturn)]
