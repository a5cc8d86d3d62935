def am_kX0_init : List (Nat × Instr) := [(0, .aload_n 0), (1, .invokespecial 3), (4, .aload_n 0), (5, .bipush 10), (7, .newarray .int), (9, .putfield 9), (12, .aload_n 0), (13, .bipush 10),
  (15, .anewarray 15), (18, .putfield 17), (21, .iconst 0), (22, .istore_n 1), (23, .iload_n 1), (24, .bipush 10), (26, .if_icmp .ge 22), (29, .aload_n 0),
  (30, .getfield 17), (33, .iload_n 1), (34, .new 15), (37, .dup), (38, .invokespecial 21), (41, .aastore), (42, .iinc 1 1), (45, .goto (-22)),
  (48, .return_)]
def am_kX0_size : List (Nat × Instr) := [(0, .aload_n 0), (1, .getfield 22), (4, .ireturn)]
def am_kX0_keep : List (Nat × Instr) := [(0, .aload_n 0), (1, .getfield 26), (4, .ifCond .lt 12), (7, .aload_n 0), (8, .getfield 26), (11, .bipush 10), (13, .if_icmp .lt 4), (16, .return_),
  (17, .aload_n 0), (18, .getfield 9), (21, .aload_n 0), (22, .getfield 26), (25, .iload_n 1), (26, .iastore), (27, .aload_n 0), (28, .getfield 17),
  (31, .aload_n 0), (32, .getfield 26), (35, .aaload), (36, .aload_n 2), (37, .invokevirtual 29), (40, .aload_n 0), (41, .aload_n 0), (42, .getfield 26),
  (45, .iconst 1), (46, .iadd), (47, .bipush 10), (49, .if_icmp .ge 12), (52, .aload_n 0), (53, .getfield 26), (56, .iconst 1), (57, .iadd),
  (58, .goto 4), (61, .iconst 0), (62, .putfield 26), (65, .aload_n 0), (66, .bipush 10), (68, .aload_n 0), (69, .getfield 22), (72, .iconst 1),
  (73, .iadd), (74, .invokestatic 33), (77, .putfield 22), (80, .return_)]
def am_kX0_latestSlot : List (Nat × Instr) := [(0, .aload_n 0), (1, .getfield 22), (4, .ifCond .le 17), (7, .aload_n 0), (8, .getfield 9), (11, .aload_n 0), (12, .invokevirtual 39), (15, .invokestatic 43),
  (18, .goto 4), (21, .iconst (-1)), (22, .ireturn)]
def am_kX0_takeBack : List (Nat × Instr) := [(0, .aload_n 0), (1, .invokevirtual 39), (4, .istore_n 2), (5, .aload_n 0), (6, .getfield 22), (9, .ifCond .le 38), (12, .iload_n 2), (13, .ifCond .lt 34),
  (16, .iload_n 2), (17, .bipush 10), (19, .if_icmp .ge 28), (22, .aload_n 1), (23, .aload_n 0), (24, .getfield 17), (27, .iload_n 2), (28, .aaload),
  (29, .invokevirtual 29), (32, .aload_n 0), (33, .iload_n 2), (34, .putfield 26), (37, .aload_n 0), (38, .dup), (39, .getfield 22), (42, .iconst 1),
  (43, .isub), (44, .putfield 22), (47, .return_)]
def am_kX0_latest : List (Nat × Instr) := [(0, .aload_n 0), (1, .getfield 26), (4, .ifCond .le 12), (7, .aload_n 0), (8, .getfield 26), (11, .iconst 1), (12, .isub), (13, .goto 5),
  (16, .bipush 9), (18, .ireturn)]
def am_kX1_init : List (Nat × Instr) := [(0, .aload_n 0), (1, .invokespecial 3), (4, .aload_n 0), (5, .bipush 24), (7, .bipush 40), (9, .multianewarray 9 2), (13, .putfield 11), (16, .aload_n 0),
  (17, .bipush 24), (19, .newarray .int), (21, .putfield 16), (24, .aload_n 0), (25, .bipush 24), (27, .newarray .int), (29, .putfield 20), (32, .aload_n 0),
  (33, .bipush 24), (35, .newarray .int), (37, .putfield 23), (40, .return_)]
def am_kX1_freedom : List (Nat × Instr) := [(0, .aload_n 0), (1, .iconst 0), (2, .putfield 26), (5, .aload_n 0), (6, .getfield 16), (9, .iconst (-1)), (10, .invokestatic 30), (13, .iconst 0),
  (14, .istore_n 3), (15, .iload_n 3), (16, .aload_n 1), (17, .invokevirtual 36), (20, .if_icmp .ge 15), (23, .aload_n 0), (24, .aload_n 1), (25, .iload_n 3),
  (26, .invokevirtual 42), (29, .iinc 3 1), (32, .goto (-17)), (35, .aload_n 0), (36, .iconst 0), (37, .putfield 46), (40, .iconst 0), (41, .istore_n 3),
  (42, .iload_n 3), (43, .aload_n 1), (44, .invokevirtual 49), (47, .if_icmp .ge 98), (50, .iload_n 3), (51, .bipush 24), (53, .if_icmp .ge 92), (56, .aload_n 0),
  (57, .getfield 16), (60, .iload_n 3), (61, .invokestatic 52), (64, .iconst (-1)), (65, .if_icmp .eq 74), (68, .aload_n 0), (69, .getfield 46), (72, .bipush 24),
  (74, .if_icmp .ge 65), (77, .aload_n 0), (78, .getfield 11), (81, .aload_n 0), (82, .getfield 46), (85, .aaload), (86, .iconst 0), (87, .invokestatic 30),
  (90, .aload_n 0), (91, .aload_n 0), (92, .getfield 16), (95, .iload_n 3), (96, .invokestatic 52), (99, .iconst 2), (100, .invokevirtual 56), (103, .aload_n 0),
  (104, .aload_n 0), (105, .getfield 20), (108, .iload_n 3), (109, .invokestatic 52), (112, .iconst (-1)), (113, .invokevirtual 56), (116, .aload_n 0), (117, .aload_n 0),
  (118, .getfield 23), (121, .iload_n 3), (122, .invokestatic 52), (125, .iconst (-1)), (126, .invokevirtual 56), (129, .aload_n 0), (130, .dup), (131, .getfield 46),
  (134, .iconst 1), (135, .iadd), (136, .putfield 46), (139, .iinc 3 1), (142, .goto (-100)), (145, .aload_n 0), (146, .getfield 26), (149, .aload_n 0),
  (150, .iload_n 2), (151, .invokevirtual 60), (154, .isub), (155, .ireturn)]
def am_kX1_numberArcs : List (Nat × Instr) := [(0, .aload_n 1), (1, .iload_n 2), (2, .invokevirtual 64), (5, .istore_n 3), (6, .iconst 0), (7, .istore 4), (9, .iconst 0), (10, .istore 5),
  (12, .iload 5), (14, .iload_n 3), (15, .if_icmp .ge 22), (18, .aload_n 1), (19, .iload_n 2), (20, .iload 5), (22, .invokevirtual 67), (25, .ifCond .ne 6),
  (28, .iinc 4 1), (31, .iinc 5 1), (34, .goto (-22)), (37, .iconst 0), (38, .istore 5), (40, .iconst 0), (41, .istore 6), (43, .iload 6),
  (45, .iload_n 3), (46, .if_icmp .ge 104), (49, .aload_n 1), (50, .iload_n 2), (51, .iload 6), (53, .invokevirtual 71), (56, .istore 7), (58, .aload_n 1),
  (59, .iload_n 2), (60, .iload 6), (62, .invokevirtual 67), (65, .ifCond .eq 33), (68, .aload_n 0), (69, .getfield 16), (72, .iload 7), (74, .aload_n 0),
  (75, .getfield 26), (78, .iload 5), (80, .iload 4), (82, .if_icmp .ge 8), (85, .iload 5), (87, .goto 4), (90, .iconst 0), (91, .iadd),
  (92, .invokestatic 75), (95, .goto 49), (98, .aload_n 0), (99, .getfield 20), (102, .iload 7), (104, .aload_n 0), (105, .getfield 26), (108, .iload 5),
  (110, .iadd), (111, .invokestatic 75), (114, .iinc 5 1), (117, .aload_n 0), (118, .getfield 23), (121, .iload 7), (123, .aload_n 0), (124, .getfield 26),
  (127, .iload 5), (129, .iload 4), (131, .if_icmp .ge 8), (134, .iload 5), (136, .goto 4), (139, .iconst 0), (140, .iadd), (141, .invokestatic 75),
  (144, .iinc 6 1), (147, .goto (-104)), (150, .aload_n 0), (151, .dup), (152, .getfield 26), (155, .iconst 1), (156, .iload 4), (158, .invokestatic 79),
  (161, .iadd), (162, .putfield 26), (165, .return_)]
def am_kX1_add : List (Nat × Instr) := [(0, .iload_n 1), (1, .ifCond .lt 33), (4, .iload_n 1), (5, .bipush 40), (7, .if_icmp .ge 27), (10, .aload_n 0), (11, .getfield 46), (14, .bipush 24),
  (16, .if_icmp .ge 18), (19, .aload_n 0), (20, .getfield 11), (23, .aload_n 0), (24, .getfield 46), (27, .aaload), (28, .iload_n 1), (29, .dup2),
  (30, .iaload), (31, .iload_n 2), (32, .iadd), (33, .iastore), (34, .return_)]
def am_kX1_rank : List (Nat × Instr) := [(0, .iconst 0), (1, .istore_n 2), (2, .iconst 0), (3, .istore_n 3), (4, .iload_n 3), (5, .aload_n 0), (6, .getfield 26), (9, .if_icmp .ge 47),
  (12, .iload_n 3), (13, .bipush 40), (15, .if_icmp .ge 41), (18, .aload_n 0), (19, .iload_n 2), (20, .iload_n 3), (21, .iload_n 1), (22, .invokevirtual 84),
  (25, .istore 4), (27, .iload 4), (29, .iconst (-1)), (30, .if_icmp .eq 20), (33, .aload_n 0), (34, .iload 4), (36, .iload_n 2), (37, .invokevirtual 88),
  (40, .aload_n 0), (41, .iload_n 2), (42, .iload_n 3), (43, .iload_n 1), (44, .invokevirtual 91), (47, .iinc 2 1), (50, .iinc 3 1), (53, .goto (-49)),
  (56, .iload_n 2), (57, .ireturn)]
def am_kX1_swapRows : List (Nat × Instr) := [(0, .iload_n 1), (1, .ifCond .lt 19), (4, .iload_n 2), (5, .ifCond .lt 15), (8, .iload_n 1), (9, .bipush 24), (11, .if_icmp .ge 9), (14, .iload_n 2),
  (15, .bipush 24), (17, .if_icmp .lt 4), (20, .return_), (21, .iconst 0), (22, .istore_n 3), (23, .iload_n 3), (24, .bipush 40), (26, .if_icmp .ge 45),
  (29, .aload_n 0), (30, .getfield 11), (33, .iload_n 1), (34, .aaload), (35, .iload_n 3), (36, .iaload), (37, .istore 4), (39, .aload_n 0),
  (40, .getfield 11), (43, .iload_n 1), (44, .aaload), (45, .iload_n 3), (46, .aload_n 0), (47, .getfield 11), (50, .iload_n 2), (51, .aaload),
  (52, .iload_n 3), (53, .iaload), (54, .iastore), (55, .aload_n 0), (56, .getfield 11), (59, .iload_n 2), (60, .aaload), (61, .iload_n 3),
  (62, .iload 4), (64, .iastore), (65, .iinc 3 1), (68, .goto (-45)), (71, .return_)]
def am_kX1_rowWith : List (Nat × Instr) := [(0, .iload_n 1), (1, .ifCond .lt 8), (4, .iload_n 3), (5, .iconst 2), (6, .if_icmp .ge 5), (9, .iconst (-1)), (10, .ireturn), (11, .iload_n 1),
  (12, .istore 4), (14, .iload 4), (16, .aload_n 0), (17, .getfield 46), (20, .if_icmp .ge 35), (23, .iload 4), (25, .bipush 24), (27, .if_icmp .ge 28),
  (30, .aload_n 0), (31, .getfield 11), (34, .iload 4), (36, .aaload), (37, .iload_n 2), (38, .iaload), (39, .iload_n 3), (40, .invokestatic 95),
  (43, .ifCond .eq 6), (46, .iload 4), (48, .ireturn), (49, .iinc 4 1), (52, .goto (-38)), (55, .iconst (-1)), (56, .ireturn)]
def am_kX1_clearBelow : List (Nat × Instr) := [(0, .iload_n 1), (1, .ifCond .lt 14), (4, .iload_n 1), (5, .bipush 24), (7, .if_icmp .ge 8), (10, .iload_n 3), (11, .iconst 2), (12, .if_icmp .ge 4),
  (15, .return_), (16, .aload_n 0), (17, .getfield 11), (20, .iload_n 1), (21, .aaload), (22, .iload_n 2), (23, .iaload), (24, .istore 4),
  (26, .iload_n 1), (27, .iconst 1), (28, .iadd), (29, .istore 5), (31, .iload 5), (33, .aload_n 0), (34, .getfield 46), (37, .if_icmp .ge 92),
  (40, .iload 5), (42, .bipush 24), (44, .if_icmp .ge 85), (47, .aload_n 0), (48, .getfield 11), (51, .iload 5), (53, .aaload), (54, .iload_n 2),
  (55, .iaload), (56, .istore 6), (58, .iconst 0), (59, .istore 7), (61, .iload 7), (63, .aload_n 0), (64, .getfield 26), (67, .if_icmp .ge 56),
  (70, .iload 7), (72, .bipush 40), (74, .if_icmp .ge 49), (77, .aload_n 0), (78, .getfield 11), (81, .iload 5), (83, .aaload), (84, .iload 7),
  (86, .aload_n 0), (87, .getfield 11), (90, .iload 5), (92, .aaload), (93, .iload 7), (95, .iaload), (96, .iload 4), (98, .imul),
  (99, .aload_n 0), (100, .getfield 11), (103, .iload_n 1), (104, .aaload), (105, .iload 7), (107, .iaload), (108, .iload 6), (110, .imul),
  (111, .isub), (112, .iload_n 3), (113, .invokestatic 95), (116, .iastore), (117, .iinc 7 1), (120, .goto (-59)), (123, .iinc 5 1), (126, .goto (-95)),
  (129, .return_)]
def am_kX2_init : List (Nat × Instr) := [(0, .aload_n 0), (1, .invokespecial 3), (4, .aload_n 0), (5, .bipush 16), (7, .newarray .int), (9, .putfield 9), (12, .aload_n 0), (13, .bipush 16),
  (15, .bipush 16), (17, .multianewarray 15 2), (21, .putfield 17), (24, .return_)]
def am_kX2_grow : List (Nat × Instr) := [(0, .iconst 0), (1, .istore_n 2), (2, .iload_n 2), (3, .bipush 16), (5, .if_icmp .ge 26), (8, .aload_n 0), (9, .getfield 9), (12, .iload_n 2),
  (13, .iload_n 2), (14, .iastore), (15, .aload_n 0), (16, .getfield 17), (19, .iload_n 2), (20, .aaload), (21, .lconst 0), (22, .invokestatic 20),
  (25, .iinc 2 1), (28, .goto (-26)), (31, .iconst 0), (32, .istore_n 2), (33, .iload_n 2), (34, .aload_n 1), (35, .invokevirtual 26), (38, .if_icmp .ge 24),
  (41, .aload_n 1), (42, .iload_n 2), (43, .invokevirtual 32), (46, .iconst 3), (47, .if_icmp .ne 9), (50, .aload_n 0), (51, .aload_n 1), (52, .iload_n 2),
  (53, .invokevirtual 36), (56, .iinc 2 1), (59, .goto (-26)), (62, .aload_n 0), (63, .aload_n 1), (64, .invokevirtual 40), (67, .invokevirtual 43), (70, .istore_n 2),
  (71, .iconst 0), (72, .istore_n 3), (73, .iload_n 3), (74, .aload_n 1), (75, .invokevirtual 26), (78, .if_icmp .ge 45), (81, .aload_n 1), (82, .iload_n 3),
  (83, .invokevirtual 46), (86, .ifCond .eq 31), (89, .aload_n 0), (90, .aload_n 0), (91, .getfield 9), (94, .aload_n 1), (95, .iload_n 3), (96, .invokevirtual 50),
  (99, .invokestatic 53), (102, .aload_n 0), (103, .getfield 9), (106, .aload_n 1), (107, .iload_n 3), (108, .invokestatic 57), (111, .invokestatic 53), (114, .invokevirtual 61),
  (117, .iinc 3 1), (120, .goto (-47)), (123, .aload_n 0), (124, .iload_n 2), (125, .iconst 1), (126, .isub), (127, .invokevirtual 65), (130, .lreturn)]
def am_kX2_cellBehind : List (Nat × Instr) := [(0, .aload_n 0), (1, .aload_n 0), (2, .iload_n 1), (3, .invokevirtual 50), (6, .aload_n 0), (7, .iload_n 1), (8, .invokevirtual 69), (11, .ifCond .ne 7),
  (14, .iconst 1), (15, .goto 4), (18, .iconst 2), (19, .invokevirtual 72), (22, .ireturn)]
def am_kX2_merge : List (Nat × Instr) := [(0, .aload_n 0), (1, .getfield 9), (4, .aload_n 1), (5, .iload_n 2), (6, .invokevirtual 50), (9, .invokestatic 53), (12, .istore_n 3), (13, .aload_n 0),
  (14, .getfield 9), (17, .aload_n 1), (18, .iload_n 2), (19, .invokestatic 57), (22, .invokestatic 53), (25, .istore 4), (27, .iload_n 3), (28, .iload 4),
  (30, .invokestatic 76), (33, .istore 5), (35, .iconst 0), (36, .istore 6), (38, .iload 6), (40, .bipush 16), (42, .if_icmp .ge 41), (45, .aload_n 0),
  (46, .getfield 9), (49, .iload 6), (51, .iaload), (52, .iload_n 3), (53, .if_icmp .eq 15), (56, .aload_n 0), (57, .getfield 9), (60, .iload 6),
  (62, .iaload), (63, .iload 4), (65, .if_icmp .ne 12), (68, .aload_n 0), (69, .getfield 9), (72, .iload 6), (74, .iload 5), (76, .iastore),
  (77, .iinc 6 1), (80, .goto (-42)), (83, .return_)]
def am_kX2_renumber : List (Nat × Instr) := [(0, .iconst 0), (1, .istore_n 2), (2, .iconst 0), (3, .istore_n 3), (4, .iload_n 3), (5, .iload_n 1), (6, .if_icmp .ge 57), (9, .iload_n 3),
  (10, .bipush 16), (12, .if_icmp .ge 51), (15, .aload_n 0), (16, .getfield 9), (19, .iload_n 3), (20, .iaload), (21, .iload_n 3), (22, .if_icmp .ne 16),
  (25, .aload_n 0), (26, .getfield 9), (29, .iload_n 3), (30, .iload_n 2), (31, .iastore), (32, .iinc 2 1), (35, .goto 22), (38, .aload_n 0),
  (39, .getfield 9), (42, .iload_n 3), (43, .aload_n 0), (44, .getfield 9), (47, .aload_n 0), (48, .getfield 9), (51, .iload_n 3), (52, .iaload),
  (53, .invokestatic 53), (56, .iastore), (57, .iinc 3 1), (60, .goto (-56)), (63, .iload_n 2), (64, .ireturn)]
def am_kX2_tie : List (Nat × Instr) := [(0, .iload_n 1), (1, .ifCond .lt 24), (4, .iload_n 2), (5, .ifCond .lt 20), (8, .iload_n 1), (9, .bipush 16), (11, .if_icmp .ge 14), (14, .iload_n 2),
  (15, .bipush 16), (17, .if_icmp .ge 8), (20, .iload_n 1), (21, .iload_n 2), (22, .if_icmp .ne 4), (25, .return_), (26, .aload_n 0), (27, .getfield 17),
  (30, .iload_n 1), (31, .aaload), (32, .iload_n 1), (33, .dup2), (34, .laload), (35, .lconst 1), (36, .ladd), (37, .lastore),
  (38, .aload_n 0), (39, .getfield 17), (42, .iload_n 2), (43, .aaload), (44, .iload_n 2), (45, .dup2), (46, .laload), (47, .lconst 1),
  (48, .ladd), (49, .lastore), (50, .aload_n 0), (51, .getfield 17), (54, .iload_n 1), (55, .aaload), (56, .iload_n 2), (57, .dup2),
  (58, .laload), (59, .lconst 1), (60, .lsub), (61, .lastore), (62, .aload_n 0), (63, .getfield 17), (66, .iload_n 2), (67, .aaload),
  (68, .iload_n 1), (69, .dup2), (70, .laload), (71, .lconst 1), (72, .lsub), (73, .lastore), (74, .return_)]
def am_kX2_determinant : List (Nat × Instr) := [(0, .iload_n 1), (1, .iconst 1), (2, .if_icmp .lt 9), (5, .iload_n 1), (6, .bipush 16), (8, .if_icmp .le 5), (11, .lconst 1), (12, .lreturn),
  (13, .lconst 1), (14, .lstore_n 2), (15, .iconst 0), (16, .istore 4), (18, .iload 4), (20, .iconst 1), (21, .iadd), (22, .iload_n 1),
  (23, .if_icmp .ge 116), (26, .aload_n 0), (27, .getfield 17), (30, .iload 4), (32, .aaload), (33, .iload 4), (35, .laload), (36, .lstore 5),
  (38, .lload 5), (40, .lconst 0), (41, .lcmp), (42, .ifCond .ne 5), (45, .lconst 0), (46, .lreturn), (47, .iload 4), (49, .iconst 1),
  (50, .iadd), (51, .istore 7), (53, .iload 7), (55, .iload_n 1), (56, .if_icmp .ge 74), (59, .iload 4), (61, .iconst 1), (62, .iadd),
  (63, .istore 8), (65, .iload 8), (67, .iload_n 1), (68, .if_icmp .ge 56), (71, .aload_n 0), (72, .getfield 17), (75, .iload 7), (77, .aaload),
  (78, .iload 8), (80, .aload_n 0), (81, .getfield 17), (84, .iload 7), (86, .aaload), (87, .iload 8), (89, .laload), (90, .lload 5),
  (92, .lmul), (93, .aload_n 0), (94, .getfield 17), (97, .iload 7), (99, .aaload), (100, .iload 4), (102, .laload), (103, .aload_n 0),
  (104, .getfield 17), (107, .iload 4), (109, .aaload), (110, .iload 8), (112, .laload), (113, .lmul), (114, .lsub), (115, .lload_n 2),
  (116, .ldiv), (117, .lastore), (118, .iinc 8 1), (121, .goto (-56)), (124, .iinc 7 1), (127, .goto (-74)), (130, .lload 5), (132, .lstore_n 2),
  (133, .iinc 4 1), (136, .goto (-118)), (139, .aload_n 0), (140, .getfield 17), (143, .iload_n 1), (144, .iconst 1), (145, .isub), (146, .aaload),
  (147, .iload_n 1), (148, .iconst 1), (149, .isub), (150, .laload), (151, .lreturn)]
def am_kX3_init : List (Nat × Instr) := [(0, .aload_n 0), (1, .invokespecial 3), (4, .aload_n 0), (5, .bipush 24), (7, .newarray .int), (9, .putfield 9), (12, .aload_n 0), (13, .bipush 24),
  (15, .newarray .int), (17, .putfield 15), (20, .aload_n 0), (21, .bipush 32), (23, .newarray .int), (25, .putfield 18), (28, .return_)]
def am_kX3_clear : List (Nat × Instr) := [(0, .aload_n 0), (1, .iconst 0), (2, .iconst 0), (3, .invokevirtual 21), (6, .return_)]
def am_kX3_lay : List (Nat × Instr) := [(0, .iload_n 1), (1, .ifCond .le 21), (4, .iload_n 1), (5, .iconst 4), (6, .if_icmp .gt 16), (9, .iload_n 2), (10, .ifCond .le 12), (13, .iload_n 2),
  (14, .iconst 4), (15, .if_icmp .gt 7), (18, .iconst 1), (19, .goto 4), (22, .iconst 0), (23, .istore_n 3), (24, .aload_n 0), (25, .iload_n 3),
  (26, .ifCond .eq 7), (29, .iload_n 1), (30, .goto 4), (33, .iconst 0), (34, .putfield 25), (37, .aload_n 0), (38, .iload_n 3), (39, .ifCond .eq 7),
  (42, .iload_n 2), (43, .goto 4), (46, .iconst 0), (47, .putfield 29), (50, .aload_n 0), (51, .iconst 0), (52, .putfield 32), (55, .aload_n 0),
  (56, .getfield 9), (59, .iconst 0), (60, .invokestatic 35), (63, .aload_n 0), (64, .getfield 18), (67, .iconst (-1)), (68, .invokestatic 35), (71, .iconst 0),
  (72, .istore 4), (74, .iload 4), (76, .aload_n 0), (77, .getfield 25), (80, .if_icmp .ge 77), (83, .iconst 0), (84, .istore 5), (86, .iload 5),
  (88, .aload_n 0), (89, .getfield 29), (92, .if_icmp .ge 59), (95, .iconst 2), (96, .iload 4), (98, .aload_n 0), (99, .getfield 29), (102, .imul),
  (103, .iload 5), (105, .iadd), (106, .imul), (107, .istore 6), (109, .iload 5), (111, .iconst 1), (112, .iadd), (113, .aload_n 0),
  (114, .getfield 29), (117, .if_icmp .ge 9), (120, .aload_n 0), (121, .iload 6), (123, .invokevirtual 41), (126, .iload 4), (128, .iconst 1), (129, .iadd),
  (130, .aload_n 0), (131, .getfield 25), (134, .if_icmp .ge 11), (137, .aload_n 0), (138, .iload 6), (140, .iconst 1), (141, .iadd), (142, .invokevirtual 41),
  (145, .iinc 5 1), (148, .goto (-62)), (151, .iinc 4 1), (154, .goto (-80)), (157, .return_)]
def am_kX3_number : List (Nat × Instr) := [(0, .aload_n 0), (1, .getfield 15), (4, .aload_n 0), (5, .getfield 32), (8, .iload_n 1), (9, .invokestatic 45), (12, .aload_n 0), (13, .getfield 18),
  (16, .iload_n 1), (17, .aload_n 0), (18, .getfield 32), (21, .invokestatic 45), (24, .aload_n 0), (25, .dup), (26, .getfield 32), (29, .iconst 1),
  (30, .iadd), (31, .putfield 32), (34, .return_)]
def am_kX3_rows : List (Nat × Instr) := [(0, .aload_n 0), (1, .getfield 25), (4, .ireturn)]
def am_kX3_columns : List (Nat × Instr) := [(0, .aload_n 0), (1, .getfield 29), (4, .ireturn)]
def am_kX3_cells : List (Nat × Instr) := [(0, .aload_n 0), (1, .getfield 25), (4, .aload_n 0), (5, .getfield 29), (8, .imul), (9, .ireturn)]
def am_kX3_edges : List (Nat × Instr) := [(0, .aload_n 0), (1, .getfield 32), (4, .ireturn)]
def am_kX3_hasEdge : List (Nat × Instr) := [(0, .iload_n 1), (1, .ifCond .lt 15), (4, .iload_n 1), (5, .aload_n 0), (6, .getfield 32), (9, .if_icmp .ge 7), (12, .iconst 1), (13, .goto 4),
  (16, .iconst 0), (17, .ireturn)]
def am_kX3_hasCell : List (Nat × Instr) := [(0, .iload_n 1), (1, .ifCond .lt 20), (4, .iload_n 1), (5, .aload_n 0), (6, .getfield 25), (9, .aload_n 0), (10, .getfield 29), (13, .imul),
  (14, .if_icmp .ge 7), (17, .iconst 1), (18, .goto 4), (21, .iconst 0), (22, .ireturn)]
def am_kX3_rowOf : List (Nat × Instr) := [(0, .aload_n 0), (1, .getfield 29), (4, .iconst 1), (5, .if_icmp .ge 7), (8, .iconst 0), (9, .goto 9), (12, .iload_n 1), (13, .aload_n 0),
  (14, .getfield 29), (17, .idiv), (18, .ireturn)]
def am_kX3_columnOf : List (Nat × Instr) := [(0, .aload_n 0), (1, .getfield 29), (4, .iconst 1), (5, .if_icmp .ge 7), (8, .iconst 0), (9, .goto 9), (12, .iload_n 1), (13, .aload_n 0),
  (14, .getfield 29), (17, .irem), (18, .ireturn)]
def am_kX3_kindOf : List (Nat × Instr) := [(0, .iload_n 1), (1, .ifCond .lt 26), (4, .iload_n 1), (5, .aload_n 0), (6, .getfield 32), (9, .if_icmp .ge 18), (12, .iload_n 1), (13, .bipush 24),
  (15, .if_icmp .ge 12), (18, .aload_n 0), (19, .getfield 9), (22, .iload_n 1), (23, .iaload), (24, .goto 4), (27, .iconst (-1)), (28, .ireturn)]
def am_kX3_isCross : List (Nat × Instr) := [(0, .aload_n 0), (1, .iload_n 1), (2, .invokevirtual 49), (5, .istore_n 2), (6, .iload_n 2), (7, .ifCond .eq 8), (10, .iload_n 2), (11, .iconst 1),
  (12, .if_icmp .ne 7), (15, .iconst 1), (16, .goto 4), (19, .iconst 0), (20, .ireturn)]
def am_kX3_cellOf : List (Nat × Instr) := [(0, .aload_n 0), (1, .iload_n 1), (2, .invokevirtual 53), (5, .ifCond .eq 16), (8, .aload_n 0), (9, .getfield 15), (12, .iload_n 1), (13, .invokestatic 57),
  (16, .iconst 1), (17, .ishr), (18, .goto 4), (21, .iconst (-1)), (22, .ireturn)]
def am_kX3_belowOf : List (Nat × Instr) := [(0, .aload_n 0), (1, .iload_n 1), (2, .invokevirtual 53), (5, .ifCond .eq 16), (8, .aload_n 0), (9, .getfield 15), (12, .iload_n 1), (13, .invokestatic 57),
  (16, .iconst 1), (17, .iand), (18, .goto 4), (21, .iconst (-1)), (22, .ireturn)]
def am_kX3_edgeAt : List (Nat × Instr) := [(0, .aload_n 0), (1, .iload_n 1), (2, .invokevirtual 61), (5, .ifCond .eq 27), (8, .iload_n 2), (9, .ifCond .eq 8), (12, .iload_n 2), (13, .iconst 1),
  (14, .if_icmp .ne 18), (17, .aload_n 0), (18, .getfield 18), (21, .iconst 2), (22, .iload_n 1), (23, .imul), (24, .iload_n 2), (25, .iadd),
  (26, .invokestatic 57), (29, .goto 4), (32, .iconst (-1)), (33, .ireturn)]
def am_kX3_edgeOnSide : List (Nat × Instr) := [(0, .iload_n 2), (1, .tableswitch 53 0 2 #[27, 39, 46]), (28, .aload_n 0), (29, .iload_n 1), (30, .aload_n 0), (31, .getfield 29), (34, .isub), (35, .iconst 1),
  (36, .invokevirtual 64), (39, .ireturn), (40, .aload_n 0), (41, .iload_n 1), (42, .iconst 0), (43, .invokevirtual 64), (46, .ireturn), (47, .aload_n 0),
  (48, .iload_n 1), (49, .iconst 1), (50, .invokevirtual 64), (53, .ireturn), (54, .aload_n 0), (55, .iload_n 1), (56, .invokevirtual 68), (59, .ifCond .le 14),
  (62, .aload_n 0), (63, .iload_n 1), (64, .iconst 1), (65, .isub), (66, .iconst 0), (67, .invokevirtual 64), (70, .goto 4), (73, .iconst (-1)),
  (74, .ireturn)]
def am_kX3_cellBeyond : List (Nat × Instr) := [(0, .iload_n 2), (1, .tableswitch 45 0 2 #[27, 34, 38]), (28, .iload_n 1), (29, .aload_n 0), (30, .getfield 29), (33, .isub), (34, .ireturn), (35, .iload_n 1),
  (36, .iconst 1), (37, .iadd), (38, .ireturn), (39, .iload_n 1), (40, .aload_n 0), (41, .getfield 29), (44, .iadd), (45, .ireturn),
  (46, .iload_n 1), (47, .iconst 1), (48, .isub), (49, .ireturn)]
def am_kX3_howMany : List (Nat × Instr) := [(0, .iconst 0), (1, .istore_n 2), (2, .iconst 0), (3, .istore_n 3), (4, .iload_n 3), (5, .aload_n 0), (6, .getfield 32), (9, .if_icmp .ge 21),
  (12, .aload_n 0), (13, .iload_n 3), (14, .invokevirtual 49), (17, .iload_n 1), (18, .if_icmp .ne 6), (21, .iinc 2 1), (24, .iinc 3 1), (27, .goto (-23)),
  (30, .iload_n 2), (31, .ireturn)]
def am_kX3_crosses : List (Nat × Instr) := [(0, .aload_n 0), (1, .iconst 0), (2, .invokevirtual 71), (5, .aload_n 0), (6, .iconst 1), (7, .invokevirtual 71), (10, .iadd), (11, .ireturn)]
def am_kX3_change : List (Nat × Instr) := [(0, .aload_n 0), (1, .iload_n 1), (2, .invokevirtual 53), (5, .ifCond .eq 12), (8, .aload_n 0), (9, .getfield 9), (12, .iload_n 1), (13, .iload_n 2),
  (14, .invokestatic 45), (17, .return_)]
def am_kX3_isLike : List (Nat × Instr) := [(0, .aload_n 0), (1, .getfield 25), (4, .aload_n 1), (5, .getfield 25), (8, .if_icmp .ne 14), (11, .aload_n 0), (12, .getfield 29), (15, .aload_n 1),
  (16, .getfield 29), (19, .if_icmp .eq 5), (22, .iconst 0), (23, .ireturn), (24, .iconst 0), (25, .istore_n 2), (26, .iload_n 2), (27, .aload_n 0),
  (28, .getfield 32), (31, .if_icmp .ge 24), (34, .aload_n 0), (35, .iload_n 2), (36, .invokevirtual 49), (39, .aload_n 1), (40, .iload_n 2), (41, .invokevirtual 49),
  (44, .if_icmp .eq 5), (47, .iconst 0), (48, .ireturn), (49, .iinc 2 1), (52, .goto (-26)), (55, .iconst 1), (56, .ireturn)]
def am_kX3_copy : List (Nat × Instr) := [(0, .aload_n 0), (1, .aload_n 1), (2, .getfield 25), (5, .aload_n 1), (6, .getfield 29), (9, .invokevirtual 21), (12, .aload_n 0), (13, .aload_n 1),
  (14, .iconst 0), (15, .invokevirtual 74), (18, .return_)]
def am_kX3_paste : List (Nat × Instr) := [(0, .iconst 0), (1, .istore_n 3), (2, .iload_n 3), (3, .aload_n 1), (4, .getfield 32), (7, .if_icmp .ge 58), (10, .aload_n 1), (11, .iload_n 3),
  (12, .invokevirtual 78), (15, .istore 4), (17, .aload_n 1), (18, .iload 4), (20, .invokevirtual 81), (23, .aload_n 0), (24, .getfield 29), (27, .imul),
  (28, .aload_n 1), (29, .iload 4), (31, .invokevirtual 68), (34, .iadd), (35, .iload_n 2), (36, .iadd), (37, .istore 5), (39, .aload_n 0),
  (40, .aload_n 0), (41, .iload 5), (43, .aload_n 1), (44, .iload_n 3), (45, .invokevirtual 84), (48, .invokevirtual 64), (51, .aload_n 1), (52, .iload_n 3),
  (53, .invokevirtual 49), (56, .invokevirtual 87), (59, .iinc 3 1), (62, .goto (-60)), (65, .return_)]
def am_kX3_copyTurned : List (Nat × Instr) := [(0, .aload_n 0), (1, .aload_n 1), (2, .getfield 29), (5, .aload_n 1), (6, .getfield 25), (9, .invokevirtual 21), (12, .iconst 0), (13, .istore_n 2),
  (14, .iload_n 2), (15, .aload_n 1), (16, .getfield 32), (19, .if_icmp .ge 69), (22, .aload_n 1), (23, .iload_n 2), (24, .invokevirtual 78), (27, .istore_n 3),
  (28, .aload_n 1), (29, .iload_n 2), (30, .invokevirtual 84), (33, .istore 4), (35, .aload_n 1), (36, .getfield 25), (39, .iconst 1), (40, .isub),
  (41, .aload_n 1), (42, .iload_n 3), (43, .invokevirtual 81), (46, .isub), (47, .iload 4), (49, .isub), (50, .istore 5), (52, .aload_n 0),
  (53, .aload_n 0), (54, .aload_n 1), (55, .iload_n 3), (56, .invokevirtual 68), (59, .aload_n 0), (60, .getfield 29), (63, .imul), (64, .iload 5),
  (66, .iadd), (67, .iconst 1), (68, .iload 4), (70, .isub), (71, .invokevirtual 64), (74, .aload_n 1), (75, .iload_n 2), (76, .invokevirtual 49),
  (79, .invokevirtual 87), (82, .iinc 2 1), (85, .goto (-71)), (88, .return_)]
def am_kX3_copyMirrored : List (Nat × Instr) := [(0, .aload_n 0), (1, .aload_n 1), (2, .getfield 25), (5, .aload_n 1), (6, .getfield 29), (9, .invokevirtual 21), (12, .iconst 0), (13, .istore_n 2),
  (14, .iload_n 2), (15, .aload_n 1), (16, .getfield 32), (19, .if_icmp .ge 72), (22, .aload_n 1), (23, .iload_n 2), (24, .invokevirtual 78), (27, .istore_n 3),
  (28, .aload_n 1), (29, .iload_n 2), (30, .invokevirtual 84), (33, .istore 4), (35, .aload_n 0), (36, .getfield 29), (39, .iconst 1), (40, .isub),
  (41, .aload_n 1), (42, .iload_n 3), (43, .invokevirtual 68), (46, .isub), (47, .iconst 1), (48, .iload 4), (50, .isub), (51, .isub),
  (52, .istore 5), (54, .aload_n 0), (55, .aload_n 0), (56, .aload_n 1), (57, .iload_n 3), (58, .invokevirtual 81), (61, .aload_n 0), (62, .getfield 29),
  (65, .imul), (66, .iload 5), (68, .iadd), (69, .iload 4), (71, .invokevirtual 64), (74, .aload_n 1), (75, .iload_n 2), (76, .invokevirtual 49),
  (79, .invokestatic 90), (82, .invokevirtual 87), (85, .iinc 2 1), (88, .goto (-74)), (91, .return_)]
def am_kX4_init : List (Nat × Instr) := [(0, .aload_n 0), (1, .invokespecial 3), (4, .aload_n 0), (5, .sipush 400), (8, .newarray .byte), (10, .putfield 9), (13, .return_)]
def am_kX4_size : List (Nat × Instr) := [(0, .aload_n 0), (1, .getfield 15), (4, .ireturn)]
def am_kX4_byteAt : List (Nat × Instr) := [(0, .iload_n 1), (1, .ifCond .lt 27), (4, .iload_n 1), (5, .aload_n 0), (6, .getfield 15), (9, .if_icmp .ge 19), (12, .iload_n 1), (13, .sipush 400),
  (16, .if_icmp .ge 12), (19, .aload_n 0), (20, .getfield 9), (23, .iload_n 1), (24, .baload), (25, .goto 4), (28, .iconst (-1)), (29, .ireturn)]
def am_kX4_tellGrid : List (Nat × Instr) := [(0, .aload_n 0), (1, .iconst 0), (2, .putfield 15), (5, .aload_n 0), (6, .ldc 19), (8, .invokevirtual 21), (11, .aload_n 0), (12, .aload_n 1),
  (13, .invokevirtual 25), (16, .invokevirtual 31), (19, .aload_n 0), (20, .bipush 32), (22, .invokevirtual 35), (25, .aload_n 0), (26, .aload_n 1), (27, .invokevirtual 39),
  (30, .invokevirtual 31), (33, .aload_n 0), (34, .bipush 59), (36, .invokevirtual 35), (39, .aload_n 0), (40, .aload_n 1), (41, .iconst 1), (42, .ldc 42),
  (44, .invokevirtual 44), (47, .aload_n 0), (48, .aload_n 1), (49, .iconst 2), (50, .ldc 48), (52, .invokevirtual 44), (55, .aload_n 0), (56, .aload_n 1),
  (57, .iconst 3), (58, .ldc 50), (60, .invokevirtual 44), (63, .return_)]
def am_kX4_tellPaint : List (Nat × Instr) := [(0, .aload_n 0), (1, .iconst 0), (2, .putfield 15), (5, .iconst 0), (6, .istore_n 3), (7, .iload_n 3), (8, .aload_n 2), (9, .invokevirtual 25),
  (12, .if_icmp .ge 27), (15, .aload_n 0), (16, .aload_n 1), (17, .aload_n 2), (18, .iload_n 3), (19, .iconst 3), (20, .iconst 0), (21, .invokevirtual 52),
  (24, .aload_n 0), (25, .aload_n 1), (26, .aload_n 2), (27, .iload_n 3), (28, .iconst 2), (29, .iconst 1), (30, .invokevirtual 52), (33, .iinc 3 1),
  (36, .goto (-29)), (39, .return_)]
def am_kX4_addLine : List (Nat × Instr) := [(0, .aload_n 1), (1, .iload_n 2), (2, .invokevirtual 56), (5, .ifCond .ne 4), (8, .return_), (9, .aload_n 0), (10, .aload_n 3), (11, .invokevirtual 21),
  (14, .iconst 1), (15, .istore 4), (17, .iconst 0), (18, .istore 5), (20, .iload 5), (22, .aload_n 1), (23, .invokevirtual 60), (26, .if_icmp .ge 63),
  (29, .aload_n 1), (30, .iload 5), (32, .invokevirtual 63), (35, .iload_n 2), (36, .if_icmp .ne 47), (39, .iload 4), (41, .ifCond .ne 9), (44, .aload_n 0),
  (45, .bipush 44), (47, .invokevirtual 35), (50, .iconst 0), (51, .istore 4), (53, .aload_n 0), (54, .aload_n 1), (55, .iload 5), (57, .invokevirtual 66),
  (60, .invokevirtual 31), (63, .aload_n 0), (64, .aload_n 1), (65, .iload 5), (67, .invokevirtual 69), (70, .ifCond .ne 8), (73, .ldc 72), (75, .goto 5),
  (78, .ldc 74), (80, .invokevirtual 21), (83, .iinc 5 1), (86, .goto (-66)), (89, .aload_n 0), (90, .bipush 59), (92, .invokevirtual 35), (95, .return_)]
def am_kX4_addPaint : List (Nat × Instr) := [(0, .iconst 0), (1, .istore 6), (3, .iload 6), (5, .aload_n 2), (6, .invokevirtual 39), (9, .if_icmp .ge 50), (12, .iload_n 3), (13, .aload_n 2),
  (14, .invokevirtual 39), (17, .imul), (18, .iload 6), (20, .iadd), (21, .istore 7), (23, .aload_n 0), (24, .aload_n 1), (25, .iconst 4),
  (26, .iload 7), (28, .imul), (29, .iload 4), (31, .iadd), (32, .invokevirtual 76), (35, .invokevirtual 31), (38, .aload_n 0), (39, .aload_n 1),
  (40, .iconst 4), (41, .iload 7), (43, .imul), (44, .iload 5), (46, .iadd), (47, .invokevirtual 76), (50, .invokevirtual 31), (53, .iinc 6 1),
  (56, .goto (-53)), (59, .aload_n 0), (60, .bipush 10), (62, .invokevirtual 35), (65, .return_)]
def am_kX4_addText : List (Nat × Instr) := [(0, .iconst 0), (1, .istore_n 2), (2, .iload_n 2), (3, .aload_n 1), (4, .invokevirtual 81), (7, .if_icmp .ge 18), (10, .aload_n 0), (11, .aload_n 1),
  (12, .iload_n 2), (13, .invokevirtual 86), (16, .invokevirtual 35), (19, .iinc 2 1), (22, .goto (-20)), (25, .return_)]
def am_kX4_addNumber : List (Nat × Instr) := [(0, .iload_n 1), (1, .bipush 10), (3, .if_icmp .lt 15), (6, .aload_n 0), (7, .bipush 48), (9, .iload_n 1), (10, .bipush 10), (12, .idiv),
  (13, .iadd), (14, .i2c), (15, .invokevirtual 35), (18, .aload_n 0), (19, .bipush 48), (21, .iload_n 1), (22, .bipush 10), (24, .irem),
  (25, .iadd), (26, .i2c), (27, .invokevirtual 35), (30, .return_)]
def am_kX4_addByte : List (Nat × Instr) := [(0, .aload_n 0), (1, .getfield 15), (4, .sipush 400), (7, .if_icmp .ge 24), (10, .aload_n 0), (11, .getfield 9), (14, .aload_n 0), (15, .getfield 15),
  (18, .iload_n 1), (19, .i2b), (20, .bastore), (21, .aload_n 0), (22, .dup), (23, .getfield 15), (26, .iconst 1), (27, .iadd),
  (28, .putfield 15), (31, .return_)]
def am_kX5_init : List (Nat × Instr) := [(0, .aload_n 0), (1, .invokespecial 3), (4, .aload_n 0), (5, .new 9), (8, .dup), (9, .invokespecial 11), (12, .putfield 12), (15, .aload_n 0),
  (16, .sipush 128), (19, .newarray .int), (21, .putfield 18), (24, .aload_n 0), (25, .bipush 48), (27, .newarray .int), (29, .putfield 22), (32, .aload_n 0),
  (33, .bipush 12), (35, .newarray .boolean), (37, .putfield 25), (40, .aload_n 0), (41, .bipush 13), (43, .bipush 17), (45, .multianewarray 29 2), (49, .putfield 31),
  (52, .aload_n 0), (53, .sipush 201), (56, .newarray .long), (58, .putfield 34), (61, .return_)]
def am_kX5_go : List (Nat × Instr) := [(0, .aload_n 0), (1, .getfield 12), (4, .aload_n 1), (5, .invokevirtual 38), (8, .ifCond .eq 4), (11, .return_), (12, .aload_n 0), (13, .getfield 12),
  (16, .aload_n 1), (17, .invokevirtual 42), (20, .aload_n 0), (21, .invokevirtual 46), (24, .aload_n 0), (25, .invokevirtual 49), (28, .istore_n 2), (29, .iconst 0),
  (30, .istore_n 3), (31, .iload_n 3), (32, .aload_n 0), (33, .getfield 12), (36, .invokevirtual 53), (39, .if_icmp .ge 17), (42, .iload_n 2), (43, .aload_n 0),
  (44, .iload_n 3), (45, .invokevirtual 56), (48, .iadd), (49, .istore_n 2), (50, .iinc 3 1), (53, .goto (-22)), (56, .aload_n 0), (57, .iconst 0),
  (58, .iconst 0), (59, .iload_n 2), (60, .invokestatic 60), (63, .aload_n 0), (64, .invokevirtual 64), (67, .return_)]
def am_kX5_waysWith : List (Nat × Instr) := [(0, .iconst 0), (1, .istore_n 2), (2, .iload_n 1), (3, .ifCond .lt 34), (6, .iload_n 1), (7, .bipush 16), (9, .if_icmp .gt 28), (12, .iconst 0),
  (13, .istore_n 3), (14, .iload_n 3), (15, .bipush 12), (17, .if_icmp .gt 20), (20, .iload_n 2), (21, .aload_n 0), (22, .getfield 31), (25, .iload_n 3),
  (26, .aaload), (27, .iload_n 1), (28, .iaload), (29, .iadd), (30, .istore_n 2), (31, .iinc 3 1), (34, .goto (-20)), (37, .iload_n 2),
  (38, .ireturn)]
def am_kX5_term : List (Nat × Instr) := [(0, .iload_n 1), (1, .bipush (-100)), (3, .if_icmp .lt 9), (6, .iload_n 1), (7, .bipush 100), (9, .if_icmp .le 7), (12, .lconst 0), (13, .goto 12),
  (16, .aload_n 0), (17, .getfield 34), (20, .iload_n 1), (21, .bipush 100), (23, .iadd), (24, .laload), (25, .lreturn)]
def am_kX5_clear : List (Nat × Instr) := [(0, .aload_n 0), (1, .iconst 0), (2, .putfield 67), (5, .iconst 0), (6, .istore_n 1), (7, .iload_n 1), (8, .aload_n 0), (9, .getfield 18),
  (12, .arraylength), (13, .if_icmp .ge 18), (16, .aload_n 0), (17, .getfield 18), (20, .iload_n 1), (21, .iload_n 1), (22, .iconst 1), (23, .ixor),
  (24, .iastore), (25, .iinc 1 1), (28, .goto (-21)), (31, .iconst 0), (32, .istore_n 1), (33, .iload_n 1), (34, .bipush 12), (36, .if_icmp .gt 19),
  (39, .aload_n 0), (40, .getfield 31), (43, .iload_n 1), (44, .aaload), (45, .iconst 0), (46, .invokestatic 71), (49, .iinc 1 1), (52, .goto (-19)),
  (55, .aload_n 0), (56, .getfield 34), (59, .lconst 0), (60, .invokestatic 77), (63, .return_)]
def am_kX5_openingEnd : List (Nat × Instr) := [(0, .iconst 2), (1, .iconst 4), (2, .iload_n 0), (3, .imul), (4, .iload_n 1), (5, .iadd), (6, .imul), (7, .ireturn)]
def am_kX5_closingEnd : List (Nat × Instr) := [(0, .iconst 2), (1, .iconst 4), (2, .iload_n 0), (3, .imul), (4, .iload_n 1), (5, .iconst 3), (6, .iadd), (7, .iconst 3),
  (8, .iand), (9, .iadd), (10, .imul), (11, .iconst 1), (12, .iadd), (13, .ireturn)]
def am_kX5_joinRim : List (Nat × Instr) := [(0, .iconst 0), (1, .istore_n 1), (2, .iconst 0), (3, .istore_n 2), (4, .iload_n 2), (5, .aload_n 0), (6, .getfield 12), (9, .invokevirtual 80),
  (12, .if_icmp .ge 52), (15, .iconst 0), (16, .istore_n 3), (17, .iload_n 3), (18, .iconst 4), (19, .if_icmp .ge 39), (22, .aload_n 0), (23, .getfield 12),
  (26, .iload_n 2), (27, .iload_n 3), (28, .invokevirtual 83), (31, .iconst (-1)), (32, .if_icmp .ne 20), (35, .iload_n 1), (36, .aload_n 0), (37, .iload_n 2),
  (38, .iload_n 3), (39, .invokestatic 87), (42, .iload_n 2), (43, .iload_n 3), (44, .invokestatic 90), (47, .invokevirtual 93), (50, .iadd), (51, .istore_n 1),
  (52, .iinc 3 1), (55, .goto (-38)), (58, .iinc 2 1), (61, .goto (-57)), (64, .iload_n 1), (65, .ireturn)]
def am_kX5_joinOrKeep : List (Nat × Instr) := [(0, .aload_n 0), (1, .getfield 12), (4, .iload_n 1), (5, .invokevirtual 96), (8, .istore_n 2), (9, .aload_n 0), (10, .getfield 12), (13, .iload_n 1),
  (14, .invokevirtual 99), (17, .ifCond .ne 7), (20, .iconst 1), (21, .goto 4), (24, .iconst 2), (25, .istore_n 3), (26, .aload_n 0), (27, .getfield 12),
  (30, .iload_n 2), (31, .iload_n 3), (32, .invokevirtual 102), (35, .istore 4), (37, .iload_n 2), (38, .iload_n 3), (39, .invokestatic 87), (42, .istore 5),
  (44, .iload_n 2), (45, .iload_n 3), (46, .invokestatic 90), (49, .istore 6), (51, .iload 4), (53, .iload_n 3), (54, .iconst 2), (55, .ixor),
  (56, .invokestatic 87), (59, .istore 7), (61, .iload 4), (63, .iload_n 3), (64, .iconst 2), (65, .ixor), (66, .invokestatic 90), (69, .istore 8),
  (71, .aload_n 0), (72, .getfield 12), (75, .iload_n 1), (76, .invokevirtual 105), (79, .iconst 2), (80, .if_icmp .ne 21), (83, .aload_n 0), (84, .iload 5),
  (86, .iload 6), (88, .invokevirtual 93), (91, .aload_n 0), (92, .iload 7), (94, .iload 8), (96, .invokevirtual 93), (99, .iadd), (100, .ireturn),
  (101, .aload_n 0), (102, .getfield 12), (105, .iload_n 1), (106, .invokevirtual 105), (109, .iconst 3), (110, .if_icmp .ne 21), (113, .aload_n 0), (114, .iload 5),
  (116, .iload 8), (118, .invokevirtual 93), (121, .aload_n 0), (122, .iload 6), (124, .iload 7), (126, .invokevirtual 93), (129, .iadd), (130, .ireturn),
  (131, .aload_n 0), (132, .getfield 67), (135, .bipush 12), (137, .if_icmp .ge 105), (140, .aload_n 0), (141, .getfield 25), (144, .aload_n 0), (145, .getfield 67),
  (148, .aload_n 0), (149, .getfield 12), (152, .iload_n 1), (153, .invokevirtual 105), (156, .iconst 1), (157, .if_icmp .ne 7), (160, .iconst 1), (161, .goto 4),
  (164, .iconst 0), (165, .bastore), (166, .aload_n 0), (167, .getfield 22), (170, .iconst 4), (171, .aload_n 0), (172, .getfield 67), (175, .imul),
  (176, .iload 5), (178, .invokestatic 108), (181, .aload_n 0), (182, .getfield 22), (185, .iconst 4), (186, .aload_n 0), (187, .getfield 67), (190, .imul),
  (191, .iconst 1), (192, .iadd), (193, .iload 6), (195, .invokestatic 108), (198, .aload_n 0), (199, .getfield 22), (202, .iconst 4), (203, .aload_n 0),
  (204, .getfield 67), (207, .imul), (208, .iconst 2), (209, .iadd), (210, .iload 7), (212, .invokestatic 108), (215, .aload_n 0), (216, .getfield 22),
  (219, .iconst 4), (220, .aload_n 0), (221, .getfield 67), (224, .imul), (225, .iconst 3), (226, .iadd), (227, .iload 8), (229, .invokestatic 108),
  (232, .aload_n 0), (233, .dup), (234, .getfield 67), (237, .iconst 1), (238, .iadd), (239, .putfield 67), (242, .iconst 0), (243, .ireturn)]
def am_kX5_join : List (Nat × Instr) := [(0, .aload_n 0), (1, .getfield 18), (4, .iload_n 1), (5, .invokestatic 112), (8, .istore_n 3), (9, .aload_n 0), (10, .getfield 18), (13, .iload_n 2),
  (14, .invokestatic 112), (17, .istore 4), (19, .iload_n 3), (20, .iload_n 2), (21, .if_icmp .ne 5), (24, .iconst 1), (25, .ireturn), (26, .aload_n 0),
  (27, .getfield 18), (30, .iload_n 3), (31, .iload 4), (33, .invokestatic 108), (36, .aload_n 0), (37, .getfield 18), (40, .iload 4), (42, .iload_n 3),
  (43, .invokestatic 108), (46, .iconst 0), (47, .ireturn)]
def am_kX5_part : List (Nat × Instr) := [(0, .aload_n 0), (1, .getfield 18), (4, .iload_n 1), (5, .invokestatic 112), (8, .iload_n 2), (9, .if_icmp .eq 35), (12, .aload_n 0), (13, .getfield 18),
  (16, .aload_n 0), (17, .getfield 18), (20, .iload_n 1), (21, .invokestatic 112), (24, .iload_n 1), (25, .invokestatic 108), (28, .aload_n 0), (29, .getfield 18),
  (32, .aload_n 0), (33, .getfield 18), (36, .iload_n 2), (37, .invokestatic 112), (40, .iload_n 2), (41, .invokestatic 108), (44, .return_)]
def am_kX5_settle : List (Nat × Instr) := [(0, .iload_n 1), (1, .aload_n 0), (2, .getfield 67), (5, .if_icmp .ge 9), (8, .iload_n 1), (9, .bipush 12), (11, .if_icmp .lt 10), (14, .aload_n 0),
  (15, .iload_n 2), (16, .iload_n 3), (17, .invokevirtual 116), (20, .return_), (21, .aload_n 0), (22, .getfield 22), (25, .iconst 4), (26, .iload_n 1),
  (27, .imul), (28, .invokestatic 112), (31, .istore 4), (33, .aload_n 0), (34, .getfield 22), (37, .iconst 4), (38, .iload_n 1), (39, .imul),
  (40, .iconst 1), (41, .iadd), (42, .invokestatic 112), (45, .istore 5), (47, .aload_n 0), (48, .getfield 22), (51, .iconst 4), (52, .iload_n 1),
  (53, .imul), (54, .iconst 2), (55, .iadd), (56, .invokestatic 112), (59, .istore 6), (61, .aload_n 0), (62, .getfield 22), (65, .iconst 4),
  (66, .iload_n 1), (67, .imul), (68, .iconst 3), (69, .iadd), (70, .invokestatic 112), (73, .istore 7), (75, .aload_n 0), (76, .getfield 25),
  (79, .iload_n 1), (80, .baload), (81, .ifCond .eq 7), (84, .iconst 1), (85, .goto 4), (88, .iconst 0), (89, .istore 8), (91, .aload_n 0),
  (92, .iload 4), (94, .iload 5), (96, .invokevirtual 93), (99, .aload_n 0), (100, .iload 6), (102, .iload 7), (104, .invokevirtual 93), (107, .iadd),
  (108, .istore 9), (110, .aload_n 0), (111, .iload_n 1), (112, .iconst 1), (113, .iadd), (114, .iload_n 2), (115, .iload 8), (117, .iadd),
  (118, .iload_n 3), (119, .iload 9), (121, .iadd), (122, .invokestatic 60), (125, .aload_n 0), (126, .iload 6), (128, .iload 7), (130, .invokevirtual 120),
  (133, .aload_n 0), (134, .iload 4), (136, .iload 5), (138, .invokevirtual 120), (141, .aload_n 0), (142, .iload 4), (144, .iload 7), (146, .invokevirtual 93),
  (149, .aload_n 0), (150, .iload 5), (152, .iload 6), (154, .invokevirtual 93), (157, .iadd), (158, .istore 10), (160, .aload_n 0), (161, .iload_n 1),
  (162, .iconst 1), (163, .iadd), (164, .iload_n 2), (165, .iconst 1), (166, .iadd), (167, .iload 8), (169, .isub), (170, .iload_n 3),
  (171, .iload 10), (173, .iadd), (174, .invokestatic 60), (177, .aload_n 0), (178, .iload 5), (180, .iload 6), (182, .invokevirtual 120), (185, .aload_n 0),
  (186, .iload 4), (188, .iload 7), (190, .invokevirtual 120), (193, .return_)]
def am_kX5_note : List (Nat × Instr) := [(0, .iload_n 1), (1, .ifCond .lt 31), (4, .iload_n 1), (5, .bipush 12), (7, .if_icmp .gt 25), (10, .iload_n 2), (11, .ifCond .lt 21), (14, .iload_n 2),
  (15, .bipush 16), (17, .if_icmp .gt 15), (20, .aload_n 0), (21, .getfield 31), (24, .iload_n 1), (25, .aaload), (26, .iload_n 2), (27, .dup2),
  (28, .iaload), (29, .iconst 1), (30, .iadd), (31, .iastore), (32, .return_)]
def am_kX5_addTerms : List (Nat × Instr) := [(0, .iconst 0), (1, .istore_n 1), (2, .iload_n 1), (3, .bipush 12), (5, .if_icmp .gt 57), (8, .iconst 1), (9, .istore_n 2), (10, .iload_n 2),
  (11, .bipush 16), (13, .if_icmp .gt 43), (16, .aload_n 0), (17, .getfield 31), (20, .iload_n 1), (21, .aaload), (22, .iload_n 2), (23, .iaload),
  (24, .ifCond .eq 26), (27, .aload_n 0), (28, .aload_n 0), (29, .getfield 31), (32, .iload_n 1), (33, .aaload), (34, .iload_n 2), (35, .iaload),
  (36, .iconst 2), (37, .iload_n 1), (38, .imul), (39, .aload_n 0), (40, .getfield 67), (43, .isub), (44, .iload_n 2), (45, .iconst 1),
  (46, .isub), (47, .invokevirtual 123), (50, .iinc 2 1), (53, .goto (-43)), (56, .iinc 1 1), (59, .goto (-57)), (62, .return_)]
def am_kX5_addPower : List (Nat × Instr) := [(0, .iload_n 3), (1, .iconst 1), (2, .iand), (3, .ifCond .ne 8), (6, .iload_n 1), (7, .i2l), (8, .goto 6), (11, .iload_n 1),
  (12, .ineg), (13, .i2l), (14, .lstore 4), (16, .iconst 0), (17, .istore 6), (19, .iload 6), (21, .iload_n 3), (22, .if_icmp .gt 66),
  (25, .iload_n 2), (26, .iconst 2), (27, .iload_n 3), (28, .imul), (29, .iadd), (30, .iconst 4), (31, .iload 6), (33, .imul),
  (34, .isub), (35, .istore 7), (37, .iload 7), (39, .bipush (-100)), (41, .if_icmp .lt 25), (44, .iload 7), (46, .bipush 100), (48, .if_icmp .gt 18),
  (51, .aload_n 0), (52, .getfield 34), (55, .iload 7), (57, .bipush 100), (59, .iadd), (60, .dup2), (61, .laload), (62, .lload 4),
  (64, .ladd), (65, .lastore), (66, .lload 4), (68, .iload_n 3), (69, .iload 6), (71, .isub), (72, .i2l), (73, .lmul),
  (74, .iload 6), (76, .iconst 1), (77, .iadd), (78, .i2l), (79, .ldiv), (80, .lstore 4), (82, .iinc 6 1), (85, .goto (-66)),
  (88, .return_)]
def am_kX6_init : List (Nat × Instr) := [(0, .aload_n 0), (1, .invokespecial 3), (4, .aload_n 0), (5, .sipush 400), (8, .newarray .byte), (10, .putfield 9), (13, .aload_n 0), (14, .iconst (-1)),
  (15, .putfield 15), (18, .return_)]
def am_kX6_size : List (Nat × Instr) := [(0, .aload_n 0), (1, .getfield 19), (4, .ireturn)]
def am_kX6_faultNumber : List (Nat × Instr) := [(0, .aload_n 0), (1, .getfield 22), (4, .ireturn)]
def am_kX6_faultPlace : List (Nat × Instr) := [(0, .aload_n 0), (1, .getfield 15), (4, .ireturn)]
def am_kX6_hasRoom : List (Nat × Instr) := [(0, .aload_n 0), (1, .getfield 19), (4, .iload_n 1), (5, .iadd), (6, .sipush 400), (9, .if_icmp .gt 7), (12, .iconst 1), (13, .goto 4),
  (16, .iconst 0), (17, .ireturn)]
def am_kX6_add : List (Nat × Instr) := [(0, .bipush 24), (2, .istore_n 2), (3, .iload_n 2), (4, .ifCond .lt 42), (7, .aload_n 0), (8, .getfield 19), (11, .sipush 400), (14, .if_icmp .ge 26),
  (17, .aload_n 0), (18, .getfield 9), (21, .aload_n 0), (22, .getfield 19), (25, .iload_n 1), (26, .iload_n 2), (27, .iushr), (28, .i2b),
  (29, .bastore), (30, .aload_n 0), (31, .dup), (32, .getfield 19), (35, .iconst 1), (36, .iadd), (37, .putfield 19), (40, .iinc 2 (-8)),
  (43, .goto (-40)), (46, .return_)]
def am_kX6_cut : List (Nat × Instr) := [(0, .iload_n 1), (1, .ifCond .lt 11), (4, .iload_n 1), (5, .aload_n 0), (6, .getfield 19), (9, .if_icmp .le 5), (12, .iconst 0), (13, .ireturn),
  (14, .aload_n 0), (15, .iload_n 1), (16, .putfield 19), (19, .iconst 1), (20, .ireturn)]
def am_kX6_readInto : List (Nat × Instr) := [(0, .aload_n 1), (1, .invokevirtual 25), (4, .aload_n 0), (5, .iconst 0), (6, .putfield 30), (9, .aload_n 0), (10, .iconst 0), (11, .putfield 33),
  (14, .aload_n 0), (15, .iconst 0), (16, .putfield 22), (19, .aload_n 0), (20, .iconst (-1)), (21, .putfield 15), (24, .iconst 0), (25, .istore_n 2),
  (26, .iload_n 2), (27, .sipush 400), (30, .if_icmp .gt 58), (33, .aload_n 0), (34, .invokevirtual 36), (37, .aload_n 0), (38, .getfield 39), (41, .ifCond .ne 14),
  (44, .aload_n 0), (45, .getfield 33), (48, .iconst 4), (49, .if_icmp .ne 6), (52, .goto 36), (55, .aload_n 0), (56, .aload_n 0), (57, .aload_n 1),
  (58, .invokevirtual 42), (61, .putfield 22), (64, .aload_n 0), (65, .getfield 22), (68, .ifCond .eq 14), (71, .aload_n 0), (72, .aload_n 0), (73, .getfield 46),
  (76, .putfield 15), (79, .goto 9), (82, .iinc 2 1), (85, .goto (-59)), (88, .aload_n 0), (89, .iconst 0), (90, .putfield 19), (93, .aload_n 0),
  (94, .getfield 22), (97, .ifCond .ne 7), (100, .iconst 1), (101, .goto 4), (104, .iconst 0), (105, .ireturn)]
def am_kX6_byteAt : List (Nat × Instr) := [(0, .iload_n 1), (1, .ifCond .lt 27), (4, .iload_n 1), (5, .aload_n 0), (6, .getfield 19), (9, .if_icmp .ge 19), (12, .iload_n 1), (13, .sipush 400),
  (16, .if_icmp .ge 12), (19, .aload_n 0), (20, .getfield 9), (23, .iload_n 1), (24, .baload), (25, .goto 4), (28, .iconst (-1)), (29, .ireturn)]
def am_kX6_isLetter : List (Nat × Instr) := [(0, .aload_n 0), (1, .iload_n 1), (2, .invokevirtual 49), (5, .bipush 97), (7, .if_icmp .lt 17), (10, .aload_n 0), (11, .iload_n 1), (12, .invokevirtual 49),
  (15, .bipush 122), (17, .if_icmp .gt 7), (20, .iconst 1), (21, .goto 4), (24, .iconst 0), (25, .ireturn)]
def am_kX6_isDigit : List (Nat × Instr) := [(0, .aload_n 0), (1, .iload_n 1), (2, .invokevirtual 49), (5, .bipush 48), (7, .if_icmp .lt 17), (10, .aload_n 0), (11, .iload_n 1), (12, .invokevirtual 49),
  (15, .bipush 57), (17, .if_icmp .gt 7), (20, .iconst 1), (21, .goto 4), (24, .iconst 0), (25, .ireturn)]
def am_kX6_scan : List (Nat × Instr) := [(0, .aload_n 0), (1, .aload_n 0), (2, .getfield 30), (5, .putfield 46), (8, .aload_n 0), (9, .getfield 46), (12, .aload_n 0), (13, .getfield 19),
  (16, .if_icmp .ge 42), (19, .aload_n 0), (20, .aload_n 0), (21, .getfield 46), (24, .invokevirtual 49), (27, .bipush 32), (29, .if_icmp .eq 16), (32, .aload_n 0),
  (33, .aload_n 0), (34, .getfield 46), (37, .invokevirtual 49), (40, .bipush 10), (42, .if_icmp .ne 16), (45, .aload_n 0), (46, .dup), (47, .getfield 46),
  (50, .iconst 1), (51, .iadd), (52, .putfield 46), (55, .goto (-47)), (58, .aload_n 0), (59, .aload_n 0), (60, .getfield 46), (63, .putfield 30),
  (66, .aload_n 0), (67, .getfield 46), (70, .aload_n 0), (71, .getfield 19), (74, .if_icmp .lt 11), (77, .aload_n 0), (78, .iconst 0), (79, .putfield 39),
  (82, .goto 66), (85, .aload_n 0), (86, .aload_n 0), (87, .getfield 46), (90, .invokevirtual 53), (93, .ifCond .eq 10), (96, .aload_n 0), (97, .invokevirtual 57),
  (100, .goto 48), (103, .aload_n 0), (104, .aload_n 0), (105, .getfield 46), (108, .invokevirtual 60), (111, .ifCond .eq 10), (114, .aload_n 0), (115, .invokevirtual 63),
  (118, .goto 30), (121, .aload_n 0), (122, .iconst 3), (123, .putfield 39), (126, .aload_n 0), (127, .aload_n 0), (128, .aload_n 0), (129, .getfield 46),
  (132, .invokevirtual 49), (135, .putfield 66), (138, .aload_n 0), (139, .dup), (140, .getfield 30), (143, .iconst 1), (144, .iadd), (145, .putfield 30),
  (148, .return_)]
def am_kX6_scanWord : List (Nat × Instr) := [(0, .aload_n 0), (1, .getfield 30), (4, .aload_n 0), (5, .getfield 19), (8, .if_icmp .ge 27), (11, .aload_n 0), (12, .aload_n 0), (13, .getfield 30),
  (16, .invokevirtual 53), (19, .ifCond .eq 16), (22, .aload_n 0), (23, .dup), (24, .getfield 30), (27, .iconst 1), (28, .iadd), (29, .putfield 30),
  (32, .goto (-32)), (35, .aload_n 0), (36, .iconst 1), (37, .putfield 39), (40, .aload_n 0), (41, .aload_n 0), (42, .invokevirtual 69), (45, .putfield 66),
  (48, .return_)]
def am_kX6_scanNumber : List (Nat × Instr) := [(0, .aload_n 0), (1, .iconst 2), (2, .putfield 39), (5, .aload_n 0), (6, .iconst 0), (7, .putfield 66), (10, .aload_n 0), (11, .getfield 30),
  (14, .aload_n 0), (15, .getfield 19), (18, .if_icmp .ge 56), (21, .aload_n 0), (22, .aload_n 0), (23, .getfield 30), (26, .invokevirtual 60), (29, .ifCond .eq 45),
  (32, .aload_n 0), (33, .sipush 1000), (36, .bipush 10), (38, .aload_n 0), (39, .getfield 66), (42, .imul), (43, .aload_n 0), (44, .aload_n 0),
  (45, .getfield 30), (48, .invokevirtual 49), (51, .iadd), (52, .bipush 48), (54, .isub), (55, .invokestatic 73), (58, .putfield 66), (61, .aload_n 0),
  (62, .dup), (63, .getfield 30), (66, .iconst 1), (67, .iadd), (68, .putfield 30), (71, .goto (-61)), (74, .return_)]
