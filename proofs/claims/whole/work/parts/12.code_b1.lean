/-! the rows of the methods, group b1: written by wip/whole/code.py -/
def cd_X5_readClause : List (List ms_I) := [
  [(0, .aload_n 0, 1, [], 0, 0), (1, .getfield 46, 3, [5, 8, 170], 0, 0), (4, .istore_n 1, 1, [], 0, 0), (5, .aload_n 0, 1, [], 0, 0), (6, .getfield 33, 3, [5, 4, 165], 0, 0), (9, .bipush 12, 2, [], 12, 0), (11, .if_icmp .ge 17, 3, [28], 0, 0), (14, .iload_n 1, 1, [], 0, 0), (15, .sipush 268, 3, [], 268, 0)],
  [(18, .if_icmp .lt 10, 3, [28], 0, 0), (21, .iload_n 1, 1, [], 0, 0), (22, .sipush 272, 3, [], 272, 0), (25, .if_icmp .le 5, 3, [30], 0, 0), (28, .iconst 0, 1, [], 0, 0), (29, .ireturn, 1, [], 0, 0), (30, .aload_n 0, 1, [], 0, 0), (31, .getfield 30, 3, [5, 3, 164], 0, 0)],
  [(34, .istore_n 2, 1, [], 0, 0), (35, .aload_n 0, 1, [], 0, 0), (36, .invokevirtual 39, 3, [86, 1, 0, 0, 541], 0, 0), (39, .iload_n 1, 1, [], 0, 0), (40, .sipush 272, 3, [], 272, 0), (43, .if_icmp .ne 18, 3, [61], 0, 0), (46, .aload_n 0, 1, [], 0, 0), (47, .sipush 300, 3, [], 300, 0)],
  [(50, .invokevirtual 58, 3, [85, 1, 1, 0, 617], 0, 0), (53, .aload_n 0, 1, [], 0, 0), (54, .iconst 0, 1, [], 0, 0), (55, .invokevirtual 58, 3, [85, 1, 1, 0, 617], 0, 0), (58, .goto 13, 3, [71], 0, 0), (61, .aload_n 0, 1, [], 0, 0), (62, .iconst 0, 1, [], 0, 0), (63, .invokevirtual 62, 3, [78, 1, 1, 1, 621], 0, 0)],
  [(66, .ifCond .ne 5, 3, [71], 0, 0), (69, .iconst 0, 1, [], 0, 0), (70, .ireturn, 1, [], 0, 0), (71, .aload_n 0, 1, [], 0, 0), (72, .getfield 30, 3, [5, 3, 164], 0, 0), (75, .istore_n 3, 1, [], 0, 0), (76, .aload_n 0, 1, [], 0, 0), (77, .getfield 46, 3, [5, 8, 170], 0, 0)],
  [(80, .sipush 273, 3, [], 273, 0), (83, .if_icmp .ne 17, 3, [100], 0, 0), (86, .aload_n 0, 1, [], 0, 0), (87, .invokevirtual 39, 3, [86, 1, 0, 0, 541], 0, 0), (90, .aload_n 0, 1, [], 0, 0), (91, .iconst 0, 1, [], 0, 0), (92, .invokevirtual 66, 3, [73, 1, 1, 1, 637], 0, 0), (95, .ifCond .ne 5, 3, [100], 0, 0)],
  [(98, .iconst 0, 1, [], 0, 0), (99, .ireturn, 1, [], 0, 0), (100, .aload_n 0, 1, [], 0, 0), (101, .getfield 33, 3, [5, 4, 165], 0, 0), (104, .iconst 4, 1, [], 4, 0), (105, .imul, 1, [], 0, 0), (106, .istore 4, 2, [], 0, 0), (108, .aload_n 0, 1, [], 0, 0), (109, .getfield 19, 3, [5, 2, 163], 0, 0)],
  [(112, .iload 4, 2, [], 0, 0), (114, .iconst 0, 1, [], 0, 0), (115, .iadd, 1, [], 0, 0), (116, .iload_n 1, 1, [], 0, 0), (117, .iastore, 1, [], 0, 0), (118, .aload_n 0, 1, [], 0, 0), (119, .getfield 19, 3, [5, 2, 163], 0, 0), (122, .iload 4, 2, [], 0, 0), (124, .iconst 1, 1, [], 1, 0), (125, .iadd, 1, [], 0, 0), (126, .iload_n 2, 1, [], 0, 0), (127, .iastore, 1, [], 0, 0)],
  [(128, .aload_n 0, 1, [], 0, 0), (129, .getfield 19, 3, [5, 2, 163], 0, 0), (132, .iload 4, 2, [], 0, 0), (134, .iconst 2, 1, [], 2, 0), (135, .iadd, 1, [], 0, 0), (136, .iload_n 3, 1, [], 0, 0), (137, .iastore, 1, [], 0, 0), (138, .aload_n 0, 1, [], 0, 0), (139, .getfield 19, 3, [5, 2, 163], 0, 0), (142, .iload 4, 2, [], 0, 0)],
  [(144, .iconst 3, 1, [], 3, 0), (145, .iadd, 1, [], 0, 0), (146, .aload_n 0, 1, [], 0, 0), (147, .getfield 30, 3, [5, 3, 164], 0, 0), (150, .iastore, 1, [], 0, 0), (151, .aload_n 0, 1, [], 0, 0), (152, .dup, 1, [], 0, 0), (153, .getfield 33, 3, [5, 4, 165], 0, 0), (156, .iconst 1, 1, [], 1, 0), (157, .iadd, 1, [], 0, 0), (158, .putfield 33, 3, [5, 4, 165], 0, 0)],
  [(161, .iconst 1, 1, [], 1, 0), (162, .ireturn, 1, [], 0, 0)]]
set_option maxRecDepth 100000 in
theorem ok_X5_readClause : ms_okC (ms_Y 72).1.cls (ms_Y 72).1.name (ms_Y 72).2.2.1 (ms_Y 72).2.1 cd_X5_readClause = true := by decide +kernel
def cd_X5_readTest : List (List ms_I) := [
  [(0, .aload_n 0, 1, [], 0, 0), (1, .iload_n 1, 1, [], 0, 0), (2, .invokevirtual 69, 3, [74, 1, 1, 1, 641], 0, 0), (5, .ifCond .ne 5, 3, [10], 0, 0), (8, .iconst 0, 1, [], 0, 0), (9, .ireturn, 1, [], 0, 0), (10, .iconst 0, 1, [], 0, 0), (11, .istore_n 2, 1, [], 0, 0), (12, .iload_n 2, 1, [], 0, 0), (13, .sipush 400, 3, [], 400, 0)],
  [(16, .if_icmp .ge 39, 3, [55], 0, 0), (19, .aload_n 0, 1, [], 0, 0), (20, .getfield 46, 3, [5, 8, 170], 0, 0), (23, .sipush 274, 3, [], 274, 0), (26, .if_icmp .ne 29, 3, [55], 0, 0), (29, .aload_n 0, 1, [], 0, 0), (30, .invokevirtual 72, 3, [83, 1, 0, 1, 661], 0, 0)],
  [(33, .istore_n 3, 1, [], 0, 0), (34, .aload_n 0, 1, [], 0, 0), (35, .iload_n 1, 1, [], 0, 0), (36, .invokevirtual 69, 3, [74, 1, 1, 1, 641], 0, 0), (39, .ifCond .ne 5, 3, [44], 0, 0), (42, .iconst 0, 1, [], 0, 0), (43, .ireturn, 1, [], 0, 0), (44, .aload_n 0, 1, [], 0, 0), (45, .iload_n 3, 1, [], 0, 0), (46, .invokevirtual 76, 3, [84, 1, 1, 0, 665], 0, 0)],
  [(49, .iinc 2 1, 3, [], 1, 0), (52, .goto (-40), 3, [12], 0, 0), (55, .iconst 1, 1, [], 1, 0), (56, .ireturn, 1, [], 0, 0)]]
set_option maxRecDepth 100000 in
theorem ok_X5_readTest : ms_okC (ms_Y 73).1.cls (ms_Y 73).1.name (ms_Y 73).2.2.1 (ms_Y 73).2.1 cd_X5_readTest = true := by decide +kernel
def cd_X5_readBoth : List (List ms_I) := [
  [(0, .aload_n 0, 1, [], 0, 0), (1, .iload_n 1, 1, [], 0, 0), (2, .invokevirtual 79, 3, [75, 1, 1, 1, 645], 0, 0), (5, .ifCond .ne 5, 3, [10], 0, 0), (8, .iconst 0, 1, [], 0, 0), (9, .ireturn, 1, [], 0, 0), (10, .iconst 0, 1, [], 0, 0), (11, .istore_n 2, 1, [], 0, 0), (12, .iload_n 2, 1, [], 0, 0), (13, .sipush 400, 3, [], 400, 0)],
  [(16, .if_icmp .ge 39, 3, [55], 0, 0), (19, .aload_n 0, 1, [], 0, 0), (20, .getfield 46, 3, [5, 8, 170], 0, 0), (23, .sipush 275, 3, [], 275, 0), (26, .if_icmp .ne 29, 3, [55], 0, 0), (29, .aload_n 0, 1, [], 0, 0), (30, .invokevirtual 72, 3, [83, 1, 0, 1, 661], 0, 0)],
  [(33, .istore_n 3, 1, [], 0, 0), (34, .aload_n 0, 1, [], 0, 0), (35, .iload_n 1, 1, [], 0, 0), (36, .invokevirtual 79, 3, [75, 1, 1, 1, 645], 0, 0), (39, .ifCond .ne 5, 3, [44], 0, 0), (42, .iconst 0, 1, [], 0, 0), (43, .ireturn, 1, [], 0, 0), (44, .aload_n 0, 1, [], 0, 0), (45, .iload_n 3, 1, [], 0, 0), (46, .invokevirtual 76, 3, [84, 1, 1, 0, 665], 0, 0)],
  [(49, .iinc 2 1, 3, [], 1, 0), (52, .goto (-40), 3, [12], 0, 0), (55, .iconst 1, 1, [], 1, 0), (56, .ireturn, 1, [], 0, 0)]]
set_option maxRecDepth 100000 in
theorem ok_X5_readBoth : ms_okC (ms_Y 74).1.cls (ms_Y 74).1.name (ms_Y 74).2.2.1 (ms_Y 74).2.1 cd_X5_readBoth = true := by decide +kernel
def cd_X5_readPlain : List (List ms_I) := [
  [(0, .iconst 0, 1, [], 0, 0), (1, .istore_n 2, 1, [], 0, 0), (2, .iconst 0, 1, [], 0, 0), (3, .istore_n 3, 1, [], 0, 0), (4, .iload_n 3, 1, [], 0, 0), (5, .sipush 400, 3, [], 400, 0), (8, .if_icmp .ge 33, 3, [41], 0, 0), (11, .aload_n 0, 1, [], 0, 0), (12, .getfield 46, 3, [5, 8, 170], 0, 0), (15, .sipush 276, 3, [], 276, 0)],
  [(18, .if_icmp .ne 23, 3, [41], 0, 0), (21, .iload_n 2, 1, [], 0, 0), (22, .ifCond .ne 7, 3, [29], 0, 0), (25, .iconst 1, 1, [], 1, 0), (26, .goto 4, 3, [30], 0, 0), (29, .iconst 0, 1, [], 0, 0), (30, .istore_n 2, 1, [], 0, 0), (31, .aload_n 0, 1, [], 0, 0)],
  [(32, .invokevirtual 39, 3, [86, 1, 0, 0, 541], 0, 0), (35, .iinc 3 1, 3, [], 1, 0), (38, .goto (-34), 3, [4], 0, 0), (41, .aload_n 0, 1, [], 0, 0), (42, .getfield 46, 3, [5, 8, 170], 0, 0), (45, .bipush 40, 2, [], 40, 0), (47, .if_icmp .ne 11, 3, [58], 0, 0)],
  [(50, .aload_n 0, 1, [], 0, 0), (51, .iload_n 1, 1, [], 0, 0), (52, .invokevirtual 82, 3, [76, 1, 1, 1, 633], 0, 0), (55, .goto 22, 3, [77], 0, 0), (58, .aload_n 0, 1, [], 0, 0), (59, .invokevirtual 85, 3, [81, 1, 0, 1, 649], 0, 0), (62, .ifCond .eq 10, 3, [72], 0, 0)],
  [(65, .aload_n 0, 1, [], 0, 0), (66, .invokevirtual 88, 3, [82, 1, 0, 1, 653], 0, 0), (69, .goto 8, 3, [77], 0, 0), (72, .aload_n 0, 1, [], 0, 0), (73, .iload_n 1, 1, [], 0, 0), (74, .invokevirtual 91, 3, [77, 1, 1, 1, 657], 0, 0), (77, .istore_n 3, 1, [], 0, 0), (78, .iload_n 3, 1, [], 0, 0), (79, .ifCond .eq 14, 3, [93], 0, 0)],
  [(82, .iload_n 2, 1, [], 0, 0), (83, .ifCond .eq 10, 3, [93], 0, 0), (86, .aload_n 0, 1, [], 0, 0), (87, .sipush 276, 3, [], 276, 0), (90, .invokevirtual 58, 3, [85, 1, 1, 0, 617], 0, 0), (93, .iload_n 3, 1, [], 0, 0), (94, .ireturn, 1, [], 0, 0)]]
set_option maxRecDepth 100000 in
theorem ok_X5_readPlain : ms_okC (ms_Y 75).1.cls (ms_Y 75).1.name (ms_Y 75).2.2.1 (ms_Y 75).2.1 cd_X5_readPlain = true := by decide +kernel
def cd_X5_readBracket : List (List ms_I) := [
  [(0, .iload_n 1, 1, [], 0, 0), (1, .bipush 8, 2, [], 8, 0), (3, .if_icmp .lt 5, 3, [8], 0, 0), (6, .iconst 0, 1, [], 0, 0), (7, .ireturn, 1, [], 0, 0), (8, .aload_n 0, 1, [], 0, 0), (9, .getfield 46, 3, [5, 8, 170], 0, 0), (12, .bipush 91, 2, [], 91, 0), (14, .if_icmp .ne 7, 3, [21], 0, 0)],
  [(17, .iconst 1, 1, [], 1, 0), (18, .goto 4, 3, [22], 0, 0), (21, .iconst 0, 1, [], 0, 0), (22, .istore_n 2, 1, [], 0, 0), (23, .aload_n 0, 1, [], 0, 0), (24, .invokevirtual 39, 3, [86, 1, 0, 0, 541], 0, 0), (27, .iload_n 2, 1, [], 0, 0), (28, .ifCond .eq 16, 3, [44], 0, 0), (31, .aload_n 0, 1, [], 0, 0)],
  [(32, .iload_n 1, 1, [], 0, 0), (33, .iconst 1, 1, [], 1, 0), (34, .iadd, 1, [], 0, 0), (35, .invokevirtual 62, 3, [78, 1, 1, 1, 621], 0, 0), (38, .ifCond .eq 34, 3, [72], 0, 0), (41, .goto 13, 3, [54], 0, 0), (44, .aload_n 0, 1, [], 0, 0), (45, .iload_n 1, 1, [], 0, 0), (46, .iconst 1, 1, [], 1, 0), (47, .iadd, 1, [], 0, 0)],
  [(48, .invokevirtual 66, 3, [73, 1, 1, 1, 637], 0, 0), (51, .ifCond .eq 21, 3, [72], 0, 0), (54, .aload_n 0, 1, [], 0, 0), (55, .getfield 46, 3, [5, 8, 170], 0, 0), (58, .iload_n 2, 1, [], 0, 0), (59, .ifCond .eq 8, 3, [67], 0, 0), (62, .bipush 93, 2, [], 93, 0)],
  [(64, .goto 5, 3, [69], 0, 0), (67, .bipush 41, 2, [], 41, 0), (69, .if_icmp .eq 5, 3, [74], 0, 0), (72, .iconst 0, 1, [], 0, 0), (73, .ireturn, 1, [], 0, 0), (74, .aload_n 0, 1, [], 0, 0), (75, .invokevirtual 39, 3, [86, 1, 0, 0, 541], 0, 0), (78, .iconst 1, 1, [], 1, 0), (79, .ireturn, 1, [], 0, 0)]]
set_option maxRecDepth 100000 in
theorem ok_X5_readBracket : ms_okC (ms_Y 76).1.cls (ms_Y 76).1.name (ms_Y 76).2.2.1 (ms_Y 76).2.1 cd_X5_readBracket = true := by decide +kernel
def cd_X5_readComparison : List (List ms_I) := [
  [(0, .aload_n 0, 1, [], 0, 0), (1, .iload_n 1, 1, [], 0, 0), (2, .invokevirtual 62, 3, [78, 1, 1, 1, 621], 0, 0), (5, .ifCond .ne 5, 3, [10], 0, 0), (8, .iconst 0, 1, [], 0, 0), (9, .ireturn, 1, [], 0, 0), (10, .aload_n 0, 1, [], 0, 0), (11, .getfield 46, 3, [5, 8, 170], 0, 0), (14, .istore_n 2, 1, [], 0, 0), (15, .iload_n 2, 1, [], 0, 0)],
  [(16, .bipush 60, 2, [], 60, 0), (18, .if_icmp .eq 17, 3, [35], 0, 0), (21, .iload_n 2, 1, [], 0, 0), (22, .bipush 62, 2, [], 62, 0), (24, .if_icmp .eq 11, 3, [35], 0, 0), (27, .iload_n 2, 1, [], 0, 0), (28, .bipush 61, 2, [], 61, 0), (30, .if_icmp .eq 5, 3, [35], 0, 0)],
  [(33, .iconst 0, 1, [], 0, 0), (34, .ireturn, 1, [], 0, 0), (35, .aload_n 0, 1, [], 0, 0), (36, .invokevirtual 39, 3, [86, 1, 0, 0, 541], 0, 0), (39, .aload_n 0, 1, [], 0, 0), (40, .iload_n 1, 1, [], 0, 0), (41, .invokevirtual 62, 3, [78, 1, 1, 1, 621], 0, 0), (44, .ifCond .ne 5, 3, [49], 0, 0), (47, .iconst 0, 1, [], 0, 0)],
  [(48, .ireturn, 1, [], 0, 0), (49, .aload_n 0, 1, [], 0, 0), (50, .iload_n 2, 1, [], 0, 0), (51, .invokevirtual 58, 3, [85, 1, 1, 0, 617], 0, 0), (54, .iconst 1, 1, [], 1, 0), (55, .ireturn, 1, [], 0, 0)]]
set_option maxRecDepth 100000 in
theorem ok_X5_readComparison : ms_okC (ms_Y 77).1.cls (ms_Y 77).1.name (ms_Y 77).2.2.1 (ms_Y 77).2.1 cd_X5_readComparison = true := by decide +kernel
def cd_X5_readSum : List (List ms_I) := [
  [(0, .aload_n 0, 1, [], 0, 0), (1, .iload_n 1, 1, [], 0, 0), (2, .invokevirtual 94, 3, [79, 1, 1, 1, 625], 0, 0), (5, .ifCond .ne 5, 3, [10], 0, 0), (8, .iconst 0, 1, [], 0, 0), (9, .ireturn, 1, [], 0, 0), (10, .iconst 0, 1, [], 0, 0), (11, .istore_n 2, 1, [], 0, 0), (12, .iload_n 2, 1, [], 0, 0), (13, .sipush 400, 3, [], 400, 0)],
  [(16, .if_icmp .ge 51, 3, [67], 0, 0), (19, .aload_n 0, 1, [], 0, 0), (20, .getfield 46, 3, [5, 8, 170], 0, 0), (23, .bipush 43, 2, [], 43, 0), (25, .if_icmp .eq 12, 3, [37], 0, 0), (28, .aload_n 0, 1, [], 0, 0), (29, .getfield 46, 3, [5, 8, 170], 0, 0)],
  [(32, .bipush 45, 2, [], 45, 0), (34, .if_icmp .ne 33, 3, [67], 0, 0), (37, .aload_n 0, 1, [], 0, 0), (38, .getfield 46, 3, [5, 8, 170], 0, 0), (41, .istore_n 3, 1, [], 0, 0), (42, .aload_n 0, 1, [], 0, 0), (43, .invokevirtual 39, 3, [86, 1, 0, 0, 541], 0, 0), (46, .aload_n 0, 1, [], 0, 0), (47, .iload_n 1, 1, [], 0, 0)],
  [(48, .invokevirtual 94, 3, [79, 1, 1, 1, 625], 0, 0), (51, .ifCond .ne 5, 3, [56], 0, 0), (54, .iconst 0, 1, [], 0, 0), (55, .ireturn, 1, [], 0, 0), (56, .aload_n 0, 1, [], 0, 0), (57, .iload_n 3, 1, [], 0, 0), (58, .invokevirtual 58, 3, [85, 1, 1, 0, 617], 0, 0), (61, .iinc 2 1, 3, [], 1, 0)],
  [(64, .goto (-52), 3, [12], 0, 0), (67, .iconst 1, 1, [], 1, 0), (68, .ireturn, 1, [], 0, 0)]]
set_option maxRecDepth 100000 in
theorem ok_X5_readSum : ms_okC (ms_Y 78).1.cls (ms_Y 78).1.name (ms_Y 78).2.2.1 (ms_Y 78).2.1 cd_X5_readSum = true := by decide +kernel
def cd_X5_readTerm : List (List ms_I) := [
  [(0, .aload_n 0, 1, [], 0, 0), (1, .iload_n 1, 1, [], 0, 0), (2, .invokevirtual 97, 3, [80, 1, 1, 1, 629], 0, 0), (5, .ifCond .ne 5, 3, [10], 0, 0), (8, .iconst 0, 1, [], 0, 0), (9, .ireturn, 1, [], 0, 0), (10, .iconst 0, 1, [], 0, 0), (11, .istore_n 2, 1, [], 0, 0), (12, .iload_n 2, 1, [], 0, 0), (13, .sipush 400, 3, [], 400, 0)],
  [(16, .if_icmp .ge 51, 3, [67], 0, 0), (19, .aload_n 0, 1, [], 0, 0), (20, .getfield 46, 3, [5, 8, 170], 0, 0), (23, .bipush 42, 2, [], 42, 0), (25, .if_icmp .eq 12, 3, [37], 0, 0), (28, .aload_n 0, 1, [], 0, 0), (29, .getfield 46, 3, [5, 8, 170], 0, 0)],
  [(32, .bipush 47, 2, [], 47, 0), (34, .if_icmp .ne 33, 3, [67], 0, 0), (37, .aload_n 0, 1, [], 0, 0), (38, .getfield 46, 3, [5, 8, 170], 0, 0), (41, .istore_n 3, 1, [], 0, 0), (42, .aload_n 0, 1, [], 0, 0), (43, .invokevirtual 39, 3, [86, 1, 0, 0, 541], 0, 0), (46, .aload_n 0, 1, [], 0, 0), (47, .iload_n 1, 1, [], 0, 0)],
  [(48, .invokevirtual 97, 3, [80, 1, 1, 1, 629], 0, 0), (51, .ifCond .ne 5, 3, [56], 0, 0), (54, .iconst 0, 1, [], 0, 0), (55, .ireturn, 1, [], 0, 0), (56, .aload_n 0, 1, [], 0, 0), (57, .iload_n 3, 1, [], 0, 0), (58, .invokevirtual 58, 3, [85, 1, 1, 0, 617], 0, 0), (61, .iinc 2 1, 3, [], 1, 0)],
  [(64, .goto (-52), 3, [12], 0, 0), (67, .iconst 1, 1, [], 1, 0), (68, .ireturn, 1, [], 0, 0)]]
set_option maxRecDepth 100000 in
theorem ok_X5_readTerm : ms_okC (ms_Y 79).1.cls (ms_Y 79).1.name (ms_Y 79).2.2.1 (ms_Y 79).2.1 cd_X5_readTerm = true := by decide +kernel
def cd_X5_readPart : List (List ms_I) := [
  [(0, .aload_n 0, 1, [], 0, 0), (1, .getfield 46, 3, [5, 8, 170], 0, 0), (4, .bipush 91, 2, [], 91, 0), (6, .if_icmp .ne 9, 3, [15], 0, 0), (9, .aload_n 0, 1, [], 0, 0), (10, .iload_n 1, 1, [], 0, 0), (11, .invokevirtual 82, 3, [76, 1, 1, 1, 633], 0, 0), (14, .ireturn, 1, [], 0, 0), (15, .aload_n 0, 1, [], 0, 0)],
  [(16, .getfield 46, 3, [5, 8, 170], 0, 0), (19, .sipush 256, 3, [], 256, 0), (22, .if_icmp .lt 17, 3, [39], 0, 0), (25, .aload_n 0, 1, [], 0, 0), (26, .getfield 46, 3, [5, 8, 170], 0, 0), (29, .sipush 263, 3, [], 263, 0)],
  [(32, .if_icmp .ge 7, 3, [39], 0, 0), (35, .iconst 1, 1, [], 1, 0), (36, .goto 4, 3, [40], 0, 0), (39, .iconst 0, 1, [], 0, 0), (40, .istore_n 2, 1, [], 0, 0), (41, .aload_n 0, 1, [], 0, 0), (42, .getfield 46, 3, [5, 8, 170], 0, 0), (45, .sipush 300, 3, [], 300, 0)],
  [(48, .if_icmp .ne 16, 3, [64], 0, 0), (51, .aload_n 0, 1, [], 0, 0), (52, .getfield 100, 3, [5, 9, 171], 0, 0), (55, .ldc 103, 2, [669], 100000, 0), (57, .if_icmp .gt 7, 3, [64], 0, 0), (60, .iconst 1, 1, [], 1, 0), (61, .goto 4, 3, [65], 0, 0)],
  [(64, .iconst 0, 1, [], 0, 0), (65, .istore_n 3, 1, [], 0, 0), (66, .iload_n 2, 1, [], 0, 0), (67, .ifCond .ne 7, 3, [74], 0, 0), (70, .iload_n 3, 1, [], 0, 0), (71, .ifCond .eq 14, 3, [85], 0, 0), (74, .aload_n 0, 1, [], 0, 0), (75, .invokevirtual 88, 3, [82, 1, 0, 1, 653], 0, 0), (78, .ifCond .eq 7, 3, [85], 0, 0)],
  [(81, .iconst 1, 1, [], 1, 0), (82, .goto 4, 3, [86], 0, 0), (85, .iconst 0, 1, [], 0, 0), (86, .ireturn, 1, [], 0, 0)]]
set_option maxRecDepth 100000 in
theorem ok_X5_readPart : ms_okC (ms_Y 80).1.cls (ms_Y 80).1.name (ms_Y 80).2.2.1 (ms_Y 80).2.1 cd_X5_readPart = true := by decide +kernel
def cd_X5_isPlain : List (List ms_I) := [
  [(0, .aload_n 0, 1, [], 0, 0), (1, .getfield 46, 3, [5, 8, 170], 0, 0), (4, .sipush 263, 3, [], 263, 0), (7, .if_icmp .lt 17, 3, [24], 0, 0), (10, .aload_n 0, 1, [], 0, 0), (11, .getfield 46, 3, [5, 8, 170], 0, 0), (14, .sipush 268, 3, [], 268, 0)],
  [(17, .if_icmp .ge 7, 3, [24], 0, 0), (20, .iconst 1, 1, [], 1, 0), (21, .goto 4, 3, [25], 0, 0), (24, .iconst 0, 1, [], 0, 0), (25, .ireturn, 1, [], 0, 0)]]
set_option maxRecDepth 100000 in
theorem ok_X5_isPlain : ms_okC (ms_Y 81).1.cls (ms_Y 81).1.name (ms_Y 81).2.2.1 (ms_Y 81).2.1 cd_X5_isPlain = true := by decide +kernel
def cd_X5_readLeaf : List (List ms_I) := [
  [(0, .aload_n 0, 1, [], 0, 0), (1, .getfield 36, 3, [5, 5, 166], 0, 0), (4, .bipush 50, 2, [], 50, 0), (6, .if_icmp .lt 5, 3, [11], 0, 0), (9, .iconst 0, 1, [], 0, 0), (10, .ireturn, 1, [], 0, 0), (11, .aload_n 0, 1, [], 0, 0), (12, .dup, 1, [], 0, 0), (13, .getfield 36, 3, [5, 5, 166], 0, 0)],
  [(16, .iconst 1, 1, [], 1, 0), (17, .iadd, 1, [], 0, 0), (18, .putfield 36, 3, [5, 5, 166], 0, 0), (21, .aload_n 0, 1, [], 0, 0), (22, .aload_n 0, 1, [], 0, 0), (23, .getfield 46, 3, [5, 8, 170], 0, 0), (26, .invokevirtual 58, 3, [85, 1, 1, 0, 617], 0, 0), (29, .aload_n 0, 1, [], 0, 0), (30, .getfield 46, 3, [5, 8, 170], 0, 0)],
  [(33, .sipush 300, 3, [], 300, 0), (36, .if_icmp .ne 11, 3, [47], 0, 0), (39, .aload_n 0, 1, [], 0, 0), (40, .aload_n 0, 1, [], 0, 0), (41, .getfield 100, 3, [5, 9, 171], 0, 0), (44, .invokevirtual 58, 3, [85, 1, 1, 0, 617], 0, 0), (47, .aload_n 0, 1, [], 0, 0)],
  [(48, .invokevirtual 39, 3, [86, 1, 0, 0, 541], 0, 0), (51, .iconst 1, 1, [], 1, 0), (52, .ireturn, 1, [], 0, 0)]]
set_option maxRecDepth 100000 in
theorem ok_X5_readLeaf : ms_okC (ms_Y 82).1.cls (ms_Y 82).1.name (ms_Y 82).2.2.1 (ms_Y 82).2.1 cd_X5_readLeaf = true := by decide +kernel
def cd_X5_emitJump : List (List ms_I) := [
  [(0, .aload_n 0, 1, [], 0, 0), (1, .aload_n 0, 1, [], 0, 0), (2, .getfield 46, 3, [5, 8, 170], 0, 0), (5, .invokevirtual 58, 3, [85, 1, 1, 0, 617], 0, 0), (8, .aload_n 0, 1, [], 0, 0), (9, .iconst 0, 1, [], 0, 0), (10, .invokevirtual 58, 3, [85, 1, 1, 0, 617], 0, 0), (13, .aload_n 0, 1, [], 0, 0), (14, .invokevirtual 39, 3, [86, 1, 0, 0, 541], 0, 0)],
  [(17, .aload_n 0, 1, [], 0, 0), (18, .getfield 30, 3, [5, 3, 164], 0, 0), (21, .iconst 1, 1, [], 1, 0), (22, .isub, 1, [], 0, 0), (23, .ireturn, 1, [], 0, 0)]]
set_option maxRecDepth 100000 in
theorem ok_X5_emitJump : ms_okC (ms_Y 83).1.cls (ms_Y 83).1.name (ms_Y 83).2.2.1 (ms_Y 83).2.1 cd_X5_emitJump = true := by decide +kernel
def cd_X5_aim : List (List ms_I) := [
  [(0, .iload_n 1, 1, [], 0, 0), (1, .ifCond .lt 22, 3, [23], 0, 0), (4, .iload_n 1, 1, [], 0, 0), (5, .aload_n 0, 1, [], 0, 0), (6, .getfield 13, 3, [5, 1, 162], 0, 0), (9, .arraylength, 1, [], 0, 0), (10, .if_icmp .ge 13, 3, [23], 0, 0), (13, .aload_n 0, 1, [], 0, 0), (14, .getfield 13, 3, [5, 1, 162], 0, 0)],
  [(17, .iload_n 1, 1, [], 0, 0), (18, .aload_n 0, 1, [], 0, 0), (19, .getfield 30, 3, [5, 3, 164], 0, 0), (22, .iastore, 1, [], 0, 0), (23, .return_, 1, [], 0, 0)]]
set_option maxRecDepth 100000 in
theorem ok_X5_aim : ms_okC (ms_Y 84).1.cls (ms_Y 84).1.name (ms_Y 84).2.2.1 (ms_Y 84).2.1 cd_X5_aim = true := by decide +kernel
def cd_X5_emit : List (List ms_I) := [
  [(0, .aload_n 0, 1, [], 0, 0), (1, .getfield 30, 3, [5, 3, 164], 0, 0), (4, .aload_n 0, 1, [], 0, 0), (5, .getfield 13, 3, [5, 1, 162], 0, 0), (8, .arraylength, 1, [], 0, 0), (9, .if_icmp .ge 23, 3, [32], 0, 0), (12, .aload_n 0, 1, [], 0, 0), (13, .getfield 13, 3, [5, 1, 162], 0, 0)],
  [(16, .aload_n 0, 1, [], 0, 0), (17, .getfield 30, 3, [5, 3, 164], 0, 0), (20, .iload_n 1, 1, [], 0, 0), (21, .iastore, 1, [], 0, 0), (22, .aload_n 0, 1, [], 0, 0), (23, .dup, 1, [], 0, 0), (24, .getfield 30, 3, [5, 3, 164], 0, 0), (27, .iconst 1, 1, [], 1, 0), (28, .iadd, 1, [], 0, 0), (29, .putfield 30, 3, [5, 3, 164], 0, 0)],
  [(32, .return_, 1, [], 0, 0)]]
set_option maxRecDepth 100000 in
theorem ok_X5_emit : ms_okC (ms_Y 85).1.cls (ms_Y 85).1.name (ms_Y 85).2.2.1 (ms_Y 85).2.1 cd_X5_emit = true := by decide +kernel
def cd_X5_advance : List (List ms_I) := [
  [(0, .aload_n 0, 1, [], 0, 0), (1, .getfield 26, 3, [5, 7, 169], 0, 0), (4, .istore_n 1, 1, [], 0, 0), (5, .iload_n 1, 1, [], 0, 0), (6, .aload_n 0, 1, [], 0, 0), (7, .getfield 22, 3, [5, 0, 161], 0, 0), (10, .getfield 104, 3, [6, 1, 148], 0, 0), (13, .if_icmp .ge 22, 3, [35], 0, 0)],
  [(16, .aload_n 0, 1, [], 0, 0), (17, .getfield 22, 3, [5, 0, 161], 0, 0), (20, .iload_n 1, 1, [], 0, 0), (21, .invokevirtual 107, 3, [93, 1, 1, 1, 545], 0, 0), (24, .bipush 32, 2, [], 32, 0), (26, .if_icmp .ne 9, 3, [35], 0, 0), (29, .iinc 1 1, 3, [], 1, 0)],
  [(32, .goto (-27), 3, [5], 0, 0), (35, .aload_n 0, 1, [], 0, 0), (36, .iload_n 1, 1, [], 0, 0), (37, .putfield 111, 3, [5, 6, 168], 0, 0), (40, .iload_n 1, 1, [], 0, 0), (41, .aload_n 0, 1, [], 0, 0), (42, .getfield 22, 3, [5, 0, 161], 0, 0), (45, .getfield 104, 3, [6, 1, 148], 0, 0)],
  [(48, .if_icmp .lt 16, 3, [64], 0, 0), (51, .aload_n 0, 1, [], 0, 0), (52, .sipush 301, 3, [], 301, 0), (55, .putfield 46, 3, [5, 8, 170], 0, 0), (58, .aload_n 0, 1, [], 0, 0), (59, .iload_n 1, 1, [], 0, 0), (60, .putfield 26, 3, [5, 7, 169], 0, 0), (63, .return_, 1, [], 0, 0)],
  [(64, .aload_n 0, 1, [], 0, 0), (65, .getfield 22, 3, [5, 0, 161], 0, 0), (68, .iload_n 1, 1, [], 0, 0), (69, .invokevirtual 107, 3, [93, 1, 1, 1, 545], 0, 0), (72, .istore_n 2, 1, [], 0, 0), (73, .iload_n 1, 1, [], 0, 0), (74, .iconst 1, 1, [], 1, 0), (75, .iadd, 1, [], 0, 0), (76, .istore_n 3, 1, [], 0, 0), (77, .iload_n 2, 1, [], 0, 0), (78, .invokestatic 114, 3, [87, 0, 1, 1, 546], 0, 0)],
  [(81, .ifCond .eq 47, 3, [128], 0, 0), (84, .iload_n 3, 1, [], 0, 0), (85, .aload_n 0, 1, [], 0, 0), (86, .getfield 22, 3, [5, 0, 161], 0, 0), (89, .getfield 104, 3, [6, 1, 148], 0, 0), (92, .if_icmp .ge 23, 3, [115], 0, 0), (95, .aload_n 0, 1, [], 0, 0)],
  [(96, .getfield 22, 3, [5, 0, 161], 0, 0), (99, .iload_n 3, 1, [], 0, 0), (100, .invokevirtual 107, 3, [93, 1, 1, 1, 545], 0, 0), (103, .invokestatic 114, 3, [87, 0, 1, 1, 546], 0, 0), (106, .ifCond .eq 9, 3, [115], 0, 0), (109, .iinc 3 1, 3, [], 1, 0)],
  [(112, .goto (-28), 3, [84], 0, 0), (115, .aload_n 0, 1, [], 0, 0), (116, .aload_n 0, 1, [], 0, 0), (117, .iload_n 1, 1, [], 0, 0), (118, .iload_n 3, 1, [], 0, 0), (119, .invokevirtual 117, 3, [90, 1, 2, 1, 549], 0, 0), (122, .putfield 46, 3, [5, 8, 170], 0, 0), (125, .goto 66, 3, [191], 0, 0)],
  [(128, .iload_n 2, 1, [], 0, 0), (129, .invokestatic 121, 3, [88, 0, 1, 1, 602], 0, 0), (132, .ifCond .eq 54, 3, [186], 0, 0), (135, .iload_n 3, 1, [], 0, 0), (136, .aload_n 0, 1, [], 0, 0), (137, .getfield 22, 3, [5, 0, 161], 0, 0), (140, .getfield 104, 3, [6, 1, 148], 0, 0), (143, .if_icmp .ge 23, 3, [166], 0, 0)],
  [(146, .aload_n 0, 1, [], 0, 0), (147, .getfield 22, 3, [5, 0, 161], 0, 0), (150, .iload_n 3, 1, [], 0, 0), (151, .invokevirtual 107, 3, [93, 1, 1, 1, 545], 0, 0), (154, .invokestatic 121, 3, [88, 0, 1, 1, 602], 0, 0), (157, .ifCond .eq 9, 3, [166], 0, 0)],
  [(160, .iinc 3 1, 3, [], 1, 0), (163, .goto (-28), 3, [135], 0, 0), (166, .aload_n 0, 1, [], 0, 0), (167, .sipush 300, 3, [], 300, 0), (170, .putfield 46, 3, [5, 8, 170], 0, 0), (173, .aload_n 0, 1, [], 0, 0), (174, .aload_n 0, 1, [], 0, 0), (175, .iload_n 1, 1, [], 0, 0)],
  [(176, .iload_n 3, 1, [], 0, 0), (177, .invokevirtual 124, 3, [89, 1, 2, 1, 605], 0, 0), (180, .putfield 100, 3, [5, 9, 171], 0, 0), (183, .goto 8, 3, [191], 0, 0), (186, .aload_n 0, 1, [], 0, 0), (187, .iload_n 2, 1, [], 0, 0), (188, .putfield 46, 3, [5, 8, 170], 0, 0), (191, .aload_n 0, 1, [], 0, 0)],
  [(192, .iload_n 3, 1, [], 0, 0), (193, .putfield 26, 3, [5, 7, 169], 0, 0), (196, .return_, 1, [], 0, 0)]]
set_option maxRecDepth 100000 in
theorem ok_X5_advance : ms_okC (ms_Y 86).1.cls (ms_Y 86).1.name (ms_Y 86).2.2.1 (ms_Y 86).2.1 cd_X5_advance = true := by decide +kernel
def cd_X5_isLetter : List (List ms_I) := [
  [(0, .iload_n 0, 1, [], 0, 0), (1, .bipush 97, 2, [], 97, 0), (3, .if_icmp .lt 13, 3, [16], 0, 0), (6, .iload_n 0, 1, [], 0, 0), (7, .bipush 122, 2, [], 122, 0), (9, .if_icmp .gt 7, 3, [16], 0, 0), (12, .iconst 1, 1, [], 1, 0), (13, .goto 4, 3, [17], 0, 0)],
  [(16, .iconst 0, 1, [], 0, 0), (17, .ireturn, 1, [], 0, 0)]]
set_option maxRecDepth 100000 in
theorem ok_X5_isLetter : ms_okC (ms_Y 87).1.cls (ms_Y 87).1.name (ms_Y 87).2.2.1 (ms_Y 87).2.1 cd_X5_isLetter = true := by decide +kernel
def cd_X5_isDigit : List (List ms_I) := [
  [(0, .iload_n 0, 1, [], 0, 0), (1, .bipush 48, 2, [], 48, 0), (3, .if_icmp .lt 13, 3, [16], 0, 0), (6, .iload_n 0, 1, [], 0, 0), (7, .bipush 57, 2, [], 57, 0), (9, .if_icmp .gt 7, 3, [16], 0, 0), (12, .iconst 1, 1, [], 1, 0), (13, .goto 4, 3, [17], 0, 0)],
  [(16, .iconst 0, 1, [], 0, 0), (17, .ireturn, 1, [], 0, 0)]]
set_option maxRecDepth 100000 in
theorem ok_X5_isDigit : ms_okC (ms_Y 88).1.cls (ms_Y 88).1.name (ms_Y 88).2.2.1 (ms_Y 88).2.1 cd_X5_isDigit = true := by decide +kernel
def cd_X5_numberAt : List (List ms_I) := [
  [(0, .iconst 0, 1, [], 0, 0), (1, .istore_n 3, 1, [], 0, 0), (2, .iload_n 1, 1, [], 0, 0), (3, .istore 4, 2, [], 0, 0), (5, .iload 4, 2, [], 0, 0), (7, .iload_n 2, 1, [], 0, 0), (8, .if_icmp .ge 32, 3, [40], 0, 0), (11, .iload_n 3, 1, [], 0, 0), (12, .bipush 10, 2, [], 10, 0), (14, .imul, 1, [], 0, 0), (15, .aload_n 0, 1, [], 0, 0)],
  [(16, .getfield 22, 3, [5, 0, 161], 0, 0), (19, .iload 4, 2, [], 0, 0), (21, .invokevirtual 107, 3, [93, 1, 1, 1, 545], 0, 0), (24, .iadd, 1, [], 0, 0), (25, .bipush 48, 2, [], 48, 0), (27, .isub, 1, [], 0, 0), (28, .ldc 127, 2, [609], 100001, 0), (30, .invokestatic 128, 3, [1004, 610, 611, 127, 612, 0, 0, 0], 0, 0)],
  [(33, .istore_n 3, 1, [], 0, 0), (34, .iinc 4 1, 3, [], 1, 0), (37, .goto (-32), 3, [5], 0, 0), (40, .iload_n 3, 1, [], 0, 0), (41, .ireturn, 1, [], 0, 0)]]
set_option maxRecDepth 100000 in
theorem ok_X5_numberAt : ms_okC (ms_Y 89).1.cls (ms_Y 89).1.name (ms_Y 89).2.2.1 (ms_Y 89).2.1 cd_X5_numberAt = true := by decide +kernel
def cd_X5_wordAt : List (List ms_I) := [
  [(0, .sipush 256, 3, [], 256, 0), (3, .istore_n 3, 1, [], 0, 0), (4, .iconst 0, 1, [], 0, 0), (5, .istore 4, 2, [], 0, 0), (7, .iconst 0, 1, [], 0, 0), (8, .istore 5, 2, [], 0, 0), (10, .iload 5, 2, [], 0, 0), (12, .ldc 133, 2, [0, 0], 0, 0), (14, .invokevirtual 135, 3, [263, 1, 0, 1, 554], 0, 0)],
  [(17, .if_icmp .ge 82, 3, [99], 0, 0), (20, .ldc 133, 2, [0, 0], 0, 0), (22, .iload 5, 2, [], 0, 0), (24, .invokevirtual 139, 3, [264, 1, 1, 1, 564], 0, 0), (27, .istore 6, 2, [], 0, 0), (29, .iload 6, 2, [], 0, 0), (31, .bipush 32, 2, [], 32, 0)],
  [(33, .if_icmp .ne 22, 3, [55], 0, 0), (36, .iload 4, 2, [], 0, 0), (38, .iload_n 2, 1, [], 0, 0), (39, .iload_n 1, 1, [], 0, 0), (40, .isub, 1, [], 0, 0), (41, .if_icmp .ne 5, 3, [46], 0, 0), (44, .iload_n 3, 1, [], 0, 0), (45, .ireturn, 1, [], 0, 0), (46, .iinc 3 1, 3, [], 1, 0)],
  [(49, .iconst 0, 1, [], 0, 0), (50, .istore 4, 2, [], 0, 0), (52, .goto 41, 3, [93], 0, 0), (55, .iload 4, 2, [], 0, 0), (57, .ifCond .lt 33, 3, [90], 0, 0), (60, .iload_n 1, 1, [], 0, 0), (61, .iload 4, 2, [], 0, 0), (63, .iadd, 1, [], 0, 0)],
  [(64, .iload_n 2, 1, [], 0, 0), (65, .if_icmp .ge 25, 3, [90], 0, 0), (68, .aload_n 0, 1, [], 0, 0), (69, .getfield 22, 3, [5, 0, 161], 0, 0), (72, .iload_n 1, 1, [], 0, 0), (73, .iload 4, 2, [], 0, 0), (75, .iadd, 1, [], 0, 0), (76, .invokevirtual 107, 3, [93, 1, 1, 1, 545], 0, 0), (79, .iload 6, 2, [], 0, 0)],
  [(81, .if_icmp .ne 9, 3, [90], 0, 0), (84, .iinc 4 1, 3, [], 1, 0), (87, .goto 6, 3, [93], 0, 0), (90, .iconst (-1), 1, [], (-1), 0), (91, .istore 4, 2, [], 0, 0), (93, .iinc 5 1, 3, [], 1, 0)],
  [(96, .goto (-86), 3, [10], 0, 0), (99, .sipush 302, 3, [], 302, 0), (102, .ireturn, 1, [], 0, 0)]]
set_option maxRecDepth 100000 in
theorem ok_X5_wordAt : ms_okC (ms_Y 90).1.cls (ms_Y 90).1.name (ms_Y 90).2.2.1 (ms_Y 90).2.1 cd_X5_wordAt = true := by decide +kernel
