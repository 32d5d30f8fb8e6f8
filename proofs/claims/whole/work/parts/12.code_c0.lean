/-! the rows of the methods, group c0: written by wip/whole/code.py -/
def cd_X8_init : List (List ms_I) := [
  [(0, .aload_n 0, 1, [], 0, 0), (1, .invokespecial 1, 3, [1000, 136, 137, 138], 0, 0), (4, .aload_n 0, 1, [], 0, 0), (5, .new 7, 3, [6, 139, 140, 114], 0, 0), (8, .dup, 1, [], 0, 0), (9, .invokespecial 9, 3, [91, 2, 0, 0, 141], 0, 0), (12, .putfield 10, 3, [8, 0, 376], 0, 0), (15, .aload_n 0, 1, [], 0, 0)],
  [(16, .new 16, 3, [5, 155, 156, 115], 0, 0), (19, .dup, 1, [], 0, 0), (20, .aload_n 0, 1, [], 0, 0), (21, .getfield 10, 3, [8, 0, 376], 0, 0), (24, .invokespecial 18, 3, [70, 2, 1, 0, 157], 0, 0), (27, .putfield 21, 3, [8, 1, 377], 0, 0), (30, .aload_n 0, 1, [], 0, 0), (31, .new 25, 3, [0, 193, 194, 116], 0, 0)],
  [(34, .dup, 1, [], 0, 0), (35, .invokespecial 27, 3, [0, 2, 0, 0, 195], 0, 0), (38, .putfield 28, 3, [8, 2, 378], 0, 0), (41, .aload_n 0, 1, [], 0, 0), (42, .new 32, 3, [2, 237, 238, 117], 0, 0), (45, .dup, 1, [], 0, 0), (46, .invokespecial 34, 3, [37, 2, 0, 0, 239], 0, 0)],
  [(49, .putfield 35, 3, [8, 3, 379], 0, 0), (52, .aload_n 0, 1, [], 0, 0), (53, .new 39, 3, [1, 254, 255, 118], 0, 0), (56, .dup, 1, [], 0, 0), (57, .aload_n 0, 1, [], 0, 0), (58, .getfield 35, 3, [8, 3, 379], 0, 0), (61, .invokespecial 41, 3, [24, 2, 1, 0, 256], 0, 0)],
  [(64, .putfield 44, 3, [8, 4, 380], 0, 0), (67, .aload_n 0, 1, [], 0, 0), (68, .new 48, 3, [3, 309, 310, 119], 0, 0), (71, .dup, 1, [], 0, 0), (72, .aload_n 0, 1, [], 0, 0), (73, .getfield 28, 3, [8, 2, 378], 0, 0), (76, .aload_n 0, 1, [], 0, 0), (77, .getfield 35, 3, [8, 3, 379], 0, 0)],
  [(80, .aload_n 0, 1, [], 0, 0), (81, .getfield 44, 3, [8, 4, 380], 0, 0), (84, .invokespecial 50, 3, [50, 2, 3, 0, 311], 0, 0), (87, .putfield 53, 3, [8, 5, 381], 0, 0), (90, .aload_n 0, 1, [], 0, 0), (91, .new 57, 3, [4, 352, 353, 121], 0, 0), (94, .dup, 1, [], 0, 0), (95, .invokespecial 59, 3, [63, 2, 0, 0, 354], 0, 0)],
  [(98, .putfield 60, 3, [8, 6, 382], 0, 0), (101, .aload_n 0, 1, [], 0, 0), (102, .new 48, 3, [3, 309, 310, 119], 0, 0), (105, .dup, 1, [], 0, 0), (106, .aload_n 0, 1, [], 0, 0), (107, .getfield 60, 3, [8, 6, 382], 0, 0), (110, .getfield 64, 3, [4, 0, 361], 0, 0)],
  [(113, .aload_n 0, 1, [], 0, 0), (114, .getfield 35, 3, [8, 3, 379], 0, 0), (117, .aload_n 0, 1, [], 0, 0), (118, .getfield 44, 3, [8, 4, 380], 0, 0), (121, .invokespecial 50, 3, [50, 2, 3, 0, 311], 0, 0), (124, .putfield 67, 3, [8, 7, 383], 0, 0), (127, .aload_n 0, 1, [], 0, 0)],
  [(128, .iconst 2, 1, [], 2, 0), (129, .anewarray 25, 3, [4, 193, 375], 0, 0), (132, .putfield 70, 3, [8, 8, 384], 0, 0), (135, .iconst 0, 1, [], 0, 0), (136, .istore_n 1, 1, [], 0, 0), (137, .iload_n 1, 1, [], 0, 0), (138, .iconst 2, 1, [], 2, 0), (139, .if_icmp .ge 22, 3, [161], 0, 0), (142, .aload_n 0, 1, [], 0, 0), (143, .getfield 70, 3, [8, 8, 384], 0, 0)],
  [(146, .iload_n 1, 1, [], 0, 0), (147, .new 25, 3, [0, 193, 194, 116], 0, 0), (150, .dup, 1, [], 0, 0), (151, .invokespecial 27, 3, [0, 2, 0, 0, 195], 0, 0), (154, .aastore, 1, [], 0, 0), (155, .iinc 1 1, 3, [], 1, 0), (158, .goto (-21), 3, [137], 0, 0)],
  [(161, .aload_n 0, 1, [], 0, 0), (162, .iconst 2, 1, [], 2, 0), (163, .newarray .boolean, 2, [308], 0, 0), (165, .putfield 74, 3, [8, 9, 385], 0, 0), (168, .aload_n 0, 1, [], 0, 0), (169, .iconst 5, 1, [], 5, 0), (170, .newarray .int, 2, [154], 0, 0), (172, .putfield 78, 3, [8, 10, 386], 0, 0), (175, .aload_n 0, 1, [], 0, 0)],
  [(176, .iconst 0, 1, [], 0, 0), (177, .putfield 82, 3, [8, 11, 387], 0, 0), (180, .aload_n 0, 1, [], 0, 0), (181, .iconst (-1), 1, [], (-1), 0), (182, .putfield 86, 3, [8, 12, 388], 0, 0), (185, .return_, 1, [], 0, 0)]]
set_option maxRecDepth 100000 in
theorem ok_X8_init : ms_okC (ms_Y 96).1.cls (ms_Y 96).1.name (ms_Y 96).2.2.1 (ms_Y 96).2.1 cd_X8_init = true := by decide +kernel
def cd_X8_thing : List (List ms_I) := [
  [(0, .iload_n 1, 1, [], 0, 0), (1, .iload_n 2, 1, [], 0, 0), (2, .iload_n 3, 1, [], 0, 0), (3, .iload 4, 2, [], 0, 0), (5, .invokestatic 89, 3, [134, 0, 4, 1, 420], 0, 0), (8, .ifCond .eq 22, 3, [30], 0, 0), (11, .iload 5, 2, [], 0, 0), (13, .bipush 9, 2, [], 9, 0), (15, .invokestatic 93, 3, [133, 0, 2, 1, 423], 0, 0)],
  [(18, .ifCond .eq 12, 3, [30], 0, 0), (21, .iload 6, 2, [], 0, 0), (23, .iconst 1, 1, [], 1, 0), (24, .invokestatic 93, 3, [133, 0, 2, 1, 423], 0, 0), (27, .ifCond .ne 9, 3, [36], 0, 0), (30, .aload_n 0, 1, [], 0, 0), (31, .iconst (-1), 1, [], (-1), 0)],
  [(32, .invokevirtual 97, 3, [131, 1, 1, 1, 426], 0, 0), (35, .ireturn, 1, [], 0, 0), (36, .aload_n 0, 1, [], 0, 0), (37, .getfield 28, 3, [8, 2, 378], 0, 0), (40, .getfield 101, 3, [0, 5, 206], 0, 0), (43, .bipush 8, 2, [], 8, 0), (45, .if_icmp .lt 10, 3, [55], 0, 0)],
  [(48, .aload_n 0, 1, [], 0, 0), (49, .bipush (-5), 2, [], (-5), 0), (51, .invokevirtual 97, 3, [131, 1, 1, 1, 426], 0, 0), (54, .ireturn, 1, [], 0, 0), (55, .aload_n 0, 1, [], 0, 0), (56, .aload_n 0, 1, [], 0, 0), (57, .getfield 28, 3, [8, 2, 378], 0, 0), (60, .iload_n 1, 1, [], 0, 0), (61, .iload_n 2, 1, [], 0, 0), (62, .iload_n 3, 1, [], 0, 0), (63, .iload 4, 2, [], 0, 0)],
  [(65, .iload 5, 2, [], 0, 0), (67, .iload 6, 2, [], 0, 0), (69, .invokevirtual 104, 3, [16, 1, 6, 1, 433], 0, 0), (72, .invokevirtual 108, 3, [130, 1, 1, 1, 437], 0, 0), (75, .ireturn, 1, [], 0, 0)]]
set_option maxRecDepth 100000 in
theorem ok_X8_thing : ms_okC (ms_Y 97).1.cls (ms_Y 97).1.name (ms_Y 97).2.2.1 (ms_Y 97).2.1 cd_X8_thing = true := by decide +kernel
def cd_X8_paper : List (List ms_I) := [
  [(0, .iload_n 1, 1, [], 0, 0), (1, .sipush 399, 3, [], 399, 0), (4, .invokestatic 93, 3, [133, 0, 2, 1, 423], 0, 0), (7, .ifCond .eq 21, 3, [28], 0, 0), (10, .iload_n 2, 1, [], 0, 0), (11, .bipush 7, 2, [], 7, 0), (13, .invokestatic 93, 3, [133, 0, 2, 1, 423], 0, 0)],
  [(16, .ifCond .eq 12, 3, [28], 0, 0), (19, .iload_n 3, 1, [], 0, 0), (20, .bipush 99, 2, [], 99, 0), (22, .invokestatic 93, 3, [133, 0, 2, 1, 423], 0, 0), (25, .ifCond .ne 9, 3, [34], 0, 0), (28, .aload_n 0, 1, [], 0, 0), (29, .iconst (-1), 1, [], (-1), 0), (30, .invokevirtual 97, 3, [131, 1, 1, 1, 426], 0, 0)],
  [(33, .ireturn, 1, [], 0, 0), (34, .aload_n 0, 1, [], 0, 0), (35, .getfield 28, 3, [8, 2, 378], 0, 0), (38, .getfield 111, 3, [0, 6, 210], 0, 0), (41, .bipush 16, 2, [], 16, 0), (43, .if_icmp .lt 10, 3, [53], 0, 0), (46, .aload_n 0, 1, [], 0, 0), (47, .bipush (-5), 2, [], (-5), 0)],
  [(49, .invokevirtual 97, 3, [131, 1, 1, 1, 426], 0, 0), (52, .ireturn, 1, [], 0, 0), (53, .aload_n 0, 1, [], 0, 0), (54, .getfield 53, 3, [8, 5, 381], 0, 0), (57, .invokevirtual 114, 3, [51, 1, 0, 0, 445], 0, 0), (60, .aload_n 0, 1, [], 0, 0), (61, .aload_n 0, 1, [], 0, 0), (62, .getfield 28, 3, [8, 2, 378], 0, 0)],
  [(65, .iload_n 1, 1, [], 0, 0), (66, .iload_n 2, 1, [], 0, 0), (67, .iload_n 3, 1, [], 0, 0), (68, .invokevirtual 117, 3, [17, 1, 3, 1, 449], 0, 0), (71, .invokevirtual 108, 3, [130, 1, 1, 1, 437], 0, 0), (74, .ireturn, 1, [], 0, 0)]]
set_option maxRecDepth 100000 in
theorem ok_X8_paper : ms_okC (ms_Y 98).1.cls (ms_Y 98).1.name (ms_Y 98).2.2.1 (ms_Y 98).2.1 cd_X8_paper = true := by decide +kernel
def cd_X8_entry : List (List ms_I) := [
  [(0, .iload_n 3, 1, [], 0, 0), (1, .iload 4, 2, [], 0, 0), (3, .iload 5, 2, [], 0, 0), (5, .iload 6, 2, [], 0, 0), (7, .invokestatic 89, 3, [134, 0, 4, 1, 420], 0, 0), (10, .ifCond .eq 13, 3, [23], 0, 0), (13, .iload 7, 2, [], 0, 0), (15, .bipush 9, 2, [], 9, 0)],
  [(17, .invokestatic 93, 3, [133, 0, 2, 1, 423], 0, 0), (20, .ifCond .ne 9, 3, [29], 0, 0), (23, .aload_n 0, 1, [], 0, 0), (24, .iconst (-1), 1, [], (-1), 0), (25, .invokevirtual 97, 3, [131, 1, 1, 1, 426], 0, 0), (28, .ireturn, 1, [], 0, 0), (29, .aload_n 0, 1, [], 0, 0), (30, .getfield 28, 3, [8, 2, 378], 0, 0)],
  [(33, .iload_n 1, 1, [], 0, 0), (34, .invokevirtual 121, 3, [4, 1, 1, 1, 457], 0, 0), (37, .ifCond .eq 14, 3, [51], 0, 0), (40, .aload_n 0, 1, [], 0, 0), (41, .getfield 28, 3, [8, 2, 378], 0, 0), (44, .iload_n 2, 1, [], 0, 0), (45, .invokevirtual 125, 3, [3, 1, 1, 1, 461], 0, 0)],
  [(48, .ifCond .ne 10, 3, [58], 0, 0), (51, .aload_n 0, 1, [], 0, 0), (52, .bipush (-2), 2, [], (-2), 0), (54, .invokevirtual 97, 3, [131, 1, 1, 1, 426], 0, 0), (57, .ireturn, 1, [], 0, 0), (58, .aload_n 0, 1, [], 0, 0), (59, .getfield 28, 3, [8, 2, 378], 0, 0), (62, .iload_n 1, 1, [], 0, 0), (63, .invokevirtual 128, 3, [6, 1, 1, 1, 465], 0, 0)],
  [(66, .ifCond .ne 10, 3, [76], 0, 0), (69, .aload_n 0, 1, [], 0, 0), (70, .bipush (-5), 2, [], (-5), 0), (72, .invokevirtual 97, 3, [131, 1, 1, 1, 426], 0, 0), (75, .ireturn, 1, [], 0, 0), (76, .aload_n 0, 1, [], 0, 0), (77, .getfield 53, 3, [8, 5, 381], 0, 0)],
  [(80, .invokevirtual 114, 3, [51, 1, 0, 0, 445], 0, 0), (83, .aload_n 0, 1, [], 0, 0), (84, .aload_n 0, 1, [], 0, 0), (85, .getfield 28, 3, [8, 2, 378], 0, 0), (88, .iload_n 1, 1, [], 0, 0), (89, .iload_n 2, 1, [], 0, 0), (90, .iload_n 3, 1, [], 0, 0), (91, .iload 4, 2, [], 0, 0), (93, .iload 5, 2, [], 0, 0), (95, .iload 6, 2, [], 0, 0)],
  [(97, .iload 7, 2, [], 0, 0), (99, .invokevirtual 131, 3, [18, 1, 7, 1, 474], 0, 0), (102, .invokevirtual 108, 3, [130, 1, 1, 1, 437], 0, 0), (105, .ireturn, 1, [], 0, 0)]]
set_option maxRecDepth 100000 in
theorem ok_X8_entry : ms_okC (ms_Y 99).1.cls (ms_Y 99).1.name (ms_Y 99).2.2.1 (ms_Y 99).2.1 cd_X8_entry = true := by decide +kernel
def cd_X8_row : List (List ms_I) := [
  [(0, .aload_n 0, 1, [], 0, 0), (1, .iload_n 1, 1, [], 0, 0), (2, .invokevirtual 135, 3, [101, 1, 1, 1, 483], 0, 0), (5, .istore_n 2, 1, [], 0, 0), (6, .aload_n 0, 1, [], 0, 0), (7, .getfield 10, 3, [8, 0, 376], 0, 0), (10, .iconst 0, 1, [], 0, 0), (11, .putfield 138, 3, [6, 1, 147], 0, 0), (14, .iload_n 2, 1, [], 0, 0), (15, .ifCond .ge 11, 3, [26], 0, 0)],
  [(18, .aload_n 0, 1, [], 0, 0), (19, .iload_n 2, 1, [], 0, 0), (20, .invokevirtual 97, 3, [131, 1, 1, 1, 426], 0, 0), (23, .goto 8, 3, [31], 0, 0), (26, .aload_n 0, 1, [], 0, 0), (27, .iload_n 2, 1, [], 0, 0), (28, .invokevirtual 108, 3, [130, 1, 1, 1, 437], 0, 0), (31, .ireturn, 1, [], 0, 0)]]
set_option maxRecDepth 100000 in
theorem ok_X8_row : ms_okC (ms_Y 100).1.cls (ms_Y 100).1.name (ms_Y 100).2.2.1 (ms_Y 100).2.1 cd_X8_row = true := by decide +kernel
def cd_X8_readRow : List (List ms_I) := [
  [(0, .aload_n 0, 1, [], 0, 0), (1, .getfield 28, 3, [8, 2, 378], 0, 0), (4, .iload_n 1, 1, [], 0, 0), (5, .invokevirtual 121, 3, [4, 1, 1, 1, 457], 0, 0), (8, .ifCond .ne 6, 3, [14], 0, 0), (11, .bipush (-2), 2, [], (-2), 0), (13, .ireturn, 1, [], 0, 0), (14, .aload_n 0, 1, [], 0, 0), (15, .getfield 10, 3, [8, 0, 376], 0, 0)],
  [(18, .getfield 138, 3, [6, 1, 147], 0, 0), (21, .ifCond .ne 6, 3, [27], 0, 0), (24, .bipush (-6), 2, [], (-6), 0), (26, .ireturn, 1, [], 0, 0), (27, .iconst 0, 1, [], 0, 0), (28, .istore_n 2, 1, [], 0, 0), (29, .iconst 0, 1, [], 0, 0), (30, .istore_n 3, 1, [], 0, 0), (31, .iload_n 3, 1, [], 0, 0)],
  [(32, .bipush 10, 2, [], 10, 0), (34, .iadd, 1, [], 0, 0), (35, .aload_n 0, 1, [], 0, 0), (36, .getfield 10, 3, [8, 0, 376], 0, 0), (39, .getfield 138, 3, [6, 1, 147], 0, 0), (42, .if_icmp .gt 21, 3, [63], 0, 0), (45, .aload_n 0, 1, [], 0, 0), (46, .iload_n 1, 1, [], 0, 0), (47, .iload_n 3, 1, [], 0, 0)],
  [(48, .invokevirtual 141, 3, [102, 1, 2, 1, 487], 0, 0), (51, .ifCond .eq 6, 3, [57], 0, 0), (54, .iinc 2 1, 3, [], 1, 0), (57, .iinc 3 10, 3, [], 10, 0), (60, .goto (-29), 3, [31], 0, 0), (63, .aload_n 0, 1, [], 0, 0)],
  [(64, .getfield 53, 3, [8, 5, 381], 0, 0), (67, .invokevirtual 114, 3, [51, 1, 0, 0, 445], 0, 0), (70, .iload_n 2, 1, [], 0, 0), (71, .ireturn, 1, [], 0, 0)]]
set_option maxRecDepth 100000 in
theorem ok_X8_readRow : ms_okC (ms_Y 101).1.cls (ms_Y 101).1.name (ms_Y 101).2.2.1 (ms_Y 101).2.1 cd_X8_readRow = true := by decide +kernel
def cd_X8_addFromTape : List (List ms_I) := [
  [(0, .aload_n 0, 1, [], 0, 0), (1, .getfield 10, 3, [8, 0, 376], 0, 0), (4, .iload_n 2, 1, [], 0, 0), (5, .invokevirtual 144, 3, [93, 1, 1, 1, 491], 0, 0), (8, .istore_n 3, 1, [], 0, 0), (9, .aload_n 0, 1, [], 0, 0), (10, .getfield 10, 3, [8, 0, 376], 0, 0), (13, .iload_n 2, 1, [], 0, 0), (14, .iconst 1, 1, [], 1, 0), (15, .iadd, 1, [], 0, 0)],
  [(16, .invokevirtual 147, 3, [94, 1, 1, 1, 495], 0, 0), (19, .istore 4, 2, [], 0, 0), (21, .aload_n 0, 1, [], 0, 0), (22, .getfield 10, 3, [8, 0, 376], 0, 0), (25, .iload_n 2, 1, [], 0, 0), (26, .iconst 3, 1, [], 3, 0), (27, .iadd, 1, [], 0, 0), (28, .invokevirtual 147, 3, [94, 1, 1, 1, 495], 0, 0), (31, .istore 5, 2, [], 0, 0)],
  [(33, .aload_n 0, 1, [], 0, 0), (34, .getfield 10, 3, [8, 0, 376], 0, 0), (37, .iload_n 2, 1, [], 0, 0), (38, .iconst 5, 1, [], 5, 0), (39, .iadd, 1, [], 0, 0), (40, .invokevirtual 147, 3, [94, 1, 1, 1, 495], 0, 0), (43, .istore 6, 2, [], 0, 0), (45, .aload_n 0, 1, [], 0, 0), (46, .getfield 10, 3, [8, 0, 376], 0, 0)],
  [(49, .iload_n 2, 1, [], 0, 0), (50, .bipush 7, 2, [], 7, 0), (52, .iadd, 1, [], 0, 0), (53, .invokevirtual 147, 3, [94, 1, 1, 1, 495], 0, 0), (56, .istore 7, 2, [], 0, 0), (58, .aload_n 0, 1, [], 0, 0), (59, .getfield 10, 3, [8, 0, 376], 0, 0), (62, .iload_n 2, 1, [], 0, 0), (63, .bipush 9, 2, [], 9, 0)],
  [(65, .iadd, 1, [], 0, 0), (66, .invokevirtual 144, 3, [93, 1, 1, 1, 491], 0, 0), (69, .istore 8, 2, [], 0, 0), (71, .aload_n 0, 1, [], 0, 0), (72, .getfield 28, 3, [8, 2, 378], 0, 0), (75, .iload_n 3, 1, [], 0, 0), (76, .invokevirtual 125, 3, [3, 1, 1, 1, 461], 0, 0), (79, .ifCond .eq 27, 3, [106], 0, 0)],
  [(82, .iload 4, 2, [], 0, 0), (84, .iload 5, 2, [], 0, 0), (86, .iload 6, 2, [], 0, 0), (88, .iload 7, 2, [], 0, 0), (90, .invokestatic 89, 3, [134, 0, 4, 1, 420], 0, 0), (93, .ifCond .eq 13, 3, [106], 0, 0)],
  [(96, .iload 8, 2, [], 0, 0), (98, .bipush 9, 2, [], 9, 0), (100, .invokestatic 93, 3, [133, 0, 2, 1, 423], 0, 0), (103, .ifCond .ne 5, 3, [108], 0, 0), (106, .iconst 0, 1, [], 0, 0), (107, .ireturn, 1, [], 0, 0), (108, .aload_n 0, 1, [], 0, 0), (109, .getfield 28, 3, [8, 2, 378], 0, 0)],
  [(112, .iload_n 1, 1, [], 0, 0), (113, .iload_n 3, 1, [], 0, 0), (114, .iload 4, 2, [], 0, 0), (116, .iload 5, 2, [], 0, 0), (118, .iload 6, 2, [], 0, 0), (120, .iload 7, 2, [], 0, 0), (122, .iload 8, 2, [], 0, 0), (124, .invokevirtual 131, 3, [18, 1, 7, 1, 474], 0, 0), (127, .iconst (-1), 1, [], (-1), 0)],
  [(128, .if_icmp .eq 7, 3, [135], 0, 0), (131, .iconst 1, 1, [], 1, 0), (132, .goto 4, 3, [136], 0, 0), (135, .iconst 0, 1, [], 0, 0), (136, .ireturn, 1, [], 0, 0)]]
set_option maxRecDepth 100000 in
theorem ok_X8_addFromTape : ms_okC (ms_Y 102).1.cls (ms_Y 102).1.name (ms_Y 102).2.2.1 (ms_Y 102).2.1 cd_X8_addFromTape = true := by decide +kernel
def cd_X8_of : List (List ms_I) := [
  [(0, .aload_n 0, 1, [], 0, 0), (1, .getfield 28, 3, [8, 2, 378], 0, 0), (4, .iload_n 1, 1, [], 0, 0), (5, .iload_n 2, 1, [], 0, 0), (6, .invokevirtual 150, 3, [12, 1, 2, 1, 504], 0, 0), (9, .ireturn, 1, [], 0, 0)]]
set_option maxRecDepth 100000 in
theorem ok_X8_of : ms_okC (ms_Y 103).1.cls (ms_Y 103).1.name (ms_Y 103).2.2.1 (ms_Y 103).2.1 cd_X8_of = true := by decide +kernel
def cd_X8_list : List (List ms_I) := [
  [(0, .iload_n 2, 1, [], 0, 0), (1, .iconst (-1), 1, [], (-1), 0), (2, .if_icmp .ne 13, 3, [15], 0, 0), (5, .aload_n 0, 1, [], 0, 0), (6, .getfield 28, 3, [8, 2, 378], 0, 0), (9, .iload_n 1, 1, [], 0, 0), (10, .iconst 3, 1, [], 3, 0), (11, .invokevirtual 154, 3, [11, 1, 2, 1, 516], 0, 0), (14, .ireturn, 1, [], 0, 0), (15, .aload_n 0, 1, [], 0, 0)],
  [(16, .getfield 28, 3, [8, 2, 378], 0, 0), (19, .iload_n 1, 1, [], 0, 0), (20, .iload_n 2, 1, [], 0, 0), (21, .invokevirtual 157, 3, [14, 1, 2, 1, 517], 0, 0), (24, .ireturn, 1, [], 0, 0)]]
set_option maxRecDepth 100000 in
theorem ok_X8_list : ms_okC (ms_Y 104).1.cls (ms_Y 104).1.name (ms_Y 104).2.2.1 (ms_Y 104).2.1 cd_X8_list = true := by decide +kernel
def cd_X8_feed : List (List ms_I) := [
  [(0, .aload_n 0, 1, [], 0, 0), (1, .getfield 10, 3, [8, 0, 376], 0, 0), (4, .getfield 138, 3, [6, 1, 147], 0, 0), (7, .bipush 20, 2, [], 20, 0), (9, .iadd, 1, [], 0, 0), (10, .sipush 400, 3, [], 400, 0), (13, .if_icmp .le 5, 3, [18], 0, 0)],
  [(16, .iconst (-1), 1, [], (-1), 0), (17, .ireturn, 1, [], 0, 0), (18, .aload_n 0, 1, [], 0, 0), (19, .getfield 10, 3, [8, 0, 376], 0, 0), (22, .iload_n 1, 1, [], 0, 0), (23, .invokevirtual 160, 3, [92, 1, 1, 0, 525], 0, 0), (26, .aload_n 0, 1, [], 0, 0), (27, .getfield 10, 3, [8, 0, 376], 0, 0), (30, .iload_n 2, 1, [], 0, 0), (31, .invokevirtual 160, 3, [92, 1, 1, 0, 525], 0, 0)],
  [(34, .aload_n 0, 1, [], 0, 0), (35, .getfield 10, 3, [8, 0, 376], 0, 0), (38, .iload_n 3, 1, [], 0, 0), (39, .invokevirtual 160, 3, [92, 1, 1, 0, 525], 0, 0), (42, .aload_n 0, 1, [], 0, 0), (43, .getfield 10, 3, [8, 0, 376], 0, 0), (46, .iload 4, 2, [], 0, 0)],
  [(48, .invokevirtual 160, 3, [92, 1, 1, 0, 525], 0, 0), (51, .aload_n 0, 1, [], 0, 0), (52, .getfield 10, 3, [8, 0, 376], 0, 0), (55, .iload 5, 2, [], 0, 0), (57, .invokevirtual 160, 3, [92, 1, 1, 0, 525], 0, 0), (60, .aload_n 0, 1, [], 0, 0), (61, .getfield 10, 3, [8, 0, 376], 0, 0)],
  [(64, .getfield 138, 3, [6, 1, 147], 0, 0), (67, .ireturn, 1, [], 0, 0)]]
set_option maxRecDepth 100000 in
theorem ok_X8_feed : ms_okC (ms_Y 105).1.cls (ms_Y 105).1.name (ms_Y 105).2.2.1 (ms_Y 105).2.1 cd_X8_feed = true := by decide +kernel
def cd_X8_end : List (List ms_I) := [
  [(0, .iload_n 1, 1, [], 0, 0), (1, .ifCond .lt 14, 3, [15], 0, 0), (4, .iload_n 1, 1, [], 0, 0), (5, .aload_n 0, 1, [], 0, 0), (6, .getfield 10, 3, [8, 0, 376], 0, 0), (9, .getfield 138, 3, [6, 1, 147], 0, 0), (12, .if_icmp .le 5, 3, [17], 0, 0), (15, .iconst (-1), 1, [], (-1), 0)],
  [(16, .ireturn, 1, [], 0, 0), (17, .aload_n 0, 1, [], 0, 0), (18, .getfield 10, 3, [8, 0, 376], 0, 0), (21, .iload_n 1, 1, [], 0, 0), (22, .putfield 138, 3, [6, 1, 147], 0, 0), (25, .iload_n 1, 1, [], 0, 0), (26, .ireturn, 1, [], 0, 0)]]
set_option maxRecDepth 100000 in
theorem ok_X8_end : ms_okC (ms_Y 106).1.cls (ms_Y 106).1.name (ms_Y 106).2.2.1 (ms_Y 106).2.1 cd_X8_end = true := by decide +kernel
def cd_X8_law : List (List ms_I) := [
  [(0, .aload_n 0, 1, [], 0, 0), (1, .getfield 28, 3, [8, 2, 378], 0, 0), (4, .getfield 164, 3, [0, 8, 217], 0, 0), (7, .bipush 20, 2, [], 20, 0), (9, .if_icmp .ge 7, 3, [16], 0, 0), (12, .iconst 1, 1, [], 1, 0), (13, .goto 4, 3, [17], 0, 0)],
  [(16, .iconst 0, 1, [], 0, 0), (17, .istore_n 1, 1, [], 0, 0), (18, .iload_n 1, 1, [], 0, 0), (19, .ifCond .eq 13, 3, [32], 0, 0), (22, .aload_n 0, 1, [], 0, 0), (23, .getfield 21, 3, [8, 1, 377], 0, 0), (26, .invokevirtual 167, 3, [71, 1, 0, 3, 537], 0, 0), (29, .goto 4, 3, [33], 0, 0)],
  [(32, .aconst_null, 1, [], 0, 0), (33, .astore_n 2, 1, [], 0, 0), (34, .aload_n 0, 1, [], 0, 0), (35, .getfield 10, 3, [8, 0, 376], 0, 0), (38, .iconst 0, 1, [], 0, 0), (39, .putfield 138, 3, [6, 1, 147], 0, 0), (42, .iload_n 1, 1, [], 0, 0), (43, .ifCond .ne 10, 3, [53], 0, 0), (46, .aload_n 0, 1, [], 0, 0), (47, .bipush (-5), 2, [], (-5), 0)],
  [(49, .invokevirtual 97, 3, [131, 1, 1, 1, 426], 0, 0), (52, .ireturn, 1, [], 0, 0), (53, .aload_n 2, 1, [], 0, 0), (54, .ifnonnull 21, 3, [75], 0, 0), (57, .aload_n 0, 1, [], 0, 0), (58, .aload_n 0, 1, [], 0, 0), (59, .getfield 21, 3, [8, 1, 377], 0, 0), (62, .getfield 171, 3, [5, 6, 167], 0, 0)],
  [(65, .putfield 86, 3, [8, 12, 388], 0, 0), (68, .aload_n 0, 1, [], 0, 0), (69, .bipush (-6), 2, [], (-6), 0), (71, .invokevirtual 97, 3, [131, 1, 1, 1, 426], 0, 0), (74, .ireturn, 1, [], 0, 0), (75, .aload_n 0, 1, [], 0, 0), (76, .iconst (-1), 1, [], (-1), 0), (77, .putfield 86, 3, [8, 12, 388], 0, 0)],
  [(80, .aload_n 0, 1, [], 0, 0), (81, .getfield 53, 3, [8, 5, 381], 0, 0), (84, .invokevirtual 114, 3, [51, 1, 0, 0, 445], 0, 0), (87, .aload_n 0, 1, [], 0, 0), (88, .aload_n 0, 1, [], 0, 0), (89, .getfield 28, 3, [8, 2, 378], 0, 0), (92, .aload_n 2, 1, [], 0, 0), (93, .invokevirtual 174, 3, [19, 1, 1, 1, 700], 0, 0)],
  [(96, .invokevirtual 108, 3, [130, 1, 1, 1, 437], 0, 0), (99, .ireturn, 1, [], 0, 0)]]
set_option maxRecDepth 100000 in
theorem ok_X8_law : ms_okC (ms_Y 107).1.cls (ms_Y 107).1.name (ms_Y 107).2.2.1 (ms_Y 107).2.1 cd_X8_law = true := by decide +kernel
def cd_X8_fault : List (List ms_I) := [
  [(0, .aload_n 0, 1, [], 0, 0), (1, .getfield 86, 3, [8, 12, 388], 0, 0), (4, .ireturn, 1, [], 0, 0)]]
set_option maxRecDepth 100000 in
theorem ok_X8_fault : ms_okC (ms_Y 108).1.cls (ms_Y 108).1.name (ms_Y 108).2.2.1 (ms_Y 108).2.1 cd_X8_fault = true := by decide +kernel
def cd_X8_kind : List (List ms_I) := [
  [(0, .iload_n 1, 1, [], 0, 0), (1, .sipush 9999, 3, [], 9999, 0), (4, .invokestatic 93, 3, [133, 0, 2, 1, 423], 0, 0), (7, .ifCond .eq 13, 3, [20], 0, 0), (10, .iload_n 2, 1, [], 0, 0), (11, .sipush 9999, 3, [], 9999, 0), (14, .invokestatic 93, 3, [133, 0, 2, 1, 423], 0, 0)],
  [(17, .ifCond .ne 5, 3, [22], 0, 0), (20, .iconst (-1), 1, [], (-1), 0), (21, .ireturn, 1, [], 0, 0), (22, .iload_n 1, 1, [], 0, 0), (23, .iload_n 2, 1, [], 0, 0), (24, .invokestatic 178, 3, [136, 0, 2, 1, 712], 0, 0), (27, .ireturn, 1, [], 0, 0)]]
set_option maxRecDepth 100000 in
theorem ok_X8_kind : ms_okC (ms_Y 109).1.cls (ms_Y 109).1.name (ms_Y 109).2.2.1 (ms_Y 109).2.1 cd_X8_kind = true := by decide +kernel
def cd_X8_apart : List (List ms_I) := [
  [(0, .aload_n 0, 1, [], 0, 0), (1, .iload_n 1, 1, [], 0, 0), (2, .iload_n 2, 1, [], 0, 0), (3, .invokevirtual 181, 3, [135, 1, 2, 1, 731], 0, 0), (6, .ifCond .eq 11, 3, [17], 0, 0), (9, .iload_n 3, 1, [], 0, 0), (10, .iconst 1, 1, [], 1, 0), (11, .invokestatic 93, 3, [133, 0, 2, 1, 423], 0, 0), (14, .ifCond .ne 5, 3, [19], 0, 0)],
  [(17, .iconst (-1), 1, [], (-1), 0), (18, .ireturn, 1, [], 0, 0), (19, .iload_n 3, 1, [], 0, 0), (20, .iconst 1, 1, [], 1, 0), (21, .if_icmp .ne 17, 3, [38], 0, 0), (24, .aload_n 0, 1, [], 0, 0), (25, .getfield 35, 3, [8, 3, 379], 0, 0), (28, .aload_n 0, 1, [], 0, 0), (29, .getfield 28, 3, [8, 2, 378], 0, 0)],
  [(32, .iload_n 1, 1, [], 0, 0), (33, .iload_n 2, 1, [], 0, 0), (34, .invokevirtual 184, 3, [38, 1, 3, 1, 736], 0, 0), (37, .ireturn, 1, [], 0, 0), (38, .iconst 0, 1, [], 0, 0), (39, .istore 4, 2, [], 0, 0), (41, .iconst 0, 1, [], 0, 0), (42, .istore 5, 2, [], 0, 0), (44, .iload 5, 2, [], 0, 0), (46, .iconst 4, 1, [], 4, 0), (47, .if_icmp .ge 35, 3, [82], 0, 0)],
  [(50, .aload_n 0, 1, [], 0, 0), (51, .getfield 28, 3, [8, 2, 378], 0, 0), (54, .iload_n 1, 1, [], 0, 0), (55, .iload 5, 2, [], 0, 0), (57, .invokevirtual 188, 3, [13, 1, 2, 1, 793], 0, 0), (60, .aload_n 0, 1, [], 0, 0), (61, .getfield 28, 3, [8, 2, 378], 0, 0)],
  [(64, .iload_n 2, 1, [], 0, 0), (65, .iload 5, 2, [], 0, 0), (67, .invokevirtual 188, 3, [13, 1, 2, 1, 793], 0, 0), (70, .if_icmp .eq 6, 3, [76], 0, 0), (73, .iinc 4 1, 3, [], 1, 0), (76, .iinc 5 1, 3, [], 1, 0), (79, .goto (-35), 3, [44], 0, 0)],
  [(82, .iload 4, 2, [], 0, 0), (84, .ireturn, 1, [], 0, 0)]]
set_option maxRecDepth 100000 in
theorem ok_X8_apart : ms_okC (ms_Y 110).1.cls (ms_Y 110).1.name (ms_Y 110).2.2.1 (ms_Y 110).2.1 cd_X8_apart = true := by decide +kernel
def cd_X8_twice : List (List ms_I) := [
  [(0, .iload_n 1, 1, [], 0, 0), (1, .iload_n 2, 1, [], 0, 0), (2, .if_icmp .eq 12, 3, [14], 0, 0), (5, .aload_n 0, 1, [], 0, 0), (6, .iload_n 1, 1, [], 0, 0), (7, .iload_n 2, 1, [], 0, 0), (8, .invokevirtual 181, 3, [135, 1, 2, 1, 731], 0, 0), (11, .ifCond .ne 7, 3, [18], 0, 0), (14, .ldc2_w 191, 3, [798], 0, (-1))],
  [(17, .lreturn, 1, [], 0, 0), (18, .aload_n 0, 1, [], 0, 0), (19, .getfield 28, 3, [8, 2, 378], 0, 0), (22, .iload_n 1, 1, [], 0, 0), (23, .iconst 2, 1, [], 2, 0), (24, .invokevirtual 150, 3, [12, 1, 2, 1, 504], 0, 0), (27, .istore_n 3, 1, [], 0, 0), (28, .lconst 1, 1, [], 0, 1), (29, .lstore 4, 2, [], 0, 0), (31, .iconst 0, 1, [], 0, 0)],
  [(32, .istore 6, 2, [], 0, 0), (34, .iload 6, 2, [], 0, 0), (36, .iconst 4, 1, [], 4, 0), (37, .if_icmp .ge 81, 3, [118], 0, 0), (40, .aload_n 0, 1, [], 0, 0), (41, .getfield 28, 3, [8, 2, 378], 0, 0), (44, .iload_n 1, 1, [], 0, 0), (45, .iload 6, 2, [], 0, 0), (47, .invokevirtual 188, 3, [13, 1, 2, 1, 793], 0, 0)],
  [(50, .istore 7, 2, [], 0, 0), (52, .aload_n 0, 1, [], 0, 0), (53, .getfield 28, 3, [8, 2, 378], 0, 0), (56, .iload_n 3, 1, [], 0, 0), (57, .iload 6, 2, [], 0, 0), (59, .invokevirtual 193, 3, [10, 1, 2, 1, 799], 0, 0), (62, .istore 8, 2, [], 0, 0)],
  [(64, .iload 7, 2, [], 0, 0), (66, .aload_n 0, 1, [], 0, 0), (67, .getfield 28, 3, [8, 2, 378], 0, 0), (70, .iload_n 2, 1, [], 0, 0), (71, .iload 6, 2, [], 0, 0), (73, .invokevirtual 188, 3, [13, 1, 2, 1, 793], 0, 0), (76, .if_icmp .ne 36, 3, [112], 0, 0), (79, .iload 7, 2, [], 0, 0)],
  [(81, .iload 8, 2, [], 0, 0), (83, .if_icmp .eq 29, 3, [112], 0, 0), (86, .lload 4, 2, [], 0, 0), (88, .iconst 1, 1, [], 1, 0), (89, .aload_n 0, 1, [], 0, 0), (90, .getfield 35, 3, [8, 3, 379], 0, 0), (93, .aload_n 0, 1, [], 0, 0), (94, .getfield 28, 3, [8, 2, 378], 0, 0)],
  [(97, .iload_n 3, 1, [], 0, 0), (98, .iload 6, 2, [], 0, 0), (100, .iload 8, 2, [], 0, 0), (102, .iload 7, 2, [], 0, 0), (104, .invokevirtual 196, 3, [41, 1, 5, 1, 800], 0, 0), (107, .iadd, 1, [], 0, 0), (108, .i2l, 1, [], 0, 0), (109, .lmul, 1, [], 0, 0), (110, .lstore 4, 2, [], 0, 0)],
  [(112, .iinc 6 1, 3, [], 1, 0), (115, .goto (-81), 3, [34], 0, 0), (118, .lload 4, 2, [], 0, 0), (120, .lreturn, 1, [], 0, 0)]]
set_option maxRecDepth 100000 in
theorem ok_X8_twice : ms_okC (ms_Y 111).1.cls (ms_Y 111).1.name (ms_Y 111).2.2.1 (ms_Y 111).2.1 cd_X8_twice = true := by decide +kernel
def cd_X8_alike : List (List ms_I) := [
  [(0, .aload_n 0, 1, [], 0, 0), (1, .getfield 28, 3, [8, 2, 378], 0, 0), (4, .iload_n 1, 1, [], 0, 0), (5, .invokevirtual 200, 3, [5, 1, 1, 1, 735], 0, 0), (8, .ifCond .eq 12, 3, [20], 0, 0), (11, .iload_n 2, 1, [], 0, 0), (12, .bipush 99, 2, [], 99, 0), (14, .invokestatic 93, 3, [133, 0, 2, 1, 423], 0, 0)],
  [(17, .ifCond .ne 5, 3, [22], 0, 0), (20, .iconst (-1), 1, [], (-1), 0), (21, .ireturn, 1, [], 0, 0), (22, .iconst 0, 1, [], 0, 0), (23, .istore_n 3, 1, [], 0, 0), (24, .iconst 0, 1, [], 0, 0), (25, .istore 4, 2, [], 0, 0), (27, .iload 4, 2, [], 0, 0), (29, .aload_n 0, 1, [], 0, 0), (30, .getfield 28, 3, [8, 2, 378], 0, 0)],
  [(33, .getfield 203, 3, [0, 7, 214], 0, 0), (36, .if_icmp .ge 46, 3, [82], 0, 0), (39, .aload_n 0, 1, [], 0, 0), (40, .getfield 28, 3, [8, 2, 378], 0, 0), (43, .aload_n 0, 1, [], 0, 0), (44, .getfield 28, 3, [8, 2, 378], 0, 0), (47, .iload 4, 2, [], 0, 0)],
  [(49, .iconst 0, 1, [], 0, 0), (50, .invokevirtual 150, 3, [12, 1, 2, 1, 504], 0, 0), (53, .iload_n 2, 1, [], 0, 0), (54, .invokevirtual 206, 3, [9, 1, 2, 1, 805], 0, 0), (57, .ifCond .eq 19, 3, [76], 0, 0), (60, .aload_n 0, 1, [], 0, 0), (61, .getfield 28, 3, [8, 2, 378], 0, 0)],
  [(64, .iload_n 1, 1, [], 0, 0), (65, .iload 4, 2, [], 0, 0), (67, .invokevirtual 209, 3, [21, 1, 2, 1, 809], 0, 0), (70, .ifCond .eq 6, 3, [76], 0, 0), (73, .iinc 3 1, 3, [], 1, 0), (76, .iinc 4 1, 3, [], 1, 0), (79, .goto (-52), 3, [27], 0, 0)],
  [(82, .iload_n 3, 1, [], 0, 0), (83, .ireturn, 1, [], 0, 0)]]
set_option maxRecDepth 100000 in
theorem ok_X8_alike : ms_okC (ms_Y 112).1.cls (ms_Y 112).1.name (ms_Y 112).2.2.1 (ms_Y 112).2.1 cd_X8_alike = true := by decide +kernel
def cd_X8_least : List (List ms_I) := [
  [(0, .aload_n 0, 1, [], 0, 0), (1, .getfield 28, 3, [8, 2, 378], 0, 0), (4, .iload_n 1, 1, [], 0, 0), (5, .iload_n 2, 1, [], 0, 0), (6, .invokevirtual 206, 3, [9, 1, 2, 1, 805], 0, 0), (9, .ifCond .eq 11, 3, [20], 0, 0), (12, .iload_n 3, 1, [], 0, 0), (13, .iconst 2, 1, [], 2, 0), (14, .invokestatic 93, 3, [133, 0, 2, 1, 423], 0, 0)],
  [(17, .ifCond .ne 5, 3, [22], 0, 0), (20, .iconst (-1), 1, [], (-1), 0), (21, .ireturn, 1, [], 0, 0), (22, .iload_n 3, 1, [], 0, 0), (23, .iconst 1, 1, [], 1, 0), (24, .if_icmp .ne 16, 3, [40], 0, 0), (27, .aload_n 0, 1, [], 0, 0), (28, .getfield 53, 3, [8, 5, 381], 0, 0), (31, .iload_n 1, 1, [], 0, 0)],
  [(32, .iload_n 2, 1, [], 0, 0), (33, .invokevirtual 212, 3, [52, 1, 2, 1, 817], 0, 0), (36, .invokestatic 215, 3, [257, 0, 1, 1, 848], 0, 0), (39, .ireturn, 1, [], 0, 0), (40, .aload_n 0, 1, [], 0, 0), (41, .getfield 53, 3, [8, 5, 381], 0, 0), (44, .iload_n 1, 1, [], 0, 0), (45, .iload_n 1, 1, [], 0, 0), (46, .iconst 1, 1, [], 1, 0), (47, .iadd, 1, [], 0, 0)],
  [(48, .iload_n 2, 1, [], 0, 0), (49, .invokevirtual 220, 3, [54, 1, 3, 0, 849], 0, 0), (52, .iload_n 3, 1, [], 0, 0), (53, .ifCond .ne 14, 3, [67], 0, 0), (56, .aload_n 0, 1, [], 0, 0), (57, .getfield 53, 3, [8, 5, 381], 0, 0), (60, .iload_n 1, 1, [], 0, 0), (61, .invokevirtual 224, 3, [55, 1, 1, 1, 922], 0, 0)],
  [(64, .goto 11, 3, [75], 0, 0), (67, .aload_n 0, 1, [], 0, 0), (68, .getfield 53, 3, [8, 5, 381], 0, 0), (71, .iload_n 1, 1, [], 0, 0), (72, .invokevirtual 227, 3, [56, 1, 1, 1, 926], 0, 0), (75, .ireturn, 1, [], 0, 0)]]
set_option maxRecDepth 100000 in
theorem ok_X8_least : ms_okC (ms_Y 113).1.cls (ms_Y 113).1.name (ms_Y 113).2.2.1 (ms_Y 113).2.1 cd_X8_least = true := by decide +kernel
def cd_X8_source : List (List ms_I) := [
  [(0, .aload_n 0, 1, [], 0, 0), (1, .getfield 28, 3, [8, 2, 378], 0, 0), (4, .iload_n 1, 1, [], 0, 0), (5, .iload_n 2, 1, [], 0, 0), (6, .invokevirtual 206, 3, [9, 1, 2, 1, 805], 0, 0), (9, .ifCond .eq 7, 3, [16], 0, 0), (12, .iload_n 3, 1, [], 0, 0), (13, .ifCond .ge 5, 3, [18], 0, 0)],
  [(16, .iconst (-1), 1, [], (-1), 0), (17, .ireturn, 1, [], 0, 0), (18, .aload_n 0, 1, [], 0, 0), (19, .getfield 53, 3, [8, 5, 381], 0, 0), (22, .iload_n 1, 1, [], 0, 0), (23, .iload_n 2, 1, [], 0, 0), (24, .invokevirtual 212, 3, [52, 1, 2, 1, 817], 0, 0), (27, .istore 4, 2, [], 0, 0), (29, .iconst 0, 1, [], 0, 0), (30, .istore 5, 2, [], 0, 0)],
  [(32, .iconst 0, 1, [], 0, 0), (33, .istore 6, 2, [], 0, 0), (35, .iload 6, 2, [], 0, 0), (37, .bipush 16, 2, [], 16, 0), (39, .if_icmp .ge 32, 3, [71], 0, 0), (42, .iload 4, 2, [], 0, 0), (44, .iload 6, 2, [], 0, 0), (46, .ishr, 1, [], 0, 0), (47, .iconst 1, 1, [], 1, 0)],
  [(48, .iand, 1, [], 0, 0), (49, .iconst 1, 1, [], 1, 0), (50, .if_icmp .ne 15, 3, [65], 0, 0), (53, .iload 5, 2, [], 0, 0), (55, .iload_n 3, 1, [], 0, 0), (56, .if_icmp .ne 6, 3, [62], 0, 0), (59, .iload 6, 2, [], 0, 0), (61, .ireturn, 1, [], 0, 0), (62, .iinc 5 1, 3, [], 1, 0)],
  [(65, .iinc 6 1, 3, [], 1, 0), (68, .goto (-33), 3, [35], 0, 0), (71, .iconst (-1), 1, [], (-1), 0), (72, .ireturn, 1, [], 0, 0)]]
set_option maxRecDepth 100000 in
theorem ok_X8_source : ms_okC (ms_Y 114).1.cls (ms_Y 114).1.name (ms_Y 114).2.2.1 (ms_Y 114).2.1 cd_X8_source = true := by decide +kernel
def cd_X8_from : List (List ms_I) := [
  [(0, .aload_n 0, 1, [], 0, 0), (1, .getfield 28, 3, [8, 2, 378], 0, 0), (4, .iload_n 1, 1, [], 0, 0), (5, .iconst 0, 1, [], 0, 0), (6, .invokevirtual 150, 3, [12, 1, 2, 1, 504], 0, 0), (9, .istore_n 3, 1, [], 0, 0), (10, .aload_n 0, 1, [], 0, 0), (11, .getfield 28, 3, [8, 2, 378], 0, 0), (14, .iload_n 3, 1, [], 0, 0), (15, .iload_n 2, 1, [], 0, 0)],
  [(16, .invokevirtual 206, 3, [9, 1, 2, 1, 805], 0, 0), (19, .ifCond .ne 6, 3, [25], 0, 0), (22, .bipush (-2), 2, [], (-2), 0), (24, .ireturn, 1, [], 0, 0), (25, .aload_n 0, 1, [], 0, 0), (26, .getfield 53, 3, [8, 5, 381], 0, 0), (29, .iload_n 3, 1, [], 0, 0), (30, .iload_n 3, 1, [], 0, 0), (31, .iconst 1, 1, [], 1, 0)],
  [(32, .iadd, 1, [], 0, 0), (33, .iload_n 2, 1, [], 0, 0), (34, .invokevirtual 220, 3, [54, 1, 3, 0, 849], 0, 0), (37, .aload_n 0, 1, [], 0, 0), (38, .getfield 53, 3, [8, 5, 381], 0, 0), (41, .iload_n 1, 1, [], 0, 0), (42, .invokevirtual 230, 3, [57, 1, 1, 1, 938], 0, 0), (45, .ireturn, 1, [], 0, 0)]]
set_option maxRecDepth 100000 in
theorem ok_X8_from : ms_okC (ms_Y 115).1.cls (ms_Y 115).1.name (ms_Y 115).2.2.1 (ms_Y 115).2.1 cd_X8_from = true := by decide +kernel
def cd_X8_judge : List (List ms_I) := [
  [(0, .aload_n 0, 1, [], 0, 0), (1, .getfield 28, 3, [8, 2, 378], 0, 0), (4, .iload_n 1, 1, [], 0, 0), (5, .iload_n 3, 1, [], 0, 0), (6, .invokevirtual 206, 3, [9, 1, 2, 1, 805], 0, 0), (9, .ifCond .ne 5, 3, [14], 0, 0), (12, .iconst (-1), 1, [], (-1), 0), (13, .ireturn, 1, [], 0, 0), (14, .aload_n 0, 1, [], 0, 0), (15, .getfield 53, 3, [8, 5, 381], 0, 0)],
  [(18, .iload_n 1, 1, [], 0, 0), (19, .iload_n 3, 1, [], 0, 0), (20, .invokevirtual 212, 3, [52, 1, 2, 1, 817], 0, 0), (23, .istore 4, 2, [], 0, 0), (25, .iload_n 2, 1, [], 0, 0), (26, .ifCond .lt 14, 3, [40], 0, 0), (29, .iload_n 2, 1, [], 0, 0), (30, .iconst 1, 1, [], 1, 0), (31, .iload 4, 2, [], 0, 0)],
  [(33, .invokestatic 215, 3, [257, 0, 1, 1, 848], 0, 0), (36, .ishl, 1, [], 0, 0), (37, .if_icmp .lt 5, 3, [42], 0, 0), (40, .iconst (-1), 1, [], (-1), 0), (41, .ireturn, 1, [], 0, 0), (42, .aload_n 0, 1, [], 0, 0), (43, .getfield 44, 3, [8, 4, 380], 0, 0), (46, .aload_n 0, 1, [], 0, 0), (47, .getfield 28, 3, [8, 2, 378], 0, 0)],
  [(50, .iload_n 1, 1, [], 0, 0), (51, .iload 4, 2, [], 0, 0), (53, .invokevirtual 233, 3, [25, 1, 3, 0, 947], 0, 0), (56, .aload_n 0, 1, [], 0, 0), (57, .getfield 44, 3, [8, 4, 380], 0, 0), (60, .iload_n 2, 1, [], 0, 0), (61, .invokevirtual 237, 3, [31, 1, 1, 1, 948], 0, 0)],
  [(64, .ireturn, 1, [], 0, 0)]]
set_option maxRecDepth 100000 in
theorem ok_X8_judge : ms_okC (ms_Y 116).1.cls (ms_Y 116).1.name (ms_Y 116).2.2.1 (ms_Y 116).2.1 cd_X8_judge = true := by decide +kernel
def cd_X8_tree : List (List ms_I) := [
  [(0, .iload_n 1, 1, [], 0, 0), (1, .bipush 99, 2, [], 99, 0), (3, .invokestatic 93, 3, [133, 0, 2, 1, 423], 0, 0), (6, .ifCond .eq 11, 3, [17], 0, 0), (9, .iload_n 2, 1, [], 0, 0), (10, .iconst 5, 1, [], 5, 0), (11, .invokestatic 93, 3, [133, 0, 2, 1, 423], 0, 0), (14, .ifCond .ne 5, 3, [19], 0, 0)],
  [(17, .iconst (-1), 1, [], (-1), 0), (18, .ireturn, 1, [], 0, 0), (19, .aload_n 0, 1, [], 0, 0), (20, .getfield 53, 3, [8, 5, 381], 0, 0), (23, .iconst 0, 1, [], 0, 0), (24, .aload_n 0, 1, [], 0, 0), (25, .getfield 28, 3, [8, 2, 378], 0, 0), (28, .getfield 111, 3, [0, 6, 210], 0, 0), (31, .iload_n 1, 1, [], 0, 0)],
  [(32, .invokevirtual 220, 3, [54, 1, 3, 0, 849], 0, 0), (35, .iload_n 2, 1, [], 0, 0), (36, .ifCond .ne 12, 3, [48], 0, 0), (39, .aload_n 0, 1, [], 0, 0), (40, .getfield 53, 3, [8, 5, 381], 0, 0), (43, .iload_n 1, 1, [], 0, 0), (44, .invokevirtual 240, 3, [58, 1, 1, 1, 956], 0, 0), (47, .ireturn, 1, [], 0, 0)],
  [(48, .iconst 0, 1, [], 0, 0), (49, .istore_n 3, 1, [], 0, 0), (50, .iconst 0, 1, [], 0, 0), (51, .istore 4, 2, [], 0, 0), (53, .iload 4, 2, [], 0, 0), (55, .aload_n 0, 1, [], 0, 0), (56, .getfield 28, 3, [8, 2, 378], 0, 0), (59, .getfield 203, 3, [0, 7, 214], 0, 0), (62, .if_icmp .ge 40, 3, [102], 0, 0)],
  [(65, .aload_n 0, 1, [], 0, 0), (66, .getfield 28, 3, [8, 2, 378], 0, 0), (69, .aload_n 0, 1, [], 0, 0), (70, .getfield 28, 3, [8, 2, 378], 0, 0), (73, .iload 4, 2, [], 0, 0), (75, .iconst 0, 1, [], 0, 0), (76, .invokevirtual 150, 3, [12, 1, 2, 1, 504], 0, 0), (79, .iload_n 1, 1, [], 0, 0)],
  [(80, .invokevirtual 206, 3, [9, 1, 2, 1, 805], 0, 0), (83, .ifCond .eq 13, 3, [96], 0, 0), (86, .iload_n 3, 1, [], 0, 0), (87, .aload_n 0, 1, [], 0, 0), (88, .iload 4, 2, [], 0, 0), (90, .iload_n 2, 1, [], 0, 0), (91, .invokevirtual 243, 3, [118, 1, 2, 1, 960], 0, 0), (94, .iadd, 1, [], 0, 0), (95, .istore_n 3, 1, [], 0, 0)],
  [(96, .iinc 4 1, 3, [], 1, 0), (99, .goto (-46), 3, [53], 0, 0), (102, .iload_n 3, 1, [], 0, 0), (103, .ireturn, 1, [], 0, 0)]]
set_option maxRecDepth 100000 in
theorem ok_X8_tree : ms_okC (ms_Y 117).1.cls (ms_Y 117).1.name (ms_Y 117).2.2.1 (ms_Y 117).2.1 cd_X8_tree = true := by decide +kernel
def cd_X8_treePart : List (List ms_I) := [
  [(0, .aload_n 0, 1, [], 0, 0), (1, .getfield 53, 3, [8, 5, 381], 0, 0), (4, .iload_n 1, 1, [], 0, 0), (5, .invokevirtual 230, 3, [57, 1, 1, 1, 938], 0, 0), (8, .istore_n 3, 1, [], 0, 0), (9, .iload_n 3, 1, [], 0, 0), (10, .iconst (-1), 1, [], (-1), 0), (11, .if_icmp .eq 7, 3, [18], 0, 0), (14, .iconst 1, 1, [], 1, 0), (15, .goto 4, 3, [19], 0, 0)],
  [(18, .iconst 0, 1, [], 0, 0), (19, .istore 4, 2, [], 0, 0), (21, .aload_n 0, 1, [], 0, 0), (22, .getfield 28, 3, [8, 2, 378], 0, 0), (25, .aload_n 0, 1, [], 0, 0), (26, .getfield 28, 3, [8, 2, 378], 0, 0), (29, .iload_n 1, 1, [], 0, 0), (30, .iconst 2, 1, [], 2, 0), (31, .invokevirtual 150, 3, [12, 1, 2, 1, 504], 0, 0)],
  [(34, .invokevirtual 246, 3, [8, 1, 1, 1, 964], 0, 0), (37, .istore 5, 2, [], 0, 0), (39, .iload_n 2, 1, [], 0, 0), (40, .tableswitch 94 1 4 #[32, 48, 59, 75], 32, [134, 72, 88, 99, 115], 0, 0)],
  [],
  [(72, .iload 4, 2, [], 0, 0), (74, .ifCond .ne 12, 3, [86], 0, 0), (77, .iload 5, 2, [], 0, 0), (79, .ifCond .ne 7, 3, [86], 0, 0)],
  [(82, .iconst 1, 1, [], 1, 0), (83, .goto 4, 3, [87], 0, 0), (86, .iconst 0, 1, [], 0, 0), (87, .ireturn, 1, [], 0, 0), (88, .iload 4, 2, [], 0, 0), (90, .ifCond .eq 7, 3, [97], 0, 0), (93, .iconst 1, 1, [], 1, 0), (94, .goto 4, 3, [98], 0, 0)],
  [(97, .iconst 0, 1, [], 0, 0), (98, .ireturn, 1, [], 0, 0), (99, .iload 4, 2, [], 0, 0), (101, .ifCond .ne 12, 3, [113], 0, 0), (104, .iload 5, 2, [], 0, 0), (106, .ifCond .eq 7, 3, [113], 0, 0), (109, .iconst 1, 1, [], 1, 0), (110, .goto 4, 3, [114], 0, 0)],
  [(113, .iconst 0, 1, [], 0, 0), (114, .ireturn, 1, [], 0, 0), (115, .iload 4, 2, [], 0, 0), (117, .ifCond .eq 15, 3, [132], 0, 0), (120, .aload_n 0, 1, [], 0, 0), (121, .getfield 28, 3, [8, 2, 378], 0, 0), (124, .iload_n 3, 1, [], 0, 0), (125, .iload_n 1, 1, [], 0, 0), (126, .invokevirtual 249, 3, [22, 1, 2, 1, 965], 0, 0)],
  [(129, .goto 4, 3, [133], 0, 0), (132, .iconst 0, 1, [], 0, 0), (133, .ireturn, 1, [], 0, 0), (134, .iload 4, 2, [], 0, 0), (136, .ifCond .eq 15, 3, [151], 0, 0), (139, .aload_n 0, 1, [], 0, 0), (140, .getfield 28, 3, [8, 2, 378], 0, 0), (143, .iload_n 1, 1, [], 0, 0)],
  [(144, .iload_n 3, 1, [], 0, 0), (145, .invokevirtual 249, 3, [22, 1, 2, 1, 965], 0, 0), (148, .goto 4, 3, [152], 0, 0), (151, .iconst 0, 1, [], 0, 0), (152, .ireturn, 1, [], 0, 0)]]
set_option maxRecDepth 100000 in
theorem ok_X8_treePart : ms_okC (ms_Y 118).1.cls (ms_Y 118).1.name (ms_Y 118).2.2.1 (ms_Y 118).2.1 cd_X8_treePart = true := by decide +kernel
def cd_X8_lookers : List (List ms_I) := [
  [(0, .iload_n 1, 1, [], 0, 0), (1, .bipush 40, 2, [], 40, 0), (3, .invokestatic 93, 3, [133, 0, 2, 1, 423], 0, 0), (6, .ifCond .eq 20, 3, [26], 0, 0), (9, .iload_n 2, 1, [], 0, 0), (10, .bipush 99, 2, [], 99, 0), (12, .invokestatic 93, 3, [133, 0, 2, 1, 423], 0, 0), (15, .ifCond .eq 11, 3, [26], 0, 0)],
  [(18, .iload_n 3, 1, [], 0, 0), (19, .iconst 1, 1, [], 1, 0), (20, .invokestatic 93, 3, [133, 0, 2, 1, 423], 0, 0), (23, .ifCond .ne 5, 3, [28], 0, 0), (26, .iconst (-1), 1, [], (-1), 0), (27, .ireturn, 1, [], 0, 0), (28, .aload_n 0, 1, [], 0, 0), (29, .getfield 53, 3, [8, 5, 381], 0, 0)],
  [(32, .iconst 0, 1, [], 0, 0), (33, .aload_n 0, 1, [], 0, 0), (34, .getfield 28, 3, [8, 2, 378], 0, 0), (37, .getfield 111, 3, [0, 6, 210], 0, 0), (40, .iload_n 2, 1, [], 0, 0), (41, .invokevirtual 220, 3, [54, 1, 3, 0, 849], 0, 0), (44, .aload_n 0, 1, [], 0, 0), (45, .getfield 53, 3, [8, 5, 381], 0, 0)],
  [(48, .iload_n 2, 1, [], 0, 0), (49, .invokevirtual 252, 3, [60, 1, 1, 0, 975], 0, 0), (52, .aload_n 0, 1, [], 0, 0), (53, .getfield 53, 3, [8, 5, 381], 0, 0), (56, .aload_n 0, 1, [], 0, 0), (57, .getfield 53, 3, [8, 5, 381], 0, 0), (60, .iload_n 2, 1, [], 0, 0), (61, .invokevirtual 240, 3, [58, 1, 1, 1, 956], 0, 0)],
  [(64, .iload_n 1, 1, [], 0, 0), (65, .iadd, 1, [], 0, 0), (66, .iload_n 3, 1, [], 0, 0), (67, .iconst 1, 1, [], 1, 0), (68, .if_icmp .ne 7, 3, [75], 0, 0), (71, .iconst 1, 1, [], 1, 0), (72, .goto 4, 3, [76], 0, 0), (75, .iconst 0, 1, [], 0, 0), (76, .invokevirtual 255, 3, [62, 1, 2, 1, 997], 0, 0), (79, .ireturn, 1, [], 0, 0)]]
set_option maxRecDepth 100000 in
theorem ok_X8_lookers : ms_okC (ms_Y 119).1.cls (ms_Y 119).1.name (ms_Y 119).2.2.1 (ms_Y 119).2.1 cd_X8_lookers = true := by decide +kernel
def cd_X8_births : List (List ms_I) := [
  [(0, .aload_n 0, 1, [], 0, 0), (1, .getfield 28, 3, [8, 2, 378], 0, 0), (4, .iload_n 1, 1, [], 0, 0), (5, .invokevirtual 246, 3, [8, 1, 1, 1, 964], 0, 0), (8, .ifCond .eq 12, 3, [20], 0, 0), (11, .iload_n 2, 1, [], 0, 0), (12, .bipush 99, 2, [], 99, 0), (14, .invokestatic 93, 3, [133, 0, 2, 1, 423], 0, 0)],
  [(17, .ifCond .ne 5, 3, [22], 0, 0), (20, .iconst (-1), 1, [], (-1), 0), (21, .ireturn, 1, [], 0, 0), (22, .aload_n 0, 1, [], 0, 0), (23, .getfield 53, 3, [8, 5, 381], 0, 0), (26, .iconst 0, 1, [], 0, 0), (27, .aload_n 0, 1, [], 0, 0), (28, .getfield 28, 3, [8, 2, 378], 0, 0), (31, .getfield 111, 3, [0, 6, 210], 0, 0)],
  [(34, .iload_n 2, 1, [], 0, 0), (35, .invokevirtual 220, 3, [54, 1, 3, 0, 849], 0, 0), (38, .iconst 0, 1, [], 0, 0), (39, .istore 4, 2, [], 0, 0), (41, .iconst 0, 1, [], 0, 0), (42, .istore 5, 2, [], 0, 0), (44, .iload 5, 2, [], 0, 0), (46, .aload_n 0, 1, [], 0, 0), (47, .getfield 28, 3, [8, 2, 378], 0, 0)],
  [(50, .getfield 203, 3, [0, 7, 214], 0, 0), (53, .if_icmp .ge 81, 3, [134], 0, 0), (56, .aload_n 0, 1, [], 0, 0), (57, .getfield 28, 3, [8, 2, 378], 0, 0), (60, .iload 5, 2, [], 0, 0), (62, .iconst 2, 1, [], 2, 0), (63, .invokevirtual 150, 3, [12, 1, 2, 1, 504], 0, 0)],
  [(66, .iload_n 1, 1, [], 0, 0), (67, .if_icmp .ne 7, 3, [74], 0, 0), (70, .iconst 1, 1, [], 1, 0), (71, .goto 4, 3, [75], 0, 0), (74, .iconst 0, 1, [], 0, 0), (75, .istore 6, 2, [], 0, 0), (77, .iload 6, 2, [], 0, 0), (79, .ifCond .eq 49, 3, [128], 0, 0)],
  [(82, .aload_n 0, 1, [], 0, 0), (83, .getfield 28, 3, [8, 2, 378], 0, 0), (86, .aload_n 0, 1, [], 0, 0), (87, .getfield 28, 3, [8, 2, 378], 0, 0), (90, .iload 5, 2, [], 0, 0), (92, .iconst 0, 1, [], 0, 0), (93, .invokevirtual 150, 3, [12, 1, 2, 1, 504], 0, 0)],
  [(96, .iload_n 2, 1, [], 0, 0), (97, .invokevirtual 206, 3, [9, 1, 2, 1, 805], 0, 0), (100, .ifCond .eq 28, 3, [128], 0, 0), (103, .aload_n 0, 1, [], 0, 0), (104, .getfield 53, 3, [8, 5, 381], 0, 0), (107, .iload 5, 2, [], 0, 0), (109, .invokevirtual 230, 3, [57, 1, 1, 1, 938], 0, 0)],
  [(112, .iconst (-1), 1, [], (-1), 0), (113, .if_icmp .ne 15, 3, [128], 0, 0), (116, .iload 4, 2, [], 0, 0), (118, .iload_n 3, 1, [], 0, 0), (119, .if_icmp .ne 6, 3, [125], 0, 0), (122, .iload 5, 2, [], 0, 0), (124, .ireturn, 1, [], 0, 0), (125, .iinc 4 1, 3, [], 1, 0)],
  [(128, .iinc 5 1, 3, [], 1, 0), (131, .goto (-87), 3, [44], 0, 0), (134, .iload_n 3, 1, [], 0, 0), (135, .iconst (-1), 1, [], (-1), 0), (136, .if_icmp .ne 8, 3, [144], 0, 0), (139, .iload 4, 2, [], 0, 0), (141, .goto 4, 3, [145], 0, 0)],
  [(144, .iconst (-1), 1, [], (-1), 0), (145, .ireturn, 1, [], 0, 0)]]
set_option maxRecDepth 100000 in
theorem ok_X8_births : ms_okC (ms_Y 120).1.cls (ms_Y 120).1.name (ms_Y 120).2.2.1 (ms_Y 120).2.1 cd_X8_births = true := by decide +kernel
def cd_X8_drift : List (List ms_I) := [
  [(0, .aload_n 0, 1, [], 0, 0), (1, .getfield 28, 3, [8, 2, 378], 0, 0), (4, .iload_n 1, 1, [], 0, 0), (5, .iconst 0, 1, [], 0, 0), (6, .invokevirtual 150, 3, [12, 1, 2, 1, 504], 0, 0), (9, .istore_n 3, 1, [], 0, 0), (10, .aload_n 0, 1, [], 0, 0), (11, .getfield 28, 3, [8, 2, 378], 0, 0), (14, .iload_n 3, 1, [], 0, 0), (15, .iload_n 2, 1, [], 0, 0)],
  [(16, .invokevirtual 206, 3, [9, 1, 2, 1, 805], 0, 0), (19, .ifCond .ne 6, 3, [25], 0, 0), (22, .bipush (-100), 2, [], (-100), 0), (24, .ireturn, 1, [], 0, 0), (25, .aload_n 0, 1, [], 0, 0), (26, .getfield 53, 3, [8, 5, 381], 0, 0), (29, .iload_n 3, 1, [], 0, 0), (30, .iload_n 3, 1, [], 0, 0), (31, .iconst 1, 1, [], 1, 0)],
  [(32, .iadd, 1, [], 0, 0), (33, .iload_n 2, 1, [], 0, 0), (34, .invokevirtual 220, 3, [54, 1, 3, 0, 849], 0, 0), (37, .aload_n 0, 1, [], 0, 0), (38, .getfield 53, 3, [8, 5, 381], 0, 0), (41, .iload_n 1, 1, [], 0, 0), (42, .invokevirtual 230, 3, [57, 1, 1, 1, 938], 0, 0), (45, .istore 4, 2, [], 0, 0), (47, .aload_n 0, 1, [], 0, 0)],
  [(48, .getfield 28, 3, [8, 2, 378], 0, 0), (51, .iload_n 1, 1, [], 0, 0), (52, .iconst 2, 1, [], 2, 0), (53, .invokevirtual 150, 3, [12, 1, 2, 1, 504], 0, 0), (56, .istore 5, 2, [], 0, 0), (58, .aload_n 0, 1, [], 0, 0), (59, .getfield 28, 3, [8, 2, 378], 0, 0), (62, .iload_n 1, 1, [], 0, 0), (63, .bipush 7, 2, [], 7, 0)],
  [(65, .invokevirtual 150, 3, [12, 1, 2, 1, 504], 0, 0), (68, .istore 6, 2, [], 0, 0), (70, .iload 4, 2, [], 0, 0), (72, .iconst (-1), 1, [], (-1), 0), (73, .if_icmp .eq 18, 3, [91], 0, 0), (76, .iload 6, 2, [], 0, 0), (78, .aload_n 0, 1, [], 0, 0), (79, .getfield 28, 3, [8, 2, 378], 0, 0)],
  [(82, .iload 4, 2, [], 0, 0), (84, .bipush 7, 2, [], 7, 0), (86, .invokevirtual 150, 3, [12, 1, 2, 1, 504], 0, 0), (89, .isub, 1, [], 0, 0), (90, .ireturn, 1, [], 0, 0), (91, .aload_n 0, 1, [], 0, 0), (92, .getfield 28, 3, [8, 2, 378], 0, 0), (95, .iload 5, 2, [], 0, 0)],
  [(97, .invokevirtual 246, 3, [8, 1, 1, 1, 964], 0, 0), (100, .ifCond .eq 7, 3, [107], 0, 0), (103, .iconst 0, 1, [], 0, 0), (104, .goto 16, 3, [120], 0, 0), (107, .iload 6, 2, [], 0, 0), (109, .aload_n 0, 1, [], 0, 0), (110, .getfield 28, 3, [8, 2, 378], 0, 0)],
  [(113, .iload 5, 2, [], 0, 0), (115, .iconst 4, 1, [], 4, 0), (116, .invokevirtual 193, 3, [10, 1, 2, 1, 799], 0, 0), (119, .isub, 1, [], 0, 0), (120, .ireturn, 1, [], 0, 0)]]
set_option maxRecDepth 100000 in
theorem ok_X8_drift : ms_okC (ms_Y 121).1.cls (ms_Y 121).1.name (ms_Y 121).2.2.1 (ms_Y 121).2.1 cd_X8_drift = true := by decide +kernel
def cd_X8_weight : List (List ms_I) := [
  [(0, .aload_n 0, 1, [], 0, 0), (1, .getfield 28, 3, [8, 2, 378], 0, 0), (4, .aload_n 0, 1, [], 0, 0), (5, .getfield 28, 3, [8, 2, 378], 0, 0), (8, .iload_n 1, 1, [], 0, 0), (9, .iconst 0, 1, [], 0, 0), (10, .invokevirtual 150, 3, [12, 1, 2, 1, 504], 0, 0), (13, .iload_n 2, 1, [], 0, 0), (14, .invokevirtual 206, 3, [9, 1, 2, 1, 805], 0, 0)],
  [(17, .ifCond .ne 5, 3, [22], 0, 0), (20, .iconst (-1), 1, [], (-1), 0), (21, .ireturn, 1, [], 0, 0), (22, .aload_n 0, 1, [], 0, 0), (23, .getfield 53, 3, [8, 5, 381], 0, 0), (26, .iconst 0, 1, [], 0, 0), (27, .aload_n 0, 1, [], 0, 0), (28, .getfield 28, 3, [8, 2, 378], 0, 0), (31, .getfield 111, 3, [0, 6, 210], 0, 0)],
  [(34, .iload_n 2, 1, [], 0, 0), (35, .invokevirtual 220, 3, [54, 1, 3, 0, 849], 0, 0), (38, .iconst 0, 1, [], 0, 0), (39, .istore_n 3, 1, [], 0, 0), (40, .iconst 0, 1, [], 0, 0), (41, .istore 4, 2, [], 0, 0), (43, .iload 4, 2, [], 0, 0), (45, .aload_n 0, 1, [], 0, 0), (46, .getfield 28, 3, [8, 2, 378], 0, 0)],
  [(49, .getfield 203, 3, [0, 7, 214], 0, 0), (52, .if_icmp .ge 46, 3, [98], 0, 0), (55, .aload_n 0, 1, [], 0, 0), (56, .getfield 28, 3, [8, 2, 378], 0, 0), (59, .aload_n 0, 1, [], 0, 0), (60, .getfield 28, 3, [8, 2, 378], 0, 0), (63, .iload 4, 2, [], 0, 0)],
  [(65, .iconst 0, 1, [], 0, 0), (66, .invokevirtual 150, 3, [12, 1, 2, 1, 504], 0, 0), (69, .iload_n 2, 1, [], 0, 0), (70, .invokevirtual 206, 3, [9, 1, 2, 1, 805], 0, 0), (73, .ifCond .eq 19, 3, [92], 0, 0), (76, .aload_n 0, 1, [], 0, 0), (77, .getfield 53, 3, [8, 5, 381], 0, 0)],
  [(80, .iload 4, 2, [], 0, 0), (82, .iload_n 1, 1, [], 0, 0), (83, .invokevirtual 259, 3, [59, 1, 2, 1, 1013], 0, 0), (86, .ifCond .eq 6, 3, [92], 0, 0), (89, .iinc 3 1, 3, [], 1, 0), (92, .iinc 4 1, 3, [], 1, 0), (95, .goto (-52), 3, [43], 0, 0)],
  [(98, .iload_n 3, 1, [], 0, 0), (99, .ireturn, 1, [], 0, 0)]]
set_option maxRecDepth 100000 in
theorem ok_X8_weight : ms_okC (ms_Y 122).1.cls (ms_Y 122).1.name (ms_Y 122).2.2.1 (ms_Y 122).2.1 cd_X8_weight = true := by decide +kernel
def cd_X8_run : List (List ms_I) := [
  [(0, .iload_n 1, 1, [], 0, 0), (1, .iload_n 2, 1, [], 0, 0), (2, .if_icmp .eq 33, 3, [35], 0, 0), (5, .aload_n 0, 1, [], 0, 0), (6, .getfield 28, 3, [8, 2, 378], 0, 0), (9, .iload_n 1, 1, [], 0, 0), (10, .invokevirtual 121, 3, [4, 1, 1, 1, 457], 0, 0), (13, .ifCond .eq 22, 3, [35], 0, 0)],
  [(16, .aload_n 0, 1, [], 0, 0), (17, .getfield 28, 3, [8, 2, 378], 0, 0), (20, .iload_n 2, 1, [], 0, 0), (21, .invokevirtual 121, 3, [4, 1, 1, 1, 457], 0, 0), (24, .ifCond .eq 11, 3, [35], 0, 0), (27, .iload_n 3, 1, [], 0, 0), (28, .iconst 1, 1, [], 1, 0), (29, .invokestatic 93, 3, [133, 0, 2, 1, 423], 0, 0)],
  [(32, .ifCond .ne 5, 3, [37], 0, 0), (35, .iconst (-1), 1, [], (-1), 0), (36, .ireturn, 1, [], 0, 0), (37, .iconst 0, 1, [], 0, 0), (38, .istore 4, 2, [], 0, 0), (40, .iconst (-1), 1, [], (-1), 0), (41, .istore 5, 2, [], 0, 0), (43, .iconst 0, 1, [], 0, 0), (44, .istore 6, 2, [], 0, 0), (46, .iload 6, 2, [], 0, 0)],
  [(48, .aload_n 0, 1, [], 0, 0), (49, .getfield 28, 3, [8, 2, 378], 0, 0), (52, .iload_n 1, 1, [], 0, 0), (53, .iconst 3, 1, [], 3, 0), (54, .invokevirtual 154, 3, [11, 1, 2, 1, 516], 0, 0), (57, .if_icmp .ge 59, 3, [116], 0, 0), (60, .iconst 0, 1, [], 0, 0), (61, .istore 7, 2, [], 0, 0), (63, .iload 7, 2, [], 0, 0)],
  [(65, .aload_n 0, 1, [], 0, 0), (66, .getfield 28, 3, [8, 2, 378], 0, 0), (69, .iload_n 2, 1, [], 0, 0), (70, .iconst 3, 1, [], 3, 0), (71, .invokevirtual 154, 3, [11, 1, 2, 1, 516], 0, 0), (74, .if_icmp .ge 36, 3, [110], 0, 0), (77, .aload_n 0, 1, [], 0, 0), (78, .iload_n 1, 1, [], 0, 0), (79, .iload 6, 2, [], 0, 0)],
  [(81, .iload_n 2, 1, [], 0, 0), (82, .iload 7, 2, [], 0, 0), (84, .invokevirtual 262, 3, [124, 1, 4, 1, 1022], 0, 0), (87, .istore 8, 2, [], 0, 0), (89, .iload 8, 2, [], 0, 0), (91, .iload 4, 2, [], 0, 0), (93, .if_icmp .le 11, 3, [104], 0, 0)],
  [(96, .iload 8, 2, [], 0, 0), (98, .istore 4, 2, [], 0, 0), (100, .iload 6, 2, [], 0, 0), (102, .istore 5, 2, [], 0, 0), (104, .iinc 7 1, 3, [], 1, 0), (107, .goto (-44), 3, [63], 0, 0), (110, .iinc 6 1, 3, [], 1, 0)],
  [(113, .goto (-67), 3, [46], 0, 0), (116, .iload_n 3, 1, [], 0, 0), (117, .ifCond .ne 8, 3, [125], 0, 0), (120, .iload 4, 2, [], 0, 0), (122, .goto 5, 3, [127], 0, 0), (125, .iload 5, 2, [], 0, 0), (127, .ireturn, 1, [], 0, 0)]]
set_option maxRecDepth 100000 in
theorem ok_X8_run : ms_okC (ms_Y 123).1.cls (ms_Y 123).1.name (ms_Y 123).2.2.1 (ms_Y 123).2.1 cd_X8_run = true := by decide +kernel
def cd_X8_sharedFrom : List (List ms_I) := [
  [(0, .iconst 0, 1, [], 0, 0), (1, .istore 5, 2, [], 0, 0), (3, .iload 5, 2, [], 0, 0), (5, .bipush 12, 2, [], 12, 0), (7, .if_icmp .ge 79, 3, [86], 0, 0), (10, .aload_n 0, 1, [], 0, 0), (11, .getfield 28, 3, [8, 2, 378], 0, 0), (14, .iload_n 1, 1, [], 0, 0), (15, .iload_n 2, 1, [], 0, 0)],
  [(16, .iload 5, 2, [], 0, 0), (18, .iadd, 1, [], 0, 0), (19, .invokevirtual 157, 3, [14, 1, 2, 1, 517], 0, 0), (22, .istore 6, 2, [], 0, 0), (24, .aload_n 0, 1, [], 0, 0), (25, .getfield 28, 3, [8, 2, 378], 0, 0), (28, .iload_n 3, 1, [], 0, 0), (29, .iload 4, 2, [], 0, 0), (31, .iload 5, 2, [], 0, 0)],
  [(33, .iadd, 1, [], 0, 0), (34, .invokevirtual 157, 3, [14, 1, 2, 1, 517], 0, 0), (37, .istore 7, 2, [], 0, 0), (39, .iload 6, 2, [], 0, 0), (41, .iconst (-1), 1, [], (-1), 0), (42, .if_icmp .eq 9, 3, [51], 0, 0), (45, .iload 7, 2, [], 0, 0), (47, .iconst (-1), 1, [], (-1), 0)],
  [(48, .if_icmp .ne 6, 3, [54], 0, 0), (51, .iload 5, 2, [], 0, 0), (53, .ireturn, 1, [], 0, 0), (54, .aload_n 0, 1, [], 0, 0), (55, .getfield 28, 3, [8, 2, 378], 0, 0), (58, .iload 6, 2, [], 0, 0), (60, .iconst 2, 1, [], 2, 0), (61, .invokevirtual 150, 3, [12, 1, 2, 1, 504], 0, 0)],
  [(64, .aload_n 0, 1, [], 0, 0), (65, .getfield 28, 3, [8, 2, 378], 0, 0), (68, .iload 7, 2, [], 0, 0), (70, .iconst 2, 1, [], 2, 0), (71, .invokevirtual 150, 3, [12, 1, 2, 1, 504], 0, 0), (74, .if_icmp .eq 6, 3, [80], 0, 0), (77, .iload 5, 2, [], 0, 0), (79, .ireturn, 1, [], 0, 0)],
  [(80, .iinc 5 1, 3, [], 1, 0), (83, .goto (-80), 3, [3], 0, 0), (86, .iload 5, 2, [], 0, 0), (88, .ireturn, 1, [], 0, 0)]]
set_option maxRecDepth 100000 in
theorem ok_X8_sharedFrom : ms_okC (ms_Y 124).1.cls (ms_Y 124).1.name (ms_Y 124).2.2.1 (ms_Y 124).2.1 cd_X8_sharedFrom = true := by decide +kernel
def cd_X8_world : List (List ms_I) := [
  [(0, .iload_n 2, 1, [], 0, 0), (1, .iconst 2, 1, [], 2, 0), (2, .if_icmp .lt 23, 3, [25], 0, 0), (5, .iload_n 2, 1, [], 0, 0), (6, .bipush 8, 2, [], 8, 0), (8, .if_icmp .gt 17, 3, [25], 0, 0), (11, .iload_n 1, 1, [], 0, 0), (12, .ldc_w 266, 3, [1030], 1000000, 0), (15, .invokestatic 93, 3, [133, 0, 2, 1, 423], 0, 0)],
  [(18, .ifCond .eq 7, 3, [25], 0, 0), (21, .iconst 1, 1, [], 1, 0), (22, .goto 4, 3, [26], 0, 0), (25, .iconst 0, 1, [], 0, 0), (26, .istore 4, 2, [], 0, 0), (28, .iload 4, 2, [], 0, 0), (30, .ifCond .eq 21, 3, [51], 0, 0)],
  [(33, .iload_n 3, 1, [], 0, 0), (34, .iconst 3, 1, [], 3, 0), (35, .invokestatic 93, 3, [133, 0, 2, 1, 423], 0, 0), (38, .ifCond .eq 13, 3, [51], 0, 0), (41, .aload_n 0, 1, [], 0, 0), (42, .getfield 28, 3, [8, 2, 378], 0, 0), (45, .invokevirtual 267, 3, [7, 1, 0, 1, 1031], 0, 0)],
  [(48, .ifCond .ne 5, 3, [53], 0, 0), (51, .iconst (-1), 1, [], (-1), 0), (52, .ireturn, 1, [], 0, 0), (53, .aload_n 0, 1, [], 0, 0), (54, .getfield 60, 3, [8, 6, 382], 0, 0), (57, .aload_n 0, 1, [], 0, 0), (58, .getfield 28, 3, [8, 2, 378], 0, 0), (61, .iload_n 1, 1, [], 0, 0), (62, .iload_n 2, 1, [], 0, 0), (63, .invokevirtual 271, 3, [64, 1, 3, 0, 1036], 0, 0)],
  [(66, .iload_n 3, 1, [], 0, 0), (67, .ifCond .ne 14, 3, [81], 0, 0), (70, .aload_n 0, 1, [], 0, 0), (71, .getfield 60, 3, [8, 6, 382], 0, 0), (74, .getfield 64, 3, [4, 0, 361], 0, 0), (77, .getfield 203, 3, [0, 7, 214], 0, 0)],
  [(80, .ireturn, 1, [], 0, 0), (81, .iload_n 3, 1, [], 0, 0), (82, .iconst 2, 1, [], 2, 0), (83, .if_icmp .ne 11, 3, [94], 0, 0), (86, .aload_n 0, 1, [], 0, 0), (87, .getfield 60, 3, [8, 6, 382], 0, 0), (90, .getfield 274, 3, [4, 2, 364], 0, 0), (93, .ireturn, 1, [], 0, 0), (94, .aload_n 0, 1, [], 0, 0), (95, .getfield 67, 3, [8, 7, 383], 0, 0)],
  [(98, .invokevirtual 114, 3, [51, 1, 0, 0, 445], 0, 0), (101, .aload_n 0, 1, [], 0, 0), (102, .getfield 67, 3, [8, 7, 383], 0, 0), (105, .iconst 0, 1, [], 0, 0), (106, .iload_n 2, 1, [], 0, 0), (107, .iconst 0, 1, [], 0, 0), (108, .invokevirtual 220, 3, [54, 1, 3, 0, 849], 0, 0), (111, .iload_n 3, 1, [], 0, 0)],
  [(112, .iconst 3, 1, [], 3, 0), (113, .if_icmp .ne 12, 3, [125], 0, 0), (116, .aload_n 0, 1, [], 0, 0), (117, .getfield 67, 3, [8, 7, 383], 0, 0), (120, .iconst 0, 1, [], 0, 0), (121, .invokevirtual 240, 3, [58, 1, 1, 1, 956], 0, 0), (124, .ireturn, 1, [], 0, 0), (125, .iconst 0, 1, [], 0, 0), (126, .istore 5, 2, [], 0, 0)],
  [(128, .iconst 0, 1, [], 0, 0), (129, .istore 6, 2, [], 0, 0), (131, .iload 6, 2, [], 0, 0), (133, .aload_n 0, 1, [], 0, 0), (134, .getfield 60, 3, [8, 6, 382], 0, 0), (137, .getfield 64, 3, [4, 0, 361], 0, 0), (140, .getfield 203, 3, [0, 7, 214], 0, 0), (143, .if_icmp .ge 33, 3, [176], 0, 0)],
  [(146, .aload_n 0, 1, [], 0, 0), (147, .getfield 67, 3, [8, 7, 383], 0, 0), (150, .iload 6, 2, [], 0, 0), (152, .invokevirtual 230, 3, [57, 1, 1, 1, 938], 0, 0), (155, .aload_n 0, 1, [], 0, 0), (156, .getfield 60, 3, [8, 6, 382], 0, 0), (159, .iload 6, 2, [], 0, 0)],
  [(161, .invokevirtual 277, 3, [65, 1, 1, 1, 1077], 0, 0), (164, .if_icmp .ne 6, 3, [170], 0, 0), (167, .iinc 5 1, 3, [], 1, 0), (170, .iinc 6 1, 3, [], 1, 0), (173, .goto (-42), 3, [131], 0, 0)],
  [(176, .iload 5, 2, [], 0, 0), (178, .ireturn, 1, [], 0, 0)]]
set_option maxRecDepth 100000 in
theorem ok_X8_world : ms_okC (ms_Y 125).1.cls (ms_Y 125).1.name (ms_Y 125).2.2.1 (ms_Y 125).2.1 cd_X8_world = true := by decide +kernel
def cd_X8_image : List (List ms_I) := [
  [(0, .iload_n 1, 1, [], 0, 0), (1, .iconst 1, 1, [], 1, 0), (2, .invokestatic 93, 3, [133, 0, 2, 1, 423], 0, 0), (5, .ifCond .ne 9, 3, [14], 0, 0), (8, .aload_n 0, 1, [], 0, 0), (9, .iconst (-1), 1, [], (-1), 0), (10, .invokevirtual 97, 3, [131, 1, 1, 1, 426], 0, 0), (13, .ireturn, 1, [], 0, 0), (14, .aload_n 0, 1, [], 0, 0), (15, .getfield 70, 3, [8, 8, 384], 0, 0)],
  [(18, .iload_n 1, 1, [], 0, 0), (19, .aaload, 1, [], 0, 0), (20, .aload_n 0, 1, [], 0, 0), (21, .getfield 28, 3, [8, 2, 378], 0, 0), (24, .invokevirtual 278, 3, [1, 1, 1, 0, 1085], 0, 0), (27, .aload_n 0, 1, [], 0, 0), (28, .getfield 74, 3, [8, 9, 385], 0, 0), (31, .iload_n 1, 1, [], 0, 0)],
  [(32, .iconst 1, 1, [], 1, 0), (33, .bastore, 1, [], 0, 0), (34, .aload_n 0, 1, [], 0, 0), (35, .iconst 0, 1, [], 0, 0), (36, .invokevirtual 108, 3, [130, 1, 1, 1, 437], 0, 0), (39, .ireturn, 1, [], 0, 0)]]
set_option maxRecDepth 100000 in
theorem ok_X8_image : ms_okC (ms_Y 126).1.cls (ms_Y 126).1.name (ms_Y 126).2.2.1 (ms_Y 126).2.1 cd_X8_image = true := by decide +kernel
def cd_X8_back : List (List ms_I) := [
  [(0, .iload_n 1, 1, [], 0, 0), (1, .iconst 1, 1, [], 1, 0), (2, .invokestatic 93, 3, [133, 0, 2, 1, 423], 0, 0), (5, .ifCond .ne 9, 3, [14], 0, 0), (8, .aload_n 0, 1, [], 0, 0), (9, .iconst (-1), 1, [], (-1), 0), (10, .invokevirtual 97, 3, [131, 1, 1, 1, 426], 0, 0), (13, .ireturn, 1, [], 0, 0), (14, .aload_n 0, 1, [], 0, 0), (15, .getfield 74, 3, [8, 9, 385], 0, 0)],
  [(18, .iload_n 1, 1, [], 0, 0), (19, .baload, 1, [], 0, 0), (20, .ifCond .ne 10, 3, [30], 0, 0), (23, .aload_n 0, 1, [], 0, 0), (24, .bipush (-2), 2, [], (-2), 0), (26, .invokevirtual 97, 3, [131, 1, 1, 1, 426], 0, 0), (29, .ireturn, 1, [], 0, 0), (30, .aload_n 0, 1, [], 0, 0), (31, .getfield 28, 3, [8, 2, 378], 0, 0)],
  [(34, .aload_n 0, 1, [], 0, 0), (35, .getfield 70, 3, [8, 8, 384], 0, 0), (38, .iload_n 1, 1, [], 0, 0), (39, .aaload, 1, [], 0, 0), (40, .invokevirtual 278, 3, [1, 1, 1, 0, 1085], 0, 0), (43, .aload_n 0, 1, [], 0, 0), (44, .getfield 53, 3, [8, 5, 381], 0, 0), (47, .invokevirtual 114, 3, [51, 1, 0, 0, 445], 0, 0)],
  [(50, .aload_n 0, 1, [], 0, 0), (51, .iconst 0, 1, [], 0, 0), (52, .invokevirtual 108, 3, [130, 1, 1, 1, 437], 0, 0), (55, .ireturn, 1, [], 0, 0)]]
set_option maxRecDepth 100000 in
theorem ok_X8_back : ms_okC (ms_Y 127).1.cls (ms_Y 127).1.name (ms_Y 127).2.2.1 (ms_Y 127).2.1 cd_X8_back = true := by decide +kernel
def cd_X8_count : List (List ms_I) := [
  [(0, .iload_n 1, 1, [], 0, 0), (1, .tableswitch 75 0 4 #[35, 43, 51, 59, 67], 35, [76, 36, 44, 52, 60, 68], 0, 0)],
  [],
  [(36, .aload_n 0, 1, [], 0, 0), (37, .getfield 28, 3, [8, 2, 378], 0, 0), (40, .getfield 101, 3, [0, 5, 206], 0, 0), (43, .ireturn, 1, [], 0, 0), (44, .aload_n 0, 1, [], 0, 0), (45, .getfield 28, 3, [8, 2, 378], 0, 0)],
  [(48, .getfield 111, 3, [0, 6, 210], 0, 0), (51, .ireturn, 1, [], 0, 0), (52, .aload_n 0, 1, [], 0, 0), (53, .getfield 28, 3, [8, 2, 378], 0, 0), (56, .getfield 203, 3, [0, 7, 214], 0, 0), (59, .ireturn, 1, [], 0, 0), (60, .aload_n 0, 1, [], 0, 0), (61, .getfield 28, 3, [8, 2, 378], 0, 0)],
  [(64, .getfield 164, 3, [0, 8, 217], 0, 0), (67, .ireturn, 1, [], 0, 0), (68, .aload_n 0, 1, [], 0, 0), (69, .getfield 10, 3, [8, 0, 376], 0, 0), (72, .getfield 138, 3, [6, 1, 147], 0, 0), (75, .ireturn, 1, [], 0, 0), (76, .iload_n 1, 1, [], 0, 0), (77, .iconst 5, 1, [], 5, 0), (78, .isub, 1, [], 0, 0), (79, .istore_n 2, 1, [], 0, 0)],
  [(80, .iload_n 2, 1, [], 0, 0), (81, .aload_n 0, 1, [], 0, 0), (82, .getfield 78, 3, [8, 10, 386], 0, 0), (85, .arraylength, 1, [], 0, 0), (86, .iconst 1, 1, [], 1, 0), (87, .isub, 1, [], 0, 0), (88, .invokestatic 93, 3, [133, 0, 2, 1, 423], 0, 0), (91, .ifCond .eq 12, 3, [103], 0, 0), (94, .aload_n 0, 1, [], 0, 0), (95, .getfield 78, 3, [8, 10, 386], 0, 0)],
  [(98, .iload_n 2, 1, [], 0, 0), (99, .iaload, 1, [], 0, 0), (100, .goto 4, 3, [104], 0, 0), (103, .iconst (-1), 1, [], (-1), 0), (104, .ireturn, 1, [], 0, 0)]]
set_option maxRecDepth 100000 in
theorem ok_X8_count : ms_okC (ms_Y 128).1.cls (ms_Y 128).1.name (ms_Y 128).2.2.1 (ms_Y 128).2.1 cd_X8_count = true := by decide +kernel
def cd_X8_status : List (List ms_I) := [
  [(0, .aload_n 0, 1, [], 0, 0), (1, .getfield 82, 3, [8, 11, 387], 0, 0), (4, .ireturn, 1, [], 0, 0)]]
set_option maxRecDepth 100000 in
theorem ok_X8_status : ms_okC (ms_Y 129).1.cls (ms_Y 129).1.name (ms_Y 129).2.2.1 (ms_Y 129).2.1 cd_X8_status = true := by decide +kernel
def cd_X8_accept : List (List ms_I) := [
  [(0, .aload_n 0, 1, [], 0, 0), (1, .iconst 0, 1, [], 0, 0), (2, .putfield 82, 3, [8, 11, 387], 0, 0), (5, .iload_n 1, 1, [], 0, 0), (6, .ireturn, 1, [], 0, 0)]]
set_option maxRecDepth 100000 in
theorem ok_X8_accept : ms_okC (ms_Y 130).1.cls (ms_Y 130).1.name (ms_Y 130).2.2.1 (ms_Y 130).2.1 cd_X8_accept = true := by decide +kernel
def cd_X8_refuse : List (List ms_I) := [
  [(0, .aload_n 0, 1, [], 0, 0), (1, .iload_n 1, 1, [], 0, 0), (2, .putfield 82, 3, [8, 11, 387], 0, 0), (5, .aload_n 0, 1, [], 0, 0), (6, .getfield 78, 3, [8, 10, 386], 0, 0), (9, .iload_n 1, 1, [], 0, 0), (10, .invokestatic 282, 3, [132, 0, 1, 1, 430], 0, 0), (13, .dup2, 1, [], 0, 0), (14, .iaload, 1, [], 0, 0), (15, .iconst 1, 1, [], 1, 0)],
  [(16, .iadd, 1, [], 0, 0), (17, .iastore, 1, [], 0, 0), (18, .iload_n 1, 1, [], 0, 0), (19, .ireturn, 1, [], 0, 0)]]
set_option maxRecDepth 100000 in
theorem ok_X8_refuse : ms_okC (ms_Y 131).1.cls (ms_Y 131).1.name (ms_Y 131).2.2.1 (ms_Y 131).2.1 cd_X8_refuse = true := by decide +kernel
def cd_X8_placeOf : List (List ms_I) := [
  [(0, .iload_n 0, 1, [], 0, 0), (1, .tableswitch 43 (-5) (-1) #[41, 43, 39, 37, 35], 35, [44, 42, 44, 40, 38, 36], 0, 0)],
  [],
  [(36, .iconst 0, 1, [], 0, 0), (37, .ireturn, 1, [], 0, 0), (38, .iconst 1, 1, [], 1, 0), (39, .ireturn, 1, [], 0, 0), (40, .iconst 2, 1, [], 2, 0), (41, .ireturn, 1, [], 0, 0), (42, .iconst 3, 1, [], 3, 0), (43, .ireturn, 1, [], 0, 0), (44, .iconst 4, 1, [], 4, 0), (45, .ireturn, 1, [], 0, 0)]]
set_option maxRecDepth 100000 in
theorem ok_X8_placeOf : ms_okC (ms_Y 132).1.cls (ms_Y 132).1.name (ms_Y 132).2.2.1 (ms_Y 132).2.1 cd_X8_placeOf = true := by decide +kernel
def cd_X8_within : List (List ms_I) := [
  [(0, .iload_n 0, 1, [], 0, 0), (1, .ifCond .lt 12, 3, [13], 0, 0), (4, .iload_n 0, 1, [], 0, 0), (5, .iload_n 1, 1, [], 0, 0), (6, .if_icmp .gt 7, 3, [13], 0, 0), (9, .iconst 1, 1, [], 1, 0), (10, .goto 4, 3, [14], 0, 0), (13, .iconst 0, 1, [], 0, 0), (14, .ireturn, 1, [], 0, 0)]]
set_option maxRecDepth 100000 in
theorem ok_X8_within : ms_okC (ms_Y 133).1.cls (ms_Y 133).1.name (ms_Y 133).2.2.1 (ms_Y 133).2.1 cd_X8_within = true := by decide +kernel
def cd_X8_areFields : List (List ms_I) := [
  [(0, .iload_n 0, 1, [], 0, 0), (1, .sipush 9999, 3, [], 9999, 0), (4, .invokestatic 93, 3, [133, 0, 2, 1, 423], 0, 0), (7, .ifCond .eq 37, 3, [44], 0, 0), (10, .iload_n 1, 1, [], 0, 0), (11, .sipush 9999, 3, [], 9999, 0), (14, .invokestatic 93, 3, [133, 0, 2, 1, 423], 0, 0)],
  [(17, .ifCond .eq 27, 3, [44], 0, 0), (20, .iload_n 2, 1, [], 0, 0), (21, .sipush 9999, 3, [], 9999, 0), (24, .invokestatic 93, 3, [133, 0, 2, 1, 423], 0, 0), (27, .ifCond .eq 17, 3, [44], 0, 0), (30, .iload_n 3, 1, [], 0, 0), (31, .sipush 9999, 3, [], 9999, 0)],
  [(34, .invokestatic 93, 3, [133, 0, 2, 1, 423], 0, 0), (37, .ifCond .eq 7, 3, [44], 0, 0), (40, .iconst 1, 1, [], 1, 0), (41, .goto 4, 3, [45], 0, 0), (44, .iconst 0, 1, [], 0, 0), (45, .ireturn, 1, [], 0, 0)]]
set_option maxRecDepth 100000 in
theorem ok_X8_areFields : ms_okC (ms_Y 134).1.cls (ms_Y 134).1.name (ms_Y 134).2.2.1 (ms_Y 134).2.1 cd_X8_areFields = true := by decide +kernel
def cd_X8_areOfOneThing : List (List ms_I) := [
  [(0, .aload_n 0, 1, [], 0, 0), (1, .getfield 28, 3, [8, 2, 378], 0, 0), (4, .iload_n 1, 1, [], 0, 0), (5, .invokevirtual 200, 3, [5, 1, 1, 1, 735], 0, 0), (8, .ifCond .eq 39, 3, [47], 0, 0), (11, .aload_n 0, 1, [], 0, 0), (12, .getfield 28, 3, [8, 2, 378], 0, 0), (15, .iload_n 2, 1, [], 0, 0)],
  [(16, .invokevirtual 200, 3, [5, 1, 1, 1, 735], 0, 0), (19, .ifCond .eq 28, 3, [47], 0, 0), (22, .aload_n 0, 1, [], 0, 0), (23, .getfield 28, 3, [8, 2, 378], 0, 0), (26, .iload_n 1, 1, [], 0, 0), (27, .iconst 2, 1, [], 2, 0), (28, .invokevirtual 150, 3, [12, 1, 2, 1, 504], 0, 0), (31, .aload_n 0, 1, [], 0, 0)],
  [(32, .getfield 28, 3, [8, 2, 378], 0, 0), (35, .iload_n 2, 1, [], 0, 0), (36, .iconst 2, 1, [], 2, 0), (37, .invokevirtual 150, 3, [12, 1, 2, 1, 504], 0, 0), (40, .if_icmp .ne 7, 3, [47], 0, 0), (43, .iconst 1, 1, [], 1, 0), (44, .goto 4, 3, [48], 0, 0), (47, .iconst 0, 1, [], 0, 0)],
  [(48, .ireturn, 1, [], 0, 0)]]
set_option maxRecDepth 100000 in
theorem ok_X8_areOfOneThing : ms_okC (ms_Y 135).1.cls (ms_Y 135).1.name (ms_Y 135).2.2.1 (ms_Y 135).2.1 cd_X8_areOfOneThing = true := by decide +kernel
def cd_X8_slipKind : List (List ms_I) := [
  [(0, .iload_n 0, 1, [], 0, 0), (1, .iload_n 1, 1, [], 0, 0), (2, .if_icmp .ne 5, 3, [7], 0, 0), (5, .iconst 0, 1, [], 0, 0), (6, .ireturn, 1, [], 0, 0), (7, .iload_n 0, 1, [], 0, 0), (8, .iload_n 1, 1, [], 0, 0), (9, .invokestatic 285, 3, [137, 0, 2, 1, 715], 0, 0), (12, .ifCond .eq 5, 3, [17], 0, 0), (15, .iconst 1, 1, [], 1, 0)],
  [(16, .ireturn, 1, [], 0, 0), (17, .iload_n 0, 1, [], 0, 0), (18, .iload_n 1, 1, [], 0, 0), (19, .invokestatic 288, 3, [138, 0, 2, 1, 721], 0, 0), (22, .ifCond .eq 5, 3, [27], 0, 0), (25, .iconst 2, 1, [], 2, 0), (26, .ireturn, 1, [], 0, 0), (27, .iload_n 0, 1, [], 0, 0), (28, .iload_n 1, 1, [], 0, 0), (29, .invokestatic 291, 3, [139, 0, 2, 1, 724], 0, 0)],
  [(32, .ifCond .eq 7, 3, [39], 0, 0), (35, .iconst 3, 1, [], 3, 0), (36, .goto 4, 3, [40], 0, 0), (39, .iconst 4, 1, [], 4, 0), (40, .ireturn, 1, [], 0, 0)]]
set_option maxRecDepth 100000 in
theorem ok_X8_slipKind : ms_okC (ms_Y 136).1.cls (ms_Y 136).1.name (ms_Y 136).2.2.1 (ms_Y 136).2.1 cd_X8_slipKind = true := by decide +kernel
def cd_X8_isNear : List (List ms_I) := [
  [(0, .iconst 0, 1, [], 0, 0), (1, .istore_n 2, 1, [], 0, 0), (2, .iconst 0, 1, [], 0, 0), (3, .istore_n 3, 1, [], 0, 0), (4, .iconst 1, 1, [], 1, 0), (5, .istore 4, 2, [], 0, 0), (7, .iload 4, 2, [], 0, 0), (9, .sipush 1000, 3, [], 1000, 0), (12, .if_icmp .gt 44, 3, [56], 0, 0), (15, .iload_n 0, 1, [], 0, 0)],
  [(16, .iload 4, 2, [], 0, 0), (18, .idiv, 1, [], 0, 0), (19, .bipush 10, 2, [], 10, 0), (21, .irem, 1, [], 0, 0), (22, .iload_n 1, 1, [], 0, 0), (23, .iload 4, 2, [], 0, 0), (25, .idiv, 1, [], 0, 0), (26, .bipush 10, 2, [], 10, 0), (28, .irem, 1, [], 0, 0), (29, .isub, 1, [], 0, 0), (30, .invokestatic 294, 3, [1005, 718, 719, 127, 720, 0, 0, 0], 0, 0)],
  [(33, .istore 5, 2, [], 0, 0), (35, .iload 5, 2, [], 0, 0), (37, .ifCond .eq 9, 3, [46], 0, 0), (40, .iinc 2 1, 3, [], 1, 0), (43, .iload 5, 2, [], 0, 0), (45, .istore_n 3, 1, [], 0, 0), (46, .iload 4, 2, [], 0, 0)],
  [(48, .bipush 10, 2, [], 10, 0), (50, .imul, 1, [], 0, 0), (51, .istore 4, 2, [], 0, 0), (53, .goto (-46), 3, [7], 0, 0), (56, .iload_n 2, 1, [], 0, 0), (57, .iconst 1, 1, [], 1, 0), (58, .if_icmp .ne 17, 3, [75], 0, 0), (61, .iload_n 3, 1, [], 0, 0), (62, .iconst 1, 1, [], 1, 0), (63, .if_icmp .eq 8, 3, [71], 0, 0)],
  [(66, .iload_n 3, 1, [], 0, 0), (67, .iconst 3, 1, [], 3, 0), (68, .if_icmp .ne 7, 3, [75], 0, 0), (71, .iconst 1, 1, [], 1, 0), (72, .goto 4, 3, [76], 0, 0), (75, .iconst 0, 1, [], 0, 0), (76, .ireturn, 1, [], 0, 0)]]
set_option maxRecDepth 100000 in
theorem ok_X8_isNear : ms_okC (ms_Y 137).1.cls (ms_Y 137).1.name (ms_Y 137).2.2.1 (ms_Y 137).2.1 cd_X8_isNear = true := by decide +kernel
def cd_X8_isSwap : List (List ms_I) := [
  [(0, .iconst 1, 1, [], 1, 0), (1, .istore_n 2, 1, [], 0, 0), (2, .iload_n 2, 1, [], 0, 0), (3, .bipush 100, 2, [], 100, 0), (5, .if_icmp .gt 57, 3, [62], 0, 0), (8, .iload_n 0, 1, [], 0, 0), (9, .iload_n 2, 1, [], 0, 0), (10, .idiv, 1, [], 0, 0), (11, .bipush 10, 2, [], 10, 0), (13, .irem, 1, [], 0, 0), (14, .istore_n 3, 1, [], 0, 0), (15, .iload_n 0, 1, [], 0, 0)],
  [(16, .iload_n 2, 1, [], 0, 0), (17, .idiv, 1, [], 0, 0), (18, .bipush 10, 2, [], 10, 0), (20, .idiv, 1, [], 0, 0), (21, .bipush 10, 2, [], 10, 0), (23, .irem, 1, [], 0, 0), (24, .istore 4, 2, [], 0, 0), (26, .iload_n 0, 1, [], 0, 0), (27, .iload_n 3, 1, [], 0, 0), (28, .iload 4, 2, [], 0, 0), (30, .isub, 1, [], 0, 0), (31, .iload_n 2, 1, [], 0, 0)],
  [(32, .imul, 1, [], 0, 0), (33, .bipush 10, 2, [], 10, 0), (35, .imul, 1, [], 0, 0), (36, .iadd, 1, [], 0, 0), (37, .iload 4, 2, [], 0, 0), (39, .iload_n 3, 1, [], 0, 0), (40, .isub, 1, [], 0, 0), (41, .iload_n 2, 1, [], 0, 0), (42, .imul, 1, [], 0, 0), (43, .iadd, 1, [], 0, 0), (44, .istore 5, 2, [], 0, 0), (46, .iload 5, 2, [], 0, 0)],
  [(48, .iload_n 1, 1, [], 0, 0), (49, .if_icmp .ne 5, 3, [54], 0, 0), (52, .iconst 1, 1, [], 1, 0), (53, .ireturn, 1, [], 0, 0), (54, .iload_n 2, 1, [], 0, 0), (55, .bipush 10, 2, [], 10, 0), (57, .imul, 1, [], 0, 0), (58, .istore_n 2, 1, [], 0, 0), (59, .goto (-57), 3, [2], 0, 0), (62, .iconst 0, 1, [], 0, 0), (63, .ireturn, 1, [], 0, 0)]]
set_option maxRecDepth 100000 in
theorem ok_X8_isSwap : ms_okC (ms_Y 138).1.cls (ms_Y 138).1.name (ms_Y 138).2.2.1 (ms_Y 138).2.1 cd_X8_isSwap = true := by decide +kernel
def cd_X8_isDrop : List (List ms_I) := [
  [(0, .iload_n 0, 1, [], 0, 0), (1, .bipush 10, 2, [], 10, 0), (3, .if_icmp .ge 5, 3, [8], 0, 0), (6, .iconst 0, 1, [], 0, 0), (7, .ireturn, 1, [], 0, 0), (8, .iconst 1, 1, [], 1, 0), (9, .istore_n 2, 1, [], 0, 0), (10, .iload_n 2, 1, [], 0, 0), (11, .sipush 1000, 3, [], 1000, 0), (14, .if_icmp .gt 34, 3, [48], 0, 0)],
  [(17, .iload_n 2, 1, [], 0, 0), (18, .iload_n 0, 1, [], 0, 0), (19, .if_icmp .gt 29, 3, [48], 0, 0), (22, .iload_n 0, 1, [], 0, 0), (23, .iload_n 2, 1, [], 0, 0), (24, .idiv, 1, [], 0, 0), (25, .bipush 10, 2, [], 10, 0), (27, .idiv, 1, [], 0, 0), (28, .iload_n 2, 1, [], 0, 0), (29, .imul, 1, [], 0, 0), (30, .iload_n 0, 1, [], 0, 0), (31, .iload_n 2, 1, [], 0, 0)],
  [(32, .irem, 1, [], 0, 0), (33, .iadd, 1, [], 0, 0), (34, .iload_n 1, 1, [], 0, 0), (35, .if_icmp .ne 5, 3, [40], 0, 0), (38, .iconst 1, 1, [], 1, 0), (39, .ireturn, 1, [], 0, 0), (40, .iload_n 2, 1, [], 0, 0), (41, .bipush 10, 2, [], 10, 0), (43, .imul, 1, [], 0, 0), (44, .istore_n 2, 1, [], 0, 0), (45, .goto (-35), 3, [10], 0, 0)],
  [(48, .iconst 0, 1, [], 0, 0), (49, .ireturn, 1, [], 0, 0)]]
set_option maxRecDepth 100000 in
theorem ok_X8_isDrop : ms_okC (ms_Y 139).1.cls (ms_Y 139).1.name (ms_Y 139).2.2.1 (ms_Y 139).2.1 cd_X8_isDrop = true := by decide +kernel
