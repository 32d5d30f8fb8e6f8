/-! the rows of the methods, group m0: written by wip/whole/code.py -/
def cd_X9_init : List (List ms_I) := [
  [(0, .aload_n 0, 1, [], 0, 0), (1, .invokespecial 1, 3, [1000, 1103, 137, 138], 0, 0), (4, .aload_n 0, 1, [], 0, 0), (5, .bipush 7, 2, [], 7, 0), (7, .newarray .int, 2, [154], 0, 0), (9, .putfield 7, 3, [9, 2, 1107], 0, 0), (12, .aload_n 0, 1, [], 0, 0), (13, .sipush 18906, 3, [], 18906, 0)],
  [(16, .newarray .int, 2, [154], 0, 0), (18, .putfield 13, 3, [9, 3, 1108], 0, 0), (21, .aload_n 0, 1, [], 0, 0), (22, .sipush 946, 3, [], 946, 0), (25, .newarray .int, 2, [154], 0, 0), (27, .putfield 16, 3, [9, 4, 1109], 0, 0), (30, .aload_n 0, 1, [], 0, 0), (31, .ldc 19, 2, [1104], 37812, 0)],
  [(33, .newarray .int, 2, [154], 0, 0), (35, .putfield 20, 3, [9, 5, 1110], 0, 0), (38, .aload_n 0, 1, [], 0, 0), (39, .iconst 2, 1, [], 2, 0), (40, .newarray .boolean, 2, [308], 0, 0), (42, .putfield 23, 3, [9, 6, 1111], 0, 0), (45, .aload_n 0, 1, [], 0, 0), (46, .sipush 400, 3, [], 400, 0)],
  [(49, .newarray .int, 2, [154], 0, 0), (51, .putfield 27, 3, [9, 7, 1112], 0, 0), (54, .aload_n 0, 1, [], 0, 0), (55, .iconst (-1), 1, [], (-1), 0), (56, .putfield 30, 3, [9, 13, 1118], 0, 0), (59, .aload_n 0, 1, [], 0, 0), (60, .bipush 96, 2, [], 96, 0), (62, .newarray .int, 2, [154], 0, 0)],
  [(64, .putfield 34, 3, [9, 16, 1121], 0, 0), (67, .aload_n 0, 1, [], 0, 0), (68, .sipush 400, 3, [], 400, 0), (71, .newarray .int, 2, [154], 0, 0), (73, .putfield 37, 3, [9, 18, 1123], 0, 0), (76, .aload_n 0, 1, [], 0, 0), (77, .sipush 400, 3, [], 400, 0)],
  [(80, .newarray .int, 2, [154], 0, 0), (82, .putfield 40, 3, [9, 19, 1124], 0, 0), (85, .aload_n 0, 1, [], 0, 0), (86, .sipush 400, 3, [], 400, 0), (89, .newarray .int, 2, [154], 0, 0), (91, .putfield 43, 3, [9, 21, 1126], 0, 0), (94, .aload_n 0, 1, [], 0, 0), (95, .sipush 400, 3, [], 400, 0)],
  [(98, .newarray .int, 2, [154], 0, 0), (100, .putfield 46, 3, [9, 22, 1127], 0, 0), (103, .aload_n 0, 1, [], 0, 0), (104, .bipush 17, 2, [], 17, 0), (106, .newarray .long, 2, [253], 0, 0), (108, .putfield 49, 3, [9, 25, 1130], 0, 0), (111, .aload_n 0, 1, [], 0, 0)],
  [(112, .sipush 400, 3, [], 400, 0), (115, .newarray .long, 2, [253], 0, 0), (117, .putfield 53, 3, [9, 26, 1131], 0, 0), (120, .aload_n 0, 1, [], 0, 0), (121, .bipush 9, 2, [], 9, 0), (123, .newarray .int, 2, [154], 0, 0), (125, .putfield 56, 3, [9, 31, 1136], 0, 0)],
  [(128, .aload_n 0, 1, [], 0, 0), (129, .bipush 9, 2, [], 9, 0), (131, .newarray .int, 2, [154], 0, 0), (133, .putfield 59, 3, [9, 32, 1137], 0, 0), (136, .aload_n 0, 1, [], 0, 0), (137, .bipush 12, 2, [], 12, 0), (139, .newarray .int, 2, [154], 0, 0), (141, .putfield 62, 3, [9, 34, 1139], 0, 0)],
  [(144, .aload_n 0, 1, [], 0, 0), (145, .bipush 12, 2, [], 12, 0), (147, .newarray .int, 2, [154], 0, 0), (149, .putfield 65, 3, [9, 35, 1140], 0, 0), (152, .aload_n 0, 1, [], 0, 0), (153, .bipush 108, 2, [], 108, 0), (155, .newarray .int, 2, [154], 0, 0), (157, .putfield 68, 3, [9, 36, 1141], 0, 0)],
  [(160, .aload_n 0, 1, [], 0, 0), (161, .bipush 108, 2, [], 108, 0), (163, .newarray .int, 2, [154], 0, 0), (165, .putfield 71, 3, [9, 37, 1142], 0, 0), (168, .aload_n 0, 1, [], 0, 0), (169, .bipush 120, 2, [], 120, 0), (171, .newarray .int, 2, [154], 0, 0), (173, .putfield 74, 3, [9, 40, 1145], 0, 0)],
  [(176, .aload_n 0, 1, [], 0, 0), (177, .bipush 41, 2, [], 41, 0), (179, .newarray .int, 2, [154], 0, 0), (181, .putfield 77, 3, [9, 42, 1147], 0, 0), (184, .aload_n 0, 1, [], 0, 0), (185, .bipush 41, 2, [], 41, 0), (187, .newarray .int, 2, [154], 0, 0), (189, .putfield 80, 3, [9, 43, 1148], 0, 0)],
  [(192, .aload_n 0, 1, [], 0, 0), (193, .bipush 41, 2, [], 41, 0), (195, .newarray .int, 2, [154], 0, 0), (197, .putfield 83, 3, [9, 44, 1149], 0, 0), (200, .aload_n 0, 1, [], 0, 0), (201, .bipush 41, 2, [], 41, 0), (203, .newarray .int, 2, [154], 0, 0), (205, .putfield 86, 3, [9, 45, 1150], 0, 0)],
  [(208, .aload_n 0, 1, [], 0, 0), (209, .bipush 41, 2, [], 41, 0), (211, .newarray .int, 2, [154], 0, 0), (213, .putfield 89, 3, [9, 46, 1151], 0, 0), (216, .aload_n 0, 1, [], 0, 0), (217, .bipush 41, 2, [], 41, 0), (219, .newarray .int, 2, [154], 0, 0), (221, .putfield 92, 3, [9, 47, 1152], 0, 0)],
  [(224, .aload_n 0, 1, [], 0, 0), (225, .bipush 41, 2, [], 41, 0), (227, .newarray .int, 2, [154], 0, 0), (229, .putfield 95, 3, [9, 48, 1153], 0, 0), (232, .aload_n 0, 1, [], 0, 0), (233, .bipush 41, 2, [], 41, 0), (235, .newarray .int, 2, [154], 0, 0), (237, .putfield 98, 3, [9, 49, 1154], 0, 0)],
  [(240, .aload_n 0, 1, [], 0, 0), (241, .bipush 64, 2, [], 64, 0), (243, .newarray .int, 2, [154], 0, 0), (245, .putfield 101, 3, [9, 51, 1156], 0, 0), (248, .return_, 1, [], 0, 0)]]
set_option maxRecDepth 100000 in
theorem ok_X9_init : ms_okC (ms_Y 140).1.cls (ms_Y 140).1.name (ms_Y 140).2.2.1 (ms_Y 140).2.1 cd_X9_init = true := by decide +kernel
def cd_X9_in : List (List ms_I) := [
  [(0, .lload_n 0, 1, [], 0, 0), (1, .lload_n 2, 1, [], 0, 0), (2, .lcmp, 1, [], 0, 0), (3, .ifCond .lt 14, 3, [17], 0, 0), (6, .lload_n 0, 1, [], 0, 0), (7, .lload 4, 2, [], 0, 0), (9, .lcmp, 1, [], 0, 0), (10, .ifCond .gt 7, 3, [17], 0, 0), (13, .iconst 1, 1, [], 1, 0), (14, .goto 4, 3, [18], 0, 0)],
  [(17, .iconst 0, 1, [], 0, 0), (18, .ireturn, 1, [], 0, 0)]]
set_option maxRecDepth 100000 in
theorem ok_X9_in : ms_okC (ms_Y 141).1.cls (ms_Y 141).1.name (ms_Y 141).2.2.1 (ms_Y 141).2.1 cd_X9_in = true := by decide +kernel
def cd_X9_tell : List (List ms_I) := [
  [(0, .aload_n 0, 1, [], 0, 0), (1, .iload_n 1, 1, [], 0, 0), (2, .ifCond .ge 7, 3, [9], 0, 0), (5, .iload_n 1, 1, [], 0, 0), (6, .goto 4, 3, [10], 0, 0), (9, .iconst 0, 1, [], 0, 0), (10, .putfield 107, 3, [9, 1, 1106], 0, 0), (13, .iload_n 1, 1, [], 0, 0), (14, .ifCond .ge 14, 3, [28], 0, 0)],
  [(17, .aload_n 0, 1, [], 0, 0), (18, .getfield 7, 3, [9, 2, 1107], 0, 0), (21, .iload_n 1, 1, [], 0, 0), (22, .ineg, 1, [], 0, 0), (23, .dup2, 1, [], 0, 0), (24, .iaload, 1, [], 0, 0), (25, .iconst 1, 1, [], 1, 0), (26, .iadd, 1, [], 0, 0), (27, .iastore, 1, [], 0, 0), (28, .iload_n 1, 1, [], 0, 0), (29, .ireturn, 1, [], 0, 0)]]
set_option maxRecDepth 100000 in
theorem ok_X9_tell : ms_okC (ms_Y 142).1.cls (ms_Y 142).1.name (ms_Y 142).2.2.1 (ms_Y 142).2.1 cd_X9_tell = true := by decide +kernel
def cd_X9_isDay : List (List ms_I) := [
  [(0, .iload_n 0, 1, [], 0, 0), (1, .i2l, 1, [], 0, 0), (2, .lconst 0, 1, [], 0, 0), (3, .ldc2_w 110, 3, [1302], 0, 99), (6, .invokestatic 112, 3, [141, 0, 3, 1, 1266], 0, 0), (9, .ireturn, 1, [], 0, 0)]]
set_option maxRecDepth 100000 in
theorem ok_X9_isDay : ms_okC (ms_Y 143).1.cls (ms_Y 143).1.name (ms_Y 143).2.2.1 (ms_Y 143).2.1 cd_X9_isDay = true := by decide +kernel
def cd_X9_image : List (List ms_I) := [
  [(0, .aload_n 0, 1, [], 0, 0), (1, .iconst 0, 1, [], 0, 0), (2, .putfield 104, 3, [9, 0, 1105], 0, 0), (5, .iload_n 1, 1, [], 0, 0), (6, .i2l, 1, [], 0, 0), (7, .lconst 0, 1, [], 0, 0), (8, .lconst 1, 1, [], 0, 1), (9, .invokestatic 112, 3, [141, 0, 3, 1, 1266], 0, 0), (12, .ifCond .ne 9, 3, [21], 0, 0), (15, .aload_n 0, 1, [], 0, 0)],
  [(16, .iconst (-1), 1, [], (-1), 0), (17, .invokevirtual 116, 3, [142, 1, 1, 1, 1269], 0, 0), (20, .ireturn, 1, [], 0, 0), (21, .iconst 0, 1, [], 0, 0), (22, .istore_n 2, 1, [], 0, 0), (23, .iload_n 2, 1, [], 0, 0), (24, .sipush 18906, 3, [], 18906, 0), (27, .if_icmp .ge 27, 3, [54], 0, 0), (30, .aload_n 0, 1, [], 0, 0), (31, .getfield 20, 3, [9, 5, 1110], 0, 0)],
  [(34, .sipush 18906, 3, [], 18906, 0), (37, .iload_n 1, 1, [], 0, 0), (38, .imul, 1, [], 0, 0), (39, .iload_n 2, 1, [], 0, 0), (40, .iadd, 1, [], 0, 0), (41, .aload_n 0, 1, [], 0, 0), (42, .getfield 13, 3, [9, 3, 1108], 0, 0), (45, .iload_n 2, 1, [], 0, 0), (46, .iaload, 1, [], 0, 0), (47, .iastore, 1, [], 0, 0)],
  [(48, .iinc 2 1, 3, [], 1, 0), (51, .goto (-28), 3, [23], 0, 0), (54, .aload_n 0, 1, [], 0, 0), (55, .getfield 23, 3, [9, 6, 1111], 0, 0), (58, .iload_n 1, 1, [], 0, 0), (59, .iconst 1, 1, [], 1, 0), (60, .bastore, 1, [], 0, 0), (61, .aload_n 0, 1, [], 0, 0), (62, .iconst 0, 1, [], 0, 0), (63, .invokevirtual 116, 3, [142, 1, 1, 1, 1269], 0, 0)],
  [(66, .ireturn, 1, [], 0, 0)]]
set_option maxRecDepth 100000 in
theorem ok_X9_image : ms_okC (ms_Y 144).1.cls (ms_Y 144).1.name (ms_Y 144).2.2.1 (ms_Y 144).2.1 cd_X9_image = true := by decide +kernel
def cd_X9_back : List (List ms_I) := [
  [(0, .aload_n 0, 1, [], 0, 0), (1, .iconst 0, 1, [], 0, 0), (2, .putfield 104, 3, [9, 0, 1105], 0, 0), (5, .iload_n 1, 1, [], 0, 0), (6, .i2l, 1, [], 0, 0), (7, .lconst 0, 1, [], 0, 0), (8, .lconst 1, 1, [], 0, 1), (9, .invokestatic 112, 3, [141, 0, 3, 1, 1266], 0, 0), (12, .ifCond .ne 9, 3, [21], 0, 0), (15, .aload_n 0, 1, [], 0, 0)],
  [(16, .iconst (-1), 1, [], (-1), 0), (17, .invokevirtual 116, 3, [142, 1, 1, 1, 1269], 0, 0), (20, .ireturn, 1, [], 0, 0), (21, .aload_n 0, 1, [], 0, 0), (22, .getfield 23, 3, [9, 6, 1111], 0, 0), (25, .iload_n 1, 1, [], 0, 0), (26, .baload, 1, [], 0, 0), (27, .ifCond .ne 10, 3, [37], 0, 0), (30, .aload_n 0, 1, [], 0, 0), (31, .bipush (-2), 2, [], (-2), 0)],
  [(33, .invokevirtual 116, 3, [142, 1, 1, 1, 1269], 0, 0), (36, .ireturn, 1, [], 0, 0), (37, .iconst 0, 1, [], 0, 0), (38, .istore_n 2, 1, [], 0, 0), (39, .iload_n 2, 1, [], 0, 0), (40, .sipush 18906, 3, [], 18906, 0), (43, .if_icmp .ge 27, 3, [70], 0, 0), (46, .aload_n 0, 1, [], 0, 0), (47, .getfield 13, 3, [9, 3, 1108], 0, 0)],
  [(50, .iload_n 2, 1, [], 0, 0), (51, .aload_n 0, 1, [], 0, 0), (52, .getfield 20, 3, [9, 5, 1110], 0, 0), (55, .sipush 18906, 3, [], 18906, 0), (58, .iload_n 1, 1, [], 0, 0), (59, .imul, 1, [], 0, 0), (60, .iload_n 2, 1, [], 0, 0), (61, .iadd, 1, [], 0, 0), (62, .iaload, 1, [], 0, 0), (63, .iastore, 1, [], 0, 0)],
  [(64, .iinc 2 1, 3, [], 1, 0), (67, .goto (-28), 3, [39], 0, 0), (70, .aload_n 0, 1, [], 0, 0), (71, .iconst 0, 1, [], 0, 0), (72, .invokevirtual 116, 3, [142, 1, 1, 1, 1269], 0, 0), (75, .ireturn, 1, [], 0, 0)]]
set_option maxRecDepth 100000 in
theorem ok_X9_back : ms_okC (ms_Y 145).1.cls (ms_Y 145).1.name (ms_Y 145).2.2.1 (ms_Y 145).2.1 cd_X9_back = true := by decide +kernel
def cd_X9_isThing : List (List ms_I) := [
  [(0, .iload_n 1, 1, [], 0, 0), (1, .i2l, 1, [], 0, 0), (2, .lconst 0, 1, [], 0, 0), (3, .aload_n 0, 1, [], 0, 0), (4, .getfield 13, 3, [9, 3, 1108], 0, 0), (7, .iconst 0, 1, [], 0, 0), (8, .iaload, 1, [], 0, 0), (9, .i2l, 1, [], 0, 0), (10, .lconst 1, 1, [], 0, 1), (11, .lsub, 1, [], 0, 0), (12, .invokestatic 112, 3, [141, 0, 3, 1, 1266], 0, 0), (15, .ireturn, 1, [], 0, 0)]]
set_option maxRecDepth 100000 in
theorem ok_X9_isThing : ms_okC (ms_Y 146).1.cls (ms_Y 146).1.name (ms_Y 146).2.2.1 (ms_Y 146).2.1 cd_X9_isThing = true := by decide +kernel
def cd_X9_isPaper : List (List ms_I) := [
  [(0, .iload_n 1, 1, [], 0, 0), (1, .i2l, 1, [], 0, 0), (2, .lconst 0, 1, [], 0, 0), (3, .aload_n 0, 1, [], 0, 0), (4, .getfield 13, 3, [9, 3, 1108], 0, 0), (7, .iconst 1, 1, [], 1, 0), (8, .iaload, 1, [], 0, 0), (9, .i2l, 1, [], 0, 0), (10, .lconst 1, 1, [], 0, 1), (11, .lsub, 1, [], 0, 0), (12, .invokestatic 112, 3, [141, 0, 3, 1, 1266], 0, 0), (15, .ireturn, 1, [], 0, 0)]]
set_option maxRecDepth 100000 in
theorem ok_X9_isPaper : ms_okC (ms_Y 147).1.cls (ms_Y 147).1.name (ms_Y 147).2.2.1 (ms_Y 147).2.1 cd_X9_isPaper = true := by decide +kernel
def cd_X9_isEntry : List (List ms_I) := [
  [(0, .iload_n 1, 1, [], 0, 0), (1, .i2l, 1, [], 0, 0), (2, .lconst 0, 1, [], 0, 0), (3, .aload_n 0, 1, [], 0, 0), (4, .getfield 13, 3, [9, 3, 1108], 0, 0), (7, .iconst 2, 1, [], 2, 0), (8, .iaload, 1, [], 0, 0), (9, .i2l, 1, [], 0, 0), (10, .lconst 1, 1, [], 0, 1), (11, .lsub, 1, [], 0, 0), (12, .invokestatic 112, 3, [141, 0, 3, 1, 1266], 0, 0), (15, .ireturn, 1, [], 0, 0)]]
set_option maxRecDepth 100000 in
theorem ok_X9_isEntry : ms_okC (ms_Y 148).1.cls (ms_Y 148).1.name (ms_Y 148).2.2.1 (ms_Y 148).2.1 cd_X9_isEntry = true := by decide +kernel
def cd_X9_thingAt : List (List ms_I) := [
  [(0, .bipush 10, 2, [], 10, 0), (2, .bipush 6, 2, [], 6, 0), (4, .iload_n 0, 1, [], 0, 0), (5, .imul, 1, [], 0, 0), (6, .iadd, 1, [], 0, 0), (7, .ireturn, 1, [], 0, 0)]]
set_option maxRecDepth 100000 in
theorem ok_X9_thingAt : ms_okC (ms_Y 149).1.cls (ms_Y 149).1.name (ms_Y 149).2.2.1 (ms_Y 149).2.1 cd_X9_thingAt = true := by decide +kernel
def cd_X9_paperAt : List (List ms_I) := [
  [(0, .bipush 58, 2, [], 58, 0), (2, .iconst 3, 1, [], 3, 0), (3, .iload_n 0, 1, [], 0, 0), (4, .imul, 1, [], 0, 0), (5, .iadd, 1, [], 0, 0), (6, .ireturn, 1, [], 0, 0)]]
set_option maxRecDepth 100000 in
theorem ok_X9_paperAt : ms_okC (ms_Y 150).1.cls (ms_Y 150).1.name (ms_Y 150).2.2.1 (ms_Y 150).2.1 cd_X9_paperAt = true := by decide +kernel
def cd_X9_entryAt : List (List ms_I) := [
  [(0, .bipush 106, 2, [], 106, 0), (2, .bipush 7, 2, [], 7, 0), (4, .iload_n 0, 1, [], 0, 0), (5, .imul, 1, [], 0, 0), (6, .iadd, 1, [], 0, 0), (7, .ireturn, 1, [], 0, 0)]]
set_option maxRecDepth 100000 in
theorem ok_X9_entryAt : ms_okC (ms_Y 151).1.cls (ms_Y 151).1.name (ms_Y 151).2.2.1 (ms_Y 151).2.1 cd_X9_entryAt = true := by decide +kernel
def cd_X9_paperOf : List (List ms_I) := [
  [(0, .aload_n 0, 1, [], 0, 0), (1, .getfield 13, 3, [9, 3, 1108], 0, 0), (4, .iload_n 1, 1, [], 0, 0), (5, .invokestatic 120, 3, [151, 0, 1, 1, 1334], 0, 0), (8, .iaload, 1, [], 0, 0), (9, .ireturn, 1, [], 0, 0)]]
set_option maxRecDepth 100000 in
theorem ok_X9_paperOf : ms_okC (ms_Y 152).1.cls (ms_Y 152).1.name (ms_Y 152).2.2.1 (ms_Y 152).2.1 cd_X9_paperOf = true := by decide +kernel
def cd_X9_thingOf : List (List ms_I) := [
  [(0, .aload_n 0, 1, [], 0, 0), (1, .getfield 13, 3, [9, 3, 1108], 0, 0), (4, .iload_n 1, 1, [], 0, 0), (5, .invokestatic 120, 3, [151, 0, 1, 1, 1334], 0, 0), (8, .iconst 1, 1, [], 1, 0), (9, .iadd, 1, [], 0, 0), (10, .iaload, 1, [], 0, 0), (11, .ireturn, 1, [], 0, 0)]]
set_option maxRecDepth 100000 in
theorem ok_X9_thingOf : ms_okC (ms_Y 153).1.cls (ms_Y 153).1.name (ms_Y 153).2.2.1 (ms_Y 153).2.1 cd_X9_thingOf = true := by decide +kernel
def cd_X9_fieldOf : List (List ms_I) := [
  [(0, .aload_n 0, 1, [], 0, 0), (1, .getfield 13, 3, [9, 3, 1108], 0, 0), (4, .iload_n 1, 1, [], 0, 0), (5, .invokestatic 120, 3, [151, 0, 1, 1, 1334], 0, 0), (8, .iconst 2, 1, [], 2, 0), (9, .iadd, 1, [], 0, 0), (10, .iload_n 2, 1, [], 0, 0), (11, .iadd, 1, [], 0, 0), (12, .iaload, 1, [], 0, 0), (13, .ireturn, 1, [], 0, 0)]]
set_option maxRecDepth 100000 in
theorem ok_X9_fieldOf : ms_okC (ms_Y 154).1.cls (ms_Y 154).1.name (ms_Y 154).2.2.1 (ms_Y 154).2.1 cd_X9_fieldOf = true := by decide +kernel
def cd_X9_rightOf : List (List ms_I) := [
  [(0, .aload_n 0, 1, [], 0, 0), (1, .getfield 13, 3, [9, 3, 1108], 0, 0), (4, .aload_n 0, 1, [], 0, 0), (5, .iload_n 1, 1, [], 0, 0), (6, .invokevirtual 123, 3, [153, 1, 1, 1, 1535], 0, 0), (9, .invokestatic 126, 3, [149, 0, 1, 1, 1286], 0, 0), (12, .iload_n 2, 1, [], 0, 0), (13, .iadd, 1, [], 0, 0), (14, .iaload, 1, [], 0, 0), (15, .ireturn, 1, [], 0, 0)]]
set_option maxRecDepth 100000 in
theorem ok_X9_rightOf : ms_okC (ms_Y 155).1.cls (ms_Y 155).1.name (ms_Y 155).2.2.1 (ms_Y 155).2.1 cd_X9_rightOf = true := by decide +kernel
def cd_X9_isGhost : List (List ms_I) := [
  [(0, .aload_n 0, 1, [], 0, 0), (1, .getfield 13, 3, [9, 3, 1108], 0, 0), (4, .iload_n 1, 1, [], 0, 0), (5, .invokestatic 126, 3, [149, 0, 1, 1, 1286], 0, 0), (8, .iconst 5, 1, [], 5, 0), (9, .iadd, 1, [], 0, 0), (10, .iaload, 1, [], 0, 0), (11, .iconst 1, 1, [], 1, 0), (12, .if_icmp .ne 7, 3, [19], 0, 0), (15, .iconst 1, 1, [], 1, 0)],
  [(16, .goto 4, 3, [20], 0, 0), (19, .iconst 0, 1, [], 0, 0), (20, .ireturn, 1, [], 0, 0)]]
set_option maxRecDepth 100000 in
theorem ok_X9_isGhost : ms_okC (ms_Y 156).1.cls (ms_Y 156).1.name (ms_Y 156).2.2.1 (ms_Y 156).2.1 cd_X9_isGhost = true := by decide +kernel
def cd_X9_areFields : List (List ms_I) := [
  [(0, .iload_n 0, 1, [], 0, 0), (1, .i2l, 1, [], 0, 0), (2, .lconst 0, 1, [], 0, 0), (3, .ldc2_w 129, 3, [1284], 0, 9999), (6, .invokestatic 112, 3, [141, 0, 3, 1, 1266], 0, 0), (9, .ifCond .eq 56, 3, [65], 0, 0), (12, .iload_n 1, 1, [], 0, 0), (13, .i2l, 1, [], 0, 0), (14, .lconst 0, 1, [], 0, 0), (15, .ldc2_w 129, 3, [1284], 0, 9999)],
  [(18, .invokestatic 112, 3, [141, 0, 3, 1, 1266], 0, 0), (21, .ifCond .eq 44, 3, [65], 0, 0), (24, .iload_n 2, 1, [], 0, 0), (25, .i2l, 1, [], 0, 0), (26, .lconst 0, 1, [], 0, 0), (27, .ldc2_w 129, 3, [1284], 0, 9999), (30, .invokestatic 112, 3, [141, 0, 3, 1, 1266], 0, 0)],
  [(33, .ifCond .eq 32, 3, [65], 0, 0), (36, .iload_n 3, 1, [], 0, 0), (37, .i2l, 1, [], 0, 0), (38, .lconst 0, 1, [], 0, 0), (39, .ldc2_w 129, 3, [1284], 0, 9999), (42, .invokestatic 112, 3, [141, 0, 3, 1, 1266], 0, 0), (45, .ifCond .eq 20, 3, [65], 0, 0)],
  [(48, .iload 4, 2, [], 0, 0), (50, .i2l, 1, [], 0, 0), (51, .lconst 0, 1, [], 0, 0), (52, .ldc2_w 131, 3, [1285], 0, 9), (55, .invokestatic 112, 3, [141, 0, 3, 1, 1266], 0, 0), (58, .ifCond .eq 7, 3, [65], 0, 0), (61, .iconst 1, 1, [], 1, 0), (62, .goto 4, 3, [66], 0, 0)],
  [(65, .iconst 0, 1, [], 0, 0), (66, .ireturn, 1, [], 0, 0)]]
set_option maxRecDepth 100000 in
theorem ok_X9_areFields : ms_okC (ms_Y 157).1.cls (ms_Y 157).1.name (ms_Y 157).2.2.1 (ms_Y 157).2.1 cd_X9_areFields = true := by decide +kernel
def cd_X9_lay : List (List ms_I) := [
  [(0, .aload_n 0, 1, [], 0, 0), (1, .getfield 13, 3, [9, 3, 1108], 0, 0), (4, .iload_n 1, 1, [], 0, 0), (5, .iload_n 2, 1, [], 0, 0), (6, .iastore, 1, [], 0, 0), (7, .aload_n 0, 1, [], 0, 0), (8, .getfield 13, 3, [9, 3, 1108], 0, 0), (11, .iload_n 1, 1, [], 0, 0), (12, .iconst 1, 1, [], 1, 0), (13, .iadd, 1, [], 0, 0), (14, .iload_n 3, 1, [], 0, 0), (15, .iastore, 1, [], 0, 0)],
  [(16, .aload_n 0, 1, [], 0, 0), (17, .getfield 13, 3, [9, 3, 1108], 0, 0), (20, .iload_n 1, 1, [], 0, 0), (21, .iconst 2, 1, [], 2, 0), (22, .iadd, 1, [], 0, 0), (23, .iload 4, 2, [], 0, 0), (25, .iastore, 1, [], 0, 0), (26, .aload_n 0, 1, [], 0, 0), (27, .getfield 13, 3, [9, 3, 1108], 0, 0), (30, .iload_n 1, 1, [], 0, 0), (31, .iconst 3, 1, [], 3, 0)],
  [(32, .iadd, 1, [], 0, 0), (33, .iload 5, 2, [], 0, 0), (35, .iastore, 1, [], 0, 0), (36, .aload_n 0, 1, [], 0, 0), (37, .getfield 13, 3, [9, 3, 1108], 0, 0), (40, .iload_n 1, 1, [], 0, 0), (41, .iconst 4, 1, [], 4, 0), (42, .iadd, 1, [], 0, 0), (43, .iload 6, 2, [], 0, 0), (45, .iastore, 1, [], 0, 0), (46, .return_, 1, [], 0, 0)]]
set_option maxRecDepth 100000 in
theorem ok_X9_lay : ms_okC (ms_Y 158).1.cls (ms_Y 158).1.name (ms_Y 158).2.2.1 (ms_Y 158).2.1 cd_X9_lay = true := by decide +kernel
def cd_X9_thing : List (List ms_I) := [
  [(0, .aload_n 0, 1, [], 0, 0), (1, .iconst 0, 1, [], 0, 0), (2, .putfield 104, 3, [9, 0, 1105], 0, 0), (5, .iload_n 1, 1, [], 0, 0), (6, .iload_n 2, 1, [], 0, 0), (7, .iload_n 3, 1, [], 0, 0), (8, .iload 4, 2, [], 0, 0), (10, .iload 5, 2, [], 0, 0), (12, .invokestatic 133, 3, [157, 0, 5, 1, 1281], 0, 0), (15, .ifCond .eq 14, 3, [29], 0, 0)],
  [(18, .iload 6, 2, [], 0, 0), (20, .i2l, 1, [], 0, 0), (21, .lconst 0, 1, [], 0, 0), (22, .lconst 1, 1, [], 0, 1), (23, .invokestatic 112, 3, [141, 0, 3, 1, 1266], 0, 0), (26, .ifCond .ne 9, 3, [35], 0, 0), (29, .aload_n 0, 1, [], 0, 0), (30, .iconst (-1), 1, [], (-1), 0), (31, .invokevirtual 116, 3, [142, 1, 1, 1, 1269], 0, 0)],
  [(34, .ireturn, 1, [], 0, 0), (35, .aload_n 0, 1, [], 0, 0), (36, .getfield 13, 3, [9, 3, 1108], 0, 0), (39, .iconst 0, 1, [], 0, 0), (40, .iaload, 1, [], 0, 0), (41, .bipush 8, 2, [], 8, 0), (43, .if_icmp .ne 10, 3, [53], 0, 0), (46, .aload_n 0, 1, [], 0, 0), (47, .bipush (-5), 2, [], (-5), 0)],
  [(49, .invokevirtual 116, 3, [142, 1, 1, 1, 1269], 0, 0), (52, .ireturn, 1, [], 0, 0), (53, .aload_n 0, 1, [], 0, 0), (54, .getfield 13, 3, [9, 3, 1108], 0, 0), (57, .iconst 0, 1, [], 0, 0), (58, .iaload, 1, [], 0, 0), (59, .invokestatic 126, 3, [149, 0, 1, 1, 1286], 0, 0), (62, .istore 7, 2, [], 0, 0)],
  [(64, .aload_n 0, 1, [], 0, 0), (65, .iload 7, 2, [], 0, 0), (67, .iload_n 1, 1, [], 0, 0), (68, .iload_n 2, 1, [], 0, 0), (69, .iload_n 3, 1, [], 0, 0), (70, .iload 4, 2, [], 0, 0), (72, .iload 5, 2, [], 0, 0), (74, .invokevirtual 137, 3, [158, 1, 6, 0, 1289], 0, 0), (77, .aload_n 0, 1, [], 0, 0), (78, .getfield 13, 3, [9, 3, 1108], 0, 0)],
  [(81, .iload 7, 2, [], 0, 0), (83, .iconst 5, 1, [], 5, 0), (84, .iadd, 1, [], 0, 0), (85, .iload 6, 2, [], 0, 0), (87, .iastore, 1, [], 0, 0), (88, .aload_n 0, 1, [], 0, 0), (89, .getfield 13, 3, [9, 3, 1108], 0, 0), (92, .iconst 0, 1, [], 0, 0), (93, .dup2, 1, [], 0, 0), (94, .iaload, 1, [], 0, 0), (95, .iconst 1, 1, [], 1, 0)],
  [(96, .iadd, 1, [], 0, 0), (97, .iastore, 1, [], 0, 0), (98, .aload_n 0, 1, [], 0, 0), (99, .aload_n 0, 1, [], 0, 0), (100, .getfield 13, 3, [9, 3, 1108], 0, 0), (103, .iconst 0, 1, [], 0, 0), (104, .iaload, 1, [], 0, 0), (105, .iconst 1, 1, [], 1, 0), (106, .isub, 1, [], 0, 0), (107, .invokevirtual 116, 3, [142, 1, 1, 1, 1269], 0, 0), (110, .ireturn, 1, [], 0, 0)]]
set_option maxRecDepth 100000 in
theorem ok_X9_thing : ms_okC (ms_Y 159).1.cls (ms_Y 159).1.name (ms_Y 159).2.2.1 (ms_Y 159).2.1 cd_X9_thing = true := by decide +kernel
def cd_X9_paper : List (List ms_I) := [
  [(0, .aload_n 0, 1, [], 0, 0), (1, .iconst 0, 1, [], 0, 0), (2, .putfield 104, 3, [9, 0, 1105], 0, 0), (5, .iload_n 1, 1, [], 0, 0), (6, .i2l, 1, [], 0, 0), (7, .lconst 0, 1, [], 0, 0), (8, .ldc2_w 141, 3, [1297], 0, 399), (11, .invokestatic 112, 3, [141, 0, 3, 1, 1266], 0, 0), (14, .ifCond .eq 22, 3, [36], 0, 0)],
  [(17, .iload_n 2, 1, [], 0, 0), (18, .i2l, 1, [], 0, 0), (19, .lconst 0, 1, [], 0, 0), (20, .ldc2_w 143, 3, [1298], 0, 7), (23, .invokestatic 112, 3, [141, 0, 3, 1, 1266], 0, 0), (26, .ifCond .eq 10, 3, [36], 0, 0), (29, .iload_n 3, 1, [], 0, 0), (30, .invokestatic 145, 3, [143, 0, 1, 1, 1299], 0, 0)],
  [(33, .ifCond .ne 9, 3, [42], 0, 0), (36, .aload_n 0, 1, [], 0, 0), (37, .iconst (-1), 1, [], (-1), 0), (38, .invokevirtual 116, 3, [142, 1, 1, 1, 1269], 0, 0), (41, .ireturn, 1, [], 0, 0), (42, .aload_n 0, 1, [], 0, 0), (43, .getfield 13, 3, [9, 3, 1108], 0, 0), (46, .iconst 1, 1, [], 1, 0), (47, .iaload, 1, [], 0, 0)],
  [(48, .bipush 16, 2, [], 16, 0), (50, .if_icmp .ne 10, 3, [60], 0, 0), (53, .aload_n 0, 1, [], 0, 0), (54, .bipush (-5), 2, [], (-5), 0), (56, .invokevirtual 116, 3, [142, 1, 1, 1, 1269], 0, 0), (59, .ireturn, 1, [], 0, 0), (60, .aload_n 0, 1, [], 0, 0), (61, .iload_n 1, 1, [], 0, 0), (62, .iload_n 2, 1, [], 0, 0), (63, .iload_n 3, 1, [], 0, 0)],
  [(64, .invokevirtual 149, 3, [161, 1, 3, 0, 1303], 0, 0), (67, .aload_n 0, 1, [], 0, 0), (68, .aload_n 0, 1, [], 0, 0), (69, .getfield 13, 3, [9, 3, 1108], 0, 0), (72, .iconst 1, 1, [], 1, 0), (73, .iaload, 1, [], 0, 0), (74, .iconst 1, 1, [], 1, 0), (75, .isub, 1, [], 0, 0), (76, .invokevirtual 116, 3, [142, 1, 1, 1, 1269], 0, 0), (79, .ireturn, 1, [], 0, 0)]]
set_option maxRecDepth 100000 in
theorem ok_X9_paper : ms_okC (ms_Y 160).1.cls (ms_Y 160).1.name (ms_Y 160).2.2.1 (ms_Y 160).2.1 cd_X9_paper = true := by decide +kernel
def cd_X9_addPaper : List (List ms_I) := [
  [(0, .aload_n 0, 1, [], 0, 0), (1, .getfield 13, 3, [9, 3, 1108], 0, 0), (4, .iconst 1, 1, [], 1, 0), (5, .iaload, 1, [], 0, 0), (6, .invokestatic 153, 3, [150, 0, 1, 1, 1307], 0, 0), (9, .istore 4, 2, [], 0, 0), (11, .aload_n 0, 1, [], 0, 0), (12, .getfield 13, 3, [9, 3, 1108], 0, 0), (15, .iload 4, 2, [], 0, 0)],
  [(17, .iload_n 1, 1, [], 0, 0), (18, .iastore, 1, [], 0, 0), (19, .aload_n 0, 1, [], 0, 0), (20, .getfield 13, 3, [9, 3, 1108], 0, 0), (23, .iload 4, 2, [], 0, 0), (25, .iconst 1, 1, [], 1, 0), (26, .iadd, 1, [], 0, 0), (27, .iload_n 2, 1, [], 0, 0), (28, .iastore, 1, [], 0, 0), (29, .aload_n 0, 1, [], 0, 0), (30, .getfield 13, 3, [9, 3, 1108], 0, 0)],
  [(33, .iload 4, 2, [], 0, 0), (35, .iconst 2, 1, [], 2, 0), (36, .iadd, 1, [], 0, 0), (37, .iload_n 3, 1, [], 0, 0), (38, .iastore, 1, [], 0, 0), (39, .aload_n 0, 1, [], 0, 0), (40, .getfield 13, 3, [9, 3, 1108], 0, 0), (43, .iconst 1, 1, [], 1, 0), (44, .dup2, 1, [], 0, 0), (45, .iaload, 1, [], 0, 0), (46, .iconst 1, 1, [], 1, 0), (47, .iadd, 1, [], 0, 0)],
  [(48, .iastore, 1, [], 0, 0), (49, .return_, 1, [], 0, 0)]]
set_option maxRecDepth 100000 in
theorem ok_X9_addPaper : ms_okC (ms_Y 161).1.cls (ms_Y 161).1.name (ms_Y 161).2.2.1 (ms_Y 161).2.1 cd_X9_addPaper = true := by decide +kernel
def cd_X9_addEntry : List (List ms_I) := [
  [(0, .aload_n 0, 1, [], 0, 0), (1, .getfield 13, 3, [9, 3, 1108], 0, 0), (4, .iconst 2, 1, [], 2, 0), (5, .iaload, 1, [], 0, 0), (6, .invokestatic 120, 3, [151, 0, 1, 1, 1334], 0, 0), (9, .istore 8, 2, [], 0, 0), (11, .aload_n 0, 1, [], 0, 0), (12, .getfield 13, 3, [9, 3, 1108], 0, 0), (15, .iload 8, 2, [], 0, 0)],
  [(17, .iload_n 1, 1, [], 0, 0), (18, .iastore, 1, [], 0, 0), (19, .aload_n 0, 1, [], 0, 0), (20, .getfield 13, 3, [9, 3, 1108], 0, 0), (23, .iload 8, 2, [], 0, 0), (25, .iconst 1, 1, [], 1, 0), (26, .iadd, 1, [], 0, 0), (27, .iload_n 2, 1, [], 0, 0), (28, .iastore, 1, [], 0, 0), (29, .aload_n 0, 1, [], 0, 0), (30, .iload 8, 2, [], 0, 0)],
  [(32, .iconst 2, 1, [], 2, 0), (33, .iadd, 1, [], 0, 0), (34, .iload_n 3, 1, [], 0, 0), (35, .iload 4, 2, [], 0, 0), (37, .iload 5, 2, [], 0, 0), (39, .iload 6, 2, [], 0, 0), (41, .iload 7, 2, [], 0, 0), (43, .invokevirtual 137, 3, [158, 1, 6, 0, 1289], 0, 0), (46, .aload_n 0, 1, [], 0, 0), (47, .getfield 13, 3, [9, 3, 1108], 0, 0)],
  [(50, .iconst 2, 1, [], 2, 0), (51, .dup2, 1, [], 0, 0), (52, .iaload, 1, [], 0, 0), (53, .iconst 1, 1, [], 1, 0), (54, .iadd, 1, [], 0, 0), (55, .iastore, 1, [], 0, 0), (56, .return_, 1, [], 0, 0)]]
set_option maxRecDepth 100000 in
theorem ok_X9_addEntry : ms_okC (ms_Y 162).1.cls (ms_Y 162).1.name (ms_Y 162).2.2.1 (ms_Y 162).2.1 cd_X9_addEntry = true := by decide +kernel
def cd_X9_longOf : List (List ms_I) := [
  [(0, .iconst 0, 1, [], 0, 0), (1, .istore_n 2, 1, [], 0, 0), (2, .iconst 0, 1, [], 0, 0), (3, .istore_n 3, 1, [], 0, 0), (4, .iload_n 3, 1, [], 0, 0), (5, .aload_n 0, 1, [], 0, 0), (6, .getfield 13, 3, [9, 3, 1108], 0, 0), (9, .iconst 2, 1, [], 2, 0), (10, .iaload, 1, [], 0, 0), (11, .if_icmp .ge 26, 3, [37], 0, 0), (14, .iload_n 2, 1, [], 0, 0), (15, .aload_n 0, 1, [], 0, 0)],
  [(16, .iload_n 3, 1, [], 0, 0), (17, .invokevirtual 156, 3, [152, 1, 1, 1, 1330], 0, 0), (20, .iload_n 1, 1, [], 0, 0), (21, .if_icmp .ne 7, 3, [28], 0, 0), (24, .iconst 1, 1, [], 1, 0), (25, .goto 4, 3, [29], 0, 0), (28, .iconst 0, 1, [], 0, 0), (29, .iadd, 1, [], 0, 0), (30, .istore_n 2, 1, [], 0, 0), (31, .iinc 3 1, 3, [], 1, 0)],
  [(34, .goto (-30), 3, [4], 0, 0), (37, .iload_n 2, 1, [], 0, 0), (38, .ireturn, 1, [], 0, 0)]]
set_option maxRecDepth 100000 in
theorem ok_X9_longOf : ms_okC (ms_Y 163).1.cls (ms_Y 163).1.name (ms_Y 163).2.2.1 (ms_Y 163).2.1 cd_X9_longOf = true := by decide +kernel
def cd_X9_isRoom : List (List ms_I) := [
  [(0, .aload_n 0, 1, [], 0, 0), (1, .getfield 13, 3, [9, 3, 1108], 0, 0), (4, .iconst 2, 1, [], 2, 0), (5, .iaload, 1, [], 0, 0), (6, .bipush 120, 2, [], 120, 0), (8, .if_icmp .ge 17, 3, [25], 0, 0), (11, .aload_n 0, 1, [], 0, 0), (12, .iload_n 1, 1, [], 0, 0), (13, .invokevirtual 159, 3, [163, 1, 1, 1, 1326], 0, 0)],
  [(16, .bipush 12, 2, [], 12, 0), (18, .if_icmp .ge 7, 3, [25], 0, 0), (21, .iconst 1, 1, [], 1, 0), (22, .goto 4, 3, [26], 0, 0), (25, .iconst 0, 1, [], 0, 0), (26, .ireturn, 1, [], 0, 0)]]
set_option maxRecDepth 100000 in
theorem ok_X9_isRoom : ms_okC (ms_Y 164).1.cls (ms_Y 164).1.name (ms_Y 164).2.2.1 (ms_Y 164).2.1 cd_X9_isRoom = true := by decide +kernel
def cd_X9_entry : List (List ms_I) := [
  [(0, .aload_n 0, 1, [], 0, 0), (1, .iconst 0, 1, [], 0, 0), (2, .putfield 104, 3, [9, 0, 1105], 0, 0), (5, .iload_n 3, 1, [], 0, 0), (6, .iload 4, 2, [], 0, 0), (8, .iload 5, 2, [], 0, 0), (10, .iload 6, 2, [], 0, 0), (12, .iload 7, 2, [], 0, 0), (14, .invokestatic 133, 3, [157, 0, 5, 1, 1281], 0, 0)],
  [(17, .ifCond .ne 9, 3, [26], 0, 0), (20, .aload_n 0, 1, [], 0, 0), (21, .iconst (-1), 1, [], (-1), 0), (22, .invokevirtual 116, 3, [142, 1, 1, 1, 1269], 0, 0), (25, .ireturn, 1, [], 0, 0), (26, .aload_n 0, 1, [], 0, 0), (27, .iload_n 1, 1, [], 0, 0), (28, .invokevirtual 162, 3, [147, 1, 1, 1, 1314], 0, 0), (31, .ifCond .eq 11, 3, [42], 0, 0)],
  [(34, .aload_n 0, 1, [], 0, 0), (35, .iload_n 2, 1, [], 0, 0), (36, .invokevirtual 165, 3, [146, 1, 1, 1, 1318], 0, 0), (39, .ifCond .ne 10, 3, [49], 0, 0), (42, .aload_n 0, 1, [], 0, 0), (43, .bipush (-2), 2, [], (-2), 0), (45, .invokevirtual 116, 3, [142, 1, 1, 1, 1269], 0, 0)],
  [(48, .ireturn, 1, [], 0, 0), (49, .aload_n 0, 1, [], 0, 0), (50, .iload_n 1, 1, [], 0, 0), (51, .invokevirtual 168, 3, [164, 1, 1, 1, 1322], 0, 0), (54, .ifCond .ne 10, 3, [64], 0, 0), (57, .aload_n 0, 1, [], 0, 0), (58, .bipush (-5), 2, [], (-5), 0), (60, .invokevirtual 116, 3, [142, 1, 1, 1, 1269], 0, 0), (63, .ireturn, 1, [], 0, 0)],
  [(64, .aload_n 0, 1, [], 0, 0), (65, .iload_n 1, 1, [], 0, 0), (66, .iload_n 2, 1, [], 0, 0), (67, .iload_n 3, 1, [], 0, 0), (68, .iload 4, 2, [], 0, 0), (70, .iload 5, 2, [], 0, 0), (72, .iload 6, 2, [], 0, 0), (74, .iload 7, 2, [], 0, 0), (76, .invokevirtual 171, 3, [162, 1, 7, 0, 1337], 0, 0), (79, .aload_n 0, 1, [], 0, 0)],
  [(80, .aload_n 0, 1, [], 0, 0), (81, .getfield 13, 3, [9, 3, 1108], 0, 0), (84, .iconst 2, 1, [], 2, 0), (85, .iaload, 1, [], 0, 0), (86, .iconst 1, 1, [], 1, 0), (87, .isub, 1, [], 0, 0), (88, .invokevirtual 116, 3, [142, 1, 1, 1, 1269], 0, 0), (91, .ireturn, 1, [], 0, 0)]]
set_option maxRecDepth 100000 in
theorem ok_X9_entry : ms_okC (ms_Y 165).1.cls (ms_Y 165).1.name (ms_Y 165).2.2.1 (ms_Y 165).2.1 cd_X9_entry = true := by decide +kernel
def cd_X9_row : List (List ms_I) := [
  [(0, .aload_n 0, 1, [], 0, 0), (1, .iconst 0, 1, [], 0, 0), (2, .putfield 104, 3, [9, 0, 1105], 0, 0), (5, .aload_n 0, 1, [], 0, 0), (6, .getfield 175, 3, [9, 8, 1113], 0, 0), (9, .istore_n 2, 1, [], 0, 0), (10, .aload_n 0, 1, [], 0, 0), (11, .iconst 0, 1, [], 0, 0), (12, .putfield 175, 3, [9, 8, 1113], 0, 0), (15, .aload_n 0, 1, [], 0, 0)],
  [(16, .iload_n 1, 1, [], 0, 0), (17, .invokevirtual 162, 3, [147, 1, 1, 1, 1314], 0, 0), (20, .ifCond .ne 10, 3, [30], 0, 0), (23, .aload_n 0, 1, [], 0, 0), (24, .bipush (-2), 2, [], (-2), 0), (26, .invokevirtual 116, 3, [142, 1, 1, 1, 1269], 0, 0), (29, .ireturn, 1, [], 0, 0), (30, .iload_n 2, 1, [], 0, 0), (31, .ifCond .ne 10, 3, [41], 0, 0)],
  [(34, .aload_n 0, 1, [], 0, 0), (35, .bipush (-6), 2, [], (-6), 0), (37, .invokevirtual 116, 3, [142, 1, 1, 1, 1269], 0, 0), (40, .ireturn, 1, [], 0, 0), (41, .iconst 0, 1, [], 0, 0), (42, .istore_n 3, 1, [], 0, 0), (43, .iconst 0, 1, [], 0, 0), (44, .istore 4, 2, [], 0, 0), (46, .iload 4, 2, [], 0, 0)],
  [(48, .iload_n 2, 1, [], 0, 0), (49, .bipush 10, 2, [], 10, 0), (51, .idiv, 1, [], 0, 0), (52, .if_icmp .ge 194, 3, [246], 0, 0), (55, .bipush 10, 2, [], 10, 0), (57, .iload 4, 2, [], 0, 0), (59, .imul, 1, [], 0, 0), (60, .istore 5, 2, [], 0, 0), (62, .aload_n 0, 1, [], 0, 0), (63, .getfield 27, 3, [9, 7, 1112], 0, 0)],
  [(66, .iload 5, 2, [], 0, 0), (68, .iconst 1, 1, [], 1, 0), (69, .iadd, 1, [], 0, 0), (70, .iaload, 1, [], 0, 0), (71, .bipush 8, 2, [], 8, 0), (73, .ishl, 1, [], 0, 0), (74, .aload_n 0, 1, [], 0, 0), (75, .getfield 27, 3, [9, 7, 1112], 0, 0), (78, .iload 5, 2, [], 0, 0)],
  [(80, .iconst 2, 1, [], 2, 0), (81, .iadd, 1, [], 0, 0), (82, .iaload, 1, [], 0, 0), (83, .ior, 1, [], 0, 0), (84, .istore 6, 2, [], 0, 0), (86, .aload_n 0, 1, [], 0, 0), (87, .getfield 27, 3, [9, 7, 1112], 0, 0), (90, .iload 5, 2, [], 0, 0), (92, .iconst 3, 1, [], 3, 0), (93, .iadd, 1, [], 0, 0), (94, .iaload, 1, [], 0, 0), (95, .bipush 8, 2, [], 8, 0)],
  [(97, .ishl, 1, [], 0, 0), (98, .aload_n 0, 1, [], 0, 0), (99, .getfield 27, 3, [9, 7, 1112], 0, 0), (102, .iload 5, 2, [], 0, 0), (104, .iconst 4, 1, [], 4, 0), (105, .iadd, 1, [], 0, 0), (106, .iaload, 1, [], 0, 0), (107, .ior, 1, [], 0, 0), (108, .istore 7, 2, [], 0, 0), (110, .aload_n 0, 1, [], 0, 0), (111, .getfield 27, 3, [9, 7, 1112], 0, 0)],
  [(114, .iload 5, 2, [], 0, 0), (116, .iconst 5, 1, [], 5, 0), (117, .iadd, 1, [], 0, 0), (118, .iaload, 1, [], 0, 0), (119, .bipush 8, 2, [], 8, 0), (121, .ishl, 1, [], 0, 0), (122, .aload_n 0, 1, [], 0, 0), (123, .getfield 27, 3, [9, 7, 1112], 0, 0), (126, .iload 5, 2, [], 0, 0)],
  [(128, .bipush 6, 2, [], 6, 0), (130, .iadd, 1, [], 0, 0), (131, .iaload, 1, [], 0, 0), (132, .ior, 1, [], 0, 0), (133, .istore 8, 2, [], 0, 0), (135, .aload_n 0, 1, [], 0, 0), (136, .getfield 27, 3, [9, 7, 1112], 0, 0), (139, .iload 5, 2, [], 0, 0), (141, .bipush 7, 2, [], 7, 0), (143, .iadd, 1, [], 0, 0)],
  [(144, .iaload, 1, [], 0, 0), (145, .bipush 8, 2, [], 8, 0), (147, .ishl, 1, [], 0, 0), (148, .aload_n 0, 1, [], 0, 0), (149, .getfield 27, 3, [9, 7, 1112], 0, 0), (152, .iload 5, 2, [], 0, 0), (154, .bipush 8, 2, [], 8, 0), (156, .iadd, 1, [], 0, 0), (157, .iaload, 1, [], 0, 0), (158, .ior, 1, [], 0, 0), (159, .istore 9, 2, [], 0, 0)],
  [(161, .aload_n 0, 1, [], 0, 0), (162, .aload_n 0, 1, [], 0, 0), (163, .getfield 27, 3, [9, 7, 1112], 0, 0), (166, .iload 5, 2, [], 0, 0), (168, .iaload, 1, [], 0, 0), (169, .invokevirtual 165, 3, [146, 1, 1, 1, 1318], 0, 0), (172, .ifCond .eq 68, 3, [240], 0, 0), (175, .iload 6, 2, [], 0, 0)],
  [(177, .iload 7, 2, [], 0, 0), (179, .iload 8, 2, [], 0, 0), (181, .iload 9, 2, [], 0, 0), (183, .aload_n 0, 1, [], 0, 0), (184, .getfield 27, 3, [9, 7, 1112], 0, 0), (187, .iload 5, 2, [], 0, 0), (189, .bipush 9, 2, [], 9, 0), (191, .iadd, 1, [], 0, 0)],
  [(192, .iaload, 1, [], 0, 0), (193, .invokestatic 133, 3, [157, 0, 5, 1, 1281], 0, 0), (196, .ifCond .eq 44, 3, [240], 0, 0), (199, .aload_n 0, 1, [], 0, 0), (200, .iload_n 1, 1, [], 0, 0), (201, .invokevirtual 168, 3, [164, 1, 1, 1, 1322], 0, 0), (204, .ifCond .eq 36, 3, [240], 0, 0), (207, .aload_n 0, 1, [], 0, 0)],
  [(208, .iload_n 1, 1, [], 0, 0), (209, .aload_n 0, 1, [], 0, 0), (210, .getfield 27, 3, [9, 7, 1112], 0, 0), (213, .iload 5, 2, [], 0, 0), (215, .iaload, 1, [], 0, 0), (216, .iload 6, 2, [], 0, 0), (218, .iload 7, 2, [], 0, 0), (220, .iload 8, 2, [], 0, 0), (222, .iload 9, 2, [], 0, 0)],
  [(224, .aload_n 0, 1, [], 0, 0), (225, .getfield 27, 3, [9, 7, 1112], 0, 0), (228, .iload 5, 2, [], 0, 0), (230, .bipush 9, 2, [], 9, 0), (232, .iadd, 1, [], 0, 0), (233, .iaload, 1, [], 0, 0), (234, .invokevirtual 171, 3, [162, 1, 7, 0, 1337], 0, 0), (237, .iinc 3 1, 3, [], 1, 0)],
  [(240, .iinc 4 1, 3, [], 1, 0), (243, .goto (-197), 3, [46], 0, 0), (246, .aload_n 0, 1, [], 0, 0), (247, .iload_n 3, 1, [], 0, 0), (248, .invokevirtual 116, 3, [142, 1, 1, 1, 1269], 0, 0), (251, .ireturn, 1, [], 0, 0)]]
set_option maxRecDepth 100000 in
theorem ok_X9_row : ms_okC (ms_Y 166).1.cls (ms_Y 166).1.name (ms_Y 166).2.2.1 (ms_Y 166).2.1 cd_X9_row = true := by decide +kernel
def cd_X9_entryOf : List (List ms_I) := [
  [(0, .iconst 0, 1, [], 0, 0), (1, .istore_n 3, 1, [], 0, 0), (2, .iconst (-1), 1, [], (-1), 0), (3, .istore 4, 2, [], 0, 0), (5, .iconst 0, 1, [], 0, 0), (6, .istore 5, 2, [], 0, 0), (8, .iload 5, 2, [], 0, 0), (10, .aload_n 0, 1, [], 0, 0), (11, .getfield 13, 3, [9, 3, 1108], 0, 0), (14, .iconst 2, 1, [], 2, 0), (15, .iaload, 1, [], 0, 0)],
  [(16, .if_icmp .ge 36, 3, [52], 0, 0), (19, .aload_n 0, 1, [], 0, 0), (20, .iload 5, 2, [], 0, 0), (22, .invokevirtual 156, 3, [152, 1, 1, 1, 1330], 0, 0), (25, .iload_n 1, 1, [], 0, 0), (26, .if_icmp .ne 20, 3, [46], 0, 0), (29, .iload_n 3, 1, [], 0, 0), (30, .iload_n 2, 1, [], 0, 0), (31, .if_icmp .ne 8, 3, [39], 0, 0)],
  [(34, .iload 5, 2, [], 0, 0), (36, .goto 5, 3, [41], 0, 0), (39, .iload 4, 2, [], 0, 0), (41, .istore 4, 2, [], 0, 0), (43, .iinc 3 1, 3, [], 1, 0), (46, .iinc 5 1, 3, [], 1, 0)],
  [(49, .goto (-41), 3, [8], 0, 0), (52, .iload 4, 2, [], 0, 0), (54, .ireturn, 1, [], 0, 0)]]
set_option maxRecDepth 100000 in
theorem ok_X9_entryOf : ms_okC (ms_Y 167).1.cls (ms_Y 167).1.name (ms_Y 167).2.2.1 (ms_Y 167).2.1 cd_X9_entryOf = true := by decide +kernel
def cd_X9_of : List (List ms_I) := [
  [(0, .aload_n 0, 1, [], 0, 0), (1, .iconst 0, 1, [], 0, 0), (2, .putfield 104, 3, [9, 0, 1105], 0, 0), (5, .aload_n 0, 1, [], 0, 0), (6, .iload_n 1, 1, [], 0, 0), (7, .invokevirtual 178, 3, [148, 1, 1, 1, 1349], 0, 0), (10, .ifCond .eq 15, 3, [25], 0, 0), (13, .iload_n 2, 1, [], 0, 0), (14, .i2l, 1, [], 0, 0), (15, .lconst 0, 1, [], 0, 0)],
  [(16, .ldc2_w 143, 3, [1298], 0, 7), (19, .invokestatic 112, 3, [141, 0, 3, 1, 1266], 0, 0), (22, .ifCond .ne 5, 3, [27], 0, 0), (25, .iconst (-1), 1, [], (-1), 0), (26, .ireturn, 1, [], 0, 0), (27, .iload_n 2, 1, [], 0, 0), (28, .iconst 1, 1, [], 1, 0), (29, .if_icmp .ne 44, 3, [73], 0, 0)],
  [(32, .iconst 0, 1, [], 0, 0), (33, .istore_n 3, 1, [], 0, 0), (34, .iconst 0, 1, [], 0, 0), (35, .istore 4, 2, [], 0, 0), (37, .iload 4, 2, [], 0, 0), (39, .iload_n 1, 1, [], 0, 0), (40, .if_icmp .ge 31, 3, [71], 0, 0), (43, .iload_n 3, 1, [], 0, 0), (44, .aload_n 0, 1, [], 0, 0), (45, .iload 4, 2, [], 0, 0), (47, .invokevirtual 156, 3, [152, 1, 1, 1, 1330], 0, 0)],
  [(50, .aload_n 0, 1, [], 0, 0), (51, .iload_n 1, 1, [], 0, 0), (52, .invokevirtual 156, 3, [152, 1, 1, 1, 1330], 0, 0), (55, .if_icmp .ne 7, 3, [62], 0, 0), (58, .iconst 1, 1, [], 1, 0), (59, .goto 4, 3, [63], 0, 0), (62, .iconst 0, 1, [], 0, 0), (63, .iadd, 1, [], 0, 0)],
  [(64, .istore_n 3, 1, [], 0, 0), (65, .iinc 4 1, 3, [], 1, 0), (68, .goto (-31), 3, [37], 0, 0), (71, .iload_n 3, 1, [], 0, 0), (72, .ireturn, 1, [], 0, 0), (73, .aload_n 0, 1, [], 0, 0), (74, .getfield 13, 3, [9, 3, 1108], 0, 0), (77, .iload_n 1, 1, [], 0, 0), (78, .invokestatic 120, 3, [151, 0, 1, 1, 1334], 0, 0)],
  [(81, .iload_n 2, 1, [], 0, 0), (82, .ifCond .ne 7, 3, [89], 0, 0), (85, .iconst 0, 1, [], 0, 0), (86, .goto 6, 3, [92], 0, 0), (89, .iload_n 2, 1, [], 0, 0), (90, .iconst 1, 1, [], 1, 0), (91, .isub, 1, [], 0, 0), (92, .iadd, 1, [], 0, 0), (93, .iaload, 1, [], 0, 0), (94, .ireturn, 1, [], 0, 0)]]
set_option maxRecDepth 100000 in
theorem ok_X9_of : ms_okC (ms_Y 168).1.cls (ms_Y 168).1.name (ms_Y 168).2.2.1 (ms_Y 168).2.1 cd_X9_of = true := by decide +kernel
def cd_X9_list : List (List ms_I) := [
  [(0, .aload_n 0, 1, [], 0, 0), (1, .iconst 0, 1, [], 0, 0), (2, .putfield 104, 3, [9, 0, 1105], 0, 0), (5, .aload_n 0, 1, [], 0, 0), (6, .iload_n 1, 1, [], 0, 0), (7, .invokevirtual 162, 3, [147, 1, 1, 1, 1314], 0, 0), (10, .ifCond .ne 7, 3, [17], 0, 0), (13, .iconst (-1), 1, [], (-1), 0), (14, .goto 22, 3, [36], 0, 0)],
  [(17, .iload_n 2, 1, [], 0, 0), (18, .iconst (-1), 1, [], (-1), 0), (19, .if_icmp .ne 11, 3, [30], 0, 0), (22, .aload_n 0, 1, [], 0, 0), (23, .iload_n 1, 1, [], 0, 0), (24, .invokevirtual 159, 3, [163, 1, 1, 1, 1326], 0, 0), (27, .goto 9, 3, [36], 0, 0), (30, .aload_n 0, 1, [], 0, 0), (31, .iload_n 1, 1, [], 0, 0)],
  [(32, .iload_n 2, 1, [], 0, 0), (33, .invokevirtual 181, 3, [167, 1, 2, 1, 1357], 0, 0), (36, .ireturn, 1, [], 0, 0)]]
set_option maxRecDepth 100000 in
theorem ok_X9_list : ms_okC (ms_Y 169).1.cls (ms_Y 169).1.name (ms_Y 169).2.2.1 (ms_Y 169).2.1 cd_X9_list = true := by decide +kernel
def cd_X9_four : List (List ms_I) := [
  [(0, .bipush 24, 2, [], 24, 0), (2, .istore_n 2, 1, [], 0, 0), (3, .iload_n 2, 1, [], 0, 0), (4, .ifCond .lt 35, 3, [39], 0, 0), (7, .aload_n 0, 1, [], 0, 0), (8, .getfield 27, 3, [9, 7, 1112], 0, 0), (11, .aload_n 0, 1, [], 0, 0), (12, .getfield 175, 3, [9, 8, 1113], 0, 0), (15, .iload_n 1, 1, [], 0, 0)],
  [(16, .iload_n 2, 1, [], 0, 0), (17, .ishr, 1, [], 0, 0), (18, .sipush 255, 3, [], 255, 0), (21, .iand, 1, [], 0, 0), (22, .iastore, 1, [], 0, 0), (23, .aload_n 0, 1, [], 0, 0), (24, .dup, 1, [], 0, 0), (25, .getfield 175, 3, [9, 8, 1113], 0, 0), (28, .iconst 1, 1, [], 1, 0), (29, .iadd, 1, [], 0, 0), (30, .putfield 175, 3, [9, 8, 1113], 0, 0)],
  [(33, .iinc 2 (-8), 3, [], (-8), 0), (36, .goto (-33), 3, [3], 0, 0), (39, .return_, 1, [], 0, 0)]]
set_option maxRecDepth 100000 in
theorem ok_X9_four : ms_okC (ms_Y 170).1.cls (ms_Y 170).1.name (ms_Y 170).2.2.1 (ms_Y 170).2.1 cd_X9_four = true := by decide +kernel
def cd_X9_feed : List (List ms_I) := [
  [(0, .aload_n 0, 1, [], 0, 0), (1, .iconst 0, 1, [], 0, 0), (2, .putfield 104, 3, [9, 0, 1105], 0, 0), (5, .aload_n 0, 1, [], 0, 0), (6, .getfield 175, 3, [9, 8, 1113], 0, 0), (9, .bipush 20, 2, [], 20, 0), (11, .iadd, 1, [], 0, 0), (12, .sipush 400, 3, [], 400, 0), (15, .if_icmp .le 5, 3, [20], 0, 0)],
  [(18, .iconst (-1), 1, [], (-1), 0), (19, .ireturn, 1, [], 0, 0), (20, .aload_n 0, 1, [], 0, 0), (21, .iload_n 1, 1, [], 0, 0), (22, .invokevirtual 185, 3, [170, 1, 1, 0, 1365], 0, 0), (25, .aload_n 0, 1, [], 0, 0), (26, .iload_n 2, 1, [], 0, 0), (27, .invokevirtual 185, 3, [170, 1, 1, 0, 1365], 0, 0), (30, .aload_n 0, 1, [], 0, 0), (31, .iload_n 3, 1, [], 0, 0)],
  [(32, .invokevirtual 185, 3, [170, 1, 1, 0, 1365], 0, 0), (35, .aload_n 0, 1, [], 0, 0), (36, .iload 4, 2, [], 0, 0), (38, .invokevirtual 185, 3, [170, 1, 1, 0, 1365], 0, 0), (41, .aload_n 0, 1, [], 0, 0), (42, .iload 5, 2, [], 0, 0), (44, .invokevirtual 185, 3, [170, 1, 1, 0, 1365], 0, 0), (47, .aload_n 0, 1, [], 0, 0)],
  [(48, .getfield 175, 3, [9, 8, 1113], 0, 0), (51, .ireturn, 1, [], 0, 0)]]
set_option maxRecDepth 100000 in
theorem ok_X9_feed : ms_okC (ms_Y 171).1.cls (ms_Y 171).1.name (ms_Y 171).2.2.1 (ms_Y 171).2.1 cd_X9_feed = true := by decide +kernel
def cd_X9_end : List (List ms_I) := [
  [(0, .aload_n 0, 1, [], 0, 0), (1, .iconst 0, 1, [], 0, 0), (2, .putfield 104, 3, [9, 0, 1105], 0, 0), (5, .iload_n 1, 1, [], 0, 0), (6, .ifCond .lt 11, 3, [17], 0, 0), (9, .iload_n 1, 1, [], 0, 0), (10, .aload_n 0, 1, [], 0, 0), (11, .getfield 175, 3, [9, 8, 1113], 0, 0), (14, .if_icmp .le 5, 3, [19], 0, 0)],
  [(17, .iconst (-1), 1, [], (-1), 0), (18, .ireturn, 1, [], 0, 0), (19, .aload_n 0, 1, [], 0, 0), (20, .iload_n 1, 1, [], 0, 0), (21, .putfield 175, 3, [9, 8, 1113], 0, 0), (24, .iload_n 1, 1, [], 0, 0), (25, .ireturn, 1, [], 0, 0)]]
set_option maxRecDepth 100000 in
theorem ok_X9_end : ms_okC (ms_Y 172).1.cls (ms_Y 172).1.name (ms_Y 172).2.2.1 (ms_Y 172).2.1 cd_X9_end = true := by decide +kernel
def cd_X9_isSmall : List (List ms_I) := [
  [(0, .iload_n 0, 1, [], 0, 0), (1, .bipush 97, 2, [], 97, 0), (3, .if_icmp .lt 13, 3, [16], 0, 0), (6, .iload_n 0, 1, [], 0, 0), (7, .bipush 122, 2, [], 122, 0), (9, .if_icmp .gt 7, 3, [16], 0, 0), (12, .iconst 1, 1, [], 1, 0), (13, .goto 4, 3, [17], 0, 0)],
  [(16, .iconst 0, 1, [], 0, 0), (17, .ireturn, 1, [], 0, 0)]]
set_option maxRecDepth 100000 in
theorem ok_X9_isSmall : ms_okC (ms_Y 173).1.cls (ms_Y 173).1.name (ms_Y 173).2.2.1 (ms_Y 173).2.1 cd_X9_isSmall = true := by decide +kernel
def cd_X9_isDigit : List (List ms_I) := [
  [(0, .iload_n 0, 1, [], 0, 0), (1, .bipush 48, 2, [], 48, 0), (3, .if_icmp .lt 13, 3, [16], 0, 0), (6, .iload_n 0, 1, [], 0, 0), (7, .bipush 57, 2, [], 57, 0), (9, .if_icmp .gt 7, 3, [16], 0, 0), (12, .iconst 1, 1, [], 1, 0), (13, .goto 4, 3, [17], 0, 0)],
  [(16, .iconst 0, 1, [], 0, 0), (17, .ireturn, 1, [], 0, 0)]]
set_option maxRecDepth 100000 in
theorem ok_X9_isDigit : ms_okC (ms_Y 174).1.cls (ms_Y 174).1.name (ms_Y 174).2.2.1 (ms_Y 174).2.1 cd_X9_isDigit = true := by decide +kernel
def cd_X9_begin : List (List ms_I) := [
  [(0, .aload_n 0, 1, [], 0, 0), (1, .iconst 0, 1, [], 0, 0), (2, .putfield 189, 3, [9, 10, 1115], 0, 0), (5, .aload_n 0, 1, [], 0, 0), (6, .iconst 0, 1, [], 0, 0), (7, .putfield 192, 3, [9, 14, 1119], 0, 0), (10, .aload_n 0, 1, [], 0, 0), (11, .iconst (-1), 1, [], (-1), 0), (12, .putfield 30, 3, [9, 13, 1118], 0, 0), (15, .aload_n 0, 1, [], 0, 0)],
  [(16, .invokevirtual 196, 3, [176, 1, 0, 0, 1385], 0, 0), (19, .return_, 1, [], 0, 0)]]
set_option maxRecDepth 100000 in
theorem ok_X9_begin : ms_okC (ms_Y 175).1.cls (ms_Y 175).1.name (ms_Y 175).2.2.1 (ms_Y 175).2.1 cd_X9_begin = true := by decide +kernel
def cd_X9_next : List (List ms_I) := [
  [(0, .aload_n 0, 1, [], 0, 0), (1, .aload_n 0, 1, [], 0, 0), (2, .getfield 189, 3, [9, 10, 1115], 0, 0), (5, .putfield 199, 3, [9, 9, 1114], 0, 0), (8, .aload_n 0, 1, [], 0, 0), (9, .getfield 199, 3, [9, 9, 1114], 0, 0), (12, .aload_n 0, 1, [], 0, 0), (13, .getfield 175, 3, [9, 8, 1113], 0, 0)],
  [(16, .if_icmp .ge 30, 3, [46], 0, 0), (19, .aload_n 0, 1, [], 0, 0), (20, .getfield 27, 3, [9, 7, 1112], 0, 0), (23, .aload_n 0, 1, [], 0, 0), (24, .getfield 199, 3, [9, 9, 1114], 0, 0), (27, .iaload, 1, [], 0, 0), (28, .bipush 32, 2, [], 32, 0), (30, .if_icmp .ne 16, 3, [46], 0, 0)],
  [(33, .aload_n 0, 1, [], 0, 0), (34, .dup, 1, [], 0, 0), (35, .getfield 199, 3, [9, 9, 1114], 0, 0), (38, .iconst 1, 1, [], 1, 0), (39, .iadd, 1, [], 0, 0), (40, .putfield 199, 3, [9, 9, 1114], 0, 0), (43, .goto (-35), 3, [8], 0, 0), (46, .aload_n 0, 1, [], 0, 0), (47, .aload_n 0, 1, [], 0, 0)],
  [(48, .getfield 199, 3, [9, 9, 1114], 0, 0), (51, .putfield 189, 3, [9, 10, 1115], 0, 0), (54, .aload_n 0, 1, [], 0, 0), (55, .lconst 0, 1, [], 0, 0), (56, .putfield 202, 3, [9, 12, 1117], 0, 0), (59, .aload_n 0, 1, [], 0, 0), (60, .aload_n 0, 1, [], 0, 0), (61, .getfield 199, 3, [9, 9, 1114], 0, 0)],
  [(64, .aload_n 0, 1, [], 0, 0), (65, .getfield 175, 3, [9, 8, 1113], 0, 0), (68, .if_icmp .ne 7, 3, [75], 0, 0), (71, .iconst 0, 1, [], 0, 0), (72, .goto 42, 3, [114], 0, 0), (75, .aload_n 0, 1, [], 0, 0), (76, .getfield 27, 3, [9, 7, 1112], 0, 0), (79, .aload_n 0, 1, [], 0, 0)],
  [(80, .getfield 199, 3, [9, 9, 1114], 0, 0), (83, .iaload, 1, [], 0, 0), (84, .invokestatic 206, 3, [173, 0, 1, 1, 1389], 0, 0), (87, .ifCond .eq 7, 3, [94], 0, 0), (90, .iconst 1, 1, [], 1, 0), (91, .goto 23, 3, [114], 0, 0), (94, .aload_n 0, 1, [], 0, 0), (95, .getfield 27, 3, [9, 7, 1112], 0, 0)],
  [(98, .aload_n 0, 1, [], 0, 0), (99, .getfield 199, 3, [9, 9, 1114], 0, 0), (102, .iaload, 1, [], 0, 0), (103, .invokestatic 209, 3, [174, 0, 1, 1, 1392], 0, 0), (106, .ifCond .eq 7, 3, [113], 0, 0), (109, .iconst 2, 1, [], 2, 0), (110, .goto 4, 3, [114], 0, 0)],
  [(113, .iconst 3, 1, [], 3, 0), (114, .putfield 212, 3, [9, 11, 1116], 0, 0), (117, .aload_n 0, 1, [], 0, 0), (118, .getfield 212, 3, [9, 11, 1116], 0, 0), (121, .iconst 3, 1, [], 3, 0), (122, .if_icmp .ne 27, 3, [149], 0, 0), (125, .aload_n 0, 1, [], 0, 0), (126, .aload_n 0, 1, [], 0, 0), (127, .getfield 27, 3, [9, 7, 1112], 0, 0)],
  [(130, .aload_n 0, 1, [], 0, 0), (131, .getfield 199, 3, [9, 9, 1114], 0, 0), (134, .iaload, 1, [], 0, 0), (135, .i2l, 1, [], 0, 0), (136, .putfield 202, 3, [9, 12, 1117], 0, 0), (139, .aload_n 0, 1, [], 0, 0), (140, .dup, 1, [], 0, 0), (141, .getfield 189, 3, [9, 10, 1115], 0, 0)],
  [(144, .iconst 1, 1, [], 1, 0), (145, .iadd, 1, [], 0, 0), (146, .putfield 189, 3, [9, 10, 1115], 0, 0), (149, .aload_n 0, 1, [], 0, 0), (150, .getfield 212, 3, [9, 11, 1116], 0, 0), (153, .iconst 1, 1, [], 1, 0), (154, .if_icmp .ne 89, 3, [243], 0, 0), (157, .aload_n 0, 1, [], 0, 0), (158, .getfield 189, 3, [9, 10, 1115], 0, 0)],
  [(161, .aload_n 0, 1, [], 0, 0), (162, .getfield 175, 3, [9, 8, 1113], 0, 0), (165, .if_icmp .ge 78, 3, [243], 0, 0), (168, .aload_n 0, 1, [], 0, 0), (169, .getfield 27, 3, [9, 7, 1112], 0, 0), (172, .aload_n 0, 1, [], 0, 0), (173, .getfield 189, 3, [9, 10, 1115], 0, 0)],
  [(176, .iaload, 1, [], 0, 0), (177, .invokestatic 206, 3, [173, 0, 1, 1, 1389], 0, 0), (180, .ifCond .eq 63, 3, [243], 0, 0), (183, .aload_n 0, 1, [], 0, 0), (184, .aload_n 0, 1, [], 0, 0), (185, .getfield 189, 3, [9, 10, 1115], 0, 0), (188, .aload_n 0, 1, [], 0, 0), (189, .getfield 199, 3, [9, 9, 1114], 0, 0)],
  [(192, .isub, 1, [], 0, 0), (193, .bipush 10, 2, [], 10, 0), (195, .if_icmp .ge 29, 3, [224], 0, 0), (198, .aload_n 0, 1, [], 0, 0), (199, .getfield 202, 3, [9, 12, 1117], 0, 0), (202, .ldc2_w 215, 3, [1395], 0, 32), (205, .lmul, 1, [], 0, 0), (206, .aload_n 0, 1, [], 0, 0), (207, .getfield 27, 3, [9, 7, 1112], 0, 0)],
  [(210, .aload_n 0, 1, [], 0, 0), (211, .getfield 189, 3, [9, 10, 1115], 0, 0), (214, .iaload, 1, [], 0, 0), (215, .i2l, 1, [], 0, 0), (216, .ladd, 1, [], 0, 0), (217, .ldc2_w 217, 3, [1396], 0, 96), (220, .lsub, 1, [], 0, 0), (221, .goto 6, 3, [227], 0, 0)],
  [(224, .ldc2_w 219, 3, [1397], 0, (-1)), (227, .putfield 202, 3, [9, 12, 1117], 0, 0), (230, .aload_n 0, 1, [], 0, 0), (231, .dup, 1, [], 0, 0), (232, .getfield 189, 3, [9, 10, 1115], 0, 0), (235, .iconst 1, 1, [], 1, 0), (236, .iadd, 1, [], 0, 0), (237, .putfield 189, 3, [9, 10, 1115], 0, 0)],
  [(240, .goto (-91), 3, [149], 0, 0), (243, .aload_n 0, 1, [], 0, 0), (244, .getfield 212, 3, [9, 11, 1116], 0, 0), (247, .iconst 2, 1, [], 2, 0), (248, .if_icmp .ne 87, 3, [335], 0, 0), (251, .aload_n 0, 1, [], 0, 0), (252, .getfield 189, 3, [9, 10, 1115], 0, 0), (255, .aload_n 0, 1, [], 0, 0)],
  [(256, .getfield 175, 3, [9, 8, 1113], 0, 0), (259, .if_icmp .ge 76, 3, [335], 0, 0), (262, .aload_n 0, 1, [], 0, 0), (263, .getfield 27, 3, [9, 7, 1112], 0, 0), (266, .aload_n 0, 1, [], 0, 0), (267, .getfield 189, 3, [9, 10, 1115], 0, 0), (270, .iaload, 1, [], 0, 0), (271, .invokestatic 209, 3, [174, 0, 1, 1, 1392], 0, 0)],
  [(274, .ifCond .eq 61, 3, [335], 0, 0), (277, .aload_n 0, 1, [], 0, 0), (278, .aload_n 0, 1, [], 0, 0), (279, .getfield 202, 3, [9, 12, 1117], 0, 0), (282, .ldc2_w 221, 3, [1398], 0, 1000000), (285, .lcmp, 1, [], 0, 0), (286, .ifCond .le 10, 3, [296], 0, 0)],
  [(289, .aload_n 0, 1, [], 0, 0), (290, .getfield 202, 3, [9, 12, 1117], 0, 0), (293, .goto 26, 3, [319], 0, 0), (296, .aload_n 0, 1, [], 0, 0), (297, .getfield 202, 3, [9, 12, 1117], 0, 0), (300, .ldc2_w 223, 3, [1399], 0, 10), (303, .lmul, 1, [], 0, 0)],
  [(304, .aload_n 0, 1, [], 0, 0), (305, .getfield 27, 3, [9, 7, 1112], 0, 0), (308, .aload_n 0, 1, [], 0, 0), (309, .getfield 189, 3, [9, 10, 1115], 0, 0), (312, .iaload, 1, [], 0, 0), (313, .i2l, 1, [], 0, 0), (314, .ladd, 1, [], 0, 0), (315, .ldc2_w 225, 3, [1400], 0, 48), (318, .lsub, 1, [], 0, 0), (319, .putfield 202, 3, [9, 12, 1117], 0, 0)],
  [(322, .aload_n 0, 1, [], 0, 0), (323, .dup, 1, [], 0, 0), (324, .getfield 189, 3, [9, 10, 1115], 0, 0), (327, .iconst 1, 1, [], 1, 0), (328, .iadd, 1, [], 0, 0), (329, .putfield 189, 3, [9, 10, 1115], 0, 0), (332, .goto (-89), 3, [243], 0, 0), (335, .return_, 1, [], 0, 0)]]
set_option maxRecDepth 100000 in
theorem ok_X9_next : ms_okC (ms_Y 176).1.cls (ms_Y 176).1.name (ms_Y 176).2.2.1 (ms_Y 176).2.1 cd_X9_next = true := by decide +kernel
def cd_X9_isWord : List (List ms_I) := [
  [(0, .aload_n 0, 1, [], 0, 0), (1, .getfield 212, 3, [9, 11, 1116], 0, 0), (4, .iconst 1, 1, [], 1, 0), (5, .if_icmp .ne 16, 3, [21], 0, 0), (8, .aload_n 0, 1, [], 0, 0), (9, .getfield 202, 3, [9, 12, 1117], 0, 0), (12, .lload_n 1, 1, [], 0, 0), (13, .lcmp, 1, [], 0, 0), (14, .ifCond .ne 7, 3, [21], 0, 0)],
  [(17, .iconst 1, 1, [], 1, 0), (18, .goto 4, 3, [22], 0, 0), (21, .iconst 0, 1, [], 0, 0), (22, .ireturn, 1, [], 0, 0)]]
set_option maxRecDepth 100000 in
theorem ok_X9_isWord : ms_okC (ms_Y 177).1.cls (ms_Y 177).1.name (ms_Y 177).2.2.1 (ms_Y 177).2.1 cd_X9_isWord = true := by decide +kernel
def cd_X9_isSign : List (List ms_I) := [
  [(0, .aload_n 0, 1, [], 0, 0), (1, .getfield 212, 3, [9, 11, 1116], 0, 0), (4, .iconst 3, 1, [], 3, 0), (5, .if_icmp .ne 17, 3, [22], 0, 0), (8, .aload_n 0, 1, [], 0, 0), (9, .getfield 202, 3, [9, 12, 1117], 0, 0), (12, .iload_n 1, 1, [], 0, 0), (13, .i2l, 1, [], 0, 0), (14, .lcmp, 1, [], 0, 0), (15, .ifCond .ne 7, 3, [22], 0, 0)],
  [(18, .iconst 1, 1, [], 1, 0), (19, .goto 4, 3, [23], 0, 0), (22, .iconst 0, 1, [], 0, 0), (23, .ireturn, 1, [], 0, 0)]]
set_option maxRecDepth 100000 in
theorem ok_X9_isSign : ms_okC (ms_Y 178).1.cls (ms_Y 178).1.name (ms_Y 178).2.2.1 (ms_Y 178).2.1 cd_X9_isSign = true := by decide +kernel
def cd_X9_must : List (List ms_I) := [
  [(0, .aload_n 0, 1, [], 0, 0), (1, .getfield 192, 3, [9, 14, 1119], 0, 0), (4, .ifCond .ne 20, 3, [24], 0, 0), (7, .iload_n 1, 1, [], 0, 0), (8, .ifCond .ne 16, 3, [24], 0, 0), (11, .aload_n 0, 1, [], 0, 0), (12, .iconst 1, 1, [], 1, 0), (13, .putfield 192, 3, [9, 14, 1119], 0, 0)],
  [(16, .aload_n 0, 1, [], 0, 0), (17, .aload_n 0, 1, [], 0, 0), (18, .getfield 199, 3, [9, 9, 1114], 0, 0), (21, .putfield 30, 3, [9, 13, 1118], 0, 0), (24, .aload_n 0, 1, [], 0, 0), (25, .getfield 192, 3, [9, 14, 1119], 0, 0), (28, .ifCond .ne 7, 3, [35], 0, 0), (31, .aload_n 0, 1, [], 0, 0)],
  [(32, .invokevirtual 196, 3, [176, 1, 0, 0, 1385], 0, 0), (35, .return_, 1, [], 0, 0)]]
set_option maxRecDepth 100000 in
theorem ok_X9_must : ms_okC (ms_Y 179).1.cls (ms_Y 179).1.name (ms_Y 179).2.2.1 (ms_Y 179).2.1 cd_X9_must = true := by decide +kernel
def cd_X9_fault : List (List ms_I) := [
  [(0, .aload_n 0, 1, [], 0, 0), (1, .iconst 0, 1, [], 0, 0), (2, .putfield 104, 3, [9, 0, 1105], 0, 0), (5, .aload_n 0, 1, [], 0, 0), (6, .getfield 30, 3, [9, 13, 1118], 0, 0), (9, .ireturn, 1, [], 0, 0)]]
set_option maxRecDepth 100000 in
theorem ok_X9_fault : ms_okC (ms_Y 180).1.cls (ms_Y 180).1.name (ms_Y 180).2.2.1 (ms_Y 180).2.1 cd_X9_fault = true := by decide +kernel
def cd_X9_emit : List (List ms_I) := [
  [(0, .aload_n 0, 1, [], 0, 0), (1, .getfield 37, 3, [9, 18, 1123], 0, 0), (4, .aload_n 0, 1, [], 0, 0), (5, .getfield 231, 3, [9, 17, 1122], 0, 0), (8, .iload_n 1, 1, [], 0, 0), (9, .iastore, 1, [], 0, 0), (10, .aload_n 0, 1, [], 0, 0), (11, .getfield 40, 3, [9, 19, 1124], 0, 0), (14, .aload_n 0, 1, [], 0, 0), (15, .getfield 231, 3, [9, 17, 1122], 0, 0)],
  [(18, .iload_n 2, 1, [], 0, 0), (19, .iastore, 1, [], 0, 0), (20, .aload_n 0, 1, [], 0, 0), (21, .dup, 1, [], 0, 0), (22, .getfield 231, 3, [9, 17, 1122], 0, 0), (25, .iconst 1, 1, [], 1, 0), (26, .iadd, 1, [], 0, 0), (27, .putfield 231, 3, [9, 17, 1122], 0, 0), (30, .return_, 1, [], 0, 0)]]
set_option maxRecDepth 100000 in
theorem ok_X9_emit : ms_okC (ms_Y 181).1.cls (ms_Y 181).1.name (ms_Y 181).2.2.1 (ms_Y 181).2.1 cd_X9_emit = true := by decide +kernel
def cd_X9_push : List (List ms_I) := [
  [(0, .aload_n 0, 1, [], 0, 0), (1, .getfield 43, 3, [9, 21, 1126], 0, 0), (4, .aload_n 0, 1, [], 0, 0), (5, .getfield 234, 3, [9, 23, 1128], 0, 0), (8, .iload_n 1, 1, [], 0, 0), (9, .iastore, 1, [], 0, 0), (10, .aload_n 0, 1, [], 0, 0), (11, .getfield 46, 3, [9, 22, 1127], 0, 0), (14, .aload_n 0, 1, [], 0, 0), (15, .getfield 234, 3, [9, 23, 1128], 0, 0)],
  [(18, .iload_n 2, 1, [], 0, 0), (19, .iastore, 1, [], 0, 0), (20, .aload_n 0, 1, [], 0, 0), (21, .dup, 1, [], 0, 0), (22, .getfield 234, 3, [9, 23, 1128], 0, 0), (25, .iconst 1, 1, [], 1, 0), (26, .iadd, 1, [], 0, 0), (27, .putfield 234, 3, [9, 23, 1128], 0, 0), (30, .return_, 1, [], 0, 0)]]
set_option maxRecDepth 100000 in
theorem ok_X9_push : ms_okC (ms_Y 182).1.cls (ms_Y 182).1.name (ms_Y 182).2.2.1 (ms_Y 182).2.1 cd_X9_push = true := by decide +kernel
def cd_X9_binds : List (List ms_I) := [
  [(0, .iload_n 0, 1, [], 0, 0), (1, .bipush 30, 2, [], 30, 0), (3, .if_icmp .lt 7, 3, [10], 0, 0), (6, .iconst 0, 1, [], 0, 0), (7, .goto 55, 3, [62], 0, 0), (10, .iload_n 0, 1, [], 0, 0), (11, .bipush 29, 2, [], 29, 0), (13, .if_icmp .ne 7, 3, [20], 0, 0)],
  [(16, .iconst 1, 1, [], 1, 0), (17, .goto 45, 3, [62], 0, 0), (20, .iload_n 0, 1, [], 0, 0), (21, .bipush 28, 2, [], 28, 0), (23, .if_icmp .ne 7, 3, [30], 0, 0), (26, .iconst 2, 1, [], 2, 0), (27, .goto 35, 3, [62], 0, 0), (30, .iload_n 0, 1, [], 0, 0), (31, .bipush 27, 2, [], 27, 0)],
  [(33, .if_icmp .ne 7, 3, [40], 0, 0), (36, .iconst 3, 1, [], 3, 0), (37, .goto 25, 3, [62], 0, 0), (40, .iload_n 0, 1, [], 0, 0), (41, .bipush 24, 2, [], 24, 0), (43, .if_icmp .lt 7, 3, [50], 0, 0), (46, .iconst 4, 1, [], 4, 0), (47, .goto 15, 3, [62], 0, 0)],
  [(50, .iload_n 0, 1, [], 0, 0), (51, .bipush 22, 2, [], 22, 0), (53, .if_icmp .lt 8, 3, [61], 0, 0), (56, .bipush 6, 2, [], 6, 0), (58, .goto 4, 3, [62], 0, 0), (61, .iconst 5, 1, [], 5, 0), (62, .ireturn, 1, [], 0, 0)]]
set_option maxRecDepth 100000 in
theorem ok_X9_binds : ms_okC (ms_Y 183).1.cls (ms_Y 183).1.name (ms_Y 183).2.2.1 (ms_Y 183).2.1 cd_X9_binds = true := by decide +kernel
def cd_X9_settle : List (List ms_I) := [
  [(0, .aload_n 0, 1, [], 0, 0), (1, .getfield 234, 3, [9, 23, 1128], 0, 0), (4, .ifCond .le 97, 3, [101], 0, 0), (7, .aload_n 0, 1, [], 0, 0), (8, .getfield 43, 3, [9, 21, 1126], 0, 0), (11, .aload_n 0, 1, [], 0, 0), (12, .getfield 234, 3, [9, 23, 1128], 0, 0), (15, .iconst 1, 1, [], 1, 0)],
  [(16, .isub, 1, [], 0, 0), (17, .iaload, 1, [], 0, 0), (18, .invokestatic 237, 3, [183, 0, 1, 1, 1480], 0, 0), (21, .iload_n 1, 1, [], 0, 0), (22, .if_icmp .lt 79, 3, [101], 0, 0), (25, .aload_n 0, 1, [], 0, 0), (26, .dup, 1, [], 0, 0), (27, .getfield 234, 3, [9, 23, 1128], 0, 0), (30, .iconst 1, 1, [], 1, 0), (31, .isub, 1, [], 0, 0)],
  [(32, .putfield 234, 3, [9, 23, 1128], 0, 0), (35, .aload_n 0, 1, [], 0, 0), (36, .getfield 43, 3, [9, 21, 1126], 0, 0), (39, .aload_n 0, 1, [], 0, 0), (40, .getfield 234, 3, [9, 23, 1128], 0, 0), (43, .iaload, 1, [], 0, 0), (44, .bipush 28, 2, [], 28, 0), (46, .if_icmp .eq 17, 3, [63], 0, 0)],
  [(49, .aload_n 0, 1, [], 0, 0), (50, .getfield 43, 3, [9, 21, 1126], 0, 0), (53, .aload_n 0, 1, [], 0, 0), (54, .getfield 234, 3, [9, 23, 1128], 0, 0), (57, .iaload, 1, [], 0, 0), (58, .bipush 29, 2, [], 29, 0), (60, .if_icmp .ne 24, 3, [84], 0, 0), (63, .aload_n 0, 1, [], 0, 0)],
  [(64, .getfield 40, 3, [9, 19, 1124], 0, 0), (67, .aload_n 0, 1, [], 0, 0), (68, .getfield 46, 3, [9, 22, 1127], 0, 0), (71, .aload_n 0, 1, [], 0, 0), (72, .getfield 234, 3, [9, 23, 1128], 0, 0), (75, .iaload, 1, [], 0, 0), (76, .aload_n 0, 1, [], 0, 0), (77, .getfield 231, 3, [9, 17, 1122], 0, 0)],
  [(80, .iastore, 1, [], 0, 0), (81, .goto (-81), 3, [0], 0, 0), (84, .aload_n 0, 1, [], 0, 0), (85, .aload_n 0, 1, [], 0, 0), (86, .getfield 43, 3, [9, 21, 1126], 0, 0), (89, .aload_n 0, 1, [], 0, 0), (90, .getfield 234, 3, [9, 23, 1128], 0, 0), (93, .iaload, 1, [], 0, 0), (94, .iconst 0, 1, [], 0, 0), (95, .invokevirtual 240, 3, [181, 1, 2, 0, 1456], 0, 0)],
  [(98, .goto (-98), 3, [0], 0, 0), (101, .return_, 1, [], 0, 0)]]
set_option maxRecDepth 100000 in
theorem ok_X9_settle : ms_okC (ms_Y 184).1.cls (ms_Y 184).1.name (ms_Y 184).2.2.1 (ms_Y 184).2.1 cd_X9_settle = true := by decide +kernel
def cd_X9_inner : List (List ms_I) := [
  [(0, .iconst (-1), 1, [], (-1), 0), (1, .istore_n 1, 1, [], 0, 0), (2, .iconst 0, 1, [], 0, 0), (3, .istore_n 2, 1, [], 0, 0), (4, .iload_n 2, 1, [], 0, 0), (5, .aload_n 0, 1, [], 0, 0), (6, .getfield 234, 3, [9, 23, 1128], 0, 0), (9, .if_icmp .ge 31, 3, [40], 0, 0), (12, .aload_n 0, 1, [], 0, 0), (13, .getfield 43, 3, [9, 21, 1126], 0, 0)],
  [(16, .iload_n 2, 1, [], 0, 0), (17, .iaload, 1, [], 0, 0), (18, .bipush 30, 2, [], 30, 0), (20, .if_icmp .lt 12, 3, [32], 0, 0), (23, .aload_n 0, 1, [], 0, 0), (24, .getfield 43, 3, [9, 21, 1126], 0, 0), (27, .iload_n 2, 1, [], 0, 0), (28, .iaload, 1, [], 0, 0), (29, .goto 4, 3, [33], 0, 0)],
  [(32, .iload_n 1, 1, [], 0, 0), (33, .istore_n 1, 1, [], 0, 0), (34, .iinc 2 1, 3, [], 1, 0), (37, .goto (-33), 3, [4], 0, 0), (40, .iload_n 1, 1, [], 0, 0), (41, .ireturn, 1, [], 0, 0)]]
set_option maxRecDepth 100000 in
theorem ok_X9_inner : ms_okC (ms_Y 185).1.cls (ms_Y 185).1.name (ms_Y 185).2.2.1 (ms_Y 185).2.1 cd_X9_inner = true := by decide +kernel
def cd_X9_isCompared : List (List ms_I) := [
  [(0, .aload_n 0, 1, [], 0, 0), (1, .getfield 234, 3, [9, 23, 1128], 0, 0), (4, .iconst 1, 1, [], 1, 0), (5, .isub, 1, [], 0, 0), (6, .istore_n 1, 1, [], 0, 0), (7, .iload_n 1, 1, [], 0, 0), (8, .ifCond .lt 28, 3, [36], 0, 0), (11, .aload_n 0, 1, [], 0, 0), (12, .getfield 43, 3, [9, 21, 1126], 0, 0), (15, .iload_n 1, 1, [], 0, 0)],
  [(16, .iaload, 1, [], 0, 0), (17, .i2l, 1, [], 0, 0), (18, .ldc2_w 244, 3, [1495], 0, 20), (21, .ldc2_w 246, 3, [1496], 0, 23), (24, .invokestatic 112, 3, [141, 0, 3, 1, 1266], 0, 0), (27, .ifCond .eq 9, 3, [36], 0, 0), (30, .iinc 1 (-1), 3, [], (-1), 0)],
  [(33, .goto (-26), 3, [7], 0, 0), (36, .iload_n 1, 1, [], 0, 0), (37, .ifCond .lt 26, 3, [63], 0, 0), (40, .aload_n 0, 1, [], 0, 0), (41, .getfield 43, 3, [9, 21, 1126], 0, 0), (44, .iload_n 1, 1, [], 0, 0), (45, .iaload, 1, [], 0, 0), (46, .i2l, 1, [], 0, 0), (47, .ldc2_w 248, 3, [1497], 0, 24)],
  [(50, .ldc2_w 250, 3, [1498], 0, 26), (53, .invokestatic 112, 3, [141, 0, 3, 1, 1266], 0, 0), (56, .ifCond .eq 7, 3, [63], 0, 0), (59, .iconst 1, 1, [], 1, 0), (60, .goto 4, 3, [64], 0, 0), (63, .iconst 0, 1, [], 0, 0)],
  [(64, .ireturn, 1, [], 0, 0)]]
set_option maxRecDepth 100000 in
theorem ok_X9_isCompared : ms_okC (ms_Y 186).1.cls (ms_Y 186).1.name (ms_Y 186).2.2.1 (ms_Y 186).2.1 cd_X9_isCompared = true := by decide +kernel
def cd_X9_partAt : List (List ms_I) := [
  [(0, .aload_n 0, 1, [], 0, 0), (1, .ldc2_w 252, 3, [1468], 0, 6591876), (4, .invokevirtual 254, 3, [177, 1, 1, 1, 1410], 0, 0), (7, .ifCond .ne 33, 3, [40], 0, 0), (10, .aload_n 0, 1, [], 0, 0), (11, .ldc2_w 258, 3, [1469], 0, 215533), (14, .invokevirtual 254, 3, [177, 1, 1, 1, 1410], 0, 0)],
  [(17, .ifCond .ne 23, 3, [40], 0, 0), (20, .aload_n 0, 1, [], 0, 0), (21, .ldc2_w 260, 3, [1470], 0, 655), (24, .invokevirtual 254, 3, [177, 1, 1, 1, 1410], 0, 0), (27, .ifCond .ne 13, 3, [40], 0, 0), (30, .aload_n 0, 1, [], 0, 0), (31, .ldc2_w 262, 3, [1471], 0, 824370)],
  [(34, .invokevirtual 254, 3, [177, 1, 1, 1, 1410], 0, 0), (37, .ifCond .eq 47, 3, [84], 0, 0), (40, .aload_n 0, 1, [], 0, 0), (41, .ldc2_w 252, 3, [1468], 0, 6591876), (44, .invokevirtual 254, 3, [177, 1, 1, 1, 1410], 0, 0), (47, .ifCond .eq 7, 3, [54], 0, 0)],
  [(50, .iconst 1, 1, [], 1, 0), (51, .goto 32, 3, [83], 0, 0), (54, .aload_n 0, 1, [], 0, 0), (55, .ldc2_w 258, 3, [1469], 0, 215533), (58, .invokevirtual 254, 3, [177, 1, 1, 1, 1410], 0, 0), (61, .ifCond .eq 7, 3, [68], 0, 0)],
  [(64, .iconst 2, 1, [], 2, 0), (65, .goto 18, 3, [83], 0, 0), (68, .aload_n 0, 1, [], 0, 0), (69, .ldc2_w 260, 3, [1470], 0, 655), (72, .invokevirtual 254, 3, [177, 1, 1, 1, 1410], 0, 0), (75, .ifCond .eq 7, 3, [82], 0, 0), (78, .iconst 3, 1, [], 3, 0), (79, .goto 4, 3, [83], 0, 0)],
  [(82, .iconst 4, 1, [], 4, 0), (83, .ireturn, 1, [], 0, 0), (84, .aload_n 0, 1, [], 0, 0), (85, .ldc2_w 264, 3, [1472], 0, 26379859), (88, .invokevirtual 254, 3, [177, 1, 1, 1, 1410], 0, 0), (91, .ifCond .eq 7, 3, [98], 0, 0), (94, .iconst 5, 1, [], 5, 0), (95, .goto 34, 3, [129], 0, 0)],
  [(98, .aload_n 0, 1, [], 0, 0), (99, .ldc2_w 266, 3, [1473], 0, 21243335), (102, .invokevirtual 254, 3, [177, 1, 1, 1, 1410], 0, 0), (105, .ifCond .eq 8, 3, [113], 0, 0), (108, .bipush 6, 2, [], 6, 0), (110, .goto 19, 3, [129], 0, 0)],
  [(113, .aload_n 0, 1, [], 0, 0), (114, .ldc2_w 268, 3, [1474], 0, 3540269), (117, .invokevirtual 254, 3, [177, 1, 1, 1, 1410], 0, 0), (120, .ifCond .eq 8, 3, [128], 0, 0), (123, .bipush 7, 2, [], 7, 0), (125, .goto 4, 3, [129], 0, 0)],
  [(128, .iconst (-1), 1, [], (-1), 0), (129, .ireturn, 1, [], 0, 0)]]
set_option maxRecDepth 100000 in
theorem ok_X9_partAt : ms_okC (ms_Y 187).1.cls (ms_Y 187).1.name (ms_Y 187).2.2.1 (ms_Y 187).2.1 cd_X9_partAt = true := by decide +kernel
def cd_X9_plainAt : List (List ms_I) := [
  [(0, .aload_n 0, 1, [], 0, 0), (1, .ldc2_w 270, 3, [1447], 0, 463922), (4, .invokevirtual 254, 3, [177, 1, 1, 1, 1410], 0, 0), (7, .ifCond .ne 23, 3, [30], 0, 0), (10, .aload_n 0, 1, [], 0, 0), (11, .ldc2_w 272, 3, [1448], 0, 646192), (14, .invokevirtual 254, 3, [177, 1, 1, 1, 1410], 0, 0)],
  [(17, .ifCond .ne 13, 3, [30], 0, 0), (20, .aload_n 0, 1, [], 0, 0), (21, .ldc2_w 274, 3, [1449], 0, 150000), (24, .invokevirtual 254, 3, [177, 1, 1, 1, 1410], 0, 0), (27, .ifCond .eq 36, 3, [63], 0, 0), (30, .aload_n 0, 1, [], 0, 0), (31, .ldc2_w 270, 3, [1447], 0, 463922)],
  [(34, .invokevirtual 254, 3, [177, 1, 1, 1, 1410], 0, 0), (37, .ifCond .eq 8, 3, [45], 0, 0), (40, .bipush 12, 2, [], 12, 0), (42, .goto 20, 3, [62], 0, 0), (45, .aload_n 0, 1, [], 0, 0), (46, .ldc2_w 272, 3, [1448], 0, 646192)],
  [(49, .invokevirtual 254, 3, [177, 1, 1, 1, 1410], 0, 0), (52, .ifCond .eq 8, 3, [60], 0, 0), (55, .bipush 13, 2, [], 13, 0), (57, .goto 5, 3, [62], 0, 0), (60, .bipush 14, 2, [], 14, 0), (62, .ireturn, 1, [], 0, 0), (63, .aload_n 0, 1, [], 0, 0)],
  [(64, .ldc2_w 276, 3, [1450], 0, 11566), (67, .invokevirtual 254, 3, [177, 1, 1, 1, 1410], 0, 0), (70, .ifCond .eq 8, 3, [78], 0, 0), (73, .bipush 15, 2, [], 15, 0), (75, .goto 19, 3, [94], 0, 0), (78, .aload_n 0, 1, [], 0, 0), (79, .ldc2_w 278, 3, [1451], 0, 7618164)],
  [(82, .invokevirtual 254, 3, [177, 1, 1, 1, 1410], 0, 0), (85, .ifCond .eq 8, 3, [93], 0, 0), (88, .bipush 16, 2, [], 16, 0), (90, .goto 4, 3, [94], 0, 0), (93, .iconst (-1), 1, [], (-1), 0), (94, .ireturn, 1, [], 0, 0)]]
set_option maxRecDepth 100000 in
theorem ok_X9_plainAt : ms_okC (ms_Y 188).1.cls (ms_Y 188).1.name (ms_Y 188).2.2.1 (ms_Y 188).2.1 cd_X9_plainAt = true := by decide +kernel
def cd_X9_openBracket : List (List ms_I) := [
  [(0, .aload_n 0, 1, [], 0, 0), (1, .aload_n 0, 1, [], 0, 0), (2, .getfield 280, 3, [9, 24, 1129], 0, 0), (5, .bipush 8, 2, [], 8, 0), (7, .if_icmp .ge 7, 3, [14], 0, 0), (10, .iconst 1, 1, [], 1, 0), (11, .goto 4, 3, [15], 0, 0), (14, .iconst 0, 1, [], 0, 0), (15, .invokevirtual 227, 3, [179, 1, 1, 0, 1418], 0, 0)],
  [(18, .aload_n 0, 1, [], 0, 0), (19, .getfield 192, 3, [9, 14, 1119], 0, 0), (22, .ifCond .ne 19, 3, [41], 0, 0), (25, .aload_n 0, 1, [], 0, 0), (26, .dup, 1, [], 0, 0), (27, .getfield 280, 3, [9, 24, 1129], 0, 0), (30, .iconst 1, 1, [], 1, 0), (31, .iadd, 1, [], 0, 0)],
  [(32, .putfield 280, 3, [9, 24, 1129], 0, 0), (35, .aload_n 0, 1, [], 0, 0), (36, .iload_n 1, 1, [], 0, 0), (37, .iconst 0, 1, [], 0, 0), (38, .invokevirtual 283, 3, [182, 1, 2, 0, 1431], 0, 0), (41, .return_, 1, [], 0, 0)]]
set_option maxRecDepth 100000 in
theorem ok_X9_openBracket : ms_okC (ms_Y 189).1.cls (ms_Y 189).1.name (ms_Y 189).2.2.1 (ms_Y 189).2.1 cd_X9_openBracket = true := by decide +kernel
def cd_X9_leaf : List (List ms_I) := [
  [(0, .aload_n 0, 1, [], 0, 0), (1, .iload_n 1, 1, [], 0, 0), (2, .ifCond .eq 16, 3, [18], 0, 0), (5, .aload_n 0, 1, [], 0, 0), (6, .getfield 286, 3, [9, 20, 1125], 0, 0), (9, .bipush 50, 2, [], 50, 0), (11, .if_icmp .ge 7, 3, [18], 0, 0), (14, .iconst 1, 1, [], 1, 0), (15, .goto 4, 3, [19], 0, 0)],
  [(18, .iconst 0, 1, [], 0, 0), (19, .invokevirtual 227, 3, [179, 1, 1, 0, 1418], 0, 0), (22, .aload_n 0, 1, [], 0, 0), (23, .getfield 192, 3, [9, 14, 1119], 0, 0), (26, .ifCond .ne 19, 3, [45], 0, 0), (29, .aload_n 0, 1, [], 0, 0), (30, .iload_n 2, 1, [], 0, 0), (31, .iload_n 3, 1, [], 0, 0)],
  [(32, .invokevirtual 240, 3, [181, 1, 2, 0, 1456], 0, 0), (35, .aload_n 0, 1, [], 0, 0), (36, .dup, 1, [], 0, 0), (37, .getfield 286, 3, [9, 20, 1125], 0, 0), (40, .iconst 1, 1, [], 1, 0), (41, .iadd, 1, [], 0, 0), (42, .putfield 286, 3, [9, 20, 1125], 0, 0), (45, .return_, 1, [], 0, 0)]]
set_option maxRecDepth 100000 in
theorem ok_X9_leaf : ms_okC (ms_Y 190).1.cls (ms_Y 190).1.name (ms_Y 190).2.2.1 (ms_Y 190).2.1 cd_X9_leaf = true := by decide +kernel
def cd_X9_readPart : List (List ms_I) := [
  [(0, .aload_n 0, 1, [], 0, 0), (1, .bipush 91, 2, [], 91, 0), (3, .invokevirtual 289, 3, [178, 1, 1, 1, 1435], 0, 0), (6, .ifCond .eq 11, 3, [17], 0, 0), (9, .aload_n 0, 1, [], 0, 0), (10, .bipush 31, 2, [], 31, 0), (12, .invokevirtual 292, 3, [189, 1, 1, 0, 1439], 0, 0), (15, .iconst 1, 1, [], 1, 0)],
  [(16, .ireturn, 1, [], 0, 0), (17, .aload_n 0, 1, [], 0, 0), (18, .invokevirtual 295, 3, [187, 1, 0, 1, 1464], 0, 0), (21, .istore_n 1, 1, [], 0, 0), (22, .aload_n 0, 1, [], 0, 0), (23, .getfield 212, 3, [9, 11, 1116], 0, 0), (26, .iconst 2, 1, [], 2, 0), (27, .if_icmp .ne 18, 3, [45], 0, 0), (30, .aload_n 0, 1, [], 0, 0), (31, .getfield 202, 3, [9, 12, 1117], 0, 0)],
  [(34, .ldc2_w 299, 3, [1475], 0, 100000), (37, .lcmp, 1, [], 0, 0), (38, .ifCond .gt 7, 3, [45], 0, 0), (41, .iconst 1, 1, [], 1, 0), (42, .goto 4, 3, [46], 0, 0), (45, .iconst 0, 1, [], 0, 0), (46, .istore_n 2, 1, [], 0, 0), (47, .aload_n 0, 1, [], 0, 0)],
  [(48, .iload_n 1, 1, [], 0, 0), (49, .iconst (-1), 1, [], (-1), 0), (50, .if_icmp .ne 7, 3, [57], 0, 0), (53, .iload_n 2, 1, [], 0, 0), (54, .ifCond .eq 7, 3, [61], 0, 0), (57, .iconst 1, 1, [], 1, 0), (58, .goto 4, 3, [62], 0, 0), (61, .iconst 0, 1, [], 0, 0), (62, .iload_n 1, 1, [], 0, 0), (63, .iconst (-1), 1, [], (-1), 0)],
  [(64, .if_icmp .ne 7, 3, [71], 0, 0), (67, .iconst 0, 1, [], 0, 0), (68, .goto 4, 3, [72], 0, 0), (71, .iload_n 1, 1, [], 0, 0), (72, .iload_n 2, 1, [], 0, 0), (73, .ifCond .eq 11, 3, [84], 0, 0), (76, .aload_n 0, 1, [], 0, 0), (77, .getfield 202, 3, [9, 12, 1117], 0, 0)],
  [(80, .l2i, 1, [], 0, 0), (81, .goto 4, 3, [85], 0, 0), (84, .iconst 0, 1, [], 0, 0), (85, .invokevirtual 301, 3, [190, 1, 3, 0, 1452], 0, 0), (88, .iconst 3, 1, [], 3, 0), (89, .ireturn, 1, [], 0, 0)]]
set_option maxRecDepth 100000 in
theorem ok_X9_readPart : ms_okC (ms_Y 191).1.cls (ms_Y 191).1.name (ms_Y 191).2.2.1 (ms_Y 191).2.1 cd_X9_readPart = true := by decide +kernel
def cd_X9_readPlain : List (List ms_I) := [
  [(0, .aload_n 0, 1, [], 0, 0), (1, .ldc2_w 305, 3, [1430], 0, 14836), (4, .invokevirtual 254, 3, [177, 1, 1, 1, 1410], 0, 0), (7, .ifCond .eq 16, 3, [23], 0, 0), (10, .aload_n 0, 1, [], 0, 0), (11, .bipush 27, 2, [], 27, 0), (13, .iconst 0, 1, [], 0, 0), (14, .invokevirtual 283, 3, [182, 1, 2, 0, 1431], 0, 0)],
  [(17, .aload_n 0, 1, [], 0, 0), (18, .invokevirtual 196, 3, [176, 1, 0, 0, 1385], 0, 0), (21, .iconst 0, 1, [], 0, 0), (22, .ireturn, 1, [], 0, 0), (23, .aload_n 0, 1, [], 0, 0), (24, .bipush 40, 2, [], 40, 0), (26, .invokevirtual 289, 3, [178, 1, 1, 1, 1435], 0, 0), (29, .ifCond .eq 11, 3, [40], 0, 0)],
  [(32, .aload_n 0, 1, [], 0, 0), (33, .bipush 30, 2, [], 30, 0), (35, .invokevirtual 292, 3, [189, 1, 1, 0, 1439], 0, 0), (38, .iconst 0, 1, [], 0, 0), (39, .ireturn, 1, [], 0, 0), (40, .aload_n 0, 1, [], 0, 0), (41, .invokevirtual 307, 3, [188, 1, 0, 1, 1443], 0, 0), (44, .istore_n 1, 1, [], 0, 0), (45, .iload_n 1, 1, [], 0, 0), (46, .iconst (-1), 1, [], (-1), 0), (47, .if_icmp .eq 12, 3, [59], 0, 0)],
  [(50, .aload_n 0, 1, [], 0, 0), (51, .iconst 1, 1, [], 1, 0), (52, .iload_n 1, 1, [], 0, 0), (53, .iconst 0, 1, [], 0, 0), (54, .invokevirtual 301, 3, [190, 1, 3, 0, 1452], 0, 0), (57, .iconst 2, 1, [], 2, 0), (58, .ireturn, 1, [], 0, 0), (59, .aload_n 0, 1, [], 0, 0), (60, .invokevirtual 310, 3, [191, 1, 0, 1, 1460], 0, 0), (63, .ireturn, 1, [], 0, 0)]]
set_option maxRecDepth 100000 in
theorem ok_X9_readPlain : ms_okC (ms_Y 192).1.cls (ms_Y 192).1.name (ms_Y 192).2.2.1 (ms_Y 192).2.1 cd_X9_readPlain = true := by decide +kernel
def cd_X9_behindSum : List (List ms_I) := [
  [(0, .aload_n 0, 1, [], 0, 0), (1, .bipush 43, 2, [], 43, 0), (3, .invokevirtual 289, 3, [178, 1, 1, 1, 1435], 0, 0), (6, .ifCond .eq 8, 3, [14], 0, 0), (9, .bipush 20, 2, [], 20, 0), (11, .goto 46, 3, [57], 0, 0), (14, .aload_n 0, 1, [], 0, 0), (15, .bipush 45, 2, [], 45, 0)],
  [(17, .invokevirtual 289, 3, [178, 1, 1, 1, 1435], 0, 0), (20, .ifCond .eq 8, 3, [28], 0, 0), (23, .bipush 21, 2, [], 21, 0), (25, .goto 32, 3, [57], 0, 0), (28, .aload_n 0, 1, [], 0, 0), (29, .bipush 42, 2, [], 42, 0), (31, .invokevirtual 289, 3, [178, 1, 1, 1, 1435], 0, 0)],
  [(34, .ifCond .eq 8, 3, [42], 0, 0), (37, .bipush 22, 2, [], 22, 0), (39, .goto 18, 3, [57], 0, 0), (42, .aload_n 0, 1, [], 0, 0), (43, .bipush 47, 2, [], 47, 0), (45, .invokevirtual 289, 3, [178, 1, 1, 1, 1435], 0, 0)],
  [(48, .ifCond .eq 8, 3, [56], 0, 0), (51, .bipush 23, 2, [], 23, 0), (53, .goto 4, 3, [57], 0, 0), (56, .iconst (-1), 1, [], (-1), 0), (57, .istore_n 2, 1, [], 0, 0), (58, .iload_n 2, 1, [], 0, 0), (59, .iconst (-1), 1, [], (-1), 0), (60, .if_icmp .eq 23, 3, [83], 0, 0), (63, .aload_n 0, 1, [], 0, 0)],
  [(64, .iload_n 2, 1, [], 0, 0), (65, .invokestatic 237, 3, [183, 0, 1, 1, 1480], 0, 0), (68, .invokevirtual 313, 3, [184, 1, 1, 0, 1483], 0, 0), (71, .aload_n 0, 1, [], 0, 0), (72, .iload_n 2, 1, [], 0, 0), (73, .iconst 0, 1, [], 0, 0), (74, .invokevirtual 283, 3, [182, 1, 2, 0, 1431], 0, 0), (77, .aload_n 0, 1, [], 0, 0), (78, .invokevirtual 196, 3, [176, 1, 0, 0, 1385], 0, 0)],
  [(81, .iconst 1, 1, [], 1, 0), (82, .ireturn, 1, [], 0, 0), (83, .aload_n 0, 1, [], 0, 0), (84, .invokevirtual 316, 3, [185, 1, 0, 1, 1487], 0, 0), (87, .istore_n 3, 1, [], 0, 0), (88, .iload_n 3, 1, [], 0, 0), (89, .bipush 31, 2, [], 31, 0), (91, .if_icmp .ne 47, 3, [138], 0, 0), (94, .aload_n 0, 1, [], 0, 0), (95, .aload_n 0, 1, [], 0, 0)],
  [(96, .bipush 93, 2, [], 93, 0), (98, .invokevirtual 289, 3, [178, 1, 1, 1, 1435], 0, 0), (101, .invokevirtual 227, 3, [179, 1, 1, 0, 1418], 0, 0), (104, .aload_n 0, 1, [], 0, 0), (105, .getfield 192, 3, [9, 14, 1119], 0, 0), (108, .ifCond .ne 28, 3, [136], 0, 0), (111, .aload_n 0, 1, [], 0, 0)],
  [(112, .iconst 5, 1, [], 5, 0), (113, .invokevirtual 313, 3, [184, 1, 1, 0, 1483], 0, 0), (116, .aload_n 0, 1, [], 0, 0), (117, .dup, 1, [], 0, 0), (118, .getfield 234, 3, [9, 23, 1128], 0, 0), (121, .iconst 1, 1, [], 1, 0), (122, .isub, 1, [], 0, 0), (123, .putfield 234, 3, [9, 23, 1128], 0, 0), (126, .aload_n 0, 1, [], 0, 0), (127, .dup, 1, [], 0, 0)],
  [(128, .getfield 280, 3, [9, 24, 1129], 0, 0), (131, .iconst 1, 1, [], 1, 0), (132, .isub, 1, [], 0, 0), (133, .putfield 280, 3, [9, 24, 1129], 0, 0), (136, .iconst 3, 1, [], 3, 0), (137, .ireturn, 1, [], 0, 0), (138, .iload_n 3, 1, [], 0, 0), (139, .iconst (-1), 1, [], (-1), 0), (140, .if_icmp .ne 9, 3, [149], 0, 0), (143, .iload_n 1, 1, [], 0, 0)],
  [(144, .ifCond .ne 5, 3, [149], 0, 0), (147, .iconst 4, 1, [], 4, 0), (148, .ireturn, 1, [], 0, 0), (149, .aload_n 0, 1, [], 0, 0), (150, .invokevirtual 319, 3, [186, 1, 0, 1, 1491], 0, 0), (153, .ifCond .eq 5, 3, [158], 0, 0), (156, .iconst 2, 1, [], 2, 0), (157, .ireturn, 1, [], 0, 0), (158, .aload_n 0, 1, [], 0, 0), (159, .bipush 60, 2, [], 60, 0)],
  [(161, .invokevirtual 289, 3, [178, 1, 1, 1, 1435], 0, 0), (164, .ifCond .eq 8, 3, [172], 0, 0), (167, .bipush 24, 2, [], 24, 0), (169, .goto 19, 3, [188], 0, 0), (172, .aload_n 0, 1, [], 0, 0), (173, .bipush 62, 2, [], 62, 0), (175, .invokevirtual 289, 3, [178, 1, 1, 1, 1435], 0, 0)],
  [(178, .ifCond .eq 8, 3, [186], 0, 0), (181, .bipush 25, 2, [], 25, 0), (183, .goto 5, 3, [188], 0, 0), (186, .bipush 26, 2, [], 26, 0), (188, .istore_n 2, 1, [], 0, 0), (189, .aload_n 0, 1, [], 0, 0), (190, .iload_n 2, 1, [], 0, 0), (191, .bipush 26, 2, [], 26, 0)],
  [(193, .if_icmp .ne 12, 3, [205], 0, 0), (196, .aload_n 0, 1, [], 0, 0), (197, .bipush 61, 2, [], 61, 0), (199, .invokevirtual 289, 3, [178, 1, 1, 1, 1435], 0, 0), (202, .ifCond .eq 7, 3, [209], 0, 0), (205, .iconst 1, 1, [], 1, 0), (206, .goto 4, 3, [210], 0, 0)],
  [(209, .iconst 0, 1, [], 0, 0), (210, .invokevirtual 227, 3, [179, 1, 1, 0, 1418], 0, 0), (213, .aload_n 0, 1, [], 0, 0), (214, .getfield 192, 3, [9, 14, 1119], 0, 0), (217, .ifCond .ne 14, 3, [231], 0, 0), (220, .aload_n 0, 1, [], 0, 0), (221, .iconst 5, 1, [], 5, 0), (222, .invokevirtual 313, 3, [184, 1, 1, 0, 1483], 0, 0)],
  [(225, .aload_n 0, 1, [], 0, 0), (226, .iload_n 2, 1, [], 0, 0), (227, .iconst 0, 1, [], 0, 0), (228, .invokevirtual 283, 3, [182, 1, 2, 0, 1431], 0, 0), (231, .iconst 1, 1, [], 1, 0), (232, .ireturn, 1, [], 0, 0)]]
set_option maxRecDepth 100000 in
theorem ok_X9_behindSum : ms_okC (ms_Y 193).1.cls (ms_Y 193).1.name (ms_Y 193).2.2.1 (ms_Y 193).2.1 cd_X9_behindSum = true := by decide +kernel
def cd_X9_behindTest : List (List ms_I) := [
  [(0, .aload_n 0, 1, [], 0, 0), (1, .ldc2_w 323, 3, [1503], 0, 1476), (4, .invokevirtual 254, 3, [177, 1, 1, 1, 1410], 0, 0), (7, .istore_n 1, 1, [], 0, 0), (8, .iload_n 1, 1, [], 0, 0), (9, .ifCond .ne 13, 3, [22], 0, 0), (12, .aload_n 0, 1, [], 0, 0), (13, .ldc2_w 325, 3, [1504], 0, 498)],
  [(16, .invokevirtual 254, 3, [177, 1, 1, 1, 1410], 0, 0), (19, .ifCond .eq 57, 3, [76], 0, 0), (22, .aload_n 0, 1, [], 0, 0), (23, .iload_n 1, 1, [], 0, 0), (24, .ifCond .eq 7, 3, [31], 0, 0), (27, .iconst 2, 1, [], 2, 0), (28, .goto 4, 3, [32], 0, 0), (31, .iconst 1, 1, [], 1, 0)],
  [(32, .invokevirtual 313, 3, [184, 1, 1, 0, 1483], 0, 0), (35, .aload_n 0, 1, [], 0, 0), (36, .iload_n 1, 1, [], 0, 0), (37, .ifCond .eq 8, 3, [45], 0, 0), (40, .bipush 28, 2, [], 28, 0), (42, .goto 5, 3, [47], 0, 0), (45, .bipush 29, 2, [], 29, 0), (47, .aload_n 0, 1, [], 0, 0)],
  [(48, .getfield 231, 3, [9, 17, 1122], 0, 0), (51, .invokevirtual 283, 3, [182, 1, 2, 0, 1431], 0, 0), (54, .aload_n 0, 1, [], 0, 0), (55, .iload_n 1, 1, [], 0, 0), (56, .ifCond .eq 8, 3, [64], 0, 0), (59, .bipush 28, 2, [], 28, 0), (61, .goto 5, 3, [66], 0, 0)],
  [(64, .bipush 29, 2, [], 29, 0), (66, .iconst 0, 1, [], 0, 0), (67, .invokevirtual 240, 3, [181, 1, 2, 0, 1456], 0, 0), (70, .aload_n 0, 1, [], 0, 0), (71, .invokevirtual 196, 3, [176, 1, 0, 0, 1385], 0, 0), (74, .iconst 0, 1, [], 0, 0), (75, .ireturn, 1, [], 0, 0), (76, .aload_n 0, 1, [], 0, 0), (77, .invokevirtual 316, 3, [185, 1, 0, 1, 1487], 0, 0)],
  [(80, .iconst (-1), 1, [], (-1), 0), (81, .if_icmp .ne 5, 3, [86], 0, 0), (84, .iconst 4, 1, [], 4, 0), (85, .ireturn, 1, [], 0, 0), (86, .aload_n 0, 1, [], 0, 0), (87, .aload_n 0, 1, [], 0, 0), (88, .bipush 41, 2, [], 41, 0), (90, .invokevirtual 289, 3, [178, 1, 1, 1, 1435], 0, 0), (93, .invokevirtual 227, 3, [179, 1, 1, 0, 1418], 0, 0)],
  [(96, .aload_n 0, 1, [], 0, 0), (97, .getfield 192, 3, [9, 14, 1119], 0, 0), (100, .ifCond .ne 28, 3, [128], 0, 0), (103, .aload_n 0, 1, [], 0, 0), (104, .iconst 1, 1, [], 1, 0), (105, .invokevirtual 313, 3, [184, 1, 1, 0, 1483], 0, 0), (108, .aload_n 0, 1, [], 0, 0), (109, .dup, 1, [], 0, 0), (110, .getfield 234, 3, [9, 23, 1128], 0, 0)],
  [(113, .iconst 1, 1, [], 1, 0), (114, .isub, 1, [], 0, 0), (115, .putfield 234, 3, [9, 23, 1128], 0, 0), (118, .aload_n 0, 1, [], 0, 0), (119, .dup, 1, [], 0, 0), (120, .getfield 280, 3, [9, 24, 1129], 0, 0), (123, .iconst 1, 1, [], 1, 0), (124, .isub, 1, [], 0, 0), (125, .putfield 280, 3, [9, 24, 1129], 0, 0)],
  [(128, .iconst 2, 1, [], 2, 0), (129, .ireturn, 1, [], 0, 0)]]
set_option maxRecDepth 100000 in
theorem ok_X9_behindTest : ms_okC (ms_Y 194).1.cls (ms_Y 194).1.name (ms_Y 194).2.2.1 (ms_Y 194).2.1 cd_X9_behindTest = true := by decide +kernel
