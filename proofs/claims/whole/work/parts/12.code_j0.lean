/-! the rows of the methods, group j0: written by wip/whole/code.py -/
def cd_J6_numberOfTrailingZeros_0f7a4 : List (List ms_I) := [
  [(0, .iload_n 0, 1, [], 0, 0), (1, .iconst (-1), 1, [], (-1), 0), (2, .ixor, 1, [], 0, 0), (3, .iload_n 0, 1, [], 0, 0), (4, .iconst 1, 1, [], 1, 0), (5, .isub, 1, [], 0, 0), (6, .iand, 1, [], 0, 0), (7, .istore_n 0, 1, [], 0, 0), (8, .iload_n 0, 1, [], 0, 0), (9, .ifCond .gt 8, 3, [17], 0, 0), (12, .iload_n 0, 1, [], 0, 0), (13, .bipush 32, 2, [], 32, 0), (15, .iand, 1, [], 0, 0)],
  [(16, .ireturn, 1, [], 0, 0), (17, .iconst 1, 1, [], 1, 0), (18, .istore_n 1, 1, [], 0, 0), (19, .iload_n 0, 1, [], 0, 0), (20, .ldc_w 264, 3, [898], 65536, 0), (23, .if_icmp .le 11, 3, [34], 0, 0), (26, .iinc 1 16, 3, [], 16, 0), (29, .iload_n 0, 1, [], 0, 0), (30, .bipush 16, 2, [], 16, 0)],
  [(32, .iushr, 1, [], 0, 0), (33, .istore_n 0, 1, [], 0, 0), (34, .iload_n 0, 1, [], 0, 0), (35, .sipush 256, 3, [], 256, 0), (38, .if_icmp .le 11, 3, [49], 0, 0), (41, .iinc 1 8, 3, [], 8, 0), (44, .iload_n 0, 1, [], 0, 0), (45, .bipush 8, 2, [], 8, 0), (47, .iushr, 1, [], 0, 0)],
  [(48, .istore_n 0, 1, [], 0, 0), (49, .iload_n 0, 1, [], 0, 0), (50, .bipush 16, 2, [], 16, 0), (52, .if_icmp .le 10, 3, [62], 0, 0), (55, .iinc 1 4, 3, [], 4, 0), (58, .iload_n 0, 1, [], 0, 0), (59, .iconst 4, 1, [], 4, 0), (60, .iushr, 1, [], 0, 0), (61, .istore_n 0, 1, [], 0, 0), (62, .iload_n 0, 1, [], 0, 0), (63, .iconst 4, 1, [], 4, 0)],
  [(64, .if_icmp .le 10, 3, [74], 0, 0), (67, .iinc 1 2, 3, [], 2, 0), (70, .iload_n 0, 1, [], 0, 0), (71, .iconst 2, 1, [], 2, 0), (72, .iushr, 1, [], 0, 0), (73, .istore_n 0, 1, [], 0, 0), (74, .iload_n 1, 1, [], 0, 0), (75, .iload_n 0, 1, [], 0, 0), (76, .iconst 1, 1, [], 1, 0), (77, .iushr, 1, [], 0, 0), (78, .iadd, 1, [], 0, 0), (79, .ireturn, 1, [], 0, 0)]]
set_option maxRecDepth 100000 in
theorem ok_J6_numberOfTrailingZeros_0f7a4 : ms_okC (ms_Y 256).1.cls (ms_Y 256).1.name (ms_Y 256).2.2.1 (ms_Y 256).2.1 cd_J6_numberOfTrailingZeros_0f7a4 = true := by decide +kernel
def cd_J6_bitCount_0f7a4 : List (List ms_I) := [
  [(0, .iload_n 0, 1, [], 0, 0), (1, .iload_n 0, 1, [], 0, 0), (2, .iconst 1, 1, [], 1, 0), (3, .iushr, 1, [], 0, 0), (4, .ldc_w 265, 3, [845], 1431655765, 0), (7, .iand, 1, [], 0, 0), (8, .isub, 1, [], 0, 0), (9, .istore_n 0, 1, [], 0, 0), (10, .iload_n 0, 1, [], 0, 0), (11, .ldc_w 266, 3, [846], 858993459, 0), (14, .iand, 1, [], 0, 0), (15, .iload_n 0, 1, [], 0, 0)],
  [(16, .iconst 2, 1, [], 2, 0), (17, .iushr, 1, [], 0, 0), (18, .ldc_w 266, 3, [846], 858993459, 0), (21, .iand, 1, [], 0, 0), (22, .iadd, 1, [], 0, 0), (23, .istore_n 0, 1, [], 0, 0), (24, .iload_n 0, 1, [], 0, 0), (25, .iload_n 0, 1, [], 0, 0), (26, .iconst 4, 1, [], 4, 0), (27, .iushr, 1, [], 0, 0), (28, .iadd, 1, [], 0, 0), (29, .ldc_w 267, 3, [847], 252645135, 0)],
  [(32, .iand, 1, [], 0, 0), (33, .istore_n 0, 1, [], 0, 0), (34, .iload_n 0, 1, [], 0, 0), (35, .iload_n 0, 1, [], 0, 0), (36, .bipush 8, 2, [], 8, 0), (38, .iushr, 1, [], 0, 0), (39, .iadd, 1, [], 0, 0), (40, .istore_n 0, 1, [], 0, 0), (41, .iload_n 0, 1, [], 0, 0), (42, .iload_n 0, 1, [], 0, 0), (43, .bipush 16, 2, [], 16, 0), (45, .iushr, 1, [], 0, 0), (46, .iadd, 1, [], 0, 0), (47, .istore_n 0, 1, [], 0, 0)],
  [(48, .iload_n 0, 1, [], 0, 0), (49, .bipush 63, 2, [], 63, 0), (51, .iand, 1, [], 0, 0), (52, .ireturn, 1, [], 0, 0)]]
set_option maxRecDepth 100000 in
theorem ok_J6_bitCount_0f7a4 : ms_okC (ms_Y 257).1.cls (ms_Y 257).1.name (ms_Y 257).2.2.1 (ms_Y 257).2.1 cd_J6_bitCount_0f7a4 = true := by decide +kernel
def cd_J7_rangeCheck_23922 : List (List ms_I) := [
  [(0, .iload_n 1, 1, [], 0, 0), (1, .iload_n 2, 1, [], 0, 0), (2, .if_icmp .le 44, 3, [46], 0, 0), (8, .dup, 1, [], 0, 0), (12, .dup, 1, [], 0, 0)],
  [(21, .iload_n 1, 1, [], 0, 0), (30, .iload_n 2, 1, [], 0, 0)],
  [(45, .athrow, 1, [], 0, 0), (46, .iload_n 1, 1, [], 0, 0), (47, .ifCond .ge 12, 3, [59], 0, 0)],
  [(53, .dup, 1, [], 0, 0), (54, .iload_n 1, 1, [], 0, 0), (58, .athrow, 1, [], 0, 0), (59, .iload_n 2, 1, [], 0, 0), (60, .iload_n 0, 1, [], 0, 0), (61, .if_icmp .le 12, 3, [73], 0, 0)],
  [(67, .dup, 1, [], 0, 0), (68, .iload_n 2, 1, [], 0, 0), (72, .athrow, 1, [], 0, 0), (73, .return_, 1, [], 0, 0)]]
set_option maxRecDepth 100000 in
theorem ok_J7_rangeCheck_23922 : ms_okC (ms_Y 273).1.cls (ms_Y 273).1.name (ms_Y 273).2.2.1 (ms_Y 273).2.1 cd_J7_rangeCheck_23922 = true := by decide +kernel
def cd_J7_fill_53178 : List (List ms_I) := [
  [(0, .iconst 0, 1, [], 0, 0), (1, .istore_n 2, 1, [], 0, 0), (2, .aload_n 0, 1, [], 0, 0), (3, .arraylength, 1, [], 0, 0), (4, .istore_n 3, 1, [], 0, 0), (5, .iload_n 2, 1, [], 0, 0), (6, .iload_n 3, 1, [], 0, 0), (7, .if_icmp .ge 13, 3, [20], 0, 0), (10, .aload_n 0, 1, [], 0, 0), (11, .iload_n 2, 1, [], 0, 0), (12, .iload_n 1, 1, [], 0, 0), (13, .iastore, 1, [], 0, 0), (14, .iinc 2 1, 3, [], 1, 0)],
  [(17, .goto (-12), 3, [5], 0, 0), (20, .return_, 1, [], 0, 0)]]
set_option maxRecDepth 100000 in
theorem ok_J7_fill_53178 : ms_okC (ms_Y 274).1.cls (ms_Y 274).1.name (ms_Y 274).2.2.1 (ms_Y 274).2.1 cd_J7_fill_53178 = true := by decide +kernel
def cd_J7_fill_fda19 : List (List ms_I) := [
  [(0, .aload_n 0, 1, [], 0, 0), (1, .arraylength, 1, [], 0, 0), (2, .iload_n 1, 1, [], 0, 0), (3, .iload_n 2, 1, [], 0, 0), (4, .invokestatic 13, 3, [273, 0, 3, 0, 902], 0, 0), (7, .iload_n 1, 1, [], 0, 0), (8, .istore 4, 2, [], 0, 0), (10, .iload 4, 2, [], 0, 0), (12, .iload_n 2, 1, [], 0, 0), (13, .if_icmp .ge 14, 3, [27], 0, 0)],
  [(16, .aload_n 0, 1, [], 0, 0), (17, .iload 4, 2, [], 0, 0), (19, .iload_n 3, 1, [], 0, 0), (20, .iastore, 1, [], 0, 0), (21, .iinc 4 1, 3, [], 1, 0), (24, .goto (-14), 3, [10], 0, 0), (27, .return_, 1, [], 0, 0)]]
set_option maxRecDepth 100000 in
theorem ok_J7_fill_fda19 : ms_okC (ms_Y 275).1.cls (ms_Y 275).1.name (ms_Y 275).2.2.1 (ms_Y 275).2.1 cd_J7_fill_fda19 = true := by decide +kernel
def cd_J7_copyOf_59c91 : List (List ms_I) := [
  [(0, .iload_n 1, 1, [], 0, 0), (1, .aload_n 0, 1, [], 0, 0), (2, .arraylength, 1, [], 0, 0), (3, .if_icmp .ne 11, 3, [14], 0, 0), (6, .aload_n 0, 1, [], 0, 0), (7, .invokevirtual 316, 3, [1002, 675, 676, 677, 678, 679, 680], 0, 0), (10, .checkcast 317, 3, [681], 0, 0), (13, .areturn, 1, [], 0, 0), (14, .iload_n 1, 1, [], 0, 0), (15, .newarray .int, 2, [154], 0, 0)],
  [(17, .astore_n 2, 1, [], 0, 0), (18, .aload_n 0, 1, [], 0, 0), (19, .iconst 0, 1, [], 0, 0), (20, .aload_n 2, 1, [], 0, 0), (21, .iconst 0, 1, [], 0, 0), (22, .aload_n 0, 1, [], 0, 0), (23, .arraylength, 1, [], 0, 0), (24, .iload_n 1, 1, [], 0, 0), (25, .invokestatic 304, 3, [1004, 682, 611, 127, 612, 0, 0, 0], 0, 0), (28, .invokestatic 150, 3, [1001, 683, 685, 684, 129, 0], 0, 0), (31, .aload_n 2, 1, [], 0, 0)],
  [(32, .areturn, 1, [], 0, 0)]]
set_option maxRecDepth 100000 in
theorem ok_J7_copyOf_59c91 : ms_okC (ms_Y 276).1.cls (ms_Y 276).1.name (ms_Y 276).2.2.1 (ms_Y 276).2.1 cd_J7_copyOf_59c91 = true := by decide +kernel
