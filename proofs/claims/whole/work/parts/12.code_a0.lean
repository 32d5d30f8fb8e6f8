/-! the rows of the methods, group a0: written by wip/whole/code.py -/
def cd_X0_init : List (List ms_I) := [
  [(0, .aload_n 0, 1, [], 0, 0), (1, .invokespecial 3, 3, [1000, 198, 137, 138], 0, 0), (4, .aload_n 0, 1, [], 0, 0), (5, .bipush 48, 2, [], 48, 0), (7, .newarray .int, 2, [154], 0, 0), (9, .putfield 11, 3, [0, 0, 201], 0, 0), (12, .aload_n 0, 1, [], 0, 0), (13, .bipush 64, 2, [], 64, 0), (15, .newarray .int, 2, [154], 0, 0)],
  [(17, .putfield 15, 3, [0, 1, 202], 0, 0), (20, .aload_n 0, 1, [], 0, 0), (21, .sipush 192, 3, [], 192, 0), (24, .newarray .int, 2, [154], 0, 0), (26, .putfield 18, 3, [0, 2, 203], 0, 0), (29, .aload_n 0, 1, [], 0, 0), (30, .sipush 960, 3, [], 960, 0)],
  [(33, .newarray .int, 2, [154], 0, 0), (35, .putfield 21, 3, [0, 3, 204], 0, 0), (38, .aload_n 0, 1, [], 0, 0), (39, .bipush 20, 2, [], 20, 0), (41, .anewarray 24, 3, [3, 199, 200], 0, 0), (44, .putfield 26, 3, [0, 4, 205], 0, 0), (47, .return_, 1, [], 0, 0)]]
set_option maxRecDepth 100000 in
theorem ok_X0_init : ms_okC (ms_Y 0).1.cls (ms_Y 0).1.name (ms_Y 0).2.2.1 (ms_Y 0).2.1 cd_X0_init = true := by decide +kernel
def cd_X0_copyFrom : List (List ms_I) := [
  [(0, .aload_n 1, 1, [], 0, 0), (1, .getfield 11, 3, [0, 0, 201], 0, 0), (4, .iconst 0, 1, [], 0, 0), (5, .aload_n 0, 1, [], 0, 0), (6, .getfield 11, 3, [0, 0, 201], 0, 0), (9, .iconst 0, 1, [], 0, 0), (10, .aload_n 0, 1, [], 0, 0), (11, .getfield 11, 3, [0, 0, 201], 0, 0), (14, .arraylength, 1, [], 0, 0), (15, .invokestatic 30, 3, [1001, 1044, 685, 684, 129, 0], 0, 0)],
  [(18, .aload_n 1, 1, [], 0, 0), (19, .getfield 15, 3, [0, 1, 202], 0, 0), (22, .iconst 0, 1, [], 0, 0), (23, .aload_n 0, 1, [], 0, 0), (24, .getfield 15, 3, [0, 1, 202], 0, 0), (27, .iconst 0, 1, [], 0, 0), (28, .aload_n 0, 1, [], 0, 0), (29, .getfield 15, 3, [0, 1, 202], 0, 0)],
  [(32, .arraylength, 1, [], 0, 0), (33, .invokestatic 30, 3, [1001, 1044, 685, 684, 129, 0], 0, 0), (36, .aload_n 1, 1, [], 0, 0), (37, .getfield 18, 3, [0, 2, 203], 0, 0), (40, .iconst 0, 1, [], 0, 0), (41, .aload_n 0, 1, [], 0, 0), (42, .getfield 18, 3, [0, 2, 203], 0, 0), (45, .iconst 0, 1, [], 0, 0), (46, .aload_n 0, 1, [], 0, 0), (47, .getfield 18, 3, [0, 2, 203], 0, 0)],
  [(50, .arraylength, 1, [], 0, 0), (51, .invokestatic 30, 3, [1001, 1044, 685, 684, 129, 0], 0, 0), (54, .aload_n 1, 1, [], 0, 0), (55, .getfield 21, 3, [0, 3, 204], 0, 0), (58, .iconst 0, 1, [], 0, 0), (59, .aload_n 0, 1, [], 0, 0), (60, .getfield 21, 3, [0, 3, 204], 0, 0), (63, .iconst 0, 1, [], 0, 0)],
  [(64, .aload_n 0, 1, [], 0, 0), (65, .getfield 21, 3, [0, 3, 204], 0, 0), (68, .arraylength, 1, [], 0, 0), (69, .invokestatic 30, 3, [1001, 1044, 685, 684, 129, 0], 0, 0), (72, .iconst 0, 1, [], 0, 0), (73, .istore_n 2, 1, [], 0, 0), (74, .iload_n 2, 1, [], 0, 0), (75, .bipush 20, 2, [], 20, 0), (77, .if_icmp .ge 21, 3, [98], 0, 0)],
  [(80, .aload_n 0, 1, [], 0, 0), (81, .getfield 26, 3, [0, 4, 205], 0, 0), (84, .iload_n 2, 1, [], 0, 0), (85, .aload_n 1, 1, [], 0, 0), (86, .getfield 26, 3, [0, 4, 205], 0, 0), (89, .iload_n 2, 1, [], 0, 0), (90, .aaload, 1, [], 0, 0), (91, .aastore, 1, [], 0, 0), (92, .iinc 2 1, 3, [], 1, 0), (95, .goto (-21), 3, [74], 0, 0)],
  [(98, .aload_n 0, 1, [], 0, 0), (99, .aload_n 1, 1, [], 0, 0), (100, .getfield 36, 3, [0, 5, 208], 0, 0), (103, .putfield 36, 3, [0, 5, 208], 0, 0), (106, .aload_n 0, 1, [], 0, 0), (107, .aload_n 1, 1, [], 0, 0), (108, .getfield 40, 3, [0, 6, 209], 0, 0), (111, .putfield 40, 3, [0, 6, 209], 0, 0)],
  [(114, .aload_n 0, 1, [], 0, 0), (115, .aload_n 1, 1, [], 0, 0), (116, .getfield 43, 3, [0, 7, 212], 0, 0), (119, .putfield 43, 3, [0, 7, 212], 0, 0), (122, .aload_n 0, 1, [], 0, 0), (123, .aload_n 1, 1, [], 0, 0), (124, .getfield 46, 3, [0, 8, 215], 0, 0), (127, .putfield 46, 3, [0, 8, 215], 0, 0)],
  [(130, .return_, 1, [], 0, 0)]]
set_option maxRecDepth 100000 in
theorem ok_X0_copyFrom : ms_okC (ms_Y 1).1.cls (ms_Y 1).1.name (ms_Y 1).2.2.1 (ms_Y 1).2.1 cd_X0_copyFrom = true := by decide +kernel
def cd_X0_dropPapers : List (List ms_I) := [
  [(0, .aload_n 0, 1, [], 0, 0), (1, .iconst 0, 1, [], 0, 0), (2, .putfield 40, 3, [0, 6, 209], 0, 0), (5, .aload_n 0, 1, [], 0, 0), (6, .iconst 0, 1, [], 0, 0), (7, .putfield 43, 3, [0, 7, 212], 0, 0), (10, .return_, 1, [], 0, 0)]]
set_option maxRecDepth 100000 in
theorem ok_X0_dropPapers : ms_okC (ms_Y 2).1.cls (ms_Y 2).1.name (ms_Y 2).2.2.1 (ms_Y 2).2.1 cd_X0_dropPapers = true := by decide +kernel
def cd_X0_hasThing : List (List ms_I) := [
  [(0, .iload_n 1, 1, [], 0, 0), (1, .ifCond .lt 21, 3, [22], 0, 0), (4, .iload_n 1, 1, [], 0, 0), (5, .aload_n 0, 1, [], 0, 0), (6, .getfield 36, 3, [0, 5, 208], 0, 0), (9, .if_icmp .ge 13, 3, [22], 0, 0), (12, .iload_n 1, 1, [], 0, 0), (13, .bipush 8, 2, [], 8, 0), (15, .if_icmp .ge 7, 3, [22], 0, 0)],
  [(18, .iconst 1, 1, [], 1, 0), (19, .goto 4, 3, [23], 0, 0), (22, .iconst 0, 1, [], 0, 0), (23, .ireturn, 1, [], 0, 0)]]
set_option maxRecDepth 100000 in
theorem ok_X0_hasThing : ms_okC (ms_Y 3).1.cls (ms_Y 3).1.name (ms_Y 3).2.2.1 (ms_Y 3).2.1 cd_X0_hasThing = true := by decide +kernel
def cd_X0_hasPaper : List (List ms_I) := [
  [(0, .iload_n 1, 1, [], 0, 0), (1, .ifCond .lt 21, 3, [22], 0, 0), (4, .iload_n 1, 1, [], 0, 0), (5, .aload_n 0, 1, [], 0, 0), (6, .getfield 40, 3, [0, 6, 209], 0, 0), (9, .if_icmp .ge 13, 3, [22], 0, 0), (12, .iload_n 1, 1, [], 0, 0), (13, .bipush 16, 2, [], 16, 0), (15, .if_icmp .ge 7, 3, [22], 0, 0)],
  [(18, .iconst 1, 1, [], 1, 0), (19, .goto 4, 3, [23], 0, 0), (22, .iconst 0, 1, [], 0, 0), (23, .ireturn, 1, [], 0, 0)]]
set_option maxRecDepth 100000 in
theorem ok_X0_hasPaper : ms_okC (ms_Y 4).1.cls (ms_Y 4).1.name (ms_Y 4).2.2.1 (ms_Y 4).2.1 cd_X0_hasPaper = true := by decide +kernel
def cd_X0_hasEntry : List (List ms_I) := [
  [(0, .iload_n 1, 1, [], 0, 0), (1, .ifCond .lt 21, 3, [22], 0, 0), (4, .iload_n 1, 1, [], 0, 0), (5, .aload_n 0, 1, [], 0, 0), (6, .getfield 43, 3, [0, 7, 212], 0, 0), (9, .if_icmp .ge 13, 3, [22], 0, 0), (12, .iload_n 1, 1, [], 0, 0), (13, .bipush 120, 2, [], 120, 0), (15, .if_icmp .ge 7, 3, [22], 0, 0)],
  [(18, .iconst 1, 1, [], 1, 0), (19, .goto 4, 3, [23], 0, 0), (22, .iconst 0, 1, [], 0, 0), (23, .ireturn, 1, [], 0, 0)]]
set_option maxRecDepth 100000 in
theorem ok_X0_hasEntry : ms_okC (ms_Y 5).1.cls (ms_Y 5).1.name (ms_Y 5).2.2.1 (ms_Y 5).2.1 cd_X0_hasEntry = true := by decide +kernel
def cd_X0_hasRoomIn : List (List ms_I) := [
  [(0, .aload_n 0, 1, [], 0, 0), (1, .getfield 43, 3, [0, 7, 212], 0, 0), (4, .bipush 120, 2, [], 120, 0), (6, .if_icmp .ge 18, 3, [24], 0, 0), (9, .aload_n 0, 1, [], 0, 0), (10, .iload_n 1, 1, [], 0, 0), (11, .iconst 3, 1, [], 3, 0), (12, .invokevirtual 49, 3, [11, 1, 2, 1, 469], 0, 0), (15, .bipush 12, 2, [], 12, 0)],
  [(17, .if_icmp .ge 7, 3, [24], 0, 0), (20, .iconst 1, 1, [], 1, 0), (21, .goto 4, 3, [25], 0, 0), (24, .iconst 0, 1, [], 0, 0), (25, .ireturn, 1, [], 0, 0)]]
set_option maxRecDepth 100000 in
theorem ok_X0_hasRoomIn : ms_okC (ms_Y 6).1.cls (ms_Y 6).1.name (ms_Y 6).2.2.1 (ms_Y 6).2.1 cd_X0_hasRoomIn = true := by decide +kernel
def cd_X0_hasTrueThing : List (List ms_I) := [
  [(0, .iconst 0, 1, [], 0, 0), (1, .istore_n 1, 1, [], 0, 0), (2, .iload_n 1, 1, [], 0, 0), (3, .aload_n 0, 1, [], 0, 0), (4, .getfield 36, 3, [0, 5, 208], 0, 0), (7, .if_icmp .ge 19, 3, [26], 0, 0), (10, .aload_n 0, 1, [], 0, 0), (11, .iload_n 1, 1, [], 0, 0), (12, .invokevirtual 53, 3, [8, 1, 1, 1, 1035], 0, 0), (15, .ifCond .ne 5, 3, [20], 0, 0)],
  [(18, .iconst 1, 1, [], 1, 0), (19, .ireturn, 1, [], 0, 0), (20, .iinc 1 1, 3, [], 1, 0), (23, .goto (-21), 3, [2], 0, 0), (26, .iconst 0, 1, [], 0, 0), (27, .ireturn, 1, [], 0, 0)]]
set_option maxRecDepth 100000 in
theorem ok_X0_hasTrueThing : ms_okC (ms_Y 7).1.cls (ms_Y 7).1.name (ms_Y 7).2.2.1 (ms_Y 7).2.1 cd_X0_hasTrueThing = true := by decide +kernel
def cd_X0_isGhost : List (List ms_I) := [
  [(0, .aload_n 0, 1, [], 0, 0), (1, .iload_n 1, 1, [], 0, 0), (2, .invokevirtual 57, 3, [3, 1, 1, 1, 759], 0, 0), (5, .ifCond .eq 22, 3, [27], 0, 0), (8, .aload_n 0, 1, [], 0, 0), (9, .getfield 11, 3, [0, 0, 201], 0, 0), (12, .iload_n 1, 1, [], 0, 0), (13, .bipush 6, 2, [], 6, 0), (15, .imul, 1, [], 0, 0)],
  [(16, .iconst 5, 1, [], 5, 0), (17, .iadd, 1, [], 0, 0), (18, .iaload, 1, [], 0, 0), (19, .iconst 1, 1, [], 1, 0), (20, .if_icmp .ne 7, 3, [27], 0, 0), (23, .iconst 1, 1, [], 1, 0), (24, .goto 4, 3, [28], 0, 0), (27, .iconst 0, 1, [], 0, 0), (28, .ireturn, 1, [], 0, 0)]]
set_option maxRecDepth 100000 in
theorem ok_X0_isGhost : ms_okC (ms_Y 8).1.cls (ms_Y 8).1.name (ms_Y 8).2.2.1 (ms_Y 8).2.1 cd_X0_isGhost = true := by decide +kernel
def cd_X0_isSeen : List (List ms_I) := [
  [(0, .iload_n 2, 1, [], 0, 0), (1, .bipush 99, 2, [], 99, 0), (3, .if_icmp .gt 25, 3, [28], 0, 0), (6, .aload_n 0, 1, [], 0, 0), (7, .iload_n 1, 1, [], 0, 0), (8, .invokevirtual 60, 3, [4, 1, 1, 1, 473], 0, 0), (11, .ifCond .eq 17, 3, [28], 0, 0), (14, .aload_n 0, 1, [], 0, 0), (15, .iload_n 1, 1, [], 0, 0)],
  [(16, .iconst 2, 1, [], 2, 0), (17, .invokevirtual 49, 3, [11, 1, 2, 1, 469], 0, 0), (20, .iload_n 2, 1, [], 0, 0), (21, .if_icmp .gt 7, 3, [28], 0, 0), (24, .iconst 1, 1, [], 1, 0), (25, .goto 4, 3, [29], 0, 0), (28, .iconst 0, 1, [], 0, 0), (29, .ireturn, 1, [], 0, 0)]]
set_option maxRecDepth 100000 in
theorem ok_X0_isSeen : ms_okC (ms_Y 9).1.cls (ms_Y 9).1.name (ms_Y 9).2.2.1 (ms_Y 9).2.1 cd_X0_isSeen = true := by decide +kernel
def cd_X0_ofThing : List (List ms_I) := [
  [(0, .aload_n 0, 1, [], 0, 0), (1, .iload_n 1, 1, [], 0, 0), (2, .invokevirtual 57, 3, [3, 1, 1, 1, 759], 0, 0), (5, .ifCond .eq 27, 3, [32], 0, 0), (8, .iload_n 2, 1, [], 0, 0), (9, .ifCond .lt 23, 3, [32], 0, 0), (12, .iload_n 2, 1, [], 0, 0), (13, .bipush 6, 2, [], 6, 0), (15, .if_icmp .ge 17, 3, [32], 0, 0)],
  [(18, .aload_n 0, 1, [], 0, 0), (19, .getfield 11, 3, [0, 0, 201], 0, 0), (22, .iload_n 1, 1, [], 0, 0), (23, .bipush 6, 2, [], 6, 0), (25, .imul, 1, [], 0, 0), (26, .iload_n 2, 1, [], 0, 0), (27, .iadd, 1, [], 0, 0), (28, .iaload, 1, [], 0, 0), (29, .goto 4, 3, [33], 0, 0)],
  [(32, .iconst (-1), 1, [], (-1), 0), (33, .ireturn, 1, [], 0, 0)]]
set_option maxRecDepth 100000 in
theorem ok_X0_ofThing : ms_okC (ms_Y 10).1.cls (ms_Y 10).1.name (ms_Y 10).2.2.1 (ms_Y 10).2.1 cd_X0_ofThing = true := by decide +kernel
def cd_X0_ofPaper : List (List ms_I) := [
  [(0, .aload_n 0, 1, [], 0, 0), (1, .iload_n 1, 1, [], 0, 0), (2, .invokevirtual 60, 3, [4, 1, 1, 1, 473], 0, 0), (5, .ifCond .eq 25, 3, [30], 0, 0), (8, .iload_n 2, 1, [], 0, 0), (9, .ifCond .lt 21, 3, [30], 0, 0), (12, .iload_n 2, 1, [], 0, 0), (13, .iconst 4, 1, [], 4, 0), (14, .if_icmp .ge 16, 3, [30], 0, 0)],
  [(17, .aload_n 0, 1, [], 0, 0), (18, .getfield 15, 3, [0, 1, 202], 0, 0), (21, .iload_n 1, 1, [], 0, 0), (22, .iconst 4, 1, [], 4, 0), (23, .imul, 1, [], 0, 0), (24, .iload_n 2, 1, [], 0, 0), (25, .iadd, 1, [], 0, 0), (26, .iaload, 1, [], 0, 0), (27, .goto 4, 3, [31], 0, 0), (30, .iconst (-1), 1, [], (-1), 0), (31, .ireturn, 1, [], 0, 0)]]
set_option maxRecDepth 100000 in
theorem ok_X0_ofPaper : ms_okC (ms_Y 11).1.cls (ms_Y 11).1.name (ms_Y 11).2.2.1 (ms_Y 11).2.1 cd_X0_ofPaper = true := by decide +kernel
def cd_X0_ofEntry : List (List ms_I) := [
  [(0, .aload_n 0, 1, [], 0, 0), (1, .iload_n 1, 1, [], 0, 0), (2, .invokevirtual 63, 3, [5, 1, 1, 1, 508], 0, 0), (5, .ifCond .eq 27, 3, [32], 0, 0), (8, .iload_n 2, 1, [], 0, 0), (9, .ifCond .lt 23, 3, [32], 0, 0), (12, .iload_n 2, 1, [], 0, 0), (13, .bipush 8, 2, [], 8, 0), (15, .if_icmp .ge 17, 3, [32], 0, 0)],
  [(18, .aload_n 0, 1, [], 0, 0), (19, .getfield 21, 3, [0, 3, 204], 0, 0), (22, .iload_n 1, 1, [], 0, 0), (23, .bipush 8, 2, [], 8, 0), (25, .imul, 1, [], 0, 0), (26, .iload_n 2, 1, [], 0, 0), (27, .iadd, 1, [], 0, 0), (28, .iaload, 1, [], 0, 0), (29, .goto 4, 3, [33], 0, 0)],
  [(32, .iconst (-1), 1, [], (-1), 0), (33, .ireturn, 1, [], 0, 0)]]
set_option maxRecDepth 100000 in
theorem ok_X0_ofEntry : ms_okC (ms_Y 12).1.cls (ms_Y 12).1.name (ms_Y 12).2.2.1 (ms_Y 12).2.1 cd_X0_ofEntry = true := by decide +kernel
def cd_X0_fieldOf : List (List ms_I) := [
  [(0, .aload_n 0, 1, [], 0, 0), (1, .iload_n 1, 1, [], 0, 0), (2, .iconst 3, 1, [], 3, 0), (3, .iload_n 2, 1, [], 0, 0), (4, .iadd, 1, [], 0, 0), (5, .invokevirtual 66, 3, [12, 1, 2, 1, 745], 0, 0), (8, .ireturn, 1, [], 0, 0)]]
set_option maxRecDepth 100000 in
theorem ok_X0_fieldOf : ms_okC (ms_Y 13).1.cls (ms_Y 13).1.name (ms_Y 13).2.2.1 (ms_Y 13).2.1 cd_X0_fieldOf = true := by decide +kernel
def cd_X0_entryAt : List (List ms_I) := [
  [(0, .iload_n 2, 1, [], 0, 0), (1, .ifCond .lt 33, 3, [34], 0, 0), (4, .iload_n 2, 1, [], 0, 0), (5, .bipush 12, 2, [], 12, 0), (7, .if_icmp .ge 27, 3, [34], 0, 0), (10, .iload_n 2, 1, [], 0, 0), (11, .aload_n 0, 1, [], 0, 0), (12, .iload_n 1, 1, [], 0, 0), (13, .iconst 3, 1, [], 3, 0), (14, .invokevirtual 49, 3, [11, 1, 2, 1, 469], 0, 0)],
  [(17, .if_icmp .ge 17, 3, [34], 0, 0), (20, .aload_n 0, 1, [], 0, 0), (21, .getfield 18, 3, [0, 2, 203], 0, 0), (24, .iload_n 1, 1, [], 0, 0), (25, .bipush 12, 2, [], 12, 0), (27, .imul, 1, [], 0, 0), (28, .iload_n 2, 1, [], 0, 0), (29, .iadd, 1, [], 0, 0), (30, .iaload, 1, [], 0, 0), (31, .goto 4, 3, [35], 0, 0)],
  [(34, .iconst (-1), 1, [], (-1), 0), (35, .ireturn, 1, [], 0, 0)]]
set_option maxRecDepth 100000 in
theorem ok_X0_entryAt : ms_okC (ms_Y 14).1.cls (ms_Y 14).1.name (ms_Y 14).2.2.1 (ms_Y 14).2.1 cd_X0_entryAt = true := by decide +kernel
def cd_X0_textAt : List (List ms_I) := [
  [(0, .iload_n 1, 1, [], 0, 0), (1, .ifCond .lt 26, 3, [27], 0, 0), (4, .iload_n 1, 1, [], 0, 0), (5, .aload_n 0, 1, [], 0, 0), (6, .getfield 46, 3, [0, 8, 215], 0, 0), (9, .if_icmp .ge 18, 3, [27], 0, 0), (12, .iload_n 1, 1, [], 0, 0), (13, .bipush 20, 2, [], 20, 0), (15, .if_icmp .ge 12, 3, [27], 0, 0)],
  [(18, .aload_n 0, 1, [], 0, 0), (19, .getfield 26, 3, [0, 4, 205], 0, 0), (22, .iload_n 1, 1, [], 0, 0), (23, .aaload, 1, [], 0, 0), (24, .goto 4, 3, [28], 0, 0), (27, .aconst_null, 1, [], 0, 0), (28, .areturn, 1, [], 0, 0)]]
set_option maxRecDepth 100000 in
theorem ok_X0_textAt : ms_okC (ms_Y 15).1.cls (ms_Y 15).1.name (ms_Y 15).2.2.1 (ms_Y 15).2.1 cd_X0_textAt = true := by decide +kernel
def cd_X0_addThing : List (List ms_I) := [
  [(0, .aload_n 0, 1, [], 0, 0), (1, .getfield 36, 3, [0, 5, 208], 0, 0), (4, .bipush 8, 2, [], 8, 0), (6, .if_icmp .lt 5, 3, [11], 0, 0), (9, .iconst (-1), 1, [], (-1), 0), (10, .ireturn, 1, [], 0, 0), (11, .aload_n 0, 1, [], 0, 0), (12, .getfield 36, 3, [0, 5, 208], 0, 0), (15, .bipush 6, 2, [], 6, 0)],
  [(17, .imul, 1, [], 0, 0), (18, .istore 7, 2, [], 0, 0), (20, .aload_n 0, 1, [], 0, 0), (21, .getfield 11, 3, [0, 0, 201], 0, 0), (24, .iload 7, 2, [], 0, 0), (26, .iload_n 1, 1, [], 0, 0), (27, .iastore, 1, [], 0, 0), (28, .aload_n 0, 1, [], 0, 0), (29, .getfield 11, 3, [0, 0, 201], 0, 0)],
  [(32, .iload 7, 2, [], 0, 0), (34, .iconst 1, 1, [], 1, 0), (35, .iadd, 1, [], 0, 0), (36, .iload_n 2, 1, [], 0, 0), (37, .iastore, 1, [], 0, 0), (38, .aload_n 0, 1, [], 0, 0), (39, .getfield 11, 3, [0, 0, 201], 0, 0), (42, .iload 7, 2, [], 0, 0), (44, .iconst 2, 1, [], 2, 0), (45, .iadd, 1, [], 0, 0), (46, .iload_n 3, 1, [], 0, 0), (47, .iastore, 1, [], 0, 0)],
  [(48, .aload_n 0, 1, [], 0, 0), (49, .getfield 11, 3, [0, 0, 201], 0, 0), (52, .iload 7, 2, [], 0, 0), (54, .iconst 3, 1, [], 3, 0), (55, .iadd, 1, [], 0, 0), (56, .iload 4, 2, [], 0, 0), (58, .iastore, 1, [], 0, 0), (59, .aload_n 0, 1, [], 0, 0), (60, .getfield 11, 3, [0, 0, 201], 0, 0), (63, .iload 7, 2, [], 0, 0)],
  [(65, .iconst 4, 1, [], 4, 0), (66, .iadd, 1, [], 0, 0), (67, .iload 5, 2, [], 0, 0), (69, .iastore, 1, [], 0, 0), (70, .aload_n 0, 1, [], 0, 0), (71, .getfield 11, 3, [0, 0, 201], 0, 0), (74, .iload 7, 2, [], 0, 0), (76, .iconst 5, 1, [], 5, 0), (77, .iadd, 1, [], 0, 0), (78, .iload 6, 2, [], 0, 0)],
  [(80, .iastore, 1, [], 0, 0), (81, .aload_n 0, 1, [], 0, 0), (82, .dup, 1, [], 0, 0), (83, .getfield 36, 3, [0, 5, 208], 0, 0), (86, .iconst 1, 1, [], 1, 0), (87, .iadd, 1, [], 0, 0), (88, .putfield 36, 3, [0, 5, 208], 0, 0), (91, .aload_n 0, 1, [], 0, 0), (92, .getfield 36, 3, [0, 5, 208], 0, 0), (95, .iconst 1, 1, [], 1, 0)],
  [(96, .isub, 1, [], 0, 0), (97, .ireturn, 1, [], 0, 0)]]
set_option maxRecDepth 100000 in
theorem ok_X0_addThing : ms_okC (ms_Y 16).1.cls (ms_Y 16).1.name (ms_Y 16).2.2.1 (ms_Y 16).2.1 cd_X0_addThing = true := by decide +kernel
def cd_X0_addPaper : List (List ms_I) := [
  [(0, .aload_n 0, 1, [], 0, 0), (1, .getfield 40, 3, [0, 6, 209], 0, 0), (4, .bipush 16, 2, [], 16, 0), (6, .if_icmp .lt 5, 3, [11], 0, 0), (9, .iconst (-1), 1, [], (-1), 0), (10, .ireturn, 1, [], 0, 0), (11, .aload_n 0, 1, [], 0, 0), (12, .getfield 40, 3, [0, 6, 209], 0, 0), (15, .iconst 4, 1, [], 4, 0)],
  [(16, .imul, 1, [], 0, 0), (17, .istore 4, 2, [], 0, 0), (19, .aload_n 0, 1, [], 0, 0), (20, .getfield 15, 3, [0, 1, 202], 0, 0), (23, .iload 4, 2, [], 0, 0), (25, .iconst 0, 1, [], 0, 0), (26, .iadd, 1, [], 0, 0), (27, .iload_n 1, 1, [], 0, 0), (28, .iastore, 1, [], 0, 0), (29, .aload_n 0, 1, [], 0, 0), (30, .getfield 15, 3, [0, 1, 202], 0, 0)],
  [(33, .iload 4, 2, [], 0, 0), (35, .iconst 1, 1, [], 1, 0), (36, .iadd, 1, [], 0, 0), (37, .iload_n 2, 1, [], 0, 0), (38, .iastore, 1, [], 0, 0), (39, .aload_n 0, 1, [], 0, 0), (40, .getfield 15, 3, [0, 1, 202], 0, 0), (43, .iload 4, 2, [], 0, 0), (45, .iconst 2, 1, [], 2, 0), (46, .iadd, 1, [], 0, 0), (47, .iload_n 3, 1, [], 0, 0)],
  [(48, .iastore, 1, [], 0, 0), (49, .aload_n 0, 1, [], 0, 0), (50, .getfield 15, 3, [0, 1, 202], 0, 0), (53, .iload 4, 2, [], 0, 0), (55, .iconst 3, 1, [], 3, 0), (56, .iadd, 1, [], 0, 0), (57, .iconst 0, 1, [], 0, 0), (58, .iastore, 1, [], 0, 0), (59, .aload_n 0, 1, [], 0, 0), (60, .dup, 1, [], 0, 0), (61, .getfield 40, 3, [0, 6, 209], 0, 0)],
  [(64, .iconst 1, 1, [], 1, 0), (65, .iadd, 1, [], 0, 0), (66, .putfield 40, 3, [0, 6, 209], 0, 0), (69, .aload_n 0, 1, [], 0, 0), (70, .getfield 40, 3, [0, 6, 209], 0, 0), (73, .iconst 1, 1, [], 1, 0), (74, .isub, 1, [], 0, 0), (75, .ireturn, 1, [], 0, 0)]]
set_option maxRecDepth 100000 in
theorem ok_X0_addPaper : ms_okC (ms_Y 17).1.cls (ms_Y 17).1.name (ms_Y 17).2.2.1 (ms_Y 17).2.1 cd_X0_addPaper = true := by decide +kernel
def cd_X0_addEntry : List (List ms_I) := [
  [(0, .aload_n 0, 1, [], 0, 0), (1, .iload_n 1, 1, [], 0, 0), (2, .invokevirtual 60, 3, [4, 1, 1, 1, 473], 0, 0), (5, .ifCond .eq 11, 3, [16], 0, 0), (8, .aload_n 0, 1, [], 0, 0), (9, .iload_n 1, 1, [], 0, 0), (10, .invokevirtual 69, 3, [6, 1, 1, 1, 478], 0, 0), (13, .ifCond .ne 5, 3, [18], 0, 0)],
  [(16, .iconst (-1), 1, [], (-1), 0), (17, .ireturn, 1, [], 0, 0), (18, .aload_n 0, 1, [], 0, 0), (19, .iload_n 1, 1, [], 0, 0), (20, .iconst 3, 1, [], 3, 0), (21, .invokevirtual 49, 3, [11, 1, 2, 1, 469], 0, 0), (24, .istore 8, 2, [], 0, 0), (26, .aload_n 0, 1, [], 0, 0), (27, .getfield 43, 3, [0, 7, 212], 0, 0), (30, .bipush 8, 2, [], 8, 0)],
  [(32, .imul, 1, [], 0, 0), (33, .istore 9, 2, [], 0, 0), (35, .aload_n 0, 1, [], 0, 0), (36, .getfield 21, 3, [0, 3, 204], 0, 0), (39, .iload 9, 2, [], 0, 0), (41, .iconst 0, 1, [], 0, 0), (42, .iadd, 1, [], 0, 0), (43, .iload_n 1, 1, [], 0, 0), (44, .iastore, 1, [], 0, 0), (45, .aload_n 0, 1, [], 0, 0), (46, .getfield 21, 3, [0, 3, 204], 0, 0)],
  [(49, .iload 9, 2, [], 0, 0), (51, .iconst 1, 1, [], 1, 0), (52, .iadd, 1, [], 0, 0), (53, .iload 8, 2, [], 0, 0), (55, .iastore, 1, [], 0, 0), (56, .aload_n 0, 1, [], 0, 0), (57, .getfield 21, 3, [0, 3, 204], 0, 0), (60, .iload 9, 2, [], 0, 0), (62, .iconst 2, 1, [], 2, 0), (63, .iadd, 1, [], 0, 0)],
  [(64, .iload_n 2, 1, [], 0, 0), (65, .iastore, 1, [], 0, 0), (66, .aload_n 0, 1, [], 0, 0), (67, .getfield 21, 3, [0, 3, 204], 0, 0), (70, .iload 9, 2, [], 0, 0), (72, .iconst 3, 1, [], 3, 0), (73, .iadd, 1, [], 0, 0), (74, .iload_n 3, 1, [], 0, 0), (75, .iastore, 1, [], 0, 0), (76, .aload_n 0, 1, [], 0, 0), (77, .getfield 21, 3, [0, 3, 204], 0, 0)],
  [(80, .iload 9, 2, [], 0, 0), (82, .iconst 3, 1, [], 3, 0), (83, .iadd, 1, [], 0, 0), (84, .iconst 1, 1, [], 1, 0), (85, .iadd, 1, [], 0, 0), (86, .iload 4, 2, [], 0, 0), (88, .iastore, 1, [], 0, 0), (89, .aload_n 0, 1, [], 0, 0), (90, .getfield 21, 3, [0, 3, 204], 0, 0), (93, .iload 9, 2, [], 0, 0), (95, .iconst 3, 1, [], 3, 0)],
  [(96, .iadd, 1, [], 0, 0), (97, .iconst 2, 1, [], 2, 0), (98, .iadd, 1, [], 0, 0), (99, .iload 5, 2, [], 0, 0), (101, .iastore, 1, [], 0, 0), (102, .aload_n 0, 1, [], 0, 0), (103, .getfield 21, 3, [0, 3, 204], 0, 0), (106, .iload 9, 2, [], 0, 0), (108, .iconst 3, 1, [], 3, 0), (109, .iadd, 1, [], 0, 0), (110, .iconst 3, 1, [], 3, 0), (111, .iadd, 1, [], 0, 0)],
  [(112, .iload 6, 2, [], 0, 0), (114, .iastore, 1, [], 0, 0), (115, .aload_n 0, 1, [], 0, 0), (116, .getfield 21, 3, [0, 3, 204], 0, 0), (119, .iload 9, 2, [], 0, 0), (121, .bipush 7, 2, [], 7, 0), (123, .iadd, 1, [], 0, 0), (124, .iload 7, 2, [], 0, 0), (126, .iastore, 1, [], 0, 0), (127, .aload_n 0, 1, [], 0, 0)],
  [(128, .getfield 18, 3, [0, 2, 203], 0, 0), (131, .iload_n 1, 1, [], 0, 0), (132, .bipush 12, 2, [], 12, 0), (134, .imul, 1, [], 0, 0), (135, .iload 8, 2, [], 0, 0), (137, .iadd, 1, [], 0, 0), (138, .aload_n 0, 1, [], 0, 0), (139, .getfield 43, 3, [0, 7, 212], 0, 0), (142, .iastore, 1, [], 0, 0), (143, .aload_n 0, 1, [], 0, 0)],
  [(144, .getfield 15, 3, [0, 1, 202], 0, 0), (147, .iload_n 1, 1, [], 0, 0), (148, .iconst 4, 1, [], 4, 0), (149, .imul, 1, [], 0, 0), (150, .iconst 3, 1, [], 3, 0), (151, .iadd, 1, [], 0, 0), (152, .iload 8, 2, [], 0, 0), (154, .iconst 1, 1, [], 1, 0), (155, .iadd, 1, [], 0, 0), (156, .iastore, 1, [], 0, 0), (157, .aload_n 0, 1, [], 0, 0), (158, .dup, 1, [], 0, 0), (159, .getfield 43, 3, [0, 7, 212], 0, 0)],
  [(162, .iconst 1, 1, [], 1, 0), (163, .iadd, 1, [], 0, 0), (164, .putfield 43, 3, [0, 7, 212], 0, 0), (167, .aload_n 0, 1, [], 0, 0), (168, .getfield 43, 3, [0, 7, 212], 0, 0), (171, .iconst 1, 1, [], 1, 0), (172, .isub, 1, [], 0, 0), (173, .ireturn, 1, [], 0, 0)]]
set_option maxRecDepth 100000 in
theorem ok_X0_addEntry : ms_okC (ms_Y 18).1.cls (ms_Y 18).1.name (ms_Y 18).2.2.1 (ms_Y 18).2.1 cd_X0_addEntry = true := by decide +kernel
def cd_X0_addText : List (List ms_I) := [
  [(0, .aload_n 0, 1, [], 0, 0), (1, .getfield 46, 3, [0, 8, 215], 0, 0), (4, .bipush 20, 2, [], 20, 0), (6, .if_icmp .lt 5, 3, [11], 0, 0), (9, .iconst (-1), 1, [], (-1), 0), (10, .ireturn, 1, [], 0, 0), (11, .aload_n 0, 1, [], 0, 0), (12, .getfield 26, 3, [0, 4, 205], 0, 0), (15, .aload_n 0, 1, [], 0, 0)],
  [(16, .getfield 46, 3, [0, 8, 215], 0, 0), (19, .aload_n 1, 1, [], 0, 0), (20, .aastore, 1, [], 0, 0), (21, .aload_n 0, 1, [], 0, 0), (22, .dup, 1, [], 0, 0), (23, .getfield 46, 3, [0, 8, 215], 0, 0), (26, .iconst 1, 1, [], 1, 0), (27, .iadd, 1, [], 0, 0), (28, .putfield 46, 3, [0, 8, 215], 0, 0), (31, .aload_n 0, 1, [], 0, 0)],
  [(32, .getfield 46, 3, [0, 8, 215], 0, 0), (35, .iconst 1, 1, [], 1, 0), (36, .isub, 1, [], 0, 0), (37, .ireturn, 1, [], 0, 0)]]
set_option maxRecDepth 100000 in
theorem ok_X0_addText : ms_okC (ms_Y 19).1.cls (ms_Y 19).1.name (ms_Y 19).2.2.1 (ms_Y 19).2.1 cd_X0_addText = true := by decide +kernel
def cd_X0_setField : List (List ms_I) := [
  [(0, .aload_n 0, 1, [], 0, 0), (1, .iload_n 1, 1, [], 0, 0), (2, .invokevirtual 63, 3, [5, 1, 1, 1, 508], 0, 0), (5, .ifCond .eq 26, 3, [31], 0, 0), (8, .iload_n 2, 1, [], 0, 0), (9, .ifCond .lt 22, 3, [31], 0, 0), (12, .iload_n 2, 1, [], 0, 0), (13, .iconst 4, 1, [], 4, 0), (14, .if_icmp .ge 17, 3, [31], 0, 0)],
  [(17, .aload_n 0, 1, [], 0, 0), (18, .getfield 21, 3, [0, 3, 204], 0, 0), (21, .iload_n 1, 1, [], 0, 0), (22, .bipush 8, 2, [], 8, 0), (24, .imul, 1, [], 0, 0), (25, .iconst 3, 1, [], 3, 0), (26, .iadd, 1, [], 0, 0), (27, .iload_n 2, 1, [], 0, 0), (28, .iadd, 1, [], 0, 0), (29, .iload_n 3, 1, [], 0, 0), (30, .iastore, 1, [], 0, 0), (31, .return_, 1, [], 0, 0)]]
set_option maxRecDepth 100000 in
theorem ok_X0_setField : ms_okC (ms_Y 20).1.cls (ms_Y 20).1.name (ms_Y 20).2.2.1 (ms_Y 20).2.1 cd_X0_setField = true := by decide +kernel
def cd_X0_areAlike : List (List ms_I) := [
  [(0, .iconst 2, 1, [], 2, 0), (1, .istore_n 3, 1, [], 0, 0), (2, .iload_n 3, 1, [], 0, 0), (3, .bipush 7, 2, [], 7, 0), (5, .if_icmp .ge 26, 3, [31], 0, 0), (8, .aload_n 0, 1, [], 0, 0), (9, .iload_n 1, 1, [], 0, 0), (10, .iload_n 3, 1, [], 0, 0), (11, .invokevirtual 66, 3, [12, 1, 2, 1, 745], 0, 0), (14, .aload_n 0, 1, [], 0, 0), (15, .iload_n 2, 1, [], 0, 0)],
  [(16, .iload_n 3, 1, [], 0, 0), (17, .invokevirtual 66, 3, [12, 1, 2, 1, 745], 0, 0), (20, .if_icmp .eq 5, 3, [25], 0, 0), (23, .iconst 0, 1, [], 0, 0), (24, .ireturn, 1, [], 0, 0), (25, .iinc 3 1, 3, [], 1, 0), (28, .goto (-26), 3, [2], 0, 0), (31, .iconst 1, 1, [], 1, 0)],
  [(32, .ireturn, 1, [], 0, 0)]]
set_option maxRecDepth 100000 in
theorem ok_X0_areAlike : ms_okC (ms_Y 21).1.cls (ms_Y 21).1.name (ms_Y 21).2.2.1 (ms_Y 21).2.1 cd_X0_areAlike = true := by decide +kernel
def cd_X0_fieldsMadeRight : List (List ms_I) := [
  [(0, .aload_n 0, 1, [], 0, 0), (1, .iload_n 2, 1, [], 0, 0), (2, .iconst 2, 1, [], 2, 0), (3, .invokevirtual 66, 3, [12, 1, 2, 1, 745], 0, 0), (6, .istore_n 3, 1, [], 0, 0), (7, .iconst 0, 1, [], 0, 0), (8, .istore 4, 2, [], 0, 0), (10, .iconst 0, 1, [], 0, 0), (11, .istore 5, 2, [], 0, 0), (13, .iload 5, 2, [], 0, 0), (15, .iconst 4, 1, [], 4, 0)],
  [(16, .if_icmp .ge 45, 3, [61], 0, 0), (19, .aload_n 0, 1, [], 0, 0), (20, .iload_n 3, 1, [], 0, 0), (21, .iload 5, 2, [], 0, 0), (23, .invokevirtual 72, 3, [10, 1, 2, 1, 969], 0, 0), (26, .istore 6, 2, [], 0, 0), (28, .aload_n 0, 1, [], 0, 0), (29, .iload_n 2, 1, [], 0, 0), (30, .iload 5, 2, [], 0, 0)],
  [(32, .invokevirtual 75, 3, [13, 1, 2, 1, 970], 0, 0), (35, .iload 6, 2, [], 0, 0), (37, .if_icmp .ne 18, 3, [55], 0, 0), (40, .aload_n 0, 1, [], 0, 0), (41, .iload_n 1, 1, [], 0, 0), (42, .iload 5, 2, [], 0, 0), (44, .invokevirtual 75, 3, [13, 1, 2, 1, 970], 0, 0), (47, .iload 6, 2, [], 0, 0)],
  [(49, .if_icmp .eq 6, 3, [55], 0, 0), (52, .iinc 4 1, 3, [], 1, 0), (55, .iinc 5 1, 3, [], 1, 0), (58, .goto (-45), 3, [13], 0, 0), (61, .iload 4, 2, [], 0, 0), (63, .ireturn, 1, [], 0, 0)]]
set_option maxRecDepth 100000 in
theorem ok_X0_fieldsMadeRight : ms_okC (ms_Y 22).1.cls (ms_Y 22).1.name (ms_Y 22).2.2.1 (ms_Y 22).2.1 cd_X0_fieldsMadeRight = true := by decide +kernel
def cd_X0_thingsIn : List (List ms_I) := [
  [(0, .iconst 0, 1, [], 0, 0), (1, .istore_n 2, 1, [], 0, 0), (2, .iconst 0, 1, [], 0, 0), (3, .istore_n 3, 1, [], 0, 0), (4, .iload_n 3, 1, [], 0, 0), (5, .aload_n 0, 1, [], 0, 0), (6, .iload_n 1, 1, [], 0, 0), (7, .iconst 3, 1, [], 3, 0), (8, .invokevirtual 49, 3, [11, 1, 2, 1, 469], 0, 0), (11, .if_icmp .ge 25, 3, [36], 0, 0), (14, .iload_n 2, 1, [], 0, 0), (15, .iconst 1, 1, [], 1, 0)],
  [(16, .aload_n 0, 1, [], 0, 0), (17, .aload_n 0, 1, [], 0, 0), (18, .iload_n 1, 1, [], 0, 0), (19, .iload_n 3, 1, [], 0, 0), (20, .invokevirtual 78, 3, [14, 1, 2, 1, 830], 0, 0), (23, .iconst 2, 1, [], 2, 0), (24, .invokevirtual 66, 3, [12, 1, 2, 1, 745], 0, 0), (27, .ishl, 1, [], 0, 0), (28, .ior, 1, [], 0, 0), (29, .istore_n 2, 1, [], 0, 0), (30, .iinc 3 1, 3, [], 1, 0)],
  [(33, .goto (-29), 3, [4], 0, 0), (36, .iload_n 2, 1, [], 0, 0), (37, .ireturn, 1, [], 0, 0)]]
set_option maxRecDepth 100000 in
theorem ok_X0_thingsIn : ms_okC (ms_Y 23).1.cls (ms_Y 23).1.name (ms_Y 23).2.2.1 (ms_Y 23).2.1 cd_X0_thingsIn = true := by decide +kernel
def cd_X4_init : List (List ms_I) := [
  [(0, .aload_n 0, 1, [], 0, 0), (1, .invokespecial 3, 3, [1000, 357, 137, 138], 0, 0), (4, .aload_n 0, 1, [], 0, 0), (5, .new 9, 3, [0, 358, 194, 116], 0, 0), (8, .dup, 1, [], 0, 0), (9, .invokespecial 11, 3, [0, 2, 0, 0, 359], 0, 0), (12, .putfield 12, 3, [4, 0, 360], 0, 0), (15, .aload_n 0, 1, [], 0, 0)],
  [(16, .bipush 120, 2, [], 120, 0), (18, .newarray .int, 2, [154], 0, 0), (20, .putfield 18, 3, [4, 1, 362], 0, 0), (23, .return_, 1, [], 0, 0)]]
set_option maxRecDepth 100000 in
theorem ok_X4_init : ms_okC (ms_Y 63).1.cls (ms_Y 63).1.name (ms_Y 63).2.2.1 (ms_Y 63).2.1 cd_X4_init = true := by decide +kernel
def cd_X4_make : List (List ms_I) := [
  [(0, .aload_n 0, 1, [], 0, 0), (1, .getfield 12, 3, [4, 0, 360], 0, 0), (4, .aload_n 1, 1, [], 0, 0), (5, .invokevirtual 22, 3, [1, 1, 1, 0, 1040], 0, 0), (8, .aload_n 0, 1, [], 0, 0), (9, .getfield 12, 3, [4, 0, 360], 0, 0), (12, .invokevirtual 26, 3, [2, 1, 0, 0, 1045], 0, 0), (15, .aload_n 0, 1, [], 0, 0)],
  [(16, .iconst 0, 1, [], 0, 0), (17, .putfield 29, 3, [4, 2, 363], 0, 0), (20, .aload_n 0, 1, [], 0, 0), (21, .iload_n 2, 1, [], 0, 0), (22, .putfield 33, 3, [4, 3, 365], 0, 0), (25, .iconst 0, 1, [], 0, 0), (26, .istore 4, 2, [], 0, 0), (28, .iload 4, 2, [], 0, 0), (30, .iload_n 3, 1, [], 0, 0), (31, .if_icmp .ge 74, 3, [105], 0, 0)],
  [(34, .aload_n 0, 1, [], 0, 0), (35, .getfield 12, 3, [4, 0, 360], 0, 0), (38, .iload 4, 2, [], 0, 0), (40, .aload_n 0, 1, [], 0, 0), (41, .iconst 2, 1, [], 2, 0), (42, .invokevirtual 36, 3, [69, 1, 1, 1, 1049], 0, 0), (45, .iconst 0, 1, [], 0, 0), (46, .invokevirtual 40, 3, [17, 1, 3, 1, 1054], 0, 0)],
  [(49, .pop, 1, [], 0, 0), (50, .iconst 0, 1, [], 0, 0), (51, .istore 5, 2, [], 0, 0), (53, .iload 5, 2, [], 0, 0), (55, .aload_n 0, 1, [], 0, 0), (56, .getfield 12, 3, [4, 0, 360], 0, 0), (59, .getfield 44, 3, [0, 5, 207], 0, 0), (62, .if_icmp .ge 37, 3, [99], 0, 0)],
  [(65, .aload_n 0, 1, [], 0, 0), (66, .getfield 12, 3, [4, 0, 360], 0, 0), (69, .iload 5, 2, [], 0, 0), (71, .invokevirtual 47, 3, [8, 1, 1, 1, 1055], 0, 0), (74, .ifCond .ne 19, 3, [93], 0, 0), (77, .aload_n 0, 1, [], 0, 0), (78, .iconst 3, 1, [], 3, 0), (79, .invokevirtual 36, 3, [69, 1, 1, 1, 1049], 0, 0)],
  [(82, .ifCond .eq 11, 3, [93], 0, 0), (85, .aload_n 0, 1, [], 0, 0), (86, .iload 4, 2, [], 0, 0), (88, .iload 5, 2, [], 0, 0), (90, .invokevirtual 51, 3, [66, 1, 2, 0, 1056], 0, 0), (93, .iinc 5 1, 3, [], 1, 0)],
  [(96, .goto (-43), 3, [53], 0, 0), (99, .iinc 4 1, 3, [], 1, 0), (102, .goto (-74), 3, [28], 0, 0), (105, .return_, 1, [], 0, 0)]]
set_option maxRecDepth 100000 in
theorem ok_X4_make : ms_okC (ms_Y 64).1.cls (ms_Y 64).1.name (ms_Y 64).2.2.1 (ms_Y 64).2.1 cd_X4_make = true := by decide +kernel
def cd_X4_originOf : List (List ms_I) := [
  [(0, .aload_n 0, 1, [], 0, 0), (1, .getfield 12, 3, [4, 0, 360], 0, 0), (4, .iload_n 1, 1, [], 0, 0), (5, .invokevirtual 55, 3, [5, 1, 1, 1, 1071], 0, 0), (8, .ifCond .eq 12, 3, [20], 0, 0), (11, .aload_n 0, 1, [], 0, 0), (12, .getfield 18, 3, [4, 1, 362], 0, 0), (15, .iload_n 1, 1, [], 0, 0)],
  [(16, .iaload, 1, [], 0, 0), (17, .goto 4, 3, [21], 0, 0), (20, .iconst (-1), 1, [], (-1), 0), (21, .ireturn, 1, [], 0, 0)]]
set_option maxRecDepth 100000 in
theorem ok_X4_originOf : ms_okC (ms_Y 65).1.cls (ms_Y 65).1.name (ms_Y 65).2.2.1 (ms_Y 65).2.1 cd_X4_originOf = true := by decide +kernel
def cd_X4_makeEntry : List (List ms_I) := [
  [(0, .iconst (-1), 1, [], (-1), 0), (1, .istore_n 3, 1, [], 0, 0), (2, .iload_n 1, 1, [], 0, 0), (3, .ifCond .eq 35, 3, [38], 0, 0), (6, .aload_n 0, 1, [], 0, 0), (7, .iconst 4, 1, [], 4, 0), (8, .invokevirtual 36, 3, [69, 1, 1, 1, 1049], 0, 0), (11, .ifCond .eq 27, 3, [38], 0, 0), (14, .aload_n 0, 1, [], 0, 0), (15, .iload_n 2, 1, [], 0, 0)],
  [(16, .invokevirtual 58, 3, [67, 1, 1, 1, 1060], 0, 0), (19, .istore 4, 2, [], 0, 0), (21, .iload 4, 2, [], 0, 0), (23, .ifCond .le 15, 3, [38], 0, 0), (26, .aload_n 0, 1, [], 0, 0), (27, .iload_n 2, 1, [], 0, 0), (28, .aload_n 0, 1, [], 0, 0), (29, .iload 4, 2, [], 0, 0), (31, .invokevirtual 36, 3, [69, 1, 1, 1, 1049], 0, 0)],
  [(34, .invokevirtual 61, 3, [68, 1, 2, 1, 1065], 0, 0), (37, .istore_n 3, 1, [], 0, 0), (38, .aload_n 0, 1, [], 0, 0), (39, .getfield 12, 3, [4, 0, 360], 0, 0), (42, .iload_n 2, 1, [], 0, 0), (43, .iconst 4, 1, [], 4, 0), (44, .invokevirtual 65, 3, [10, 1, 2, 1, 1069], 0, 0), (47, .istore 4, 2, [], 0, 0)],
  [(49, .aload_n 0, 1, [], 0, 0), (50, .getfield 12, 3, [4, 0, 360], 0, 0), (53, .iload_n 1, 1, [], 0, 0), (54, .iload_n 2, 1, [], 0, 0), (55, .iconst 0, 1, [], 0, 0), (56, .iconst 0, 1, [], 0, 0), (57, .iconst 0, 1, [], 0, 0), (58, .iconst 0, 1, [], 0, 0), (59, .iload 4, 2, [], 0, 0), (61, .invokevirtual 68, 3, [18, 1, 7, 1, 1070], 0, 0)],
  [(64, .istore 5, 2, [], 0, 0), (66, .aload_n 0, 1, [], 0, 0), (67, .getfield 12, 3, [4, 0, 360], 0, 0), (70, .iload 5, 2, [], 0, 0), (72, .invokevirtual 55, 3, [5, 1, 1, 1, 1071], 0, 0), (75, .ifCond .ne 4, 3, [79], 0, 0), (78, .return_, 1, [], 0, 0), (79, .aload_n 0, 1, [], 0, 0)],
  [(80, .getfield 18, 3, [4, 1, 362], 0, 0), (83, .iload 5, 2, [], 0, 0), (85, .iload_n 3, 1, [], 0, 0), (86, .iastore, 1, [], 0, 0), (87, .iload_n 3, 1, [], 0, 0), (88, .iconst (-1), 1, [], (-1), 0), (89, .if_icmp .ne 13, 3, [102], 0, 0), (92, .aload_n 0, 1, [], 0, 0), (93, .dup, 1, [], 0, 0), (94, .getfield 29, 3, [4, 2, 363], 0, 0)],
  [(97, .iconst 1, 1, [], 1, 0), (98, .iadd, 1, [], 0, 0), (99, .putfield 29, 3, [4, 2, 363], 0, 0), (102, .iconst 0, 1, [], 0, 0), (103, .istore 6, 2, [], 0, 0), (105, .iload 6, 2, [], 0, 0), (107, .iconst 4, 1, [], 4, 0), (108, .if_icmp .ge 52, 3, [160], 0, 0), (111, .iload_n 3, 1, [], 0, 0)],
  [(112, .iconst (-1), 1, [], (-1), 0), (113, .if_icmp .ne 16, 3, [129], 0, 0), (116, .aload_n 0, 1, [], 0, 0), (117, .getfield 12, 3, [4, 0, 360], 0, 0), (120, .iload_n 2, 1, [], 0, 0), (121, .iload 6, 2, [], 0, 0), (123, .invokevirtual 65, 3, [10, 1, 2, 1, 1069], 0, 0), (126, .goto 13, 3, [139], 0, 0)],
  [(129, .aload_n 0, 1, [], 0, 0), (130, .getfield 12, 3, [4, 0, 360], 0, 0), (133, .iload_n 3, 1, [], 0, 0), (134, .iload 6, 2, [], 0, 0), (136, .invokevirtual 72, 3, [13, 1, 2, 1, 1072], 0, 0), (139, .istore 7, 2, [], 0, 0), (141, .aload_n 0, 1, [], 0, 0), (142, .getfield 12, 3, [4, 0, 360], 0, 0)],
  [(145, .iload 5, 2, [], 0, 0), (147, .iload 6, 2, [], 0, 0), (149, .iload 7, 2, [], 0, 0), (151, .invokevirtual 75, 3, [20, 1, 3, 0, 1073], 0, 0), (154, .iinc 6 1, 3, [], 1, 0), (157, .goto (-52), 3, [105], 0, 0)],
  [(160, .aload_n 0, 1, [], 0, 0), (161, .bipush 6, 2, [], 6, 0), (163, .invokevirtual 36, 3, [69, 1, 1, 1, 1049], 0, 0), (166, .ifCond .ne 47, 3, [213], 0, 0), (169, .aload_n 0, 1, [], 0, 0), (170, .iconst 4, 1, [], 4, 0), (171, .invokevirtual 36, 3, [69, 1, 1, 1, 1049], 0, 0), (174, .istore 6, 2, [], 0, 0)],
  [(176, .aload_n 0, 1, [], 0, 0), (177, .getfield 12, 3, [4, 0, 360], 0, 0), (180, .iload 5, 2, [], 0, 0), (182, .iload 6, 2, [], 0, 0), (184, .aload_n 0, 1, [], 0, 0), (185, .getfield 12, 3, [4, 0, 360], 0, 0), (188, .iload 5, 2, [], 0, 0), (190, .iload 6, 2, [], 0, 0)],
  [(192, .invokevirtual 72, 3, [13, 1, 2, 1, 1072], 0, 0), (195, .bipush 7, 2, [], 7, 0), (197, .imul, 1, [], 0, 0), (198, .aload_n 0, 1, [], 0, 0), (199, .sipush 10000, 3, [], 10000, 0), (202, .invokevirtual 36, 3, [69, 1, 1, 1, 1049], 0, 0), (205, .iadd, 1, [], 0, 0), (206, .sipush 10000, 3, [], 10000, 0)],
  [(209, .irem, 1, [], 0, 0), (210, .invokevirtual 75, 3, [20, 1, 3, 0, 1073], 0, 0), (213, .return_, 1, [], 0, 0)]]
set_option maxRecDepth 100000 in
theorem ok_X4_makeEntry : ms_okC (ms_Y 66).1.cls (ms_Y 66).1.name (ms_Y 66).2.2.1 (ms_Y 66).2.1 cd_X4_makeEntry = true := by decide +kernel
def cd_X4_countOf : List (List ms_I) := [
  [(0, .iconst 0, 1, [], 0, 0), (1, .istore_n 2, 1, [], 0, 0), (2, .iconst 0, 1, [], 0, 0), (3, .istore_n 3, 1, [], 0, 0), (4, .iload_n 3, 1, [], 0, 0), (5, .aload_n 0, 1, [], 0, 0), (6, .getfield 12, 3, [4, 0, 360], 0, 0), (9, .getfield 79, 3, [0, 7, 213], 0, 0), (12, .if_icmp .ge 25, 3, [37], 0, 0), (15, .aload_n 0, 1, [], 0, 0)],
  [(16, .getfield 12, 3, [4, 0, 360], 0, 0), (19, .iload_n 3, 1, [], 0, 0), (20, .iconst 2, 1, [], 2, 0), (21, .invokevirtual 82, 3, [12, 1, 2, 1, 1064], 0, 0), (24, .iload_n 1, 1, [], 0, 0), (25, .if_icmp .ne 6, 3, [31], 0, 0), (28, .iinc 2 1, 3, [], 1, 0), (31, .iinc 3 1, 3, [], 1, 0)],
  [(34, .goto (-30), 3, [4], 0, 0), (37, .iload_n 2, 1, [], 0, 0), (38, .ireturn, 1, [], 0, 0)]]
set_option maxRecDepth 100000 in
theorem ok_X4_countOf : ms_okC (ms_Y 67).1.cls (ms_Y 67).1.name (ms_Y 67).2.2.1 (ms_Y 67).2.1 cd_X4_countOf = true := by decide +kernel
def cd_X4_pick : List (List ms_I) := [
  [(0, .iconst 0, 1, [], 0, 0), (1, .istore_n 3, 1, [], 0, 0), (2, .iconst 0, 1, [], 0, 0), (3, .istore 4, 2, [], 0, 0), (5, .iload 4, 2, [], 0, 0), (7, .aload_n 0, 1, [], 0, 0), (8, .getfield 12, 3, [4, 0, 360], 0, 0), (11, .getfield 79, 3, [0, 7, 213], 0, 0), (14, .if_icmp .ge 34, 3, [48], 0, 0)],
  [(17, .aload_n 0, 1, [], 0, 0), (18, .getfield 12, 3, [4, 0, 360], 0, 0), (21, .iload 4, 2, [], 0, 0), (23, .iconst 2, 1, [], 2, 0), (24, .invokevirtual 82, 3, [12, 1, 2, 1, 1064], 0, 0), (27, .iload_n 1, 1, [], 0, 0), (28, .if_icmp .ne 14, 3, [42], 0, 0), (31, .iload_n 3, 1, [], 0, 0)],
  [(32, .iload_n 2, 1, [], 0, 0), (33, .if_icmp .ne 6, 3, [39], 0, 0), (36, .iload 4, 2, [], 0, 0), (38, .ireturn, 1, [], 0, 0), (39, .iinc 3 1, 3, [], 1, 0), (42, .iinc 4 1, 3, [], 1, 0), (45, .goto (-40), 3, [5], 0, 0)],
  [(48, .iconst (-1), 1, [], (-1), 0), (49, .ireturn, 1, [], 0, 0)]]
set_option maxRecDepth 100000 in
theorem ok_X4_pick : ms_okC (ms_Y 68).1.cls (ms_Y 68).1.name (ms_Y 68).2.2.1 (ms_Y 68).2.1 cd_X4_pick = true := by decide +kernel
def cd_X4_draw : List (List ms_I) := [
  [(0, .aload_n 0, 1, [], 0, 0), (1, .aload_n 0, 1, [], 0, 0), (2, .getfield 33, 3, [4, 3, 365], 0, 0), (5, .sipush 1103, 3, [], 1103, 0), (8, .imul, 1, [], 0, 0), (9, .sipush 12345, 3, [], 12345, 0), (12, .iadd, 1, [], 0, 0), (13, .ldc 85, 2, [1053], 1000003, 0), (15, .irem, 1, [], 0, 0)],
  [(16, .putfield 33, 3, [4, 3, 365], 0, 0), (19, .iload_n 1, 1, [], 0, 0), (20, .ifCond .le 12, 3, [32], 0, 0), (23, .aload_n 0, 1, [], 0, 0), (24, .getfield 33, 3, [4, 3, 365], 0, 0), (27, .iload_n 1, 1, [], 0, 0), (28, .irem, 1, [], 0, 0), (29, .goto 4, 3, [33], 0, 0)],
  [(32, .iconst 0, 1, [], 0, 0), (33, .ireturn, 1, [], 0, 0)]]
set_option maxRecDepth 100000 in
theorem ok_X4_draw : ms_okC (ms_Y 69).1.cls (ms_Y 69).1.name (ms_Y 69).2.2.1 (ms_Y 69).2.1 cd_X4_draw = true := by decide +kernel
def cd_X6_init : List (List ms_I) := [
  [(0, .aload_n 0, 1, [], 0, 0), (1, .invokespecial 3, 3, [1000, 144, 137, 138], 0, 0), (4, .aload_n 0, 1, [], 0, 0), (5, .sipush 400, 3, [], 400, 0), (8, .newarray .int, 2, [154], 0, 0), (10, .putfield 11, 3, [6, 0, 145], 0, 0), (13, .return_, 1, [], 0, 0)]]
set_option maxRecDepth 100000 in
theorem ok_X6_init : ms_okC (ms_Y 91).1.cls (ms_Y 91).1.name (ms_Y 91).2.2.1 (ms_Y 91).2.1 cd_X6_init = true := by decide +kernel
def cd_X6_add : List (List ms_I) := [
  [(0, .bipush 24, 2, [], 24, 0), (2, .istore_n 2, 1, [], 0, 0), (3, .iload_n 2, 1, [], 0, 0), (4, .ifCond .lt 52, 3, [56], 0, 0), (7, .aload_n 0, 1, [], 0, 0), (8, .getfield 15, 3, [6, 1, 146], 0, 0), (11, .ifCond .lt 39, 3, [50], 0, 0), (14, .aload_n 0, 1, [], 0, 0), (15, .getfield 15, 3, [6, 1, 146], 0, 0)],
  [(18, .sipush 400, 3, [], 400, 0), (21, .if_icmp .ge 29, 3, [50], 0, 0), (24, .aload_n 0, 1, [], 0, 0), (25, .getfield 11, 3, [6, 0, 145], 0, 0), (28, .aload_n 0, 1, [], 0, 0), (29, .getfield 15, 3, [6, 1, 146], 0, 0)],
  [(32, .iload_n 1, 1, [], 0, 0), (33, .iload_n 2, 1, [], 0, 0), (34, .ishr, 1, [], 0, 0), (35, .sipush 255, 3, [], 255, 0), (38, .iand, 1, [], 0, 0), (39, .iastore, 1, [], 0, 0), (40, .aload_n 0, 1, [], 0, 0), (41, .dup, 1, [], 0, 0), (42, .getfield 15, 3, [6, 1, 146], 0, 0), (45, .iconst 1, 1, [], 1, 0), (46, .iadd, 1, [], 0, 0), (47, .putfield 15, 3, [6, 1, 146], 0, 0)],
  [(50, .iinc 2 (-8), 3, [], (-8), 0), (53, .goto (-50), 3, [3], 0, 0), (56, .return_, 1, [], 0, 0)]]
set_option maxRecDepth 100000 in
theorem ok_X6_add : ms_okC (ms_Y 92).1.cls (ms_Y 92).1.name (ms_Y 92).2.2.1 (ms_Y 92).2.1 cd_X6_add = true := by decide +kernel
def cd_X6_byteAt : List (List ms_I) := [
  [(0, .iload_n 1, 1, [], 0, 0), (1, .ifCond .lt 27, 3, [28], 0, 0), (4, .iload_n 1, 1, [], 0, 0), (5, .aload_n 0, 1, [], 0, 0), (6, .getfield 15, 3, [6, 1, 146], 0, 0), (9, .if_icmp .ge 19, 3, [28], 0, 0), (12, .iload_n 1, 1, [], 0, 0), (13, .sipush 400, 3, [], 400, 0)],
  [(16, .if_icmp .ge 12, 3, [28], 0, 0), (19, .aload_n 0, 1, [], 0, 0), (20, .getfield 11, 3, [6, 0, 145], 0, 0), (23, .iload_n 1, 1, [], 0, 0), (24, .iaload, 1, [], 0, 0), (25, .goto 4, 3, [29], 0, 0), (28, .iconst (-1), 1, [], (-1), 0), (29, .ireturn, 1, [], 0, 0)]]
set_option maxRecDepth 100000 in
theorem ok_X6_byteAt : ms_okC (ms_Y 93).1.cls (ms_Y 93).1.name (ms_Y 93).2.2.1 (ms_Y 93).2.1 cd_X6_byteAt = true := by decide +kernel
def cd_X6_pairAt : List (List ms_I) := [
  [(0, .aload_n 0, 1, [], 0, 0), (1, .iload_n 1, 1, [], 0, 0), (2, .invokevirtual 19, 3, [93, 1, 1, 1, 499], 0, 0), (5, .istore_n 2, 1, [], 0, 0), (6, .aload_n 0, 1, [], 0, 0), (7, .iload_n 1, 1, [], 0, 0), (8, .iconst 1, 1, [], 1, 0), (9, .iadd, 1, [], 0, 0), (10, .invokevirtual 19, 3, [93, 1, 1, 1, 499], 0, 0), (13, .istore_n 3, 1, [], 0, 0), (14, .iload_n 2, 1, [], 0, 0), (15, .iconst (-1), 1, [], (-1), 0)],
  [(16, .if_icmp .eq 8, 3, [24], 0, 0), (19, .iload_n 3, 1, [], 0, 0), (20, .iconst (-1), 1, [], (-1), 0), (21, .if_icmp .ne 7, 3, [28], 0, 0), (24, .iconst (-1), 1, [], (-1), 0), (25, .goto 10, 3, [35], 0, 0), (28, .iload_n 2, 1, [], 0, 0), (29, .sipush 256, 3, [], 256, 0)],
  [(32, .imul, 1, [], 0, 0), (33, .iload_n 3, 1, [], 0, 0), (34, .iadd, 1, [], 0, 0), (35, .ireturn, 1, [], 0, 0)]]
set_option maxRecDepth 100000 in
theorem ok_X6_pairAt : ms_okC (ms_Y 94).1.cls (ms_Y 94).1.name (ms_Y 94).2.2.1 (ms_Y 94).2.1 cd_X6_pairAt = true := by decide +kernel
def cd_X7_init : List (List ms_I) := [
  [(0, .aload_n 0, 1, [], 0, 0), (1, .invokespecial 1, 3, [1000, 689, 137, 138], 0, 0), (4, .aload_n 0, 1, [], 0, 0), (5, .aload_n 1, 1, [], 0, 0), (6, .putfield 7, 3, [7, 0, 690], 0, 0), (9, .aload_n 0, 1, [], 0, 0), (10, .aload_n 2, 1, [], 0, 0), (11, .putfield 13, 3, [7, 1, 692], 0, 0), (14, .return_, 1, [], 0, 0)]]
set_option maxRecDepth 100000 in
theorem ok_X7_init : ms_okC (ms_Y 95).1.cls (ms_Y 95).1.name (ms_Y 95).2.2.1 (ms_Y 95).2.1 cd_X7_init = true := by decide +kernel
