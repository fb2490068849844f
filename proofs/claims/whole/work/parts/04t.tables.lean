def tX0_init : List CI := [
  (0, 1, .aload_n 0, 0, 0, 0, .null), (1, 3, .invokespecial 1, 0, 0, 0, .null), (4, 1, .aload_n 0, 0, 0, 0, .null), (5, 3, .new 7, 0, 0, 0, .null), (8, 1, .dup, 0, 0, 0, .null), 
  (9, 3, .invokespecial 9, 0, 0, 0, .null), (12, 3, .putfield 10, 0, 1, 226, .null), (15, 1, .aload_n 0, 0, 0, 0, .null), (16, 3, .new 7, 0, 0, 0, .null), 
  (19, 1, .dup, 0, 0, 0, .null), (20, 3, .invokespecial 9, 0, 0, 0, .null), (23, 3, .putfield 16, 0, 2, 228, .null), (26, 1, .aload_n 0, 0, 0, 0, .null), 
  (27, 3, .new 19, 0, 0, 0, .null), (30, 1, .dup, 0, 0, 0, .null), (31, 3, .invokespecial 21, 0, 0, 0, .null), (34, 3, .putfield 22, 0, 3, 230, .null), 
  (37, 1, .return_, 0, 0, 0, .null)]
theorem okX0_init : tX0_init.all (okI yX0_init.cls (decide (yX0_init.name = "<init>")) cX0_init) = true := by decide +kernel
def tX1_init : List CI := [
  (0, 1, .aload_n 0, 0, 0, 0, .null), (1, 3, .invokespecial 3, 0, 0, 0, .null), (4, 1, .aload_n 0, 0, 0, 0, .null), (5, 3, .new 9, 0, 0, 0, .null), (8, 1, .dup, 0, 0, 0, .null), 
  (9, 3, .invokespecial 11, 0, 0, 0, .null), (12, 3, .putfield 12, 1, 2, 293, .null), (15, 1, .return_, 0, 0, 0, .null)]
theorem okX1_init : tX1_init.all (okI yX1_init.cls (decide (yX1_init.name = "<init>")) cX1_init) = true := by decide +kernel
def tX1_find : List CI := [
  (0, 1, .aload_n 0, 0, 0, 0, .null), (1, 3, .getfield 12, 1, 2, 293, .null), (4, 1, .aload_n 1, 1, 0, 0, .null), (5, 3, .invokevirtual 18, 0, 0, 0, .null), 
  (8, 1, .iconst 0, 0, 0, 0, .int 0), (9, 2, .istore 5, 5, 0, 0, .null), (11, 1, .iconst 1, 0, 0, 0, .int 1), (12, 2, .istore 6, 6, 0, 0, .null), 
  (14, 1, .iconst 0, 0, 0, 0, .int 0), (15, 2, .istore 7, 7, 0, 0, .null), (17, 2, .iload 7, 7, 0, 0, .null), (19, 1, .aload_n 1, 1, 0, 0, .null), 
  (20, 3, .getfield 22, 9, 0, 134, .null), (23, 3, .if_icmp .ge 26, 49, 0, 0, .null), (26, 2, .iload 5, 5, 0, 0, .null), (28, 1, .aload_n 1, 1, 0, 0, .null), 
  (29, 2, .iload 7, 7, 0, 0, .null), (31, 3, .invokevirtual 26, 0, 0, 0, .null), (34, 1, .iadd, 0, 0, 0, .null), (35, 2, .istore 5, 5, 0, 0, .null), 
  (37, 2, .iload 6, 6, 0, 0, .null), (39, 1, .iconst 5, 0, 0, 0, .int 5), (40, 1, .imul, 0, 0, 0, .null), (41, 2, .istore 6, 6, 0, 0, .null), (43, 3, .iinc 7 1, 7, 0, 0, .int 1), 
  (46, 3, .goto (-29), 17, 0, 0, .null), (49, 1, .iconst 0, 0, 0, 0, .int 0), (50, 2, .istore 7, 7, 0, 0, .null), (52, 1, .aload_n 1, 1, 0, 0, .null), 
  (53, 3, .getfield 22, 9, 0, 134, .null), (56, 2, .istore 8, 8, 0, 0, .null), (58, 2, .iload 8, 8, 0, 0, .null), (60, 2, .iload 5, 5, 0, 0, .null), 
  (62, 3, .if_icmp .gt 74, 136, 0, 0, .null), (65, 2, .iload 7, 7, 0, 0, .null), (67, 3, .ifCond .ne 69, 136, 0, 0, .null), (70, 1, .iconst 0, 0, 0, 0, .int 0), 
  (71, 2, .istore 9, 9, 0, 0, .null), (73, 2, .iload 9, 9, 0, 0, .null), (75, 2, .iload 6, 6, 0, 0, .null), (77, 3, .if_icmp .ge 53, 130, 0, 0, .null), 
  (80, 2, .iload 7, 7, 0, 0, .null), (82, 3, .ifCond .ne 48, 130, 0, 0, .null), (85, 1, .aload_n 0, 0, 0, 0, .null), (86, 1, .aload_n 1, 1, 0, 0, .null), 
  (87, 2, .iload 9, 9, 0, 0, .null), (89, 3, .invokevirtual 30, 0, 0, 0, .null), (92, 2, .iload 8, 8, 0, 0, .null), (94, 3, .if_icmp .ne 30, 124, 0, 0, .null), 
  (97, 1, .aload_n 2, 2, 0, 0, .null), (98, 3, .invokevirtual 34, 0, 0, 0, .null), (101, 1, .aload_n 2, 2, 0, 0, .null), (102, 1, .aload_n 0, 0, 0, 0, .null), 
  (103, 3, .getfield 12, 1, 2, 293, .null), (106, 1, .iload_n 3, 3, 0, 0, .null), (107, 2, .iload 4, 4, 0, 0, .null), (109, 3, .invokevirtual 39, 0, 0, 0, .null), 
  (112, 1, .aload_n 2, 2, 0, 0, .null), (113, 3, .invokevirtual 43, 0, 0, 0, .null), (116, 2, .istore 7, 7, 0, 0, .null), (118, 1, .aload_n 0, 0, 0, 0, .null), 
  (119, 2, .iload 8, 8, 0, 0, .null), (121, 3, .putfield 47, 1, 1, 291, .int 0), (124, 3, .iinc 9 1, 9, 0, 0, .int 1), (127, 3, .goto (-54), 73, 0, 0, .null), 
  (130, 3, .iinc 8 1, 8, 0, 0, .int 1), (133, 3, .goto (-75), 58, 0, 0, .null), (136, 1, .aload_n 2, 2, 0, 0, .null), (137, 3, .invokevirtual 34, 0, 0, 0, .null), 
  (140, 1, .return_, 0, 0, 0, .null)]
theorem okX1_find : tX1_find.all (okI yX1_find.cls (decide (yX1_find.name = "<init>")) cX1_find) = true := by decide +kernel
def tX1_setLengths : List CI := [
  (0, 1, .iload_n 2, 2, 0, 0, .null), (1, 1, .istore_n 3, 3, 0, 0, .null), (2, 1, .iconst 0, 0, 0, 0, .int 0), (3, 2, .istore 4, 4, 0, 0, .null), 
  (5, 1, .iconst 1, 0, 0, 0, .int 1), (6, 2, .istore 5, 5, 0, 0, .null), (8, 1, .aload_n 1, 1, 0, 0, .null), (9, 3, .getfield 22, 9, 0, 134, .null), 
  (12, 1, .iconst 1, 0, 0, 0, .int 1), (13, 1, .isub, 0, 0, 0, .null), (14, 2, .istore 6, 6, 0, 0, .null), (16, 2, .iload 6, 6, 0, 0, .null), 
  (18, 3, .ifCond .lt 61, 79, 0, 0, .null), (21, 1, .iload_n 3, 3, 0, 0, .null), (22, 1, .iconst 5, 0, 0, 0, .int 5), (23, 1, .irem, 0, 0, 0, .null), 
  (24, 1, .iconst 1, 0, 0, 0, .int 1), (25, 1, .iadd, 0, 0, 0, .null), (26, 2, .istore 7, 7, 0, 0, .null), (28, 1, .iload_n 3, 3, 0, 0, .null), 
  (29, 1, .iconst 5, 0, 0, 0, .int 5), (30, 1, .idiv, 0, 0, 0, .null), (31, 1, .istore_n 3, 3, 0, 0, .null), (32, 1, .aload_n 0, 0, 0, 0, .null), 
  (33, 3, .getfield 12, 1, 2, 293, .null), (36, 2, .iload 6, 6, 0, 0, .null), (38, 2, .iload 7, 7, 0, 0, .null), (40, 3, .invokevirtual 50, 0, 0, 0, .null), 
  (43, 2, .iload 5, 5, 0, 0, .null), (45, 3, .ifCond .eq 18, 63, 0, 0, .null), (48, 2, .iload 7, 7, 0, 0, .null), (50, 1, .aload_n 1, 1, 0, 0, .null), 
  (51, 2, .iload 6, 6, 0, 0, .null), (53, 3, .invokevirtual 26, 0, 0, 0, .null), (56, 3, .if_icmp .gt 7, 63, 0, 0, .null), (59, 1, .iconst 1, 0, 0, 0, .int 1), 
  (60, 3, .goto 4, 64, 0, 0, .null), (63, 1, .iconst 0, 0, 0, 0, .int 0), (64, 2, .istore 5, 5, 0, 0, .null), (66, 2, .iload 4, 4, 0, 0, .null), (68, 2, .iload 7, 7, 0, 0, .null), 
  (70, 1, .iadd, 0, 0, 0, .null), (71, 2, .istore 4, 4, 0, 0, .null), (73, 3, .iinc 6 (-1), 6, 0, 0, .int (-1)), (76, 3, .goto (-60), 16, 0, 0, .null), 
  (79, 2, .iload 5, 5, 0, 0, .null), (81, 3, .ifCond .eq 8, 89, 0, 0, .null), (84, 2, .iload 4, 4, 0, 0, .null), (86, 3, .goto 4, 90, 0, 0, .null), 
  (89, 1, .iconst 0, 0, 0, 0, .int 0), (90, 1, .ireturn, 0, 0, 0, .null)]
theorem okX1_setLengths : tX1_setLengths.all (okI yX1_setLengths.cls (decide (yX1_setLengths.name = "<init>")) cX1_setLengths) = true := by decide +kernel
def tX2_init : List CI := [
  (0, 1, .aload_n 0, 0, 0, 0, .null), (1, 3, .invokespecial 3, 0, 0, 0, .null), (4, 1, .aload_n 0, 0, 0, 0, .null), (5, 3, .sipush 153, 0, 0, 0, .int 153), 
  (8, 2, .newarray .int, 0, 0, 0, .null), (10, 3, .putfield 9, 2, 1, 123, .null), (13, 1, .aload_n 0, 0, 0, 0, .null), (14, 3, .sipush 153, 0, 0, 0, .int 153), 
  (17, 2, .newarray .long, 0, 0, 0, .null), (19, 3, .putfield 15, 2, 2, 124, .null), (22, 1, .return_, 0, 0, 0, .null)]
theorem okX2_init : tX2_init.all (okI yX2_init.cls (decide (yX2_init.name = "<init>")) cX2_init) = true := by decide +kernel
def tX2_forget : List CI := [
  (0, 1, .aload_n 0, 0, 0, 0, .null), (1, 1, .iconst 0, 0, 0, 0, .int 0), (2, 3, .putfield 19, 2, 0, 122, .int 0), (5, 1, .iconst 0, 0, 0, 0, .int 0), 
  (6, 1, .istore_n 1, 1, 0, 0, .null), (7, 1, .iload_n 1, 1, 0, 0, .null), (8, 3, .sipush 153, 0, 0, 0, .int 153), (11, 3, .if_icmp .ge 23, 34, 0, 0, .null), 
  (14, 1, .aload_n 0, 0, 0, 0, .null), (15, 3, .getfield 9, 2, 1, 123, .null), (18, 1, .iload_n 1, 1, 0, 0, .null), (19, 1, .iconst 0, 0, 0, 0, .int 0), 
  (20, 1, .iastore, 0, 0, 0, .null), (21, 1, .aload_n 0, 0, 0, 0, .null), (22, 3, .getfield 15, 2, 2, 124, .null), (25, 1, .iload_n 1, 1, 0, 0, .null), 
  (26, 1, .lconst 0, 0, 0, 0, .long 0), (27, 1, .lastore, 0, 0, 0, .null), (28, 3, .iinc 1 1, 1, 0, 0, .int 1), (31, 3, .goto (-24), 7, 0, 0, .null), 
  (34, 1, .return_, 0, 0, 0, .null)]
theorem okX2_forget : tX2_forget.all (okI yX2_forget.cls (decide (yX2_forget.name = "<init>")) cX2_forget) = true := by decide +kernel
def tX2_copyFrom : List CI := [
  (0, 1, .aload_n 0, 0, 0, 0, .null), (1, 1, .aload_n 1, 1, 0, 0, .null), (2, 3, .getfield 19, 2, 0, 122, .null), (5, 3, .putfield 19, 2, 0, 122, .int 0), 
  (8, 1, .aload_n 1, 1, 0, 0, .null), (9, 3, .getfield 9, 2, 1, 123, .null), (12, 1, .aload_n 0, 0, 0, 0, .null), (13, 3, .getfield 9, 2, 1, 123, .null), 
  (16, 3, .invokestatic 23, 0, 0, 0, .null), (19, 1, .iconst 0, 0, 0, 0, .int 0), (20, 1, .istore_n 2, 2, 0, 0, .null), (21, 1, .iload_n 2, 2, 0, 0, .null), 
  (22, 3, .sipush 153, 0, 0, 0, .int 153), (25, 3, .if_icmp .ge 21, 46, 0, 0, .null), (28, 1, .aload_n 0, 0, 0, 0, .null), (29, 3, .getfield 15, 2, 2, 124, .null), 
  (32, 1, .iload_n 2, 2, 0, 0, .null), (33, 1, .aload_n 1, 1, 0, 0, .null), (34, 3, .getfield 15, 2, 2, 124, .null), (37, 1, .iload_n 2, 2, 0, 0, .null), 
  (38, 1, .laload, 0, 0, 0, .null), (39, 1, .lastore, 0, 0, 0, .null), (40, 3, .iinc 2 1, 2, 0, 0, .int 1), (43, 3, .goto (-22), 21, 0, 0, .null), 
  (46, 1, .return_, 0, 0, 0, .null)]
theorem okX2_copyFrom : tX2_copyFrom.all (okI yX2_copyFrom.cls (decide (yX2_copyFrom.name = "<init>")) cX2_copyFrom) = true := by decide +kernel
def tX2_know : List CI := [
  (0, 1, .aload_n 0, 0, 0, 0, .null), (1, 3, .getfield 19, 2, 0, 122, .null), (4, 1, .iload_n 1, 1, 0, 0, .null), (5, 1, .ishr, 0, 0, 0, .null), 
  (6, 1, .iconst 1, 0, 0, 0, .int 1), (7, 1, .iand, 0, 0, 0, .null), (8, 1, .iconst 1, 0, 0, 0, .int 1), (9, 3, .if_icmp .ne 7, 16, 0, 0, .null), 
  (12, 1, .iconst 1, 0, 0, 0, .int 1), (13, 3, .goto 4, 17, 0, 0, .null), (16, 1, .iconst 0, 0, 0, 0, .int 0), (17, 1, .ireturn, 0, 0, 0, .null)]
theorem okX2_know : tX2_know.all (okI yX2_know.cls (decide (yX2_know.name = "<init>")) cX2_know) = true := by decide +kernel
def tX2_nowKnow : List CI := [
  (0, 1, .aload_n 0, 0, 0, 0, .null), (1, 1, .dup, 0, 0, 0, .null), (2, 3, .getfield 19, 2, 0, 122, .null), (5, 1, .iconst 1, 0, 0, 0, .int 1), (6, 1, .iload_n 1, 1, 0, 0, .null), 
  (7, 1, .ishl, 0, 0, 0, .null), (8, 1, .ior, 0, 0, 0, .null), (9, 3, .putfield 19, 2, 0, 122, .int 0), (12, 1, .return_, 0, 0, 0, .null)]
theorem okX2_nowKnow : tX2_nowKnow.all (okI yX2_nowKnow.cls (decide (yX2_nowKnow.name = "<init>")) cX2_nowKnow) = true := by decide +kernel
def tX2_cellOf : List CI := [
  (0, 1, .iload_n 0, 0, 0, 0, .null), (1, 1, .iload_n 1, 1, 0, 0, .null), (2, 3, .invokestatic 27, 0, 0, 0, .null), (5, 1, .istore_n 2, 2, 0, 0, .null), 
  (6, 1, .iconst 1, 0, 0, 0, .int 1), (7, 1, .istore_n 3, 3, 0, 0, .null), (8, 1, .iload_n 3, 3, 0, 0, .null), (9, 1, .iload_n 1, 1, 0, 0, .null), 
  (10, 3, .if_icmp .ge 21, 31, 0, 0, .null), (13, 1, .iload_n 3, 3, 0, 0, .null), (14, 1, .iconst 5, 0, 0, 0, .int 5), (15, 3, .if_icmp .ge 16, 31, 0, 0, .null), 
  (18, 1, .iload_n 2, 2, 0, 0, .null), (19, 1, .iload_n 3, 3, 0, 0, .null), (20, 3, .invokestatic 33, 0, 0, 0, .null), (23, 1, .iadd, 0, 0, 0, .null), 
  (24, 1, .istore_n 2, 2, 0, 0, .null), (25, 3, .iinc 3 1, 3, 0, 0, .int 1), (28, 3, .goto (-20), 8, 0, 0, .null), (31, 1, .iload_n 2, 2, 0, 0, .null), 
  (32, 1, .ireturn, 0, 0, 0, .null)]
theorem okX2_cellOf : tX2_cellOf.all (okI yX2_cellOf.cls (decide (yX2_cellOf.name = "<init>")) cX2_cellOf) = true := by decide +kernel
def tX2_note : List CI := [
  (0, 1, .iload_n 1, 1, 0, 0, .null), (1, 1, .iload_n 2, 2, 0, 0, .null), (2, 3, .invokestatic 37, 0, 0, 0, .null), (5, 2, .istore 6, 6, 0, 0, .null), 
  (7, 2, .iload 6, 6, 0, 0, .null), (9, 3, .ifCond .lt 28, 37, 0, 0, .null), (12, 2, .iload 6, 6, 0, 0, .null), (14, 3, .sipush 153, 0, 0, 0, .int 153), 
  (17, 3, .if_icmp .ge 20, 37, 0, 0, .null), (20, 1, .aload_n 0, 0, 0, 0, .null), (21, 3, .getfield 9, 2, 1, 123, .null), (24, 2, .iload 6, 6, 0, 0, .null), 
  (26, 1, .iload_n 3, 3, 0, 0, .null), (27, 1, .iastore, 0, 0, 0, .null), (28, 1, .aload_n 0, 0, 0, 0, .null), (29, 3, .getfield 15, 2, 2, 124, .null), 
  (32, 2, .iload 6, 6, 0, 0, .null), (34, 2, .lload 4, 4, 0, 0, .null), (36, 1, .lastore, 0, 0, 0, .null), (37, 1, .return_, 0, 0, 0, .null)]
theorem okX2_note : tX2_note.all (okI yX2_note.cls (decide (yX2_note.name = "<init>")) cX2_note) = true := by decide +kernel
def tX2_leastOf : List CI := [
  (0, 1, .iload_n 1, 1, 0, 0, .null), (1, 1, .iload_n 2, 2, 0, 0, .null), (2, 3, .invokestatic 37, 0, 0, 0, .null), (5, 1, .istore_n 3, 3, 0, 0, .null), 
  (6, 1, .iload_n 3, 3, 0, 0, .null), (7, 3, .ifCond .lt 19, 26, 0, 0, .null), (10, 1, .iload_n 3, 3, 0, 0, .null), (11, 3, .sipush 153, 0, 0, 0, .int 153), 
  (14, 3, .if_icmp .ge 12, 26, 0, 0, .null), (17, 1, .aload_n 0, 0, 0, 0, .null), (18, 3, .getfield 9, 2, 1, 123, .null), (21, 1, .iload_n 3, 3, 0, 0, .null), 
  (22, 1, .iaload, 0, 0, 0, .null), (23, 3, .goto 4, 27, 0, 0, .null), (26, 1, .iconst 0, 0, 0, 0, .int 0), (27, 1, .ireturn, 0, 0, 0, .null)]
theorem okX2_leastOf : tX2_leastOf.all (okI yX2_leastOf.cls (decide (yX2_leastOf.name = "<init>")) cX2_leastOf) = true := by decide +kernel
def tX2_waysOf : List CI := [
  (0, 1, .iload_n 1, 1, 0, 0, .null), (1, 1, .iload_n 2, 2, 0, 0, .null), (2, 3, .invokestatic 37, 0, 0, 0, .null), (5, 1, .istore_n 3, 3, 0, 0, .null), 
  (6, 1, .iload_n 3, 3, 0, 0, .null), (7, 3, .ifCond .lt 19, 26, 0, 0, .null), (10, 1, .iload_n 3, 3, 0, 0, .null), (11, 3, .sipush 153, 0, 0, 0, .int 153), 
  (14, 3, .if_icmp .ge 12, 26, 0, 0, .null), (17, 1, .aload_n 0, 0, 0, 0, .null), (18, 3, .getfield 15, 2, 2, 124, .null), (21, 1, .iload_n 3, 3, 0, 0, .null), 
  (22, 1, .laload, 0, 0, 0, .null), (23, 3, .goto 4, 27, 0, 0, .null), (26, 1, .lconst 0, 0, 0, 0, .long 0), (27, 1, .lreturn, 0, 0, 0, .null)]
theorem okX2_waysOf : tX2_waysOf.all (okI yX2_waysOf.cls (decide (yX2_waysOf.name = "<init>")) cX2_waysOf) = true := by decide +kernel
def tX3_init : List CI := [
  (0, 1, .aload_n 0, 0, 0, 0, .null), (1, 3, .invokespecial 3, 0, 0, 0, .null), (4, 1, .aload_n 0, 0, 0, 0, .null), (5, 2, .bipush 16, 0, 0, 0, .int 16), 
  (7, 2, .newarray .int, 0, 0, 0, .null), (9, 3, .putfield 9, 3, 0, 103, .null), (12, 1, .return_, 0, 0, 0, .null)]
theorem okX3_init : tX3_init.all (okI yX3_init.cls (decide (yX3_init.name = "<init>")) cX3_init) = true := by decide +kernel
def tX3_add : List CI := [
  (0, 1, .aload_n 0, 0, 0, 0, .null), (1, 3, .getfield 15, 3, 1, 104, .null), (4, 3, .ifCond .lt 15, 19, 0, 0, .null), (7, 1, .aload_n 0, 0, 0, 0, .null), 
  (8, 3, .getfield 15, 3, 1, 104, .null), (11, 1, .aload_n 0, 0, 0, 0, .null), (12, 3, .getfield 9, 3, 0, 103, .null), (15, 1, .arraylength, 0, 0, 0, .null), 
  (16, 3, .if_icmp .lt 5, 21, 0, 0, .null), (19, 1, .iconst 0, 0, 0, 0, .int 0), (20, 1, .ireturn, 0, 0, 0, .null), (21, 1, .aload_n 0, 0, 0, 0, .null), 
  (22, 3, .getfield 9, 3, 0, 103, .null), (25, 1, .aload_n 0, 0, 0, 0, .null), (26, 3, .getfield 15, 3, 1, 104, .null), (29, 1, .iload_n 1, 1, 0, 0, .null), 
  (30, 1, .iastore, 0, 0, 0, .null), (31, 1, .aload_n 0, 0, 0, 0, .null), (32, 1, .dup, 0, 0, 0, .null), (33, 3, .getfield 15, 3, 1, 104, .null), 
  (36, 1, .iconst 1, 0, 0, 0, .int 1), (37, 1, .iadd, 0, 0, 0, .null), (38, 3, .putfield 15, 3, 1, 104, .int 0), (41, 1, .iconst 1, 0, 0, 0, .int 1), 
  (42, 1, .ireturn, 0, 0, 0, .null)]
theorem okX3_add : tX3_add.all (okI yX3_add.cls (decide (yX3_add.name = "<init>")) cX3_add) = true := by decide +kernel
def tX3_clear : List CI := [
  (0, 1, .aload_n 0, 0, 0, 0, .null), (1, 1, .iconst 0, 0, 0, 0, .int 0), (2, 3, .putfield 15, 3, 1, 104, .int 0), (5, 1, .return_, 0, 0, 0, .null)]
theorem okX3_clear : tX3_clear.all (okI yX3_clear.cls (decide (yX3_clear.name = "<init>")) cX3_clear) = true := by decide +kernel
def tX3_signAt : List CI := [
  (0, 1, .iload_n 1, 1, 0, 0, .null), (1, 3, .ifCond .lt 29, 30, 0, 0, .null), (4, 1, .iload_n 1, 1, 0, 0, .null), (5, 1, .aload_n 0, 0, 0, 0, .null), 
  (6, 3, .getfield 15, 3, 1, 104, .null), (9, 3, .if_icmp .ge 21, 30, 0, 0, .null), (12, 1, .iload_n 1, 1, 0, 0, .null), (13, 1, .aload_n 0, 0, 0, 0, .null), 
  (14, 3, .getfield 9, 3, 0, 103, .null), (17, 1, .arraylength, 0, 0, 0, .null), (18, 3, .if_icmp .ge 12, 30, 0, 0, .null), (21, 1, .aload_n 0, 0, 0, 0, .null), 
  (22, 3, .getfield 9, 3, 0, 103, .null), (25, 1, .iload_n 1, 1, 0, 0, .null), (26, 1, .iaload, 0, 0, 0, .null), (27, 3, .goto 4, 31, 0, 0, .null), 
  (30, 1, .iconst 0, 0, 0, 0, .int 0), (31, 1, .ireturn, 0, 0, 0, .null)]
theorem okX3_signAt : tX3_signAt.all (okI yX3_signAt.cls (decide (yX3_signAt.name = "<init>")) cX3_signAt) = true := by decide +kernel
def tX3_isLetter : List CI := [
  (0, 1, .iload_n 0, 0, 0, 0, .null), (1, 2, .bipush 115, 0, 0, 0, .int 115), (3, 3, .if_icmp .eq 15, 18, 0, 0, .null), (6, 1, .iload_n 0, 0, 0, 0, .null), 
  (7, 2, .bipush 113, 0, 0, 0, .int 113), (9, 3, .if_icmp .eq 9, 18, 0, 0, .null), (12, 1, .iload_n 0, 0, 0, 0, .null), (13, 2, .bipush 100, 0, 0, 0, .int 100), 
  (15, 3, .if_icmp .ne 7, 22, 0, 0, .null), (18, 1, .iconst 1, 0, 0, 0, .int 1), (19, 3, .goto 4, 23, 0, 0, .null), (22, 1, .iconst 0, 0, 0, 0, .int 0), 
  (23, 1, .ireturn, 0, 0, 0, .null)]
theorem okX3_isLetter : tX3_isLetter.all (okI yX3_isLetter.cls (decide (yX3_isLetter.name = "<init>")) cX3_isLetter) = true := by decide +kernel
def tX3_faultAt : List CI := [
  (0, 1, .iconst 0, 0, 0, 0, .int 0), (1, 1, .istore_n 1, 1, 0, 0, .null), (2, 1, .iconst 1, 0, 0, 0, .int 1), (3, 1, .istore_n 2, 2, 0, 0, .null), 
  (4, 1, .iconst 0, 0, 0, 0, .int 0), (5, 1, .istore_n 3, 3, 0, 0, .null), (6, 1, .iconst 1, 0, 0, 0, .int 1), (7, 2, .istore 4, 4, 0, 0, .null), 
  (9, 1, .iconst 0, 0, 0, 0, .int 0), (10, 2, .istore 5, 5, 0, 0, .null), (12, 2, .iload 5, 5, 0, 0, .null), (14, 1, .aload_n 0, 0, 0, 0, .null), 
  (15, 3, .getfield 15, 3, 1, 104, .null), (18, 3, .if_icmp .ge 150, 168, 0, 0, .null), (21, 1, .aload_n 0, 0, 0, 0, .null), (22, 2, .iload 5, 5, 0, 0, .null), 
  (24, 3, .invokevirtual 19, 0, 0, 0, .null), (27, 2, .istore 6, 6, 0, 0, .null), (29, 1, .aload_n 0, 0, 0, 0, .null), (30, 2, .iload 5, 5, 0, 0, .null), 
  (32, 1, .iconst 1, 0, 0, 0, .int 1), (33, 1, .isub, 0, 0, 0, .null), (34, 3, .invokevirtual 19, 0, 0, 0, .null), (37, 3, .invokestatic 23, 0, 0, 0, .null), 
  (40, 3, .ifCond .eq 27, 67, 0, 0, .null), (43, 2, .iload 6, 6, 0, 0, .null), (45, 2, .bipush 49, 0, 0, 0, .int 49), (47, 3, .if_icmp .lt 14, 61, 0, 0, .null), 
  (50, 2, .iload 6, 6, 0, 0, .null), (52, 2, .bipush 54, 0, 0, 0, .int 54), (54, 3, .if_icmp .ge 7, 61, 0, 0, .null), (57, 1, .iconst 1, 0, 0, 0, .int 1), 
  (58, 3, .goto 4, 62, 0, 0, .null), (61, 1, .iconst 0, 0, 0, 0, .int 0), (62, 2, .istore 7, 7, 0, 0, .null), (64, 3, .goto 90, 154, 0, 0, .null), 
  (67, 2, .iload 6, 6, 0, 0, .null), (69, 2, .bipush 59, 0, 0, 0, .int 59), (71, 3, .if_icmp .ne 31, 102, 0, 0, .null), (74, 2, .iload 4, 4, 0, 0, .null), 
  (76, 3, .ifCond .ne 12, 88, 0, 0, .null), (79, 1, .iload_n 2, 2, 0, 0, .null), (80, 1, .iconst 3, 0, 0, 0, .int 3), (81, 3, .if_icmp .ge 7, 88, 0, 0, .null), 
  (84, 1, .iconst 1, 0, 0, 0, .int 1), (85, 3, .goto 4, 89, 0, 0, .null), (88, 1, .iconst 0, 0, 0, 0, .int 0), (89, 2, .istore 7, 7, 0, 0, .null), 
  (91, 3, .iinc 2 1, 2, 0, 0, .int 1), (94, 1, .iconst 0, 0, 0, 0, .int 0), (95, 1, .istore_n 3, 3, 0, 0, .null), (96, 1, .iconst 1, 0, 0, 0, .int 1), 
  (97, 2, .istore 4, 4, 0, 0, .null), (99, 3, .goto 55, 154, 0, 0, .null), (102, 2, .iload 6, 6, 0, 0, .null), (104, 2, .bipush 45, 0, 0, 0, .int 45), 
  (106, 3, .if_icmp .ne 22, 128, 0, 0, .null), (109, 1, .iload_n 3, 3, 0, 0, .null), (110, 3, .ifCond .ne 7, 117, 0, 0, .null), (113, 1, .iconst 1, 0, 0, 0, .int 1), 
  (114, 3, .goto 4, 118, 0, 0, .null), (117, 1, .iconst 0, 0, 0, 0, .int 0), (118, 2, .istore 7, 7, 0, 0, .null), (120, 1, .iconst 1, 0, 0, 0, .int 1), 
  (121, 1, .istore_n 3, 3, 0, 0, .null), (122, 1, .iconst 0, 0, 0, 0, .int 0), (123, 2, .istore 4, 4, 0, 0, .null), (125, 3, .goto 29, 154, 0, 0, .null), 
  (128, 2, .iload 6, 6, 0, 0, .null), (130, 3, .invokestatic 23, 0, 0, 0, .null), (133, 3, .ifCond .eq 12, 145, 0, 0, .null), (136, 1, .iload_n 1, 1, 0, 0, .null), 
  (137, 1, .iconst 4, 0, 0, 0, .int 4), (138, 3, .if_icmp .ge 7, 145, 0, 0, .null), (141, 1, .iconst 1, 0, 0, 0, .int 1), (142, 3, .goto 4, 146, 0, 0, .null), 
  (145, 1, .iconst 0, 0, 0, 0, .int 0), (146, 2, .istore 7, 7, 0, 0, .null), (148, 3, .iinc 1 1, 1, 0, 0, .int 1), (151, 1, .iconst 0, 0, 0, 0, .int 0), 
  (152, 2, .istore 4, 4, 0, 0, .null), (154, 2, .iload 7, 7, 0, 0, .null), (156, 3, .ifCond .ne 6, 162, 0, 0, .null), (159, 2, .iload 5, 5, 0, 0, .null), 
  (161, 1, .ireturn, 0, 0, 0, .null), (162, 3, .iinc 5 1, 5, 0, 0, .int 1), (165, 3, .goto (-153), 12, 0, 0, .null), (168, 2, .iload 4, 4, 0, 0, .null), 
  (170, 3, .ifCond .ne 23, 193, 0, 0, .null), (173, 1, .iload_n 1, 1, 0, 0, .null), (174, 3, .ifCond .eq 19, 193, 0, 0, .null), (177, 1, .aload_n 0, 0, 0, 0, .null), 
  (178, 1, .aload_n 0, 0, 0, 0, .null), (179, 3, .getfield 15, 3, 1, 104, .null), (182, 1, .iconst 1, 0, 0, 0, .int 1), (183, 1, .isub, 0, 0, 0, .null), 
  (184, 3, .invokevirtual 19, 0, 0, 0, .null), (187, 3, .invokestatic 23, 0, 0, 0, .null), (190, 3, .ifCond .eq 10, 200, 0, 0, .null), (193, 1, .aload_n 0, 0, 0, 0, .null), 
  (194, 3, .getfield 15, 3, 1, 104, .null), (197, 3, .goto 5, 202, 0, 0, .null), (200, 2, .bipush (-6), 0, 0, 0, .int (-6)), (202, 1, .ireturn, 0, 0, 0, .null)]
theorem okX3_faultAt : tX3_faultAt.all (okI yX3_faultAt.cls (decide (yX3_faultAt.name = "<init>")) cX3_faultAt) = true := by decide +kernel
def tX3_layOut : List CI := [
  (0, 1, .aload_n 1, 1, 0, 0, .null), (1, 3, .invokevirtual 27, 0, 0, 0, .null), (4, 1, .iconst 0, 0, 0, 0, .int 0), (5, 1, .istore_n 2, 2, 0, 0, .null), 
  (6, 1, .iload_n 2, 2, 0, 0, .null), (7, 1, .aload_n 0, 0, 0, 0, .null), (8, 3, .getfield 15, 3, 1, 104, .null), (11, 3, .if_icmp .ge 69, 80, 0, 0, .null), 
  (14, 1, .aload_n 0, 0, 0, 0, .null), (15, 1, .iload_n 2, 2, 0, 0, .null), (16, 3, .invokevirtual 19, 0, 0, 0, .null), (19, 1, .istore_n 3, 3, 0, 0, .null), 
  (20, 1, .iload_n 3, 3, 0, 0, .null), (21, 2, .bipush 59, 0, 0, 0, .int 59), (23, 3, .if_icmp .ne 16, 39, 0, 0, .null), (26, 1, .aload_n 1, 1, 0, 0, .null), 
  (27, 1, .dup, 0, 0, 0, .null), (28, 3, .getfield 32, 9, 1, 139, .null), (31, 1, .iconst 1, 0, 0, 0, .int 1), (32, 1, .iadd, 0, 0, 0, .null), 
  (33, 3, .putfield 32, 9, 1, 139, .int 0), (36, 3, .goto 38, 74, 0, 0, .null), (39, 1, .iload_n 3, 3, 0, 0, .null), (40, 2, .bipush 45, 0, 0, 0, .int 45), 
  (42, 3, .if_icmp .ne 10, 52, 0, 0, .null), (45, 1, .aload_n 1, 1, 0, 0, .null), (46, 3, .invokevirtual 35, 0, 0, 0, .null), (49, 3, .goto 25, 74, 0, 0, .null), 
  (52, 1, .iload_n 3, 3, 0, 0, .null), (53, 3, .invokestatic 23, 0, 0, 0, .null), (56, 3, .ifCond .eq 18, 74, 0, 0, .null), (59, 1, .aload_n 1, 1, 0, 0, .null), 
  (60, 1, .iload_n 3, 3, 0, 0, .null), (61, 1, .aload_n 0, 0, 0, 0, .null), (62, 1, .iload_n 2, 2, 0, 0, .null), (63, 1, .iconst 1, 0, 0, 0, .int 1), 
  (64, 1, .iadd, 0, 0, 0, .null), (65, 3, .invokevirtual 19, 0, 0, 0, .null), (68, 2, .bipush 48, 0, 0, 0, .int 48), (70, 1, .isub, 0, 0, 0, .null), 
  (71, 3, .invokevirtual 38, 0, 0, 0, .null), (74, 3, .iinc 2 1, 2, 0, 0, .int 1), (77, 3, .goto (-71), 6, 0, 0, .null), (80, 1, .aload_n 1, 1, 0, 0, .null), 
  (81, 3, .invokevirtual 42, 0, 0, 0, .null), (84, 1, .return_, 0, 0, 0, .null)]
theorem okX3_layOut : tX3_layOut.all (okI yX3_layOut.cls (decide (yX3_layOut.name = "<init>")) cX3_layOut) = true := by decide +kernel
def tX4_init : List CI := [
  (0, 1, .aload_n 0, 0, 0, 0, .null), (1, 3, .invokespecial 3, 0, 0, 0, .null), (4, 1, .aload_n 0, 0, 0, 0, .null), (5, 2, .bipush 6, 0, 0, 0, .int 6), 
  (7, 2, .newarray .int, 0, 0, 0, .null), (9, 3, .putfield 9, 4, 0, 183, .null), (12, 1, .aload_n 0, 0, 0, 0, .null), (13, 2, .bipush 6, 0, 0, 0, .int 6), 
  (15, 2, .newarray .int, 0, 0, 0, .null), (17, 3, .putfield 15, 4, 1, 184, .null), (20, 1, .return_, 0, 0, 0, .null)]
theorem okX4_init : tX4_init.all (okI yX4_init.cls (decide (yX4_init.name = "<init>")) cX4_init) = true := by decide +kernel
def tX4_begin : List CI := [
  (0, 1, .iconst 0, 0, 0, 0, .int 0), (1, 1, .istore_n 3, 3, 0, 0, .null), (2, 1, .iload_n 3, 3, 0, 0, .null), (3, 2, .bipush 6, 0, 0, 0, .int 6), 
  (5, 3, .if_icmp .ge 23, 28, 0, 0, .null), (8, 1, .aload_n 0, 0, 0, 0, .null), (9, 3, .getfield 9, 4, 0, 183, .null), (12, 1, .iload_n 3, 3, 0, 0, .null), 
  (13, 1, .iconst 0, 0, 0, 0, .int 0), (14, 1, .iastore, 0, 0, 0, .null), (15, 1, .aload_n 0, 0, 0, 0, .null), (16, 3, .getfield 15, 4, 1, 184, .null), 
  (19, 1, .iload_n 3, 3, 0, 0, .null), (20, 1, .iconst 0, 0, 0, 0, .int 0), (21, 1, .iastore, 0, 0, 0, .null), (22, 3, .iinc 3 1, 3, 0, 0, .int 1), 
  (25, 3, .goto (-23), 2, 0, 0, .null), (28, 1, .aload_n 0, 0, 0, 0, .null), (29, 3, .getfield 9, 4, 0, 183, .null), (32, 1, .iconst 0, 0, 0, 0, .int 0), 
  (33, 1, .iload_n 1, 1, 0, 0, .null), (34, 1, .iastore, 0, 0, 0, .null), (35, 1, .aload_n 0, 0, 0, 0, .null), (36, 3, .getfield 15, 4, 1, 184, .null), 
  (39, 1, .iconst 0, 0, 0, 0, .int 0), (40, 1, .iload_n 2, 2, 0, 0, .null), (41, 1, .iastore, 0, 0, 0, .null), (42, 1, .return_, 0, 0, 0, .null)]
theorem okX4_begin : tX4_begin.all (okI yX4_begin.cls (decide (yX4_begin.name = "<init>")) cX4_begin) = true := by decide +kernel
def tX4_copyFrom : List CI := [
  (0, 1, .aload_n 1, 1, 0, 0, .null), (1, 3, .getfield 9, 4, 0, 183, .null), (4, 1, .aload_n 0, 0, 0, 0, .null), (5, 3, .getfield 9, 4, 0, 183, .null), 
  (8, 3, .invokestatic 18, 0, 0, 0, .null), (11, 1, .aload_n 1, 1, 0, 0, .null), (12, 3, .getfield 15, 4, 1, 184, .null), (15, 1, .aload_n 0, 0, 0, 0, .null), 
  (16, 3, .getfield 15, 4, 1, 184, .null), (19, 3, .invokestatic 18, 0, 0, 0, .null), (22, 1, .return_, 0, 0, 0, .null)]
theorem okX4_copyFrom : tX4_copyFrom.all (okI yX4_copyFrom.cls (decide (yX4_copyFrom.name = "<init>")) cX4_copyFrom) = true := by decide +kernel
def tX4_rowAt : List CI := [
  (0, 1, .iload_n 1, 1, 0, 0, .null), (1, 3, .ifCond .lt 18, 19, 0, 0, .null), (4, 1, .iload_n 1, 1, 0, 0, .null), (5, 2, .bipush 6, 0, 0, 0, .int 6), 
  (7, 3, .if_icmp .ge 12, 19, 0, 0, .null), (10, 1, .aload_n 0, 0, 0, 0, .null), (11, 3, .getfield 9, 4, 0, 183, .null), (14, 1, .iload_n 1, 1, 0, 0, .null), 
  (15, 1, .iaload, 0, 0, 0, .null), (16, 3, .goto 4, 20, 0, 0, .null), (19, 1, .iconst 0, 0, 0, 0, .int 0), (20, 1, .ireturn, 0, 0, 0, .null)]
theorem okX4_rowAt : tX4_rowAt.all (okI yX4_rowAt.cls (decide (yX4_rowAt.name = "<init>")) cX4_rowAt) = true := by decide +kernel
def tX4_countAt : List CI := [
  (0, 1, .iload_n 1, 1, 0, 0, .null), (1, 3, .ifCond .lt 18, 19, 0, 0, .null), (4, 1, .iload_n 1, 1, 0, 0, .null), (5, 2, .bipush 6, 0, 0, 0, .int 6), 
  (7, 3, .if_icmp .ge 12, 19, 0, 0, .null), (10, 1, .aload_n 0, 0, 0, 0, .null), (11, 3, .getfield 15, 4, 1, 184, .null), (14, 1, .iload_n 1, 1, 0, 0, .null), 
  (15, 1, .iaload, 0, 0, 0, .null), (16, 3, .goto 4, 20, 0, 0, .null), (19, 1, .iconst 0, 0, 0, 0, .int 0), (20, 1, .ireturn, 0, 0, 0, .null)]
theorem okX4_countAt : tX4_countAt.all (okI yX4_countAt.cls (decide (yX4_countAt.name = "<init>")) cX4_countAt) = true := by decide +kernel
def tX4_isFarPut : List CI := [
  (0, 1, .iload_n 0, 0, 0, 0, .null), (1, 2, .bipush 10, 0, 0, 0, .int 10), (3, 1, .idiv, 0, 0, 0, .null), (4, 2, .bipush 10, 0, 0, 0, .int 10), (6, 1, .irem, 0, 0, 0, .null), 
  (7, 1, .iconst 5, 0, 0, 0, .int 5), (8, 3, .if_icmp .eq 11, 19, 0, 0, .null), (11, 1, .iload_n 0, 0, 0, 0, .null), (12, 2, .bipush 10, 0, 0, 0, .int 10), 
  (14, 1, .irem, 0, 0, 0, .null), (15, 1, .iconst 1, 0, 0, 0, .int 1), (16, 3, .if_icmp .ne 7, 23, 0, 0, .null), (19, 1, .iconst 1, 0, 0, 0, .int 1), 
  (20, 3, .goto 4, 24, 0, 0, .null), (23, 1, .iconst 0, 0, 0, 0, .int 0), (24, 1, .ireturn, 0, 0, 0, .null)]
theorem okX4_isFarPut : tX4_isFarPut.all (okI yX4_isFarPut.cls (decide (yX4_isFarPut.name = "<init>")) cX4_isFarPut) = true := by decide +kernel
def tX4_isFarTake : List CI := [
  (0, 1, .iload_n 0, 0, 0, 0, .null), (1, 2, .bipush 100, 0, 0, 0, .int 100), (3, 1, .idiv, 0, 0, 0, .null), (4, 2, .bipush 10, 0, 0, 0, .int 10), (6, 1, .irem, 0, 0, 0, .null), 
  (7, 1, .iconst 1, 0, 0, 0, .int 1), (8, 3, .if_icmp .ne 7, 15, 0, 0, .null), (11, 1, .iconst 1, 0, 0, 0, .int 1), (12, 3, .goto 4, 16, 0, 0, .null), 
  (15, 1, .iconst 0, 0, 0, 0, .int 0), (16, 1, .ireturn, 0, 0, 0, .null)]
theorem okX4_isFarTake : tX4_isFarTake.all (okI yX4_isFarTake.cls (decide (yX4_isFarTake.name = "<init>")) cX4_isFarTake) = true := by decide +kernel
def tX4_allows : List CI := [
  (0, 1, .iload_n 2, 2, 0, 0, .null), (1, 2, .bipush 10, 0, 0, 0, .int 10), (3, 1, .idiv, 0, 0, 0, .null), (4, 2, .bipush 10, 0, 0, 0, .int 10), (6, 1, .irem, 0, 0, 0, .null), 
  (7, 1, .istore_n 3, 3, 0, 0, .null), (8, 1, .aload_n 0, 0, 0, 0, .null), (9, 1, .iload_n 2, 2, 0, 0, .null), (10, 3, .sipush 1000, 0, 0, 0, .int 1000), 
  (13, 1, .idiv, 0, 0, 0, .null), (14, 3, .invokevirtual 22, 0, 0, 0, .null), (17, 3, .ifCond .le 27, 44, 0, 0, .null), (20, 1, .iload_n 3, 3, 0, 0, .null), 
  (21, 1, .iconst 5, 0, 0, 0, .int 5), (22, 3, .if_icmp .eq 18, 40, 0, 0, .null), (25, 1, .aload_n 0, 0, 0, 0, .null), (26, 1, .iload_n 3, 3, 0, 0, .null), 
  (27, 3, .invokevirtual 22, 0, 0, 0, .null), (30, 1, .aload_n 1, 1, 0, 0, .null), (31, 1, .iload_n 3, 3, 0, 0, .null), (32, 1, .iconst 1, 0, 0, 0, .int 1), 
  (33, 1, .isub, 0, 0, 0, .null), (34, 3, .invokevirtual 26, 0, 0, 0, .null), (37, 3, .if_icmp .ge 7, 44, 0, 0, .null), (40, 1, .iconst 1, 0, 0, 0, .int 1), 
  (41, 3, .goto 4, 45, 0, 0, .null), (44, 1, .iconst 0, 0, 0, 0, .int 0), (45, 1, .ireturn, 0, 0, 0, .null)]
theorem okX4_allows : tX4_allows.all (okI yX4_allows.cls (decide (yX4_allows.name = "<init>")) cX4_allows) = true := by decide +kernel
def tX4_wagonOf : List CI := [
  (0, 1, .iload_n 1, 1, 0, 0, .null), (1, 3, .sipush 1000, 0, 0, 0, .int 1000), (4, 1, .idiv, 0, 0, 0, .null), (5, 1, .istore_n 2, 2, 0, 0, .null), 
  (6, 1, .aload_n 0, 0, 0, 0, .null), (7, 1, .iload_n 2, 2, 0, 0, .null), (8, 3, .invokevirtual 31, 0, 0, 0, .null), (11, 1, .iload_n 1, 1, 0, 0, .null), 
  (12, 3, .invokestatic 34, 0, 0, 0, .null), (15, 3, .ifCond .eq 13, 28, 0, 0, .null), (18, 1, .aload_n 0, 0, 0, 0, .null), (19, 1, .iload_n 2, 2, 0, 0, .null), 
  (20, 3, .invokevirtual 22, 0, 0, 0, .null), (23, 1, .iconst 1, 0, 0, 0, .int 1), (24, 1, .isub, 0, 0, 0, .null), (25, 3, .goto 4, 29, 0, 0, .null), 
  (28, 1, .iconst 0, 0, 0, 0, .int 0), (29, 3, .invokestatic 38, 0, 0, 0, .null), (32, 1, .ireturn, 0, 0, 0, .null)]
theorem okX4_wagonOf : tX4_wagonOf.all (okI yX4_wagonOf.cls (decide (yX4_wagonOf.name = "<init>")) cX4_wagonOf) = true := by decide +kernel
def tX4_shift : List CI := [
  (0, 1, .aload_n 0, 0, 0, 0, .null), (1, 1, .iload_n 1, 1, 0, 0, .null), (2, 2, .bipush 10, 0, 0, 0, .int 10), (4, 1, .idiv, 0, 0, 0, .null), 
  (5, 2, .bipush 10, 0, 0, 0, .int 10), (7, 1, .irem, 0, 0, 0, .null), (8, 1, .aload_n 0, 0, 0, 0, .null), (9, 1, .iload_n 1, 1, 0, 0, .null), 
  (10, 3, .sipush 1000, 0, 0, 0, .int 1000), (13, 1, .idiv, 0, 0, 0, .null), (14, 1, .iload_n 1, 1, 0, 0, .null), (15, 3, .invokestatic 34, 0, 0, 0, .null), 
  (18, 3, .invokevirtual 44, 0, 0, 0, .null), (21, 1, .iload_n 1, 1, 0, 0, .null), (22, 3, .invokestatic 48, 0, 0, 0, .null), (25, 3, .invokevirtual 51, 0, 0, 0, .null), 
  (28, 1, .return_, 0, 0, 0, .null)]
theorem okX4_shift : tX4_shift.all (okI yX4_shift.cls (decide (yX4_shift.name = "<init>")) cX4_shift) = true := by decide +kernel
def tX4_unshift : List CI := [
  (0, 1, .aload_n 0, 0, 0, 0, .null), (1, 1, .iload_n 1, 1, 0, 0, .null), (2, 3, .sipush 1000, 0, 0, 0, .int 1000), (5, 1, .idiv, 0, 0, 0, .null), 
  (6, 1, .aload_n 0, 0, 0, 0, .null), (7, 1, .iload_n 1, 1, 0, 0, .null), (8, 2, .bipush 10, 0, 0, 0, .int 10), (10, 1, .idiv, 0, 0, 0, .null), 
  (11, 2, .bipush 10, 0, 0, 0, .int 10), (13, 1, .irem, 0, 0, 0, .null), (14, 1, .iload_n 1, 1, 0, 0, .null), (15, 3, .invokestatic 48, 0, 0, 0, .null), 
  (18, 3, .invokevirtual 44, 0, 0, 0, .null), (21, 1, .iload_n 1, 1, 0, 0, .null), (22, 3, .invokestatic 34, 0, 0, 0, .null), (25, 3, .invokevirtual 51, 0, 0, 0, .null), 
  (28, 1, .return_, 0, 0, 0, .null)]
theorem okX4_unshift : tX4_unshift.all (okI yX4_unshift.cls (decide (yX4_unshift.name = "<init>")) cX4_unshift) = true := by decide +kernel
def tX4_take : List CI := [
  (0, 1, .iload_n 1, 1, 0, 0, .null), (1, 3, .ifCond .lt 19, 20, 0, 0, .null), (4, 1, .iload_n 1, 1, 0, 0, .null), (5, 2, .bipush 6, 0, 0, 0, .int 6), 
  (7, 3, .if_icmp .ge 13, 20, 0, 0, .null), (10, 1, .aload_n 0, 0, 0, 0, .null), (11, 3, .getfield 15, 4, 1, 184, .null), (14, 1, .iload_n 1, 1, 0, 0, .null), 
  (15, 1, .iaload, 0, 0, 0, .null), (16, 1, .iconst 1, 0, 0, 0, .int 1), (17, 3, .if_icmp .ge 5, 22, 0, 0, .null), (20, 1, .iconst 0, 0, 0, 0, .int 0), 
  (21, 1, .ireturn, 0, 0, 0, .null), (22, 1, .aload_n 0, 0, 0, 0, .null), (23, 3, .getfield 15, 4, 1, 184, .null), (26, 1, .iload_n 1, 1, 0, 0, .null), 
  (27, 1, .dup2, 0, 0, 0, .null), (28, 1, .iaload, 0, 0, 0, .null), (29, 1, .iconst 1, 0, 0, 0, .int 1), (30, 1, .isub, 0, 0, 0, .null), (31, 1, .iastore, 0, 0, 0, .null), 
  (32, 1, .aload_n 0, 0, 0, 0, .null), (33, 3, .getfield 9, 4, 0, 183, .null), (36, 1, .iload_n 1, 1, 0, 0, .null), (37, 1, .iaload, 0, 0, 0, .null), 
  (38, 1, .istore_n 3, 3, 0, 0, .null), (39, 1, .iload_n 2, 2, 0, 0, .null), (40, 3, .ifCond .ne 17, 57, 0, 0, .null), (43, 1, .aload_n 0, 0, 0, 0, .null), 
  (44, 3, .getfield 9, 4, 0, 183, .null), (47, 1, .iload_n 1, 1, 0, 0, .null), (48, 1, .iload_n 3, 3, 0, 0, .null), (49, 1, .iconst 3, 0, 0, 0, .int 3), 
  (50, 1, .ishr, 0, 0, 0, .null), (51, 1, .iastore, 0, 0, 0, .null), (52, 1, .iload_n 3, 3, 0, 0, .null), (53, 2, .bipush 7, 0, 0, 0, .int 7), (55, 1, .iand, 0, 0, 0, .null), 
  (56, 1, .ireturn, 0, 0, 0, .null), (57, 1, .iconst 3, 0, 0, 0, .int 3), (58, 1, .aload_n 0, 0, 0, 0, .null), (59, 3, .getfield 15, 4, 1, 184, .null), 
  (62, 1, .iload_n 1, 1, 0, 0, .null), (63, 1, .iaload, 0, 0, 0, .null), (64, 1, .imul, 0, 0, 0, .null), (65, 2, .istore 4, 4, 0, 0, .null), (67, 1, .aload_n 0, 0, 0, 0, .null), 
  (68, 3, .getfield 9, 4, 0, 183, .null), (71, 1, .iload_n 1, 1, 0, 0, .null), (72, 1, .iload_n 3, 3, 0, 0, .null), (73, 1, .iconst 1, 0, 0, 0, .int 1), 
  (74, 2, .iload 4, 4, 0, 0, .null), (76, 1, .ishl, 0, 0, 0, .null), (77, 1, .iconst 1, 0, 0, 0, .int 1), (78, 1, .isub, 0, 0, 0, .null), (79, 1, .iand, 0, 0, 0, .null), 
  (80, 1, .iastore, 0, 0, 0, .null), (81, 1, .iload_n 3, 3, 0, 0, .null), (82, 2, .iload 4, 4, 0, 0, .null), (84, 1, .ishr, 0, 0, 0, .null), (85, 2, .bipush 7, 0, 0, 0, .int 7), 
  (87, 1, .iand, 0, 0, 0, .null), (88, 1, .ireturn, 0, 0, 0, .null)]
theorem okX4_take : tX4_take.all (okI yX4_take.cls (decide (yX4_take.name = "<init>")) cX4_take) = true := by decide +kernel
def tX4_put : List CI := [
  (0, 1, .iload_n 1, 1, 0, 0, .null), (1, 3, .ifCond .lt 13, 14, 0, 0, .null), (4, 1, .iload_n 1, 1, 0, 0, .null), (5, 2, .bipush 6, 0, 0, 0, .int 6), 
  (7, 3, .if_icmp .ge 7, 14, 0, 0, .null), (10, 1, .iload_n 2, 2, 0, 0, .null), (11, 3, .ifCond .ne 4, 15, 0, 0, .null), (14, 1, .return_, 0, 0, 0, .null), 
  (15, 1, .aload_n 0, 0, 0, 0, .null), (16, 3, .getfield 9, 4, 0, 183, .null), (19, 1, .iload_n 1, 1, 0, 0, .null), (20, 1, .iload_n 3, 3, 0, 0, .null), 
  (21, 3, .ifCond .eq 23, 44, 0, 0, .null), (24, 1, .aload_n 0, 0, 0, 0, .null), (25, 3, .getfield 9, 4, 0, 183, .null), (28, 1, .iload_n 1, 1, 0, 0, .null), 
  (29, 1, .iaload, 0, 0, 0, .null), (30, 1, .iload_n 2, 2, 0, 0, .null), (31, 1, .iconst 3, 0, 0, 0, .int 3), (32, 1, .aload_n 0, 0, 0, 0, .null), 
  (33, 3, .getfield 15, 4, 1, 184, .null), (36, 1, .iload_n 1, 1, 0, 0, .null), (37, 1, .iaload, 0, 0, 0, .null), (38, 1, .imul, 0, 0, 0, .null), (39, 1, .ishl, 0, 0, 0, .null), 
  (40, 1, .ior, 0, 0, 0, .null), (41, 3, .goto 13, 54, 0, 0, .null), (44, 1, .aload_n 0, 0, 0, 0, .null), (45, 3, .getfield 9, 4, 0, 183, .null), 
  (48, 1, .iload_n 1, 1, 0, 0, .null), (49, 1, .iaload, 0, 0, 0, .null), (50, 1, .iconst 3, 0, 0, 0, .int 3), (51, 1, .ishl, 0, 0, 0, .null), (52, 1, .iload_n 2, 2, 0, 0, .null), 
  (53, 1, .ior, 0, 0, 0, .null), (54, 1, .iastore, 0, 0, 0, .null), (55, 1, .aload_n 0, 0, 0, 0, .null), (56, 3, .getfield 15, 4, 1, 184, .null), 
  (59, 1, .iload_n 1, 1, 0, 0, .null), (60, 1, .dup2, 0, 0, 0, .null), (61, 1, .iaload, 0, 0, 0, .null), (62, 1, .iconst 1, 0, 0, 0, .int 1), (63, 1, .iadd, 0, 0, 0, .null), 
  (64, 1, .iastore, 0, 0, 0, .null), (65, 1, .return_, 0, 0, 0, .null)]
theorem okX4_put : tX4_put.all (okI yX4_put.cls (decide (yX4_put.name = "<init>")) cX4_put) = true := by decide +kernel
def tX4_placeOfList : List CI := [
  (0, 1, .iload_n 0, 0, 0, 0, .null), (1, 1, .iload_n 1, 1, 0, 0, .null), (2, 3, .if_icmp .ge 9, 11, 0, 0, .null), (5, 1, .iload_n 0, 0, 0, 0, .null), 
  (6, 1, .iconst 1, 0, 0, 0, .int 1), (7, 1, .iadd, 0, 0, 0, .null), (8, 3, .goto 4, 12, 0, 0, .null), (11, 1, .iconst 5, 0, 0, 0, .int 5), (12, 1, .ireturn, 0, 0, 0, .null)]
theorem okX4_placeOfList : tX4_placeOfList.all (okI yX4_placeOfList.cls (decide (yX4_placeOfList.name = "<init>")) cX4_placeOfList) = true := by decide +kernel
def tX4_index : List CI := [
  (0, 1, .iconst 0, 0, 0, 0, .int 0), (1, 1, .istore_n 2, 2, 0, 0, .null), (2, 1, .iconst 0, 0, 0, 0, .int 0), (3, 1, .istore_n 3, 3, 0, 0, .null), 
  (4, 1, .iconst 0, 0, 0, 0, .int 0), (5, 2, .istore 4, 4, 0, 0, .null), (7, 2, .iload 4, 4, 0, 0, .null), (9, 1, .iload_n 1, 1, 0, 0, .null), 
  (10, 3, .if_icmp .gt 89, 99, 0, 0, .null), (13, 2, .iload 4, 4, 0, 0, .null), (15, 1, .iconst 4, 0, 0, 0, .int 4), (16, 3, .if_icmp .gt 83, 99, 0, 0, .null), 
  (19, 1, .aload_n 0, 0, 0, 0, .null), (20, 2, .iload 4, 4, 0, 0, .null), (22, 1, .iload_n 1, 1, 0, 0, .null), (23, 3, .invokestatic 55, 0, 0, 0, .null), 
  (26, 3, .invokevirtual 31, 0, 0, 0, .null), (29, 2, .istore 5, 5, 0, 0, .null), (31, 1, .iconst 0, 0, 0, 0, .int 0), (32, 2, .istore 6, 6, 0, 0, .null), 
  (34, 2, .iload 6, 6, 0, 0, .null), (36, 1, .iconst 5, 0, 0, 0, .int 5), (37, 3, .if_icmp .ge 56, 93, 0, 0, .null), (40, 2, .iload 5, 5, 0, 0, .null), 
  (42, 3, .ifCond .le 51, 93, 0, 0, .null), (45, 2, .iload 5, 5, 0, 0, .null), (47, 2, .bipush 7, 0, 0, 0, .int 7), (49, 1, .iand, 0, 0, 0, .null), 
  (50, 2, .istore 7, 7, 0, 0, .null), (52, 1, .iload_n 3, 3, 0, 0, .null), (53, 2, .iload 4, 4, 0, 0, .null), (55, 1, .iload_n 2, 2, 0, 0, .null), 
  (56, 1, .iconst 1, 0, 0, 0, .int 1), (57, 2, .iload 7, 7, 0, 0, .null), (59, 1, .ishl, 0, 0, 0, .null), (60, 1, .iconst 1, 0, 0, 0, .int 1), (61, 1, .isub, 0, 0, 0, .null), 
  (62, 1, .iand, 0, 0, 0, .null), (63, 3, .invokestatic 58, 0, 0, 0, .null), (66, 1, .iadd, 0, 0, 0, .null), (67, 1, .iconst 4, 0, 0, 0, .int 4), 
  (68, 2, .iload 7, 7, 0, 0, .null), (70, 1, .imul, 0, 0, 0, .null), (71, 1, .ishl, 0, 0, 0, .null), (72, 1, .ior, 0, 0, 0, .null), (73, 1, .istore_n 3, 3, 0, 0, .null), 
  (74, 1, .iload_n 2, 2, 0, 0, .null), (75, 1, .iconst 1, 0, 0, 0, .int 1), (76, 2, .iload 7, 7, 0, 0, .null), (78, 1, .ishl, 0, 0, 0, .null), (79, 1, .ior, 0, 0, 0, .null), 
  (80, 1, .istore_n 2, 2, 0, 0, .null), (81, 2, .iload 5, 5, 0, 0, .null), (83, 1, .iconst 3, 0, 0, 0, .int 3), (84, 1, .ishr, 0, 0, 0, .null), (85, 2, .istore 5, 5, 0, 0, .null), 
  (87, 3, .iinc 6 1, 6, 0, 0, .int 1), (90, 3, .goto (-56), 34, 0, 0, .null), (93, 3, .iinc 4 1, 4, 0, 0, .int 1), (96, 3, .goto (-89), 7, 0, 0, .null), 
  (99, 1, .iload_n 2, 2, 0, 0, .null), (100, 3, .invokestatic 58, 0, 0, 0, .null), (103, 2, .istore 4, 4, 0, 0, .null), (105, 1, .iconst 0, 0, 0, 0, .int 0), 
  (106, 2, .istore 5, 5, 0, 0, .null), (108, 1, .iconst 1, 0, 0, 0, .int 1), (109, 2, .istore 6, 6, 0, 0, .null), (111, 1, .iconst 0, 0, 0, 0, .int 0), 
  (112, 2, .istore 7, 7, 0, 0, .null), (114, 1, .iconst 1, 0, 0, 0, .int 1), (115, 2, .istore 8, 8, 0, 0, .null), (117, 2, .iload 8, 8, 0, 0, .null), 
  (119, 2, .iload 4, 4, 0, 0, .null), (121, 3, .if_icmp .gt 44, 165, 0, 0, .null), (124, 2, .iload 5, 5, 0, 0, .null), (126, 2, .iload 6, 6, 0, 0, .null), 
  (128, 1, .iadd, 0, 0, 0, .null), (129, 2, .istore 5, 5, 0, 0, .null), (131, 2, .iload 6, 6, 0, 0, .null), (133, 2, .iload 8, 8, 0, 0, .null), 
  (135, 1, .iload_n 1, 1, 0, 0, .null), (136, 1, .iadd, 0, 0, 0, .null), (137, 1, .imul, 0, 0, 0, .null), (138, 2, .istore 6, 6, 0, 0, .null), (140, 2, .iload 7, 7, 0, 0, .null), 
  (142, 2, .iload 8, 8, 0, 0, .null), (144, 1, .iload_n 1, 1, 0, 0, .null), (145, 1, .iadd, 0, 0, 0, .null), (146, 1, .imul, 0, 0, 0, .null), (147, 1, .iload_n 3, 3, 0, 0, .null), 
  (148, 1, .iconst 4, 0, 0, 0, .int 4), (149, 2, .iload 8, 8, 0, 0, .null), (151, 1, .imul, 0, 0, 0, .null), (152, 1, .ishr, 0, 0, 0, .null), 
  (153, 2, .bipush 15, 0, 0, 0, .int 15), (155, 1, .iand, 0, 0, 0, .null), (156, 1, .iadd, 0, 0, 0, .null), (157, 2, .istore 7, 7, 0, 0, .null), 
  (159, 3, .iinc 8 1, 8, 0, 0, .int 1), (162, 3, .goto (-45), 117, 0, 0, .null), (165, 2, .iload 5, 5, 0, 0, .null), (167, 2, .iload 7, 7, 0, 0, .null), 
  (169, 1, .iadd, 0, 0, 0, .null), (170, 1, .ireturn, 0, 0, 0, .null)]
theorem okX4_index : tX4_index.all (okI yX4_index.cls (decide (yX4_index.name = "<init>")) cX4_index) = true := by decide +kernel
def tX4_indices : List CI := [
  (0, 1, .iconst 1, 0, 0, 0, .int 1), (1, 1, .istore_n 2, 2, 0, 0, .null), (2, 1, .iconst 1, 0, 0, 0, .int 1), (3, 1, .istore_n 3, 3, 0, 0, .null), 
  (4, 1, .iconst 1, 0, 0, 0, .int 1), (5, 2, .istore 4, 4, 0, 0, .null), (7, 2, .iload 4, 4, 0, 0, .null), (9, 1, .iload_n 0, 0, 0, 0, .null), 
  (10, 3, .if_icmp .gt 26, 36, 0, 0, .null), (13, 2, .iload 4, 4, 0, 0, .null), (15, 1, .iconst 5, 0, 0, 0, .int 5), (16, 3, .if_icmp .gt 20, 36, 0, 0, .null), 
  (19, 1, .iload_n 2, 2, 0, 0, .null), (20, 2, .iload 4, 4, 0, 0, .null), (22, 1, .iload_n 1, 1, 0, 0, .null), (23, 1, .iadd, 0, 0, 0, .null), (24, 1, .imul, 0, 0, 0, .null), 
  (25, 1, .istore_n 2, 2, 0, 0, .null), (26, 1, .iload_n 3, 3, 0, 0, .null), (27, 1, .iload_n 2, 2, 0, 0, .null), (28, 1, .iadd, 0, 0, 0, .null), 
  (29, 1, .istore_n 3, 3, 0, 0, .null), (30, 3, .iinc 4 1, 4, 0, 0, .int 1), (33, 3, .goto (-26), 7, 0, 0, .null), (36, 1, .iload_n 3, 3, 0, 0, .null), 
  (37, 1, .ireturn, 0, 0, 0, .null)]
theorem okX4_indices : tX4_indices.all (okI yX4_indices.cls (decide (yX4_indices.name = "<init>")) cX4_indices) = true := by decide +kernel
def tX4_setUp : List CI := [
  (0, 1, .iconst 0, 0, 0, 0, .int 0), (1, 2, .istore 4, 4, 0, 0, .null), (3, 1, .iconst 1, 0, 0, 0, .int 1), (4, 2, .istore 5, 5, 0, 0, .null), (6, 1, .iload_n 1, 1, 0, 0, .null), 
  (7, 2, .istore 6, 6, 0, 0, .null), (9, 2, .iload 4, 4, 0, 0, .null), (11, 1, .iload_n 2, 2, 0, 0, .null), (12, 3, .if_icmp .ge 32, 44, 0, 0, .null), 
  (15, 2, .iload 6, 6, 0, 0, .null), (17, 2, .iload 5, 5, 0, 0, .null), (19, 3, .if_icmp .lt 25, 44, 0, 0, .null), (22, 2, .iload 6, 6, 0, 0, .null), 
  (24, 2, .iload 5, 5, 0, 0, .null), (26, 1, .isub, 0, 0, 0, .null), (27, 2, .istore 6, 6, 0, 0, .null), (29, 3, .iinc 4 1, 4, 0, 0, .int 1), (32, 2, .iload 5, 5, 0, 0, .null), 
  (34, 2, .iload 4, 4, 0, 0, .null), (36, 1, .iload_n 3, 3, 0, 0, .null), (37, 1, .iadd, 0, 0, 0, .null), (38, 1, .imul, 0, 0, 0, .null), (39, 2, .istore 5, 5, 0, 0, .null), 
  (41, 3, .goto (-32), 9, 0, 0, .null), (44, 1, .iconst 0, 0, 0, 0, .int 0), (45, 2, .istore 7, 7, 0, 0, .null), (47, 2, .iload 4, 4, 0, 0, .null), 
  (49, 2, .istore 8, 8, 0, 0, .null), (51, 2, .iload 8, 8, 0, 0, .null), (53, 3, .ifCond .le 41, 94, 0, 0, .null), (56, 1, .iconst 1, 0, 0, 0, .int 1), 
  (57, 2, .iload 8, 8, 0, 0, .null), (59, 1, .iload_n 3, 3, 0, 0, .null), (60, 1, .iadd, 0, 0, 0, .null), (61, 3, .invokestatic 63, 0, 0, 0, .null), 
  (64, 2, .istore 9, 9, 0, 0, .null), (66, 2, .iload 7, 7, 0, 0, .null), (68, 2, .iload 6, 6, 0, 0, .null), (70, 2, .iload 9, 9, 0, 0, .null), (72, 1, .irem, 0, 0, 0, .null), 
  (73, 1, .iconst 4, 0, 0, 0, .int 4), (74, 2, .iload 8, 8, 0, 0, .null), (76, 1, .imul, 0, 0, 0, .null), (77, 1, .ishl, 0, 0, 0, .null), (78, 1, .ior, 0, 0, 0, .null), 
  (79, 2, .istore 7, 7, 0, 0, .null), (81, 2, .iload 6, 6, 0, 0, .null), (83, 2, .iload 9, 9, 0, 0, .null), (85, 1, .idiv, 0, 0, 0, .null), (86, 2, .istore 6, 6, 0, 0, .null), 
  (88, 3, .iinc 8 (-1), 8, 0, 0, .int (-1)), (91, 3, .goto (-40), 51, 0, 0, .null), (94, 1, .aload_n 0, 0, 0, 0, .null), (95, 1, .iload_n 2, 2, 0, 0, .null), 
  (96, 3, .invokestatic 68, 0, 0, 0, .null), (99, 1, .iconst 3, 0, 0, 0, .int 3), (100, 2, .iload 4, 4, 0, 0, .null), (102, 1, .imul, 0, 0, 0, .null), 
  (103, 1, .ishr, 0, 0, 0, .null), (104, 1, .iload_n 2, 2, 0, 0, .null), (105, 2, .iload 4, 4, 0, 0, .null), (107, 1, .isub, 0, 0, 0, .null), 
  (108, 3, .invokevirtual 71, 0, 0, 0, .null), (111, 1, .iconst 1, 0, 0, 0, .int 1), (112, 2, .istore 8, 8, 0, 0, .null), (114, 2, .iload 8, 8, 0, 0, .null), 
  (116, 2, .iload 4, 4, 0, 0, .null), (118, 3, .if_icmp .gt 26, 144, 0, 0, .null), (121, 1, .aload_n 0, 0, 0, 0, .null), (122, 2, .iload 8, 8, 0, 0, .null), 
  (124, 2, .iload 7, 7, 0, 0, .null), (126, 1, .iconst 4, 0, 0, 0, .int 4), (127, 2, .iload 8, 8, 0, 0, .null), (129, 1, .imul, 0, 0, 0, .null), (130, 1, .ishr, 0, 0, 0, .null), 
  (131, 2, .bipush 15, 0, 0, 0, .int 15), (133, 1, .iand, 0, 0, 0, .null), (134, 1, .iload_n 3, 3, 0, 0, .null), (135, 3, .invokevirtual 75, 0, 0, 0, .null), 
  (138, 3, .iinc 8 1, 8, 0, 0, .int 1), (141, 3, .goto (-27), 114, 0, 0, .null), (144, 1, .return_, 0, 0, 0, .null)]
theorem okX4_setUp : tX4_setUp.all (okI yX4_setUp.cls (decide (yX4_setUp.name = "<init>")) cX4_setUp) = true := by decide +kernel
def tX4_insert : List CI := [
  (0, 1, .iload_n 2, 2, 0, 0, .null), (1, 2, .istore 4, 4, 0, 0, .null), (3, 1, .iconst 0, 0, 0, 0, .int 0), (4, 2, .istore 5, 5, 0, 0, .null), (6, 2, .iload 5, 5, 0, 0, .null), 
  (8, 1, .iload_n 3, 3, 0, 0, .null), (9, 3, .if_icmp .gt 51, 60, 0, 0, .null), (12, 2, .iload 5, 5, 0, 0, .null), (14, 1, .iload_n 3, 3, 0, 0, .null), 
  (15, 3, .invokestatic 55, 0, 0, 0, .null), (18, 2, .istore 6, 6, 0, 0, .null), (20, 1, .aload_n 0, 0, 0, 0, .null), (21, 2, .iload 6, 6, 0, 0, .null), 
  (23, 3, .invokevirtual 22, 0, 0, 0, .null), (26, 2, .istore 7, 7, 0, 0, .null), (28, 2, .iload 4, 4, 0, 0, .null), (30, 2, .iload 7, 7, 0, 0, .null), 
  (32, 3, .if_icmp .gt 13, 45, 0, 0, .null), (35, 1, .aload_n 0, 0, 0, 0, .null), (36, 2, .iload 6, 6, 0, 0, .null), (38, 1, .iload_n 1, 1, 0, 0, .null), 
  (39, 2, .iload 4, 4, 0, 0, .null), (41, 3, .invokevirtual 79, 0, 0, 0, .null), (44, 1, .return_, 0, 0, 0, .null), (45, 2, .iload 4, 4, 0, 0, .null), 
  (47, 2, .iload 7, 7, 0, 0, .null), (49, 1, .iconst 1, 0, 0, 0, .int 1), (50, 1, .iadd, 0, 0, 0, .null), (51, 1, .isub, 0, 0, 0, .null), (52, 2, .istore 4, 4, 0, 0, .null), 
  (54, 3, .iinc 5 1, 5, 0, 0, .int 1), (57, 3, .goto (-51), 6, 0, 0, .null), (60, 1, .return_, 0, 0, 0, .null)]
theorem okX4_insert : tX4_insert.all (okI yX4_insert.cls (decide (yX4_insert.name = "<init>")) cX4_insert) = true := by decide +kernel
def tX4_insertAt : List CI := [
  (0, 1, .iload_n 1, 1, 0, 0, .null), (1, 3, .ifCond .lt 63, 64, 0, 0, .null), (4, 1, .iload_n 1, 1, 0, 0, .null), (5, 2, .bipush 6, 0, 0, 0, .int 6), 
  (7, 3, .if_icmp .ge 57, 64, 0, 0, .null), (10, 1, .iconst 3, 0, 0, 0, .int 3), (11, 1, .iload_n 3, 3, 0, 0, .null), (12, 1, .imul, 0, 0, 0, .null), 
  (13, 2, .istore 4, 4, 0, 0, .null), (15, 1, .aload_n 0, 0, 0, 0, .null), (16, 3, .getfield 9, 4, 0, 183, .null), (19, 1, .iload_n 1, 1, 0, 0, .null), 
  (20, 1, .iaload, 0, 0, 0, .null), (21, 2, .istore 5, 5, 0, 0, .null), (23, 1, .aload_n 0, 0, 0, 0, .null), (24, 3, .getfield 9, 4, 0, 183, .null), 
  (27, 1, .iload_n 1, 1, 0, 0, .null), (28, 2, .iload 5, 5, 0, 0, .null), (30, 1, .iconst 1, 0, 0, 0, .int 1), (31, 2, .iload 4, 4, 0, 0, .null), (33, 1, .ishl, 0, 0, 0, .null), 
  (34, 1, .iconst 1, 0, 0, 0, .int 1), (35, 1, .isub, 0, 0, 0, .null), (36, 1, .iand, 0, 0, 0, .null), (37, 1, .iload_n 2, 2, 0, 0, .null), (38, 2, .iload 4, 4, 0, 0, .null), 
  (40, 1, .ishl, 0, 0, 0, .null), (41, 1, .ior, 0, 0, 0, .null), (42, 2, .iload 5, 5, 0, 0, .null), (44, 2, .iload 4, 4, 0, 0, .null), (46, 1, .ishr, 0, 0, 0, .null), 
  (47, 2, .iload 4, 4, 0, 0, .null), (49, 1, .iconst 3, 0, 0, 0, .int 3), (50, 1, .iadd, 0, 0, 0, .null), (51, 1, .ishl, 0, 0, 0, .null), (52, 1, .ior, 0, 0, 0, .null), 
  (53, 1, .iastore, 0, 0, 0, .null), (54, 1, .aload_n 0, 0, 0, 0, .null), (55, 3, .getfield 15, 4, 1, 184, .null), (58, 1, .iload_n 1, 1, 0, 0, .null), 
  (59, 1, .dup2, 0, 0, 0, .null), (60, 1, .iaload, 0, 0, 0, .null), (61, 1, .iconst 1, 0, 0, 0, .int 1), (62, 1, .iadd, 0, 0, 0, .null), (63, 1, .iastore, 0, 0, 0, .null), 
  (64, 1, .return_, 0, 0, 0, .null)]
theorem okX4_insertAt : tX4_insertAt.all (okI yX4_insertAt.cls (decide (yX4_insertAt.name = "<init>")) cX4_insertAt) = true := by decide +kernel
def tX5_init : List CI := [
  (0, 1, .aload_n 0, 0, 0, 0, .null), (1, 3, .invokespecial 3, 0, 0, 0, .null), (4, 1, .aload_n 0, 0, 0, 0, .null), (5, 2, .bipush 20, 0, 0, 0, .int 20), 
  (7, 2, .newarray .int, 0, 0, 0, .null), (9, 3, .putfield 9, 5, 5, 200, .null), (12, 1, .aload_n 0, 0, 0, 0, .null), (13, 3, .new 15, 0, 0, 0, .null), 
  (16, 1, .dup, 0, 0, 0, .null), (17, 3, .invokespecial 17, 0, 0, 0, .null), (20, 3, .putfield 18, 5, 6, 201, .null), (23, 1, .return_, 0, 0, 0, .null)]
theorem okX5_init : tX5_init.all (okI yX5_init.cls (decide (yX5_init.name = "<init>")) cX5_init) = true := by decide +kernel
def tX5_begin : List CI := [
  (0, 1, .aload_n 0, 0, 0, 0, .null), (1, 1, .iconst 1, 0, 0, 0, .int 1), (2, 3, .putfield 22, 5, 0, 190, .long 0), (5, 1, .aload_n 0, 0, 0, 0, .null), 
  (6, 1, .iload_n 1, 1, 0, 0, .null), (7, 3, .putfield 26, 5, 1, 192, .int 0), (10, 1, .aload_n 0, 0, 0, 0, .null), (11, 1, .iload_n 2, 2, 0, 0, .null), 
  (12, 3, .putfield 30, 5, 2, 194, .int 0), (15, 1, .aload_n 0, 0, 0, 0, .null), (16, 1, .iload_n 3, 3, 0, 0, .null), (17, 3, .putfield 33, 5, 3, 196, .int 0), 
  (20, 1, .aload_n 0, 0, 0, 0, .null), (21, 1, .iconst 0, 0, 0, 0, .int 0), (22, 3, .putfield 36, 5, 4, 198, .int 0), (25, 1, .aload_n 0, 0, 0, 0, .null), 
  (26, 3, .getfield 18, 5, 6, 201, .null), (29, 1, .iload_n 3, 3, 0, 0, .null), (30, 3, .invokestatic 39, 0, 0, 0, .null), (33, 1, .iload_n 3, 3, 0, 0, .null), 
  (34, 3, .invokevirtual 45, 0, 0, 0, .null), (37, 1, .return_, 0, 0, 0, .null)]
theorem okX5_begin : tX5_begin.all (okI yX5_begin.cls (decide (yX5_begin.name = "<init>")) cX5_begin) = true := by decide +kernel
def tX5_copyFrom : List CI := [
  (0, 1, .aload_n 0, 0, 0, 0, .null), (1, 1, .aload_n 1, 1, 0, 0, .null), (2, 3, .getfield 22, 5, 0, 190, .null), (5, 3, .putfield 22, 5, 0, 190, .long 0), 
  (8, 1, .aload_n 0, 0, 0, 0, .null), (9, 1, .aload_n 1, 1, 0, 0, .null), (10, 3, .getfield 26, 5, 1, 192, .null), (13, 3, .putfield 26, 5, 1, 192, .int 0), 
  (16, 1, .aload_n 0, 0, 0, 0, .null), (17, 1, .aload_n 1, 1, 0, 0, .null), (18, 3, .getfield 30, 5, 2, 194, .null), (21, 3, .putfield 30, 5, 2, 194, .int 0), 
  (24, 1, .aload_n 0, 0, 0, 0, .null), (25, 1, .aload_n 1, 1, 0, 0, .null), (26, 3, .getfield 33, 5, 3, 196, .null), (29, 3, .putfield 33, 5, 3, 196, .int 0), 
  (32, 1, .aload_n 0, 0, 0, 0, .null), (33, 1, .aload_n 1, 1, 0, 0, .null), (34, 3, .getfield 36, 5, 4, 198, .null), (37, 3, .putfield 36, 5, 4, 198, .int 0), 
  (40, 1, .aload_n 1, 1, 0, 0, .null), (41, 3, .getfield 9, 5, 5, 200, .null), (44, 1, .aload_n 0, 0, 0, 0, .null), (45, 3, .getfield 9, 5, 5, 200, .null), 
  (48, 3, .invokestatic 49, 0, 0, 0, .null), (51, 1, .aload_n 0, 0, 0, 0, .null), (52, 3, .getfield 18, 5, 6, 201, .null), (55, 1, .aload_n 1, 1, 0, 0, .null), 
  (56, 3, .getfield 18, 5, 6, 201, .null), (59, 3, .invokevirtual 53, 0, 0, 0, .null), (62, 1, .return_, 0, 0, 0, .null)]
theorem okX5_copyFrom : tX5_copyFrom.all (okI yX5_copyFrom.cls (decide (yX5_copyFrom.name = "<init>")) cX5_copyFrom) = true := by decide +kernel
def tX5_add : List CI := [
  (0, 1, .aload_n 0, 0, 0, 0, .null), (1, 3, .getfield 36, 5, 4, 198, .null), (4, 3, .ifCond .lt 12, 16, 0, 0, .null), (7, 1, .aload_n 0, 0, 0, 0, .null), 
  (8, 3, .getfield 36, 5, 4, 198, .null), (11, 2, .bipush 20, 0, 0, 0, .int 20), (13, 3, .if_icmp .lt 5, 18, 0, 0, .null), (16, 1, .iconst 0, 0, 0, 0, .int 0), 
  (17, 1, .ireturn, 0, 0, 0, .null), (18, 1, .aload_n 0, 0, 0, 0, .null), (19, 3, .getfield 9, 5, 5, 200, .null), (22, 1, .aload_n 0, 0, 0, 0, .null), 
  (23, 3, .getfield 36, 5, 4, 198, .null), (26, 1, .iload_n 1, 1, 0, 0, .null), (27, 1, .iastore, 0, 0, 0, .null), (28, 1, .aload_n 0, 0, 0, 0, .null), 
  (29, 1, .dup, 0, 0, 0, .null), (30, 3, .getfield 36, 5, 4, 198, .null), (33, 1, .iconst 1, 0, 0, 0, .int 1), (34, 1, .iadd, 0, 0, 0, .null), 
  (35, 3, .putfield 36, 5, 4, 198, .int 0), (38, 1, .aload_n 0, 0, 0, 0, .null), (39, 3, .getfield 18, 5, 6, 201, .null), (42, 1, .iload_n 1, 1, 0, 0, .null), 
  (43, 3, .invokevirtual 57, 0, 0, 0, .null), (46, 1, .iconst 1, 0, 0, 0, .int 1), (47, 1, .ireturn, 0, 0, 0, .null)]
theorem okX5_add : tX5_add.all (okI yX5_add.cls (decide (yX5_add.name = "<init>")) cX5_add) = true := by decide +kernel
def tX5_takeBack : List CI := [
  (0, 1, .aload_n 0, 0, 0, 0, .null), (1, 3, .getfield 36, 5, 4, 198, .null), (4, 1, .iconst 1, 0, 0, 0, .int 1), (5, 3, .if_icmp .lt 12, 17, 0, 0, .null), 
  (8, 1, .aload_n 0, 0, 0, 0, .null), (9, 3, .getfield 36, 5, 4, 198, .null), (12, 2, .bipush 20, 0, 0, 0, .int 20), (14, 3, .if_icmp .le 5, 19, 0, 0, .null), 
  (17, 1, .iconst 0, 0, 0, 0, .int 0), (18, 1, .ireturn, 0, 0, 0, .null), (19, 1, .aload_n 0, 0, 0, 0, .null), (20, 1, .dup, 0, 0, 0, .null), 
  (21, 3, .getfield 36, 5, 4, 198, .null), (24, 1, .iconst 1, 0, 0, 0, .int 1), (25, 1, .isub, 0, 0, 0, .null), (26, 3, .putfield 36, 5, 4, 198, .int 0), 
  (29, 1, .aload_n 0, 0, 0, 0, .null), (30, 3, .getfield 18, 5, 6, 201, .null), (33, 1, .aload_n 0, 0, 0, 0, .null), (34, 3, .getfield 9, 5, 5, 200, .null), 
  (37, 1, .aload_n 0, 0, 0, 0, .null), (38, 3, .getfield 36, 5, 4, 198, .null), (41, 1, .iaload, 0, 0, 0, .null), (42, 3, .invokevirtual 61, 0, 0, 0, .null), 
  (45, 1, .iconst 1, 0, 0, 0, .int 1), (46, 1, .ireturn, 0, 0, 0, .null)]
theorem okX5_takeBack : tX5_takeBack.all (okI yX5_takeBack.cls (decide (yX5_takeBack.name = "<init>")) cX5_takeBack) = true := by decide +kernel
def tX6_wagons : List CI := [
  (0, 1, .iload_n 0, 0, 0, 0, .null), (1, 1, .istore_n 1, 1, 0, 0, .null), (2, 1, .iconst 0, 0, 0, 0, .int 0), (3, 1, .istore_n 2, 2, 0, 0, .null), 
  (4, 1, .iconst 0, 0, 0, 0, .int 0), (5, 1, .istore_n 3, 3, 0, 0, .null), (6, 1, .iload_n 1, 1, 0, 0, .null), (7, 3, .ifCond .le 28, 35, 0, 0, .null), 
  (10, 1, .iload_n 3, 3, 0, 0, .null), (11, 1, .iconst 5, 0, 0, 0, .int 5), (12, 3, .if_icmp .ge 23, 35, 0, 0, .null), (15, 1, .iload_n 2, 2, 0, 0, .null), 
  (16, 1, .iconst 1, 0, 0, 0, .int 1), (17, 1, .iload_n 1, 1, 0, 0, .null), (18, 2, .bipush 10, 0, 0, 0, .int 10), (20, 1, .irem, 0, 0, 0, .null), (21, 1, .ishl, 0, 0, 0, .null), 
  (22, 1, .ior, 0, 0, 0, .null), (23, 1, .istore_n 2, 2, 0, 0, .null), (24, 1, .iload_n 1, 1, 0, 0, .null), (25, 2, .bipush 10, 0, 0, 0, .int 10), (27, 1, .idiv, 0, 0, 0, .null), 
  (28, 1, .istore_n 1, 1, 0, 0, .null), (29, 3, .iinc 3 1, 3, 0, 0, .int 1), (32, 3, .goto (-26), 6, 0, 0, .null), (35, 1, .iload_n 1, 1, 0, 0, .null), 
  (36, 3, .ifCond .ne 19, 55, 0, 0, .null), (39, 1, .iload_n 3, 3, 0, 0, .null), (40, 3, .ifCond .le 15, 55, 0, 0, .null), (43, 1, .iload_n 2, 2, 0, 0, .null), 
  (44, 1, .iload_n 3, 3, 0, 0, .null), (45, 3, .invokestatic 9, 0, 0, 0, .null), (48, 3, .if_icmp .ne 7, 55, 0, 0, .null), (51, 1, .iload_n 3, 3, 0, 0, .null), 
  (52, 3, .goto 4, 56, 0, 0, .null), (55, 1, .iconst 0, 0, 0, 0, .int 0), (56, 1, .ireturn, 0, 0, 0, .null)]
theorem okX6_wagons : tX6_wagons.all (okI yX6_wagons.cls (decide (yX6_wagons.name = "<init>")) cX6_wagons) = true := by decide +kernel
def tX6_setUpTo : List CI := [
  (0, 1, .iconst 1, 0, 0, 0, .int 1), (1, 1, .iload_n 0, 0, 0, 0, .null), (2, 1, .iconst 1, 0, 0, 0, .int 1), (3, 1, .iadd, 0, 0, 0, .null), (4, 1, .ishl, 0, 0, 0, .null), 
  (5, 1, .iconst 2, 0, 0, 0, .int 2), (6, 1, .isub, 0, 0, 0, .null), (7, 1, .ireturn, 0, 0, 0, .null)]
theorem okX6_setUpTo : tX6_setUpTo.all (okI yX6_setUpTo.cls (decide (yX6_setUpTo.name = "<init>")) cX6_setUpTo) = true := by decide +kernel
def tX6_pick : List CI := [
  (0, 1, .iconst 0, 0, 0, 0, .int 0), (1, 1, .istore_n 2, 2, 0, 0, .null), (2, 1, .iconst 1, 0, 0, 0, .int 1), (3, 1, .istore_n 3, 3, 0, 0, .null), 
  (4, 1, .iload_n 3, 3, 0, 0, .null), (5, 1, .iconst 5, 0, 0, 0, .int 5), (6, 3, .if_icmp .gt 28, 34, 0, 0, .null), (9, 1, .iload_n 0, 0, 0, 0, .null), 
  (10, 1, .iload_n 3, 3, 0, 0, .null), (11, 1, .ishr, 0, 0, 0, .null), (12, 1, .iconst 1, 0, 0, 0, .int 1), (13, 1, .iand, 0, 0, 0, .null), (14, 1, .iconst 1, 0, 0, 0, .int 1), 
  (15, 3, .if_icmp .ne 13, 28, 0, 0, .null), (18, 1, .iload_n 2, 2, 0, 0, .null), (19, 1, .iload_n 1, 1, 0, 0, .null), (20, 3, .if_icmp .ne 5, 25, 0, 0, .null), 
  (23, 1, .iload_n 3, 3, 0, 0, .null), (24, 1, .ireturn, 0, 0, 0, .null), (25, 3, .iinc 2 1, 2, 0, 0, .int 1), (28, 3, .iinc 3 1, 3, 0, 0, .int 1), 
  (31, 3, .goto (-27), 4, 0, 0, .null), (34, 1, .iconst 0, 0, 0, 0, .int 0), (35, 1, .ireturn, 0, 0, 0, .null)]
theorem okX6_pick : tX6_pick.all (okI yX6_pick.cls (decide (yX6_pick.name = "<init>")) cX6_pick) = true := by decide +kernel
def tX6_ofNumber : List CI := [
  (0, 1, .iconst 0, 0, 0, 0, .int 0), (1, 1, .istore_n 1, 1, 0, 0, .null), (2, 1, .iload_n 0, 0, 0, 0, .null), (3, 1, .istore_n 2, 2, 0, 0, .null), 
  (4, 1, .iconst 0, 0, 0, 0, .int 0), (5, 1, .istore_n 3, 3, 0, 0, .null), (6, 1, .iload_n 3, 3, 0, 0, .null), (7, 1, .iconst 5, 0, 0, 0, .int 5), 
  (8, 3, .if_icmp .ge 27, 35, 0, 0, .null), (11, 1, .iload_n 2, 2, 0, 0, .null), (12, 3, .ifCond .le 23, 35, 0, 0, .null), (15, 1, .iload_n 1, 1, 0, 0, .null), 
  (16, 1, .iconst 3, 0, 0, 0, .int 3), (17, 1, .ishl, 0, 0, 0, .null), (18, 1, .iload_n 2, 2, 0, 0, .null), (19, 2, .bipush 10, 0, 0, 0, .int 10), (21, 1, .irem, 0, 0, 0, .null), 
  (22, 1, .ior, 0, 0, 0, .null), (23, 1, .istore_n 1, 1, 0, 0, .null), (24, 1, .iload_n 2, 2, 0, 0, .null), (25, 2, .bipush 10, 0, 0, 0, .int 10), (27, 1, .idiv, 0, 0, 0, .null), 
  (28, 1, .istore_n 2, 2, 0, 0, .null), (29, 3, .iinc 3 1, 3, 0, 0, .int 1), (32, 3, .goto (-26), 6, 0, 0, .null), (35, 1, .iload_n 1, 1, 0, 0, .null), 
  (36, 1, .ireturn, 0, 0, 0, .null)]
theorem okX6_ofNumber : tX6_ofNumber.all (okI yX6_ofNumber.cls (decide (yX6_ofNumber.name = "<init>")) cX6_ofNumber) = true := by decide +kernel
def tX6_toNumber : List CI := [
  (0, 1, .iconst 0, 0, 0, 0, .int 0), (1, 1, .istore_n 1, 1, 0, 0, .null), (2, 1, .iconst 0, 0, 0, 0, .int 0), (3, 1, .istore_n 2, 2, 0, 0, .null), 
  (4, 1, .iload_n 2, 2, 0, 0, .null), (5, 1, .iconst 5, 0, 0, 0, .int 5), (6, 3, .if_icmp .ge 28, 34, 0, 0, .null), (9, 1, .iload_n 0, 0, 0, 0, .null), 
  (10, 1, .iload_n 2, 2, 0, 0, .null), (11, 3, .invokestatic 15, 0, 0, 0, .null), (14, 3, .ifCond .le 20, 34, 0, 0, .null), (17, 1, .iload_n 1, 1, 0, 0, .null), 
  (18, 2, .bipush 10, 0, 0, 0, .int 10), (20, 1, .imul, 0, 0, 0, .null), (21, 1, .iload_n 0, 0, 0, 0, .null), (22, 1, .iload_n 2, 2, 0, 0, .null), 
  (23, 3, .invokestatic 15, 0, 0, 0, .null), (26, 1, .iadd, 0, 0, 0, .null), (27, 1, .istore_n 1, 1, 0, 0, .null), (28, 3, .iinc 2 1, 2, 0, 0, .int 1), 
  (31, 3, .goto (-27), 4, 0, 0, .null), (34, 1, .iload_n 1, 1, 0, 0, .null), (35, 1, .ireturn, 0, 0, 0, .null)]
theorem okX6_toNumber : tX6_toNumber.all (okI yX6_toNumber.cls (decide (yX6_toNumber.name = "<init>")) cX6_toNumber) = true := by decide +kernel
def tX6_wagonAt : List CI := [
  (0, 1, .iload_n 1, 1, 0, 0, .null), (1, 3, .ifCond .lt 19, 20, 0, 0, .null), (4, 1, .iload_n 1, 1, 0, 0, .null), (5, 1, .iconst 5, 0, 0, 0, .int 5), 
  (6, 3, .if_icmp .ge 14, 20, 0, 0, .null), (9, 1, .iload_n 0, 0, 0, 0, .null), (10, 1, .iconst 3, 0, 0, 0, .int 3), (11, 1, .iload_n 1, 1, 0, 0, .null), 
  (12, 1, .imul, 0, 0, 0, .null), (13, 1, .ishr, 0, 0, 0, .null), (14, 2, .bipush 7, 0, 0, 0, .int 7), (16, 1, .iand, 0, 0, 0, .null), (17, 3, .goto 4, 21, 0, 0, .null), 
  (20, 1, .iconst 0, 0, 0, 0, .int 0), (21, 1, .ireturn, 0, 0, 0, .null)]
theorem okX6_wagonAt : tX6_wagonAt.all (okI yX6_wagonAt.cls (decide (yX6_wagonAt.name = "<init>")) cX6_wagonAt) = true := by decide +kernel
def tX6_placeOf : List CI := [
  (0, 1, .iconst 0, 0, 0, 0, .int 0), (1, 1, .istore_n 2, 2, 0, 0, .null), (2, 1, .iload_n 2, 2, 0, 0, .null), (3, 1, .iconst 5, 0, 0, 0, .int 5), 
  (4, 3, .if_icmp .ge 22, 26, 0, 0, .null), (7, 1, .iload_n 0, 0, 0, 0, .null), (8, 1, .iload_n 2, 2, 0, 0, .null), (9, 3, .invokestatic 15, 0, 0, 0, .null), 
  (12, 1, .iload_n 1, 1, 0, 0, .null), (13, 3, .if_icmp .ne 7, 20, 0, 0, .null), (16, 1, .iload_n 2, 2, 0, 0, .null), (17, 1, .iconst 1, 0, 0, 0, .int 1), 
  (18, 1, .iadd, 0, 0, 0, .null), (19, 1, .ireturn, 0, 0, 0, .null), (20, 3, .iinc 2 1, 2, 0, 0, .int 1), (23, 3, .goto (-21), 2, 0, 0, .null), 
  (26, 1, .iconst 0, 0, 0, 0, .int 0), (27, 1, .ireturn, 0, 0, 0, .null)]
theorem okX6_placeOf : tX6_placeOf.all (okI yX6_placeOf.cls (decide (yX6_placeOf.name = "<init>")) cX6_placeOf) = true := by decide +kernel
def tX6_upTo : List CI := [
  (0, 1, .iconst 0, 0, 0, 0, .int 0), (1, 1, .istore_n 1, 1, 0, 0, .null), (2, 1, .iconst 1, 0, 0, 0, .int 1), (3, 1, .istore_n 2, 2, 0, 0, .null), 
  (4, 1, .iload_n 2, 2, 0, 0, .null), (5, 1, .iload_n 0, 0, 0, 0, .null), (6, 3, .if_icmp .gt 24, 30, 0, 0, .null), (9, 1, .iload_n 2, 2, 0, 0, .null), 
  (10, 1, .iconst 5, 0, 0, 0, .int 5), (11, 3, .if_icmp .gt 19, 30, 0, 0, .null), (14, 1, .iload_n 1, 1, 0, 0, .null), (15, 1, .iload_n 2, 2, 0, 0, .null), 
  (16, 1, .iconst 3, 0, 0, 0, .int 3), (17, 1, .iload_n 2, 2, 0, 0, .null), (18, 1, .iconst 1, 0, 0, 0, .int 1), (19, 1, .isub, 0, 0, 0, .null), (20, 1, .imul, 0, 0, 0, .null), 
  (21, 1, .ishl, 0, 0, 0, .null), (22, 1, .ior, 0, 0, 0, .null), (23, 1, .istore_n 1, 1, 0, 0, .null), (24, 3, .iinc 2 1, 2, 0, 0, .int 1), (27, 3, .goto (-23), 4, 0, 0, .null), 
  (30, 1, .iload_n 1, 1, 0, 0, .null), (31, 1, .ireturn, 0, 0, 0, .null)]
theorem okX6_upTo : tX6_upTo.all (okI yX6_upTo.cls (decide (yX6_upTo.name = "<init>")) cX6_upTo) = true := by decide +kernel
def tX6_relative : List CI := [
  (0, 1, .iconst 0, 0, 0, 0, .int 0), (1, 1, .istore_n 3, 3, 0, 0, .null), (2, 1, .iconst 0, 0, 0, 0, .int 0), (3, 2, .istore 4, 4, 0, 0, .null), (5, 2, .iload 4, 4, 0, 0, .null), 
  (7, 1, .iload_n 2, 2, 0, 0, .null), (8, 3, .if_icmp .ge 33, 41, 0, 0, .null), (11, 2, .iload 4, 4, 0, 0, .null), (13, 1, .iconst 5, 0, 0, 0, .int 5), 
  (14, 3, .if_icmp .ge 27, 41, 0, 0, .null), (17, 1, .iload_n 3, 3, 0, 0, .null), (18, 1, .iload_n 0, 0, 0, 0, .null), (19, 1, .iload_n 1, 1, 0, 0, .null), 
  (20, 2, .iload 4, 4, 0, 0, .null), (22, 3, .invokestatic 15, 0, 0, 0, .null), (25, 3, .invokestatic 19, 0, 0, 0, .null), (28, 1, .iconst 3, 0, 0, 0, .int 3), 
  (29, 2, .iload 4, 4, 0, 0, .null), (31, 1, .imul, 0, 0, 0, .null), (32, 1, .ishl, 0, 0, 0, .null), (33, 1, .ior, 0, 0, 0, .null), (34, 1, .istore_n 3, 3, 0, 0, .null), 
  (35, 3, .iinc 4 1, 4, 0, 0, .int 1), (38, 3, .goto (-33), 5, 0, 0, .null), (41, 1, .iload_n 3, 3, 0, 0, .null), (42, 1, .ireturn, 0, 0, 0, .null)]
theorem okX6_relative : tX6_relative.all (okI yX6_relative.cls (decide (yX6_relative.name = "<init>")) cX6_relative) = true := by decide +kernel
def tX6_named : List CI := [
  (0, 1, .iconst 0, 0, 0, 0, .int 0), (1, 1, .istore_n 2, 2, 0, 0, .null), (2, 1, .iconst 0, 0, 0, 0, .int 0), (3, 1, .istore_n 3, 3, 0, 0, .null), 
  (4, 1, .iload_n 3, 3, 0, 0, .null), (5, 1, .iconst 5, 0, 0, 0, .int 5), (6, 3, .if_icmp .ge 35, 41, 0, 0, .null), (9, 1, .iload_n 0, 0, 0, 0, .null), 
  (10, 1, .iload_n 3, 3, 0, 0, .null), (11, 3, .invokestatic 15, 0, 0, 0, .null), (14, 3, .ifCond .le 27, 41, 0, 0, .null), (17, 1, .iload_n 2, 2, 0, 0, .null), 
  (18, 1, .iload_n 1, 1, 0, 0, .null), (19, 1, .iload_n 0, 0, 0, 0, .null), (20, 1, .iload_n 3, 3, 0, 0, .null), (21, 3, .invokestatic 15, 0, 0, 0, .null), 
  (24, 1, .iconst 1, 0, 0, 0, .int 1), (25, 1, .isub, 0, 0, 0, .null), (26, 3, .invokestatic 15, 0, 0, 0, .null), (29, 1, .iconst 3, 0, 0, 0, .int 3), 
  (30, 1, .iload_n 3, 3, 0, 0, .null), (31, 1, .imul, 0, 0, 0, .null), (32, 1, .ishl, 0, 0, 0, .null), (33, 1, .ior, 0, 0, 0, .null), (34, 1, .istore_n 2, 2, 0, 0, .null), 
  (35, 3, .iinc 3 1, 3, 0, 0, .int 1), (38, 3, .goto (-34), 4, 0, 0, .null), (41, 1, .iload_n 2, 2, 0, 0, .null), (42, 1, .ireturn, 0, 0, 0, .null)]
theorem okX6_named : tX6_named.all (okI yX6_named.cls (decide (yX6_named.name = "<init>")) cX6_named) = true := by decide +kernel
def tX6_factorial : List CI := [
  (0, 1, .iconst 1, 0, 0, 0, .int 1), (1, 1, .istore_n 1, 1, 0, 0, .null), (2, 1, .iconst 2, 0, 0, 0, .int 2), (3, 1, .istore_n 2, 2, 0, 0, .null), 
  (4, 1, .iload_n 2, 2, 0, 0, .null), (5, 1, .iload_n 0, 0, 0, 0, .null), (6, 3, .if_icmp .gt 18, 24, 0, 0, .null), (9, 1, .iload_n 2, 2, 0, 0, .null), 
  (10, 1, .iconst 5, 0, 0, 0, .int 5), (11, 3, .if_icmp .gt 13, 24, 0, 0, .null), (14, 1, .iload_n 1, 1, 0, 0, .null), (15, 1, .iload_n 2, 2, 0, 0, .null), 
  (16, 1, .imul, 0, 0, 0, .null), (17, 1, .istore_n 1, 1, 0, 0, .null), (18, 3, .iinc 2 1, 2, 0, 0, .int 1), (21, 3, .goto (-17), 4, 0, 0, .null), 
  (24, 1, .iload_n 1, 1, 0, 0, .null), (25, 1, .ireturn, 0, 0, 0, .null)]
theorem okX6_factorial : tX6_factorial.all (okI yX6_factorial.cls (decide (yX6_factorial.name = "<init>")) cX6_factorial) = true := by decide +kernel
def tX6_rankOf : List CI := [
  (0, 1, .iconst 0, 0, 0, 0, .int 0), (1, 1, .istore_n 2, 2, 0, 0, .null), (2, 1, .iload_n 0, 0, 0, 0, .null), (3, 1, .istore_n 3, 3, 0, 0, .null), 
  (4, 1, .iload_n 1, 1, 0, 0, .null), (5, 3, .invokestatic 9, 0, 0, 0, .null), (8, 2, .istore 4, 4, 0, 0, .null), (10, 1, .iconst 0, 0, 0, 0, .int 0), 
  (11, 2, .istore 5, 5, 0, 0, .null), (13, 2, .iload 5, 5, 0, 0, .null), (15, 1, .iload_n 1, 1, 0, 0, .null), (16, 3, .if_icmp .ge 56, 72, 0, 0, .null), 
  (19, 2, .iload 5, 5, 0, 0, .null), (21, 1, .iconst 5, 0, 0, 0, .int 5), (22, 3, .if_icmp .ge 50, 72, 0, 0, .null), (25, 1, .iload_n 3, 3, 0, 0, .null), 
  (26, 2, .bipush 7, 0, 0, 0, .int 7), (28, 1, .iand, 0, 0, 0, .null), (29, 2, .istore 6, 6, 0, 0, .null), (31, 1, .iload_n 3, 3, 0, 0, .null), 
  (32, 1, .iconst 3, 0, 0, 0, .int 3), (33, 1, .ishr, 0, 0, 0, .null), (34, 1, .istore_n 3, 3, 0, 0, .null), (35, 2, .iload 4, 4, 0, 0, .null), 
  (37, 1, .iconst 1, 0, 0, 0, .int 1), (38, 2, .iload 6, 6, 0, 0, .null), (40, 1, .ishl, 0, 0, 0, .null), (41, 1, .iconst (-1), 0, 0, 0, .int (-1)), 
  (42, 1, .ixor, 0, 0, 0, .null), (43, 1, .iand, 0, 0, 0, .null), (44, 2, .istore 4, 4, 0, 0, .null), (46, 1, .iload_n 2, 2, 0, 0, .null), (47, 1, .iload_n 1, 1, 0, 0, .null), 
  (48, 2, .iload 5, 5, 0, 0, .null), (50, 1, .isub, 0, 0, 0, .null), (51, 1, .imul, 0, 0, 0, .null), (52, 2, .iload 4, 4, 0, 0, .null), (54, 1, .iconst 1, 0, 0, 0, .int 1), 
  (55, 2, .iload 6, 6, 0, 0, .null), (57, 1, .ishl, 0, 0, 0, .null), (58, 1, .iconst 1, 0, 0, 0, .int 1), (59, 1, .isub, 0, 0, 0, .null), (60, 1, .iand, 0, 0, 0, .null), 
  (61, 3, .invokestatic 22, 0, 0, 0, .null), (64, 1, .iadd, 0, 0, 0, .null), (65, 1, .istore_n 2, 2, 0, 0, .null), (66, 3, .iinc 5 1, 5, 0, 0, .int 1), 
  (69, 3, .goto (-56), 13, 0, 0, .null), (72, 1, .iload_n 2, 2, 0, 0, .null), (73, 1, .ireturn, 0, 0, 0, .null)]
theorem okX6_rankOf : tX6_rankOf.all (okI yX6_rankOf.cls (decide (yX6_rankOf.name = "<init>")) cX6_rankOf) = true := by decide +kernel
def tX6_ofRank : List CI := [
  (0, 1, .iconst 0, 0, 0, 0, .int 0), (1, 1, .istore_n 2, 2, 0, 0, .null), (2, 1, .iload_n 1, 1, 0, 0, .null), (3, 3, .invokestatic 9, 0, 0, 0, .null), 
  (6, 1, .istore_n 3, 3, 0, 0, .null), (7, 1, .iload_n 0, 0, 0, 0, .null), (8, 2, .istore 4, 4, 0, 0, .null), (10, 1, .iconst 0, 0, 0, 0, .int 0), 
  (11, 2, .istore 5, 5, 0, 0, .null), (13, 2, .iload 5, 5, 0, 0, .null), (15, 1, .iload_n 1, 1, 0, 0, .null), (16, 3, .if_icmp .ge 67, 83, 0, 0, .null), 
  (19, 2, .iload 5, 5, 0, 0, .null), (21, 1, .iconst 5, 0, 0, 0, .int 5), (22, 3, .if_icmp .ge 61, 83, 0, 0, .null), (25, 1, .iconst 1, 0, 0, 0, .int 1), 
  (26, 1, .iload_n 1, 1, 0, 0, .null), (27, 1, .iconst 1, 0, 0, 0, .int 1), (28, 1, .isub, 0, 0, 0, .null), (29, 2, .iload 5, 5, 0, 0, .null), (31, 1, .isub, 0, 0, 0, .null), 
  (32, 3, .invokestatic 27, 0, 0, 0, .null), (35, 3, .invokestatic 30, 0, 0, 0, .null), (38, 2, .istore 6, 6, 0, 0, .null), (40, 1, .iload_n 3, 3, 0, 0, .null), 
  (41, 2, .iload 4, 4, 0, 0, .null), (43, 2, .iload 6, 6, 0, 0, .null), (45, 1, .idiv, 0, 0, 0, .null), (46, 3, .invokestatic 35, 0, 0, 0, .null), 
  (49, 2, .istore 7, 7, 0, 0, .null), (51, 2, .iload 4, 4, 0, 0, .null), (53, 2, .iload 6, 6, 0, 0, .null), (55, 1, .irem, 0, 0, 0, .null), (56, 2, .istore 4, 4, 0, 0, .null), 
  (58, 1, .iload_n 3, 3, 0, 0, .null), (59, 1, .iconst 1, 0, 0, 0, .int 1), (60, 2, .iload 7, 7, 0, 0, .null), (62, 1, .ishl, 0, 0, 0, .null), 
  (63, 1, .iconst (-1), 0, 0, 0, .int (-1)), (64, 1, .ixor, 0, 0, 0, .null), (65, 1, .iand, 0, 0, 0, .null), (66, 1, .istore_n 3, 3, 0, 0, .null), 
  (67, 1, .iload_n 2, 2, 0, 0, .null), (68, 2, .iload 7, 7, 0, 0, .null), (70, 1, .iconst 3, 0, 0, 0, .int 3), (71, 2, .iload 5, 5, 0, 0, .null), (73, 1, .imul, 0, 0, 0, .null), 
  (74, 1, .ishl, 0, 0, 0, .null), (75, 1, .ior, 0, 0, 0, .null), (76, 1, .istore_n 2, 2, 0, 0, .null), (77, 3, .iinc 5 1, 5, 0, 0, .int 1), (80, 3, .goto (-67), 13, 0, 0, .null), 
  (83, 1, .iload_n 2, 2, 0, 0, .null), (84, 1, .ireturn, 0, 0, 0, .null)]
theorem okX6_ofRank : tX6_ofRank.all (okI yX6_ofRank.cls (decide (yX6_ofRank.name = "<init>")) cX6_ofRank) = true := by decide +kernel
def tX7_init : List CI := [
  (0, 1, .aload_n 0, 0, 0, 0, .null), (1, 3, .invokespecial 3, 0, 0, 0, .null), (4, 1, .aload_n 0, 0, 0, 0, .null), (5, 3, .sipush 17046, 0, 0, 0, .int 17046), 
  (8, 2, .newarray .int, 0, 0, 0, .null), (10, 3, .putfield 9, 6, 0, 265, .null), (13, 1, .aload_n 0, 0, 0, 0, .null), (14, 3, .new 15, 0, 0, 0, .null), 
  (17, 1, .dup, 0, 0, 0, .null), (18, 3, .invokespecial 17, 0, 0, 0, .null), (21, 3, .putfield 18, 6, 1, 266, .null), (24, 1, .aload_n 0, 0, 0, 0, .null), 
  (25, 1, .aload_n 1, 1, 0, 0, .null), (26, 3, .putfield 22, 6, 3, 268, .ref 0), (29, 1, .return_, 0, 0, 0, .null)]
theorem okX7_init : tX7_init.all (okI yX7_init.cls (decide (yX7_init.name = "<init>")) cX7_init) = true := by decide +kernel
def tX7_aim : List CI := [
  (0, 1, .iload_n 2, 2, 0, 0, .null), (1, 1, .aload_n 0, 0, 0, 0, .null), (2, 3, .getfield 26, 6, 4, 269, .null), (5, 3, .if_icmp .ne 11, 16, 0, 0, .null), 
  (8, 1, .iload_n 3, 3, 0, 0, .null), (9, 1, .aload_n 0, 0, 0, 0, .null), (10, 3, .getfield 30, 6, 5, 270, .null), (13, 3, .if_icmp .eq 13, 26, 0, 0, .null), 
  (16, 1, .aload_n 0, 0, 0, 0, .null), (17, 1, .dup, 0, 0, 0, .null), (18, 3, .getfield 33, 6, 2, 267, .null), (21, 1, .iconst 1, 0, 0, 0, .int 1), (22, 1, .iadd, 0, 0, 0, .null), 
  (23, 3, .putfield 33, 6, 2, 267, .int 0), (26, 1, .aload_n 0, 0, 0, 0, .null), (27, 1, .aload_n 1, 1, 0, 0, .null), (28, 3, .putfield 22, 6, 3, 268, .ref 0), 
  (31, 1, .aload_n 0, 0, 0, 0, .null), (32, 1, .iload_n 2, 2, 0, 0, .null), (33, 3, .putfield 26, 6, 4, 269, .int 0), (36, 1, .aload_n 0, 0, 0, 0, .null), 
  (37, 1, .iload_n 3, 3, 0, 0, .null), (38, 3, .putfield 30, 6, 5, 270, .int 0), (41, 1, .return_, 0, 0, 0, .null)]
theorem okX7_aim : tX7_aim.all (okI yX7_aim.cls (decide (yX7_aim.name = "<init>")) cX7_aim) = true := by decide +kernel
def tX7_forget : List CI := [
  (0, 1, .aload_n 0, 0, 0, 0, .null), (1, 1, .iconst 0, 0, 0, 0, .int 0), (2, 3, .putfield 26, 6, 4, 269, .int 0), (5, 1, .aload_n 0, 0, 0, 0, .null), 
  (6, 1, .iconst 0, 0, 0, 0, .int 0), (7, 3, .putfield 30, 6, 5, 270, .int 0), (10, 1, .return_, 0, 0, 0, .null)]
theorem okX7_forget : tX7_forget.all (okI yX7_forget.cls (decide (yX7_forget.name = "<init>")) cX7_forget) = true := by decide +kernel
def tX7_comesOut : List CI := [
  (0, 1, .aload_n 0, 0, 0, 0, .null), (1, 3, .getfield 18, 6, 1, 266, .null), (4, 1, .aload_n 0, 0, 0, 0, .null), (5, 3, .getfield 26, 6, 4, 269, .null), 
  (8, 3, .invokestatic 36, 0, 0, 0, .null), (11, 1, .aload_n 0, 0, 0, 0, .null), (12, 3, .getfield 26, 6, 4, 269, .null), (15, 3, .invokevirtual 42, 0, 0, 0, .null), 
  (18, 1, .aload_n 0, 0, 0, 0, .null), (19, 1, .iconst 0, 0, 0, 0, .int 0), (20, 3, .invokestatic 46, 0, 0, 0, .null), (23, 3, .ifCond .lt 7, 30, 0, 0, .null), 
  (26, 1, .iconst 1, 0, 0, 0, .int 1), (27, 3, .goto 4, 31, 0, 0, .null), (30, 1, .iconst 0, 0, 0, 0, .int 0), (31, 1, .ireturn, 0, 0, 0, .null)]
theorem okX7_comesOut : tX7_comesOut.all (okI yX7_comesOut.cls (decide (yX7_comesOut.name = "<init>")) cX7_comesOut) = true := by decide +kernel
def tX7_restFrom : List CI := [
  (0, 1, .aload_n 0, 0, 0, 0, .null), (1, 3, .getfield 18, 6, 1, 266, .null), (4, 1, .aload_n 1, 1, 0, 0, .null), (5, 3, .invokevirtual 50, 0, 0, 0, .null), 
  (8, 1, .aload_n 0, 0, 0, 0, .null), (9, 1, .iconst 0, 0, 0, 0, .int 0), (10, 3, .invokestatic 46, 0, 0, 0, .null), (13, 1, .ireturn, 0, 0, 0, .null)]
theorem okX7_restFrom : tX7_restFrom.all (okI yX7_restFrom.cls (decide (yX7_restFrom.name = "<init>")) cX7_restFrom) = true := by decide +kernel
def tX7_nextFrom : List CI := [
  (0, 1, .aload_n 0, 0, 0, 0, .null), (1, 3, .getfield 18, 6, 1, 266, .null), (4, 1, .aload_n 1, 1, 0, 0, .null), (5, 3, .invokevirtual 50, 0, 0, 0, .null), 
  (8, 1, .aload_n 0, 0, 0, 0, .null), (9, 3, .invokevirtual 54, 0, 0, 0, .null), (12, 1, .ireturn, 0, 0, 0, .null)]
theorem okX7_nextFrom : tX7_nextFrom.all (okI yX7_nextFrom.cls (decide (yX7_nextFrom.name = "<init>")) cX7_nextFrom) = true := by decide +kernel
def tX7_firstRow : List CI := [
  (0, 1, .aload_n 0, 0, 0, 0, .null), (1, 3, .getfield 18, 6, 1, 266, .null), (4, 1, .aload_n 0, 0, 0, 0, .null), (5, 3, .getfield 26, 6, 4, 269, .null), 
  (8, 3, .invokestatic 36, 0, 0, 0, .null), (11, 1, .aload_n 0, 0, 0, 0, .null), (12, 3, .getfield 26, 6, 4, 269, .null), (15, 3, .invokevirtual 42, 0, 0, 0, .null), 
  (18, 1, .aload_n 0, 0, 0, 0, .null), (19, 3, .invokevirtual 54, 0, 0, 0, .null), (22, 1, .istore_n 2, 2, 0, 0, .null), (23, 1, .iconst 0, 0, 0, 0, .int 0), 
  (24, 1, .istore_n 3, 3, 0, 0, .null), (25, 1, .iload_n 3, 3, 0, 0, .null), (26, 1, .iload_n 1, 1, 0, 0, .null), (27, 3, .if_icmp .ge 34, 61, 0, 0, .null), 
  (30, 1, .iload_n 3, 3, 0, 0, .null), (31, 2, .bipush 20, 0, 0, 0, .int 20), (33, 3, .if_icmp .ge 28, 61, 0, 0, .null), (36, 1, .iload_n 2, 2, 0, 0, .null), 
  (37, 2, .bipush (-6), 0, 0, 0, .int (-6)), (39, 3, .if_icmp .eq 22, 61, 0, 0, .null), (42, 1, .aload_n 0, 0, 0, 0, .null), (43, 3, .getfield 18, 6, 1, 266, .null), 
  (46, 1, .iload_n 2, 2, 0, 0, .null), (47, 3, .invokevirtual 58, 0, 0, 0, .null), (50, 1, .aload_n 0, 0, 0, 0, .null), (51, 3, .invokevirtual 54, 0, 0, 0, .null), 
  (54, 1, .istore_n 2, 2, 0, 0, .null), (55, 3, .iinc 3 1, 3, 0, 0, .int 1), (58, 3, .goto (-33), 25, 0, 0, .null), (61, 1, .iload_n 2, 2, 0, 0, .null), 
  (62, 1, .ireturn, 0, 0, 0, .null)]
theorem okX7_firstRow : tX7_firstRow.all (okI yX7_firstRow.cls (decide (yX7_firstRow.name = "<init>")) cX7_firstRow) = true := by decide +kernel
def tX7_fits : List CI := [
  (0, 1, .aload_n 0, 0, 0, 0, .null), (1, 3, .getfield 18, 6, 1, 266, .null), (4, 1, .aload_n 0, 0, 0, 0, .null), (5, 3, .getfield 22, 6, 3, 268, .null), 
  (8, 1, .iload_n 1, 1, 0, 0, .null), (9, 3, .invokevirtual 62, 0, 0, 0, .null), (12, 3, .ifCond .ne 5, 17, 0, 0, .null), (15, 1, .iconst 0, 0, 0, 0, .int 0), 
  (16, 1, .ireturn, 0, 0, 0, .null), (17, 1, .iload_n 1, 1, 0, 0, .null), (18, 2, .bipush 10, 0, 0, 0, .int 10), (20, 1, .idiv, 0, 0, 0, .null), 
  (21, 2, .bipush 10, 0, 0, 0, .int 10), (23, 1, .irem, 0, 0, 0, .null), (24, 1, .iconst 5, 0, 0, 0, .int 5), (25, 3, .if_icmp .ne 29, 54, 0, 0, .null), 
  (28, 1, .aload_n 0, 0, 0, 0, .null), (29, 3, .getfield 18, 6, 1, 266, .null), (32, 1, .iload_n 1, 1, 0, 0, .null), (33, 3, .invokevirtual 66, 0, 0, 0, .null), 
  (36, 1, .aload_n 0, 0, 0, 0, .null), (37, 3, .getfield 30, 6, 5, 270, .null), (40, 1, .aload_n 0, 0, 0, 0, .null), (41, 3, .getfield 18, 6, 1, 266, .null), 
  (44, 1, .iconst 5, 0, 0, 0, .int 5), (45, 3, .invokevirtual 69, 0, 0, 0, .null), (48, 3, .invokestatic 72, 0, 0, 0, .null), (51, 3, .if_icmp .ne 7, 58, 0, 0, .null), 
  (54, 1, .iconst 1, 0, 0, 0, .int 1), (55, 3, .goto 4, 59, 0, 0, .null), (58, 1, .iconst 0, 0, 0, 0, .int 0), (59, 1, .ireturn, 0, 0, 0, .null)]
theorem okX7_fits : tX7_fits.all (okI yX7_fits.cls (decide (yX7_fits.name = "<init>")) cX7_fits) = true := by decide +kernel
def tX7_isAstray : List CI := [
  (0, 1, .aload_n 0, 0, 0, 0, .null), (1, 3, .getfield 18, 6, 1, 266, .null), (4, 1, .iconst 5, 0, 0, 0, .int 5), (5, 3, .invokevirtual 69, 0, 0, 0, .null), 
  (8, 1, .istore_n 1, 1, 0, 0, .null), (9, 1, .aload_n 0, 0, 0, 0, .null), (10, 3, .getfield 18, 6, 1, 266, .null), (13, 1, .iconst 5, 0, 0, 0, .int 5), 
  (14, 3, .invokevirtual 76, 0, 0, 0, .null), (17, 1, .aload_n 0, 0, 0, 0, .null), (18, 3, .getfield 30, 6, 5, 270, .null), (21, 1, .iconst 1, 0, 0, 0, .int 1), 
  (22, 1, .iconst 3, 0, 0, 0, .int 3), (23, 1, .iload_n 1, 1, 0, 0, .null), (24, 1, .imul, 0, 0, 0, .null), (25, 1, .ishl, 0, 0, 0, .null), (26, 1, .iconst 1, 0, 0, 0, .int 1), 
  (27, 1, .isub, 0, 0, 0, .null), (28, 1, .iand, 0, 0, 0, .null), (29, 3, .if_icmp .eq 7, 36, 0, 0, .null), (32, 1, .iconst 1, 0, 0, 0, .int 1), (33, 3, .goto 4, 37, 0, 0, .null), 
  (36, 1, .iconst 0, 0, 0, 0, .int 0), (37, 1, .ireturn, 0, 0, 0, .null)]
theorem okX7_isAstray : tX7_isAstray.all (okI yX7_isAstray.cls (decide (yX7_isAstray.name = "<init>")) cX7_isAstray) = true := by decide +kernel
def tX7_bestMove : List CI := [
  (0, 1, .aload_n 0, 0, 0, 0, .null), (1, 1, .iconst 0, 0, 0, 0, .int 0), (2, 3, .invokestatic 46, 0, 0, 0, .null), (5, 1, .istore_n 1, 1, 0, 0, .null), 
  (6, 1, .iload_n 1, 1, 0, 0, .null), (7, 1, .iconst 1, 0, 0, 0, .int 1), (8, 3, .if_icmp .ge 6, 14, 0, 0, .null), (11, 2, .bipush (-6), 0, 0, 0, .int (-6)), 
  (13, 1, .ireturn, 0, 0, 0, .null), (14, 1, .iconst 0, 0, 0, 0, .int 0), (15, 1, .istore_n 2, 2, 0, 0, .null), (16, 1, .iload_n 2, 2, 0, 0, .null), 
  (17, 1, .aload_n 0, 0, 0, 0, .null), (18, 3, .getfield 22, 6, 3, 268, .null), (21, 3, .getfield 79, 9, 2, 144, .null), (24, 3, .if_icmp .ge 59, 83, 0, 0, .null), 
  (27, 1, .aload_n 0, 0, 0, 0, .null), (28, 3, .getfield 22, 6, 3, 268, .null), (31, 1, .iload_n 2, 2, 0, 0, .null), (32, 3, .invokevirtual 84, 0, 0, 0, .null), 
  (35, 1, .istore_n 3, 3, 0, 0, .null), (36, 1, .aload_n 0, 0, 0, 0, .null), (37, 1, .iload_n 3, 3, 0, 0, .null), (38, 3, .invokevirtual 87, 0, 0, 0, .null), 
  (41, 3, .ifCond .eq 36, 77, 0, 0, .null), (44, 1, .aload_n 0, 0, 0, 0, .null), (45, 3, .getfield 18, 6, 1, 266, .null), (48, 1, .iload_n 3, 3, 0, 0, .null), 
  (49, 3, .invokevirtual 58, 0, 0, 0, .null), (52, 1, .aload_n 0, 0, 0, 0, .null), (53, 1, .iconst 1, 0, 0, 0, .int 1), (54, 3, .invokestatic 46, 0, 0, 0, .null), 
  (57, 2, .istore 4, 4, 0, 0, .null), (59, 1, .aload_n 0, 0, 0, 0, .null), (60, 3, .getfield 18, 6, 1, 266, .null), (63, 1, .iload_n 3, 3, 0, 0, .null), 
  (64, 3, .invokevirtual 91, 0, 0, 0, .null), (67, 2, .iload 4, 4, 0, 0, .null), (69, 1, .iload_n 1, 1, 0, 0, .null), (70, 1, .iconst 1, 0, 0, 0, .int 1), 
  (71, 1, .isub, 0, 0, 0, .null), (72, 3, .if_icmp .ne 5, 77, 0, 0, .null), (75, 1, .iload_n 3, 3, 0, 0, .null), (76, 1, .ireturn, 0, 0, 0, .null), 
  (77, 3, .iinc 2 1, 2, 0, 0, .int 1), (80, 3, .goto (-64), 16, 0, 0, .null), (83, 2, .bipush (-6), 0, 0, 0, .int (-6)), (85, 1, .ireturn, 0, 0, 0, .null)]
theorem okX7_bestMove : tX7_bestMove.all (okI yX7_bestMove.cls (decide (yX7_bestMove.name = "<init>")) cX7_bestMove) = true := by decide +kernel
def tX7_remaining : List CI := [
  (0, 1, .aload_n 0, 0, 0, 0, .null), (1, 3, .getfield 18, 6, 1, 266, .null), (4, 1, .aload_n 0, 0, 0, 0, .null), (5, 3, .getfield 22, 6, 3, 268, .null), 
  (8, 3, .getfield 94, 9, 0, 137, .null), (11, 3, .invokevirtual 97, 0, 0, 0, .null), (14, 1, .istore_n 2, 2, 0, 0, .null), (15, 1, .iload_n 1, 1, 0, 0, .null), 
  (16, 2, .bipush 20, 0, 0, 0, .int 20), (18, 3, .if_icmp .gt 21, 39, 0, 0, .null), (21, 1, .iload_n 2, 2, 0, 0, .null), (22, 3, .ifCond .lt 17, 39, 0, 0, .null), 
  (25, 1, .iload_n 2, 2, 0, 0, .null), (26, 3, .sipush 17046, 0, 0, 0, .int 17046), (29, 3, .if_icmp .ge 10, 39, 0, 0, .null), (32, 1, .aload_n 0, 0, 0, 0, .null), 
  (33, 3, .invokevirtual 100, 0, 0, 0, .null), (36, 3, .ifCond .eq 5, 41, 0, 0, .null), (39, 1, .iconst (-1), 0, 0, 0, .int (-1)), (40, 1, .ireturn, 0, 0, 0, .null), 
  (41, 1, .aload_n 0, 0, 0, 0, .null), (42, 3, .getfield 18, 6, 1, 266, .null), (45, 1, .iconst 5, 0, 0, 0, .int 5), (46, 3, .invokevirtual 69, 0, 0, 0, .null), 
  (49, 1, .aload_n 0, 0, 0, 0, .null), (50, 3, .getfield 26, 6, 4, 269, .null), (53, 3, .if_icmp .ne 5, 58, 0, 0, .null), (56, 1, .iconst 0, 0, 0, 0, .int 0), 
  (57, 1, .ireturn, 0, 0, 0, .null), (58, 1, .aload_n 0, 0, 0, 0, .null), (59, 3, .getfield 9, 6, 0, 265, .null), (62, 1, .iload_n 2, 2, 0, 0, .null), 
  (63, 1, .iaload, 0, 0, 0, .null), (64, 2, .bipush 32, 0, 0, 0, .int 32), (66, 1, .aload_n 0, 0, 0, 0, .null), (67, 3, .getfield 33, 6, 2, 267, .null), 
  (70, 1, .imul, 0, 0, 0, .null), (71, 1, .isub, 0, 0, 0, .null), (72, 1, .istore_n 3, 3, 0, 0, .null), (73, 1, .iload_n 3, 3, 0, 0, .null), 
  (74, 3, .ifCond .lt 7, 81, 0, 0, .null), (77, 1, .iload_n 3, 3, 0, 0, .null), (78, 1, .iconst 1, 0, 0, 0, .int 1), (79, 1, .isub, 0, 0, 0, .null), 
  (80, 1, .ireturn, 0, 0, 0, .null), (81, 1, .iconst (-1), 0, 0, 0, .int (-1)), (82, 2, .istore 4, 4, 0, 0, .null), (84, 1, .iconst 0, 0, 0, 0, .int 0), 
  (85, 2, .istore 5, 5, 0, 0, .null), (87, 2, .iload 5, 5, 0, 0, .null), (89, 1, .aload_n 0, 0, 0, 0, .null), (90, 3, .getfield 22, 6, 3, 268, .null), 
  (93, 3, .getfield 79, 9, 2, 144, .null), (96, 3, .if_icmp .ge 81, 177, 0, 0, .null), (99, 1, .aload_n 0, 0, 0, 0, .null), (100, 3, .getfield 22, 6, 3, 268, .null), 
  (103, 2, .iload 5, 5, 0, 0, .null), (105, 3, .invokevirtual 84, 0, 0, 0, .null), (108, 2, .istore 6, 6, 0, 0, .null), (110, 1, .aload_n 0, 0, 0, 0, .null), 
  (111, 2, .iload 6, 6, 0, 0, .null), (113, 3, .invokevirtual 87, 0, 0, 0, .null), (116, 3, .ifCond .eq 55, 171, 0, 0, .null), (119, 1, .aload_n 0, 0, 0, 0, .null), 
  (120, 3, .getfield 18, 6, 1, 266, .null), (123, 2, .iload 6, 6, 0, 0, .null), (125, 3, .invokevirtual 58, 0, 0, 0, .null), (128, 1, .aload_n 0, 0, 0, 0, .null), 
  (129, 1, .iload_n 1, 1, 0, 0, .null), (130, 1, .iconst 1, 0, 0, 0, .int 1), (131, 1, .iadd, 0, 0, 0, .null), (132, 3, .invokestatic 46, 0, 0, 0, .null), 
  (135, 2, .istore 7, 7, 0, 0, .null), (137, 1, .aload_n 0, 0, 0, 0, .null), (138, 3, .getfield 18, 6, 1, 266, .null), (141, 2, .iload 6, 6, 0, 0, .null), 
  (143, 3, .invokevirtual 91, 0, 0, 0, .null), (146, 2, .iload 7, 7, 0, 0, .null), (148, 3, .ifCond .lt 23, 171, 0, 0, .null), (151, 2, .iload 4, 4, 0, 0, .null), 
  (153, 3, .ifCond .lt 12, 165, 0, 0, .null), (156, 2, .iload 7, 7, 0, 0, .null), (158, 1, .iconst 1, 0, 0, 0, .int 1), (159, 1, .iadd, 0, 0, 0, .null), 
  (160, 2, .iload 4, 4, 0, 0, .null), (162, 3, .if_icmp .ge 9, 171, 0, 0, .null), (165, 2, .iload 7, 7, 0, 0, .null), (167, 1, .iconst 1, 0, 0, 0, .int 1), 
  (168, 1, .iadd, 0, 0, 0, .null), (169, 2, .istore 4, 4, 0, 0, .null), (171, 3, .iinc 5 1, 5, 0, 0, .int 1), (174, 3, .goto (-87), 87, 0, 0, .null), 
  (177, 1, .aload_n 0, 0, 0, 0, .null), (178, 3, .getfield 9, 6, 0, 265, .null), (181, 1, .iload_n 2, 2, 0, 0, .null), (182, 2, .bipush 32, 0, 0, 0, .int 32), 
  (184, 1, .aload_n 0, 0, 0, 0, .null), (185, 3, .getfield 33, 6, 2, 267, .null), (188, 1, .imul, 0, 0, 0, .null), (189, 2, .iload 4, 4, 0, 0, .null), 
  (191, 1, .iadd, 0, 0, 0, .null), (192, 1, .iconst 1, 0, 0, 0, .int 1), (193, 1, .iadd, 0, 0, 0, .null), (194, 1, .iastore, 0, 0, 0, .null), (195, 2, .iload 4, 4, 0, 0, .null), 
  (197, 1, .ireturn, 0, 0, 0, .null)]
theorem okX7_remaining : tX7_remaining.all (okI yX7_remaining.cls (decide (yX7_remaining.name = "<init>")) cX7_remaining) = true := by decide +kernel
def tX8_init : List CI := [
  (0, 1, .aload_n 0, 0, 0, 0, .null), (1, 3, .invokespecial 3, 0, 0, 0, .null), (4, 1, .aload_n 0, 0, 0, 0, .null), (5, 3, .sipush 17046, 0, 0, 0, .int 17046), 
  (8, 2, .newarray .byte, 0, 0, 0, .null), (10, 3, .putfield 9, 7, 0, 247, .null), (13, 1, .aload_n 0, 0, 0, 0, .null), (14, 3, .sipush 17046, 0, 0, 0, .int 17046), 
  (17, 2, .newarray .long, 0, 0, 0, .null), (19, 3, .putfield 15, 7, 1, 248, .null), (22, 1, .aload_n 0, 0, 0, 0, .null), (23, 3, .new 19, 0, 0, 0, .null), 
  (26, 1, .dup, 0, 0, 0, .null), (27, 3, .invokespecial 21, 0, 0, 0, .null), (30, 3, .putfield 22, 7, 2, 249, .null), (33, 1, .return_, 0, 0, 0, .null)]
theorem okX8_init : tX8_init.all (okI yX8_init.cls (decide (yX8_init.name = "<init>")) cX8_init) = true := by decide +kernel
def tX8_fill : List CI := [
  (0, 1, .iload_n 2, 2, 0, 0, .null), (1, 1, .iconst 1, 0, 0, 0, .int 1), (2, 3, .if_icmp .lt 19, 21, 0, 0, .null), (5, 1, .iload_n 2, 2, 0, 0, .null), 
  (6, 1, .iconst 5, 0, 0, 0, .int 5), (7, 3, .if_icmp .gt 14, 21, 0, 0, .null), (10, 1, .aload_n 1, 1, 0, 0, .null), (11, 3, .getfield 26, 9, 8, 152, .null), 
  (14, 1, .iload_n 2, 2, 0, 0, .null), (15, 3, .invokevirtual 32, 0, 0, 0, .null), (18, 3, .ifCond .eq 4, 22, 0, 0, .null), (21, 1, .return_, 0, 0, 0, .null), 
  (22, 3, .sipush 17046, 0, 0, 0, .int 17046), (25, 1, .iload_n 2, 2, 0, 0, .null), (26, 1, .aload_n 1, 1, 0, 0, .null), (27, 3, .getfield 38, 9, 0, 135, .null), 
  (30, 3, .invokestatic 42, 0, 0, 0, .null), (33, 3, .invokestatic 46, 0, 0, 0, .null), (36, 1, .istore_n 3, 3, 0, 0, .null), (37, 1, .iconst 0, 0, 0, 0, .int 0), 
  (38, 2, .istore 4, 4, 0, 0, .null), (40, 2, .iload 4, 4, 0, 0, .null), (42, 1, .iload_n 3, 3, 0, 0, .null), (43, 3, .if_icmp .ge 25, 68, 0, 0, .null), 
  (46, 1, .aload_n 0, 0, 0, 0, .null), (47, 3, .getfield 9, 7, 0, 247, .null), (50, 2, .iload 4, 4, 0, 0, .null), (52, 1, .iconst 0, 0, 0, 0, .int 0), 
  (53, 1, .bastore, 0, 0, 0, .null), (54, 1, .aload_n 0, 0, 0, 0, .null), (55, 3, .getfield 15, 7, 1, 248, .null), (58, 2, .iload 4, 4, 0, 0, .null), 
  (60, 1, .lconst 0, 0, 0, 0, .long 0), (61, 1, .lastore, 0, 0, 0, .null), (62, 3, .iinc 4 1, 4, 0, 0, .int 1), (65, 3, .goto (-25), 40, 0, 0, .null), 
  (68, 1, .aload_n 0, 0, 0, 0, .null), (69, 3, .getfield 9, 7, 0, 247, .null), (72, 1, .iconst 0, 0, 0, 0, .int 0), (73, 1, .iconst 1, 0, 0, 0, .int 1), 
  (74, 1, .bastore, 0, 0, 0, .null), (75, 1, .aload_n 0, 0, 0, 0, .null), (76, 3, .getfield 15, 7, 1, 248, .null), (79, 1, .iconst 0, 0, 0, 0, .int 0), 
  (80, 1, .lconst 1, 0, 0, 0, .long 1), (81, 1, .lastore, 0, 0, 0, .null), (82, 1, .iconst 0, 0, 0, 0, .int 0), (83, 2, .istore 4, 4, 0, 0, .null), 
  (85, 2, .iload 4, 4, 0, 0, .null), (87, 1, .iload_n 3, 3, 0, 0, .null), (88, 3, .if_icmp .ge 101, 189, 0, 0, .null), (91, 1, .aload_n 0, 0, 0, 0, .null), 
  (92, 3, .getfield 9, 7, 0, 247, .null), (95, 2, .iload 4, 4, 0, 0, .null), (97, 1, .baload, 0, 0, 0, .null), (98, 3, .ifCond .le 85, 183, 0, 0, .null), 
  (101, 1, .aload_n 0, 0, 0, 0, .null), (102, 3, .getfield 22, 7, 2, 249, .null), (105, 2, .iload 4, 4, 0, 0, .null), (107, 1, .iload_n 2, 2, 0, 0, .null), 
  (108, 1, .aload_n 1, 1, 0, 0, .null), (109, 3, .getfield 38, 9, 0, 135, .null), (112, 3, .invokevirtual 51, 0, 0, 0, .null), (115, 1, .aload_n 0, 0, 0, 0, .null), 
  (116, 3, .getfield 22, 7, 2, 249, .null), (119, 1, .iconst 5, 0, 0, 0, .int 5), (120, 3, .invokevirtual 55, 0, 0, 0, .null), (123, 1, .iload_n 2, 2, 0, 0, .null), 
  (124, 3, .if_icmp .ne 38, 162, 0, 0, .null), (127, 1, .aload_n 1, 1, 0, 0, .null), (128, 3, .getfield 26, 9, 8, 152, .null), (131, 1, .aload_n 0, 0, 0, 0, .null), 
  (132, 3, .getfield 22, 7, 2, 249, .null), (135, 1, .iconst 5, 0, 0, 0, .int 5), (136, 3, .invokevirtual 59, 0, 0, 0, .null), (139, 1, .iload_n 2, 2, 0, 0, .null), 
  (140, 1, .aload_n 0, 0, 0, 0, .null), (141, 3, .getfield 9, 7, 0, 247, .null), (144, 2, .iload 4, 4, 0, 0, .null), (146, 1, .baload, 0, 0, 0, .null), 
  (147, 1, .iconst 1, 0, 0, 0, .int 1), (148, 1, .isub, 0, 0, 0, .null), (149, 1, .aload_n 0, 0, 0, 0, .null), (150, 3, .getfield 15, 7, 1, 248, .null), 
  (153, 2, .iload 4, 4, 0, 0, .null), (155, 1, .laload, 0, 0, 0, .null), (156, 3, .invokevirtual 62, 0, 0, 0, .null), (159, 3, .goto 24, 183, 0, 0, .null), 
  (162, 1, .aload_n 0, 0, 0, 0, .null), (163, 1, .aload_n 1, 1, 0, 0, .null), (164, 1, .aload_n 0, 0, 0, 0, .null), (165, 3, .getfield 9, 7, 0, 247, .null), 
  (168, 2, .iload 4, 4, 0, 0, .null), (170, 1, .baload, 0, 0, 0, .null), (171, 1, .iconst 1, 0, 0, 0, .int 1), (172, 1, .iadd, 0, 0, 0, .null), 
  (173, 1, .aload_n 0, 0, 0, 0, .null), (174, 3, .getfield 15, 7, 1, 248, .null), (177, 2, .iload 4, 4, 0, 0, .null), (179, 1, .laload, 0, 0, 0, .null), 
  (180, 3, .invokevirtual 66, 0, 0, 0, .null), (183, 3, .iinc 4 1, 4, 0, 0, .int 1), (186, 3, .goto (-101), 85, 0, 0, .null), (189, 1, .aload_n 1, 1, 0, 0, .null), 
  (190, 3, .getfield 26, 9, 8, 152, .null), (193, 1, .iload_n 2, 2, 0, 0, .null), (194, 3, .invokevirtual 70, 0, 0, 0, .null), (197, 1, .return_, 0, 0, 0, .null)]
theorem okX8_fill : tX8_fill.all (okI yX8_fill.cls (decide (yX8_fill.name = "<init>")) cX8_fill) = true := by decide +kernel
def tX8_spread : List CI := [
  (0, 1, .iconst 0, 0, 0, 0, .int 0), (1, 2, .istore 5, 5, 0, 0, .null), (3, 2, .iload 5, 5, 0, 0, .null), (5, 1, .aload_n 1, 1, 0, 0, .null), 
  (6, 3, .getfield 74, 9, 2, 142, .null), (9, 3, .if_icmp .ge 65, 74, 0, 0, .null), (12, 1, .aload_n 1, 1, 0, 0, .null), (13, 2, .iload 5, 5, 0, 0, .null), 
  (15, 3, .invokevirtual 77, 0, 0, 0, .null), (18, 2, .istore 6, 6, 0, 0, .null), (20, 1, .aload_n 0, 0, 0, 0, .null), (21, 3, .getfield 22, 7, 2, 249, .null), 
  (24, 1, .aload_n 1, 1, 0, 0, .null), (25, 2, .iload 6, 6, 0, 0, .null), (27, 3, .invokevirtual 80, 0, 0, 0, .null), (30, 3, .ifCond .eq 38, 68, 0, 0, .null), 
  (33, 1, .aload_n 0, 0, 0, 0, .null), (34, 3, .getfield 22, 7, 2, 249, .null), (37, 2, .iload 6, 6, 0, 0, .null), (39, 3, .invokevirtual 84, 0, 0, 0, .null), 
  (42, 1, .aload_n 0, 0, 0, 0, .null), (43, 1, .aload_n 0, 0, 0, 0, .null), (44, 3, .getfield 22, 7, 2, 249, .null), (47, 1, .aload_n 1, 1, 0, 0, .null), 
  (48, 3, .getfield 38, 9, 0, 135, .null), (51, 3, .invokevirtual 87, 0, 0, 0, .null), (54, 1, .iload_n 2, 2, 0, 0, .null), (55, 1, .lload_n 3, 3, 0, 0, .null), 
  (56, 3, .invokevirtual 90, 0, 0, 0, .null), (59, 1, .aload_n 0, 0, 0, 0, .null), (60, 3, .getfield 22, 7, 2, 249, .null), (63, 2, .iload 6, 6, 0, 0, .null), 
  (65, 3, .invokevirtual 94, 0, 0, 0, .null), (68, 3, .iinc 5 1, 5, 0, 0, .int 1), (71, 3, .goto (-68), 3, 0, 0, .null), (74, 1, .return_, 0, 0, 0, .null)]
theorem okX8_spread : tX8_spread.all (okI yX8_spread.cls (decide (yX8_spread.name = "<init>")) cX8_spread) = true := by decide +kernel
def tX8_reach : List CI := [
  (0, 1, .iload_n 1, 1, 0, 0, .null), (1, 3, .ifCond .lt 10, 11, 0, 0, .null), (4, 1, .iload_n 1, 1, 0, 0, .null), (5, 3, .sipush 17046, 0, 0, 0, .int 17046), 
  (8, 3, .if_icmp .lt 4, 12, 0, 0, .null), (11, 1, .return_, 0, 0, 0, .null), (12, 1, .aload_n 0, 0, 0, 0, .null), (13, 3, .getfield 9, 7, 0, 247, .null), 
  (16, 1, .iload_n 1, 1, 0, 0, .null), (17, 1, .baload, 0, 0, 0, .null), (18, 3, .ifCond .eq 13, 31, 0, 0, .null), (21, 1, .iload_n 2, 2, 0, 0, .null), 
  (22, 1, .aload_n 0, 0, 0, 0, .null), (23, 3, .getfield 9, 7, 0, 247, .null), (26, 1, .iload_n 1, 1, 0, 0, .null), (27, 1, .baload, 0, 0, 0, .null), 
  (28, 3, .if_icmp .ge 21, 49, 0, 0, .null), (31, 1, .aload_n 0, 0, 0, 0, .null), (32, 3, .getfield 9, 7, 0, 247, .null), (35, 1, .iload_n 1, 1, 0, 0, .null), 
  (36, 1, .iload_n 2, 2, 0, 0, .null), (37, 1, .i2b, 0, 0, 0, .null), (38, 1, .bastore, 0, 0, 0, .null), (39, 1, .aload_n 0, 0, 0, 0, .null), 
  (40, 3, .getfield 15, 7, 1, 248, .null), (43, 1, .iload_n 1, 1, 0, 0, .null), (44, 1, .lload_n 3, 3, 0, 0, .null), (45, 1, .lastore, 0, 0, 0, .null), 
  (46, 3, .goto 23, 69, 0, 0, .null), (49, 1, .iload_n 2, 2, 0, 0, .null), (50, 1, .aload_n 0, 0, 0, 0, .null), (51, 3, .getfield 9, 7, 0, 247, .null), 
  (54, 1, .iload_n 1, 1, 0, 0, .null), (55, 1, .baload, 0, 0, 0, .null), (56, 3, .if_icmp .ne 13, 69, 0, 0, .null), (59, 1, .aload_n 0, 0, 0, 0, .null), 
  (60, 3, .getfield 15, 7, 1, 248, .null), (63, 1, .iload_n 1, 1, 0, 0, .null), (64, 1, .dup2, 0, 0, 0, .null), (65, 1, .laload, 0, 0, 0, .null), 
  (66, 1, .lload_n 3, 3, 0, 0, .null), (67, 1, .ladd, 0, 0, 0, .null), (68, 1, .lastore, 0, 0, 0, .null), (69, 1, .return_, 0, 0, 0, .null)]
theorem okX8_reach : tX8_reach.all (okI yX8_reach.cls (decide (yX8_reach.name = "<init>")) cX8_reach) = true := by decide +kernel
def tX9_init : List CI := [
  (0, 1, .aload_n 0, 0, 0, 0, .null), (1, 3, .invokespecial 3, 0, 0, 0, .null), (4, 1, .aload_n 0, 0, 0, 0, .null), (5, 3, .new 9, 0, 0, 0, .null), (8, 1, .dup, 0, 0, 0, .null), 
  (9, 3, .invokespecial 11, 0, 0, 0, .null), (12, 3, .putfield 12, 8, 0, 308, .null), (15, 1, .return_, 0, 0, 0, .null)]
theorem okX9_init : tX9_init.all (okI yX9_init.cls (decide (yX9_init.name = "<init>")) cX9_init) = true := by decide +kernel
def tX9_outInOrder : List CI := [
  (0, 1, .aload_n 0, 0, 0, 0, .null), (1, 3, .getfield 12, 8, 0, 308, .null), (4, 1, .iload_n 2, 2, 0, 0, .null), (5, 1, .iload_n 3, 3, 0, 0, .null), 
  (6, 3, .invokevirtual 18, 0, 0, 0, .null), (9, 1, .aload_n 0, 0, 0, 0, .null), (10, 1, .aload_n 1, 1, 0, 0, .null), (11, 2, .iload 4, 4, 0, 0, .null), 
  (13, 3, .invokevirtual 22, 0, 0, 0, .null), (16, 2, .istore 5, 5, 0, 0, .null), (18, 1, .iconst 0, 0, 0, 0, .int 0), (19, 2, .istore 6, 6, 0, 0, .null), 
  (21, 2, .iload 6, 6, 0, 0, .null), (23, 2, .bipush 20, 0, 0, 0, .int 20), (25, 3, .if_icmp .ge 34, 59, 0, 0, .null), (28, 2, .iload 5, 5, 0, 0, .null), 
  (30, 2, .bipush (-6), 0, 0, 0, .int (-6)), (32, 3, .if_icmp .eq 27, 59, 0, 0, .null), (35, 1, .aload_n 0, 0, 0, 0, .null), (36, 3, .getfield 12, 8, 0, 308, .null), 
  (39, 2, .iload 5, 5, 0, 0, .null), (41, 3, .invokevirtual 26, 0, 0, 0, .null), (44, 1, .aload_n 0, 0, 0, 0, .null), (45, 1, .aload_n 1, 1, 0, 0, .null), 
  (46, 2, .iload 4, 4, 0, 0, .null), (48, 3, .invokevirtual 22, 0, 0, 0, .null), (51, 2, .istore 5, 5, 0, 0, .null), (53, 3, .iinc 6 1, 6, 0, 0, .int 1), 
  (56, 3, .goto (-35), 21, 0, 0, .null), (59, 1, .aload_n 0, 0, 0, 0, .null), (60, 3, .getfield 12, 8, 0, 308, .null), (63, 1, .iconst 5, 0, 0, 0, .int 5), 
  (64, 3, .invokevirtual 30, 0, 0, 0, .null), (67, 1, .ireturn, 0, 0, 0, .null)]
theorem okX9_outInOrder : tX9_outInOrder.all (okI yX9_outInOrder.cls (decide (yX9_outInOrder.name = "<init>")) cX9_outInOrder) = true := by decide +kernel
def tX9_choose : List CI := [
  (0, 1, .aload_n 0, 0, 0, 0, .null), (1, 1, .aload_n 1, 1, 0, 0, .null), (2, 3, .invokevirtual 34, 0, 0, 0, .null), (5, 1, .istore_n 3, 3, 0, 0, .null), 
  (6, 1, .iload_n 3, 3, 0, 0, .null), (7, 2, .bipush (-6), 0, 0, 0, .int (-6)), (9, 3, .if_icmp .ne 10, 19, 0, 0, .null), (12, 1, .aload_n 0, 0, 0, 0, .null), 
  (13, 1, .aload_n 1, 1, 0, 0, .null), (14, 1, .iload_n 2, 2, 0, 0, .null), (15, 3, .invokevirtual 38, 0, 0, 0, .null), (18, 1, .istore_n 3, 3, 0, 0, .null), 
  (19, 1, .iload_n 3, 3, 0, 0, .null), (20, 2, .bipush (-6), 0, 0, 0, .int (-6)), (22, 3, .if_icmp .ne 11, 33, 0, 0, .null), (25, 1, .aload_n 0, 0, 0, 0, .null), 
  (26, 1, .aload_n 1, 1, 0, 0, .null), (27, 3, .invokevirtual 41, 0, 0, 0, .null), (30, 3, .goto 4, 34, 0, 0, .null), (33, 1, .iload_n 3, 3, 0, 0, .null), 
  (34, 1, .ireturn, 0, 0, 0, .null)]
theorem okX9_choose : tX9_choose.all (okI yX9_choose.cls (decide (yX9_choose.name = "<init>")) cX9_choose) = true := by decide +kernel
def tX9_wantedOut : List CI := [
  (0, 1, .aload_n 0, 0, 0, 0, .null), (1, 3, .getfield 12, 8, 0, 308, .null), (4, 1, .iconst 5, 0, 0, 0, .int 5), (5, 3, .invokevirtual 30, 0, 0, 0, .null), 
  (8, 1, .iconst 1, 0, 0, 0, .int 1), (9, 1, .iadd, 0, 0, 0, .null), (10, 1, .istore_n 2, 2, 0, 0, .null), (11, 1, .iconst 0, 0, 0, 0, .int 0), 
  (12, 1, .istore_n 3, 3, 0, 0, .null), (13, 1, .iload_n 3, 3, 0, 0, .null), (14, 1, .aload_n 1, 1, 0, 0, .null), (15, 3, .getfield 44, 9, 2, 143, .null), 
  (18, 3, .if_icmp .ge 44, 62, 0, 0, .null), (21, 1, .aload_n 1, 1, 0, 0, .null), (22, 1, .iload_n 3, 3, 0, 0, .null), (23, 3, .invokevirtual 50, 0, 0, 0, .null), 
  (26, 2, .istore 4, 4, 0, 0, .null), (28, 2, .iload 4, 4, 0, 0, .null), (30, 2, .bipush 10, 0, 0, 0, .int 10), (32, 1, .idiv, 0, 0, 0, .null), 
  (33, 2, .bipush 10, 0, 0, 0, .int 10), (35, 1, .irem, 0, 0, 0, .null), (36, 1, .iconst 5, 0, 0, 0, .int 5), (37, 3, .if_icmp .ne 19, 56, 0, 0, .null), 
  (40, 1, .aload_n 0, 0, 0, 0, .null), (41, 3, .getfield 12, 8, 0, 308, .null), (44, 2, .iload 4, 4, 0, 0, .null), (46, 3, .invokevirtual 53, 0, 0, 0, .null), 
  (49, 1, .iload_n 2, 2, 0, 0, .null), (50, 3, .if_icmp .ne 6, 56, 0, 0, .null), (53, 2, .iload 4, 4, 0, 0, .null), (55, 1, .ireturn, 0, 0, 0, .null), 
  (56, 3, .iinc 3 1, 3, 0, 0, .int 1), (59, 3, .goto (-46), 13, 0, 0, .null), (62, 2, .bipush (-6), 0, 0, 0, .int (-6)), (64, 1, .ireturn, 0, 0, 0, .null)]
theorem okX9_wantedOut : tX9_wantedOut.all (okI yX9_wantedOut.cls (decide (yX9_wantedOut.name = "<init>")) cX9_wantedOut) = true := by decide +kernel
def tX9_fromEntry : List CI := [
  (0, 2, .bipush (-6), 0, 0, 0, .int (-6)), (2, 1, .istore_n 3, 3, 0, 0, .null), (3, 2, .bipush (-6), 0, 0, 0, .int (-6)), (5, 2, .istore 4, 4, 0, 0, .null), 
  (7, 2, .bipush (-6), 0, 0, 0, .int (-6)), (9, 2, .istore 5, 5, 0, 0, .null), (11, 1, .iconst 0, 0, 0, 0, .int 0), (12, 2, .istore 6, 6, 0, 0, .null), 
  (14, 2, .iload 6, 6, 0, 0, .null), (16, 1, .aload_n 1, 1, 0, 0, .null), (17, 3, .getfield 44, 9, 2, 143, .null), (20, 3, .if_icmp .ge 177, 197, 0, 0, .null), 
  (23, 1, .aload_n 1, 1, 0, 0, .null), (24, 2, .iload 6, 6, 0, 0, .null), (26, 3, .invokevirtual 50, 0, 0, 0, .null), (29, 2, .istore 7, 7, 0, 0, .null), 
  (31, 2, .iload 7, 7, 0, 0, .null), (33, 2, .bipush 10, 0, 0, 0, .int 10), (35, 1, .idiv, 0, 0, 0, .null), (36, 2, .bipush 10, 0, 0, 0, .int 10), (38, 1, .irem, 0, 0, 0, .null), 
  (39, 2, .istore 8, 8, 0, 0, .null), (41, 2, .iload 7, 7, 0, 0, .null), (43, 3, .sipush 1000, 0, 0, 0, .int 1000), (46, 1, .idiv, 0, 0, 0, .null), 
  (47, 3, .ifCond .ne 21, 68, 0, 0, .null), (50, 2, .iload 8, 8, 0, 0, .null), (52, 1, .iconst 5, 0, 0, 0, .int 5), (53, 3, .if_icmp .eq 15, 68, 0, 0, .null), 
  (56, 2, .iload 7, 7, 0, 0, .null), (58, 2, .bipush 10, 0, 0, 0, .int 10), (60, 1, .irem, 0, 0, 0, .null), (61, 3, .ifCond .ne 7, 68, 0, 0, .null), 
  (64, 1, .iconst 1, 0, 0, 0, .int 1), (65, 3, .goto 4, 69, 0, 0, .null), (68, 1, .iconst 0, 0, 0, 0, .int 0), (69, 2, .istore 9, 9, 0, 0, .null), 
  (71, 2, .iload 9, 9, 0, 0, .null), (73, 3, .ifCond .eq 118, 191, 0, 0, .null), (76, 1, .aload_n 0, 0, 0, 0, .null), (77, 3, .getfield 12, 8, 0, 308, .null), 
  (80, 1, .aload_n 1, 1, 0, 0, .null), (81, 2, .iload 7, 7, 0, 0, .null), (83, 3, .invokevirtual 56, 0, 0, 0, .null), (86, 3, .ifCond .eq 105, 191, 0, 0, .null), 
  (89, 1, .iload_n 3, 3, 0, 0, .null), (90, 2, .bipush (-6), 0, 0, 0, .int (-6)), (92, 3, .if_icmp .ne 8, 100, 0, 0, .null), (95, 2, .iload 7, 7, 0, 0, .null), 
  (97, 3, .goto 4, 101, 0, 0, .null), (100, 1, .iload_n 3, 3, 0, 0, .null), (101, 1, .istore_n 3, 3, 0, 0, .null), (102, 2, .iload 4, 4, 0, 0, .null), 
  (104, 2, .bipush (-6), 0, 0, 0, .int (-6)), (106, 3, .if_icmp .ne 26, 132, 0, 0, .null), (109, 1, .aload_n 0, 0, 0, 0, .null), (110, 1, .aload_n 0, 0, 0, 0, .null), 
  (111, 3, .getfield 12, 8, 0, 308, .null), (114, 2, .iload 7, 7, 0, 0, .null), (116, 3, .invokevirtual 53, 0, 0, 0, .null), (119, 2, .iload 8, 8, 0, 0, .null), 
  (121, 3, .invokevirtual 60, 0, 0, 0, .null), (124, 3, .ifCond .eq 8, 132, 0, 0, .null), (127, 2, .iload 7, 7, 0, 0, .null), (129, 3, .goto 5, 134, 0, 0, .null), 
  (132, 2, .iload 4, 4, 0, 0, .null), (134, 2, .istore 4, 4, 0, 0, .null), (136, 2, .iload 5, 5, 0, 0, .null), (138, 2, .bipush (-6), 0, 0, 0, .int (-6)), 
  (140, 3, .if_icmp .eq 30, 170, 0, 0, .null), (143, 1, .aload_n 0, 0, 0, 0, .null), (144, 3, .getfield 12, 8, 0, 308, .null), (147, 2, .iload 8, 8, 0, 0, .null), 
  (149, 3, .invokevirtual 30, 0, 0, 0, .null), (152, 1, .aload_n 0, 0, 0, 0, .null), (153, 3, .getfield 12, 8, 0, 308, .null), (156, 2, .iload 5, 5, 0, 0, .null), 
  (158, 2, .bipush 10, 0, 0, 0, .int 10), (160, 1, .idiv, 0, 0, 0, .null), (161, 2, .bipush 10, 0, 0, 0, .int 10), (163, 1, .irem, 0, 0, 0, .null), 
  (164, 3, .invokevirtual 30, 0, 0, 0, .null), (167, 3, .if_icmp .ge 7, 174, 0, 0, .null), (170, 1, .iconst 1, 0, 0, 0, .int 1), (171, 3, .goto 4, 175, 0, 0, .null), 
  (174, 1, .iconst 0, 0, 0, 0, .int 0), (175, 2, .istore 10, 10, 0, 0, .null), (177, 2, .iload 10, 10, 0, 0, .null), (179, 3, .ifCond .eq 8, 187, 0, 0, .null), 
  (182, 2, .iload 7, 7, 0, 0, .null), (184, 3, .goto 5, 189, 0, 0, .null), (187, 2, .iload 5, 5, 0, 0, .null), (189, 2, .istore 5, 5, 0, 0, .null), 
  (191, 3, .iinc 6 1, 6, 0, 0, .int 1), (194, 3, .goto (-180), 14, 0, 0, .null), (197, 1, .iload_n 2, 2, 0, 0, .null), (198, 1, .iconst 2, 0, 0, 0, .int 2), 
  (199, 3, .if_icmp .ne 6, 205, 0, 0, .null), (202, 2, .iload 5, 5, 0, 0, .null), (204, 1, .ireturn, 0, 0, 0, .null), (205, 1, .iload_n 2, 2, 0, 0, .null), 
  (206, 1, .iconst 1, 0, 0, 0, .int 1), (207, 3, .if_icmp .ne 15, 222, 0, 0, .null), (210, 2, .iload 4, 4, 0, 0, .null), (212, 2, .bipush (-6), 0, 0, 0, .int (-6)), 
  (214, 3, .if_icmp .eq 8, 222, 0, 0, .null), (217, 2, .iload 4, 4, 0, 0, .null), (219, 3, .goto 4, 223, 0, 0, .null), (222, 1, .iload_n 3, 3, 0, 0, .null), 
  (223, 1, .ireturn, 0, 0, 0, .null)]
theorem okX9_fromEntry : tX9_fromEntry.all (okI yX9_fromEntry.cls (decide (yX9_fromEntry.name = "<init>")) cX9_fromEntry) = true := by decide +kernel
def tX9_isBelowAll : List CI := [
  (0, 1, .iconst 1, 0, 0, 0, .int 1), (1, 1, .istore_n 3, 3, 0, 0, .null), (2, 1, .iconst 0, 0, 0, 0, .int 0), (3, 2, .istore 4, 4, 0, 0, .null), (5, 2, .iload 4, 4, 0, 0, .null), 
  (7, 1, .aload_n 0, 0, 0, 0, .null), (8, 3, .getfield 12, 8, 0, 308, .null), (11, 1, .iload_n 2, 2, 0, 0, .null), (12, 3, .invokevirtual 30, 0, 0, 0, .null), 
  (15, 3, .if_icmp .ge 36, 51, 0, 0, .null), (18, 1, .iload_n 3, 3, 0, 0, .null), (19, 3, .ifCond .eq 24, 43, 0, 0, .null), (22, 1, .iload_n 1, 1, 0, 0, .null), 
  (23, 1, .aload_n 0, 0, 0, 0, .null), (24, 3, .getfield 12, 8, 0, 308, .null), (27, 1, .iload_n 2, 2, 0, 0, .null), (28, 3, .invokevirtual 64, 0, 0, 0, .null), 
  (31, 2, .iload 4, 4, 0, 0, .null), (33, 3, .invokestatic 67, 0, 0, 0, .null), (36, 3, .if_icmp .ge 7, 43, 0, 0, .null), (39, 1, .iconst 1, 0, 0, 0, .int 1), 
  (40, 3, .goto 4, 44, 0, 0, .null), (43, 1, .iconst 0, 0, 0, 0, .int 0), (44, 1, .istore_n 3, 3, 0, 0, .null), (45, 3, .iinc 4 1, 4, 0, 0, .int 1), 
  (48, 3, .goto (-43), 5, 0, 0, .null), (51, 1, .iload_n 3, 3, 0, 0, .null), (52, 1, .ireturn, 0, 0, 0, .null)]
theorem okX9_isBelowAll : tX9_isBelowAll.all (okI yX9_isBelowAll.cls (decide (yX9_isBelowAll.name = "<init>")) cX9_isBelowAll) = true := by decide +kernel
def tX9_onward : List CI := [
  (0, 1, .iconst 0, 0, 0, 0, .int 0), (1, 1, .istore_n 2, 2, 0, 0, .null), (2, 1, .iload_n 2, 2, 0, 0, .null), (3, 1, .aload_n 1, 1, 0, 0, .null), 
  (4, 3, .getfield 44, 9, 2, 143, .null), (7, 3, .if_icmp .ge 48, 55, 0, 0, .null), (10, 1, .aload_n 1, 1, 0, 0, .null), (11, 1, .iload_n 2, 2, 0, 0, .null), 
  (12, 3, .invokevirtual 50, 0, 0, 0, .null), (15, 1, .istore_n 3, 3, 0, 0, .null), (16, 1, .iload_n 3, 3, 0, 0, .null), (17, 3, .sipush 1000, 0, 0, 0, .int 1000), 
  (20, 1, .idiv, 0, 0, 0, .null), (21, 3, .ifCond .eq 28, 49, 0, 0, .null), (24, 1, .iload_n 3, 3, 0, 0, .null), (25, 2, .bipush 10, 0, 0, 0, .int 10), 
  (27, 1, .idiv, 0, 0, 0, .null), (28, 2, .bipush 10, 0, 0, 0, .int 10), (30, 1, .irem, 0, 0, 0, .null), (31, 1, .iconst 5, 0, 0, 0, .int 5), 
  (32, 3, .if_icmp .eq 17, 49, 0, 0, .null), (35, 1, .aload_n 0, 0, 0, 0, .null), (36, 3, .getfield 12, 8, 0, 308, .null), (39, 1, .aload_n 1, 1, 0, 0, .null), 
  (40, 1, .iload_n 3, 3, 0, 0, .null), (41, 3, .invokevirtual 56, 0, 0, 0, .null), (44, 3, .ifCond .eq 5, 49, 0, 0, .null), (47, 1, .iload_n 3, 3, 0, 0, .null), 
  (48, 1, .ireturn, 0, 0, 0, .null), (49, 3, .iinc 2 1, 2, 0, 0, .int 1), (52, 3, .goto (-50), 2, 0, 0, .null), (55, 2, .bipush (-6), 0, 0, 0, .int (-6)), 
  (57, 1, .ireturn, 0, 0, 0, .null)]
theorem okX9_onward : tX9_onward.all (okI yX9_onward.cls (decide (yX9_onward.name = "<init>")) cX9_onward) = true := by decide +kernel
def tX10_init : List CI := [
  (0, 1, .aload_n 0, 0, 0, 0, .null), (1, 3, .invokespecial 3, 0, 0, 0, .null), (4, 1, .aload_n 0, 0, 0, 0, .null), (5, 1, .iconst 4, 0, 0, 0, .int 4), 
  (6, 2, .newarray .int, 0, 0, 0, .null), (8, 3, .putfield 9, 9, 4, 147, .null), (11, 1, .aload_n 0, 0, 0, 0, .null), (12, 1, .iconst 4, 0, 0, 0, .int 4), 
  (13, 2, .newarray .int, 0, 0, 0, .null), (15, 3, .putfield 15, 9, 5, 148, .null), (18, 1, .aload_n 0, 0, 0, 0, .null), (19, 1, .iconst 4, 0, 0, 0, .int 4), 
  (20, 2, .newarray .int, 0, 0, 0, .null), (22, 3, .putfield 18, 9, 6, 149, .null), (25, 1, .aload_n 0, 0, 0, 0, .null), (26, 2, .bipush 64, 0, 0, 0, .int 64), 
  (28, 2, .newarray .int, 0, 0, 0, .null), (30, 3, .putfield 21, 9, 7, 150, .null), (33, 1, .aload_n 0, 0, 0, 0, .null), (34, 3, .new 24, 0, 0, 0, .null), 
  (37, 1, .dup, 0, 0, 0, .null), (38, 3, .invokespecial 26, 0, 0, 0, .null), (41, 3, .putfield 27, 9, 8, 151, .null), (44, 1, .return_, 0, 0, 0, .null)]
theorem okX10_init : tX10_init.all (okI yX10_init.cls (decide (yX10_init.name = "<init>")) cX10_init) = true := by decide +kernel
def tX10_clear : List CI := [
  (0, 1, .aload_n 0, 0, 0, 0, .null), (1, 1, .iconst 0, 0, 0, 0, .int 0), (2, 3, .putfield 31, 9, 0, 133, .int 0), (5, 1, .aload_n 0, 0, 0, 0, .null), 
  (6, 1, .iconst 1, 0, 0, 0, .int 1), (7, 3, .putfield 35, 9, 1, 138, .int 0), (10, 1, .aload_n 0, 0, 0, 0, .null), (11, 1, .iconst 0, 0, 0, 0, .int 0), 
  (12, 3, .putfield 38, 9, 2, 141, .int 0), (15, 1, .aload_n 0, 0, 0, 0, .null), (16, 1, .iconst 0, 0, 0, 0, .int 0), (17, 3, .putfield 41, 9, 3, 146, .int 0), 
  (20, 1, .aload_n 0, 0, 0, 0, .null), (21, 3, .getfield 27, 9, 8, 151, .null), (24, 3, .invokevirtual 44, 0, 0, 0, .null), (27, 1, .return_, 0, 0, 0, .null)]
theorem okX10_clear : tX10_clear.all (okI yX10_clear.cls (decide (yX10_clear.name = "<init>")) cX10_clear) = true := by decide +kernel
def tX10_copyFrom : List CI := [
  (0, 1, .aload_n 0, 0, 0, 0, .null), (1, 1, .aload_n 1, 1, 0, 0, .null), (2, 3, .getfield 31, 9, 0, 133, .null), (5, 3, .putfield 31, 9, 0, 133, .int 0), 
  (8, 1, .aload_n 0, 0, 0, 0, .null), (9, 1, .aload_n 1, 1, 0, 0, .null), (10, 3, .getfield 35, 9, 1, 138, .null), (13, 3, .putfield 35, 9, 1, 138, .int 0), 
  (16, 1, .aload_n 0, 0, 0, 0, .null), (17, 1, .aload_n 1, 1, 0, 0, .null), (18, 3, .getfield 38, 9, 2, 141, .null), (21, 3, .putfield 38, 9, 2, 141, .int 0), 
  (24, 1, .aload_n 0, 0, 0, 0, .null), (25, 1, .aload_n 1, 1, 0, 0, .null), (26, 3, .getfield 41, 9, 3, 146, .null), (29, 3, .putfield 41, 9, 3, 146, .int 0), 
  (32, 1, .aload_n 1, 1, 0, 0, .null), (33, 3, .getfield 9, 9, 4, 147, .null), (36, 1, .aload_n 0, 0, 0, 0, .null), (37, 3, .getfield 9, 9, 4, 147, .null), 
  (40, 3, .invokestatic 47, 0, 0, 0, .null), (43, 1, .aload_n 1, 1, 0, 0, .null), (44, 3, .getfield 15, 9, 5, 148, .null), (47, 1, .aload_n 0, 0, 0, 0, .null), 
  (48, 3, .getfield 15, 9, 5, 148, .null), (51, 3, .invokestatic 47, 0, 0, 0, .null), (54, 1, .aload_n 1, 1, 0, 0, .null), (55, 3, .getfield 18, 9, 6, 149, .null), 
  (58, 1, .aload_n 0, 0, 0, 0, .null), (59, 3, .getfield 18, 9, 6, 149, .null), (62, 3, .invokestatic 47, 0, 0, 0, .null), (65, 1, .aload_n 1, 1, 0, 0, .null), 
  (66, 3, .getfield 21, 9, 7, 150, .null), (69, 1, .aload_n 0, 0, 0, 0, .null), (70, 3, .getfield 21, 9, 7, 150, .null), (73, 3, .invokestatic 47, 0, 0, 0, .null), 
  (76, 1, .aload_n 0, 0, 0, 0, .null), (77, 3, .getfield 27, 9, 8, 151, .null), (80, 1, .aload_n 1, 1, 0, 0, .null), (81, 3, .getfield 27, 9, 8, 151, .null), 
  (84, 3, .invokevirtual 51, 0, 0, 0, .null), (87, 1, .return_, 0, 0, 0, .null)]
theorem okX10_copyFrom : tX10_copyFrom.all (okI yX10_copyFrom.cls (decide (yX10_copyFrom.name = "<init>")) cX10_copyFrom) = true := by decide +kernel
def tX10_addDash : List CI := [
  (0, 1, .aload_n 0, 0, 0, 0, .null), (1, 1, .dup, 0, 0, 0, .null), (2, 3, .getfield 41, 9, 3, 146, .null), (5, 1, .iconst 1, 0, 0, 0, .int 1), (6, 1, .aload_n 0, 0, 0, 0, .null), 
  (7, 3, .getfield 35, 9, 1, 138, .null), (10, 1, .iconst 1, 0, 0, 0, .int 1), (11, 1, .isub, 0, 0, 0, .null), (12, 1, .ishl, 0, 0, 0, .null), (13, 1, .ior, 0, 0, 0, .null), 
  (14, 3, .putfield 41, 9, 3, 146, .int 0), (17, 1, .return_, 0, 0, 0, .null)]
theorem okX10_addDash : tX10_addDash.all (okI yX10_addDash.cls (decide (yX10_addDash.name = "<init>")) cX10_addDash) = true := by decide +kernel
def tX10_addSiding : List CI := [
  (0, 1, .aload_n 0, 0, 0, 0, .null), (1, 3, .getfield 31, 9, 0, 133, .null), (4, 3, .ifCond .lt 56, 60, 0, 0, .null), (7, 1, .aload_n 0, 0, 0, 0, .null), 
  (8, 3, .getfield 31, 9, 0, 133, .null), (11, 1, .iconst 4, 0, 0, 0, .int 4), (12, 3, .if_icmp .ge 48, 60, 0, 0, .null), (15, 1, .aload_n 0, 0, 0, 0, .null), 
  (16, 3, .getfield 9, 9, 4, 147, .null), (19, 1, .aload_n 0, 0, 0, 0, .null), (20, 3, .getfield 31, 9, 0, 133, .null), (23, 1, .iload_n 1, 1, 0, 0, .null), 
  (24, 1, .iastore, 0, 0, 0, .null), (25, 1, .aload_n 0, 0, 0, 0, .null), (26, 3, .getfield 15, 9, 5, 148, .null), (29, 1, .aload_n 0, 0, 0, 0, .null), 
  (30, 3, .getfield 31, 9, 0, 133, .null), (33, 1, .iload_n 2, 2, 0, 0, .null), (34, 1, .iastore, 0, 0, 0, .null), (35, 1, .aload_n 0, 0, 0, 0, .null), 
  (36, 3, .getfield 18, 9, 6, 149, .null), (39, 1, .aload_n 0, 0, 0, 0, .null), (40, 3, .getfield 31, 9, 0, 133, .null), (43, 1, .aload_n 0, 0, 0, 0, .null), 
  (44, 3, .getfield 35, 9, 1, 138, .null), (47, 1, .iconst 1, 0, 0, 0, .int 1), (48, 1, .isub, 0, 0, 0, .null), (49, 1, .iastore, 0, 0, 0, .null), 
  (50, 1, .aload_n 0, 0, 0, 0, .null), (51, 1, .dup, 0, 0, 0, .null), (52, 3, .getfield 31, 9, 0, 133, .null), (55, 1, .iconst 1, 0, 0, 0, .int 1), (56, 1, .iadd, 0, 0, 0, .null), 
  (57, 3, .putfield 31, 9, 0, 133, .int 0), (60, 1, .return_, 0, 0, 0, .null)]
theorem okX10_addSiding : tX10_addSiding.all (okI yX10_addSiding.cls (decide (yX10_addSiding.name = "<init>")) cX10_addSiding) = true := by decide +kernel
def tX10_letterAt : List CI := [
  (0, 1, .iload_n 1, 1, 0, 0, .null), (1, 3, .ifCond .lt 21, 22, 0, 0, .null), (4, 1, .iload_n 1, 1, 0, 0, .null), (5, 1, .aload_n 0, 0, 0, 0, .null), 
  (6, 3, .getfield 9, 9, 4, 147, .null), (9, 1, .arraylength, 0, 0, 0, .null), (10, 3, .if_icmp .ge 12, 22, 0, 0, .null), (13, 1, .aload_n 0, 0, 0, 0, .null), 
  (14, 3, .getfield 9, 9, 4, 147, .null), (17, 1, .iload_n 1, 1, 0, 0, .null), (18, 1, .iaload, 0, 0, 0, .null), (19, 3, .goto 4, 23, 0, 0, .null), 
  (22, 1, .iconst 0, 0, 0, 0, .int 0), (23, 1, .ireturn, 0, 0, 0, .null)]
theorem okX10_letterAt : tX10_letterAt.all (okI yX10_letterAt.cls (decide (yX10_letterAt.name = "<init>")) cX10_letterAt) = true := by decide +kernel
def tX10_lengthAt : List CI := [
  (0, 1, .iload_n 1, 1, 0, 0, .null), (1, 3, .ifCond .lt 21, 22, 0, 0, .null), (4, 1, .iload_n 1, 1, 0, 0, .null), (5, 1, .aload_n 0, 0, 0, 0, .null), 
  (6, 3, .getfield 15, 9, 5, 148, .null), (9, 1, .arraylength, 0, 0, 0, .null), (10, 3, .if_icmp .ge 12, 22, 0, 0, .null), (13, 1, .aload_n 0, 0, 0, 0, .null), 
  (14, 3, .getfield 15, 9, 5, 148, .null), (17, 1, .iload_n 1, 1, 0, 0, .null), (18, 1, .iaload, 0, 0, 0, .null), (19, 3, .goto 4, 23, 0, 0, .null), 
  (22, 1, .iconst 0, 0, 0, 0, .int 0), (23, 1, .ireturn, 0, 0, 0, .null)]
theorem okX10_lengthAt : tX10_lengthAt.all (okI yX10_lengthAt.cls (decide (yX10_lengthAt.name = "<init>")) cX10_lengthAt) = true := by decide +kernel
def tX10_setLength : List CI := [
  (0, 1, .iload_n 1, 1, 0, 0, .null), (1, 3, .ifCond .lt 19, 20, 0, 0, .null), (4, 1, .iload_n 1, 1, 0, 0, .null), (5, 1, .aload_n 0, 0, 0, 0, .null), 
  (6, 3, .getfield 15, 9, 5, 148, .null), (9, 1, .arraylength, 0, 0, 0, .null), (10, 3, .if_icmp .ge 10, 20, 0, 0, .null), (13, 1, .aload_n 0, 0, 0, 0, .null), 
  (14, 3, .getfield 15, 9, 5, 148, .null), (17, 1, .iload_n 1, 1, 0, 0, .null), (18, 1, .iload_n 2, 2, 0, 0, .null), (19, 1, .iastore, 0, 0, 0, .null), 
  (20, 1, .return_, 0, 0, 0, .null)]
theorem okX10_setLength : tX10_setLength.all (okI yX10_setLength.cls (decide (yX10_setLength.name = "<init>")) cX10_setLength) = true := by decide +kernel
def tX10_stageAt : List CI := [
  (0, 1, .iload_n 1, 1, 0, 0, .null), (1, 3, .ifCond .lt 21, 22, 0, 0, .null), (4, 1, .iload_n 1, 1, 0, 0, .null), (5, 1, .aload_n 0, 0, 0, 0, .null), 
  (6, 3, .getfield 18, 9, 6, 149, .null), (9, 1, .arraylength, 0, 0, 0, .null), (10, 3, .if_icmp .ge 12, 22, 0, 0, .null), (13, 1, .aload_n 0, 0, 0, 0, .null), 
  (14, 3, .getfield 18, 9, 6, 149, .null), (17, 1, .iload_n 1, 1, 0, 0, .null), (18, 1, .iaload, 0, 0, 0, .null), (19, 3, .goto 4, 23, 0, 0, .null), 
  (22, 1, .iconst 0, 0, 0, 0, .int 0), (23, 1, .ireturn, 0, 0, 0, .null)]
theorem okX10_stageAt : tX10_stageAt.all (okI yX10_stageAt.cls (decide (yX10_stageAt.name = "<init>")) cX10_stageAt) = true := by decide +kernel
def tX10_stageOf : List CI := [
  (0, 1, .iload_n 1, 1, 0, 0, .null), (1, 3, .ifCond .ne 5, 6, 0, 0, .null), (4, 1, .iconst (-1), 0, 0, 0, .int (-1)), (5, 1, .ireturn, 0, 0, 0, .null), 
  (6, 1, .iload_n 1, 1, 0, 0, .null), (7, 1, .iconst 5, 0, 0, 0, .int 5), (8, 3, .if_icmp .ne 10, 18, 0, 0, .null), (11, 1, .aload_n 0, 0, 0, 0, .null), 
  (12, 3, .getfield 35, 9, 1, 138, .null), (15, 3, .goto 10, 25, 0, 0, .null), (18, 1, .aload_n 0, 0, 0, 0, .null), (19, 1, .iload_n 1, 1, 0, 0, .null), 
  (20, 1, .iconst 1, 0, 0, 0, .int 1), (21, 1, .isub, 0, 0, 0, .null), (22, 3, .invokevirtual 55, 0, 0, 0, .null), (25, 1, .ireturn, 0, 0, 0, .null)]
theorem okX10_stageOf : tX10_stageOf.all (okI yX10_stageOf.cls (decide (yX10_stageOf.name = "<init>")) cX10_stageOf) = true := by decide +kernel
def tX10_reaches : List CI := [
  (0, 1, .aload_n 0, 0, 0, 0, .null), (1, 1, .iload_n 2, 2, 0, 0, .null), (2, 3, .invokevirtual 59, 0, 0, 0, .null), (5, 1, .istore_n 3, 3, 0, 0, .null), 
  (6, 1, .aload_n 0, 0, 0, 0, .null), (7, 1, .iload_n 1, 1, 0, 0, .null), (8, 3, .invokevirtual 59, 0, 0, 0, .null), (11, 2, .istore 4, 4, 0, 0, .null), 
  (13, 2, .iload 4, 4, 0, 0, .null), (15, 1, .iload_n 3, 3, 0, 0, .null), (16, 3, .if_icmp .ge 7, 23, 0, 0, .null), (19, 1, .iconst 1, 0, 0, 0, .int 1), 
  (20, 3, .goto 4, 24, 0, 0, .null), (23, 1, .iconst 0, 0, 0, 0, .int 0), (24, 2, .istore 5, 5, 0, 0, .null), (26, 2, .iload 4, 4, 0, 0, .null), 
  (28, 1, .iconst 1, 0, 0, 0, .int 1), (29, 1, .iadd, 0, 0, 0, .null), (30, 2, .istore 6, 6, 0, 0, .null), (32, 2, .iload 6, 6, 0, 0, .null), (34, 1, .iload_n 3, 3, 0, 0, .null), 
  (35, 3, .if_icmp .ge 34, 69, 0, 0, .null), (38, 2, .iload 5, 5, 0, 0, .null), (40, 3, .ifCond .eq 20, 60, 0, 0, .null), (43, 1, .aload_n 0, 0, 0, 0, .null), 
  (44, 3, .getfield 41, 9, 3, 146, .null), (47, 2, .iload 6, 6, 0, 0, .null), (49, 1, .ishr, 0, 0, 0, .null), (50, 1, .iconst 1, 0, 0, 0, .int 1), (51, 1, .iand, 0, 0, 0, .null), 
  (52, 1, .iconst 1, 0, 0, 0, .int 1), (53, 3, .if_icmp .ne 7, 60, 0, 0, .null), (56, 1, .iconst 1, 0, 0, 0, .int 1), (57, 3, .goto 4, 61, 0, 0, .null), 
  (60, 1, .iconst 0, 0, 0, 0, .int 0), (61, 2, .istore 5, 5, 0, 0, .null), (63, 3, .iinc 6 1, 6, 0, 0, .int 1), (66, 3, .goto (-34), 32, 0, 0, .null), 
  (69, 2, .iload 5, 5, 0, 0, .null), (71, 1, .ireturn, 0, 0, 0, .null)]
theorem okX10_reaches : tX10_reaches.all (okI yX10_reaches.cls (decide (yX10_reaches.name = "<init>")) cX10_reaches) = true := by decide +kernel
def tX10_takesOutAt : List CI := [
  (0, 1, .iload_n 1, 1, 0, 0, .null), (1, 3, .ifCond .ne 8, 9, 0, 0, .null), (4, 2, .bipush 115, 0, 0, 0, .int 115), (6, 3, .goto 10, 16, 0, 0, .null), 
  (9, 1, .aload_n 0, 0, 0, 0, .null), (10, 1, .iload_n 1, 1, 0, 0, .null), (11, 1, .iconst 1, 0, 0, 0, .int 1), (12, 1, .isub, 0, 0, 0, .null), 
  (13, 3, .invokevirtual 62, 0, 0, 0, .null), (16, 1, .istore_n 3, 3, 0, 0, .null), (17, 1, .iload_n 3, 3, 0, 0, .null), (18, 2, .bipush 100, 0, 0, 0, .int 100), 
  (20, 3, .if_icmp .eq 21, 41, 0, 0, .null), (23, 1, .iload_n 3, 3, 0, 0, .null), (24, 2, .bipush 113, 0, 0, 0, .int 113), (26, 3, .if_icmp .ne 11, 37, 0, 0, .null), 
  (29, 1, .iload_n 2, 2, 0, 0, .null), (30, 1, .iconst 1, 0, 0, 0, .int 1), (31, 3, .if_icmp .ne 14, 45, 0, 0, .null), (34, 3, .goto 7, 41, 0, 0, .null), 
  (37, 1, .iload_n 2, 2, 0, 0, .null), (38, 3, .ifCond .ne 7, 45, 0, 0, .null), (41, 1, .iconst 1, 0, 0, 0, .int 1), (42, 3, .goto 4, 46, 0, 0, .null), 
  (45, 1, .iconst 0, 0, 0, 0, .int 0), (46, 1, .ireturn, 0, 0, 0, .null)]
theorem okX10_takesOutAt : tX10_takesOutAt.all (okI yX10_takesOutAt.cls (decide (yX10_takesOutAt.name = "<init>")) cX10_takesOutAt) = true := by decide +kernel
def tX10_putsInAt : List CI := [
  (0, 1, .iload_n 2, 2, 0, 0, .null), (1, 3, .ifCond .eq 20, 21, 0, 0, .null), (4, 1, .iload_n 1, 1, 0, 0, .null), (5, 1, .iconst 5, 0, 0, 0, .int 5), 
  (6, 3, .if_icmp .eq 19, 25, 0, 0, .null), (9, 1, .aload_n 0, 0, 0, 0, .null), (10, 1, .iload_n 1, 1, 0, 0, .null), (11, 1, .iconst 1, 0, 0, 0, .int 1), 
  (12, 1, .isub, 0, 0, 0, .null), (13, 3, .invokevirtual 62, 0, 0, 0, .null), (16, 2, .bipush 100, 0, 0, 0, .int 100), (18, 3, .if_icmp .ne 7, 25, 0, 0, .null), 
  (21, 1, .iconst 1, 0, 0, 0, .int 1), (22, 3, .goto 4, 26, 0, 0, .null), (25, 1, .iconst 0, 0, 0, 0, .int 0), (26, 1, .ireturn, 0, 0, 0, .null)]
theorem okX10_putsInAt : tX10_putsInAt.all (okI yX10_putsInAt.cls (decide (yX10_putsInAt.name = "<init>")) cX10_putsInAt) = true := by decide +kernel
def tX10_listMoves : List CI := [
  (0, 1, .aload_n 0, 0, 0, 0, .null), (1, 1, .iconst 0, 0, 0, 0, .int 0), (2, 3, .putfield 38, 9, 2, 141, .int 0), (5, 1, .iconst 0, 0, 0, 0, .int 0), 
  (6, 1, .istore_n 1, 1, 0, 0, .null), (7, 1, .iload_n 1, 1, 0, 0, .null), (8, 1, .aload_n 0, 0, 0, 0, .null), (9, 3, .getfield 31, 9, 0, 133, .null), 
  (12, 3, .if_icmp .gt 37, 49, 0, 0, .null), (15, 1, .iconst 0, 0, 0, 0, .int 0), (16, 1, .istore_n 2, 2, 0, 0, .null), (17, 1, .iload_n 2, 2, 0, 0, .null), 
  (18, 1, .iconst 1, 0, 0, 0, .int 1), (19, 3, .if_icmp .gt 24, 43, 0, 0, .null), (22, 1, .aload_n 0, 0, 0, 0, .null), (23, 1, .iload_n 1, 1, 0, 0, .null), 
  (24, 1, .iload_n 2, 2, 0, 0, .null), (25, 3, .invokevirtual 65, 0, 0, 0, .null), (28, 3, .ifCond .eq 9, 37, 0, 0, .null), (31, 1, .aload_n 0, 0, 0, 0, .null), 
  (32, 1, .iload_n 1, 1, 0, 0, .null), (33, 1, .iload_n 2, 2, 0, 0, .null), (34, 3, .invokevirtual 69, 0, 0, 0, .null), (37, 3, .iinc 2 1, 2, 0, 0, .int 1), 
  (40, 3, .goto (-23), 17, 0, 0, .null), (43, 3, .iinc 1 1, 1, 0, 0, .int 1), (46, 3, .goto (-39), 7, 0, 0, .null), (49, 1, .return_, 0, 0, 0, .null)]
theorem okX10_listMoves : tX10_listMoves.all (okI yX10_listMoves.cls (decide (yX10_listMoves.name = "<init>")) cX10_listMoves) = true := by decide +kernel
def tX10_listMovesFrom : List CI := [
  (0, 1, .iconst 1, 0, 0, 0, .int 1), (1, 1, .istore_n 3, 3, 0, 0, .null), (2, 1, .iload_n 3, 3, 0, 0, .null), (3, 1, .iconst 5, 0, 0, 0, .int 5), 
  (4, 3, .if_icmp .gt 90, 94, 0, 0, .null), (7, 1, .iload_n 3, 3, 0, 0, .null), (8, 1, .aload_n 0, 0, 0, 0, .null), (9, 3, .getfield 31, 9, 0, 133, .null), 
  (12, 3, .if_icmp .le 8, 20, 0, 0, .null), (15, 1, .iload_n 3, 3, 0, 0, .null), (16, 1, .iconst 5, 0, 0, 0, .int 5), (17, 3, .if_icmp .ne 7, 24, 0, 0, .null), 
  (20, 1, .iconst 1, 0, 0, 0, .int 1), (21, 3, .goto 4, 25, 0, 0, .null), (24, 1, .iconst 0, 0, 0, 0, .int 0), (25, 2, .istore 4, 4, 0, 0, .null), 
  (27, 1, .iconst 0, 0, 0, 0, .int 0), (28, 2, .istore 5, 5, 0, 0, .null), (30, 2, .iload 5, 5, 0, 0, .null), (32, 1, .iconst 1, 0, 0, 0, .int 1), 
  (33, 3, .if_icmp .gt 55, 88, 0, 0, .null), (36, 2, .iload 4, 4, 0, 0, .null), (38, 3, .ifCond .eq 44, 82, 0, 0, .null), (41, 1, .aload_n 0, 0, 0, 0, .null), 
  (42, 1, .iload_n 1, 1, 0, 0, .null), (43, 1, .iload_n 3, 3, 0, 0, .null), (44, 3, .invokevirtual 73, 0, 0, 0, .null), (47, 3, .ifCond .eq 35, 82, 0, 0, .null), 
  (50, 1, .aload_n 0, 0, 0, 0, .null), (51, 1, .iload_n 3, 3, 0, 0, .null), (52, 2, .iload 5, 5, 0, 0, .null), (54, 3, .invokevirtual 76, 0, 0, 0, .null), 
  (57, 3, .ifCond .eq 25, 82, 0, 0, .null), (60, 1, .aload_n 0, 0, 0, 0, .null), (61, 3, .sipush 1000, 0, 0, 0, .int 1000), (64, 1, .iload_n 1, 1, 0, 0, .null), 
  (65, 1, .imul, 0, 0, 0, .null), (66, 2, .bipush 100, 0, 0, 0, .int 100), (68, 1, .iload_n 2, 2, 0, 0, .null), (69, 1, .imul, 0, 0, 0, .null), (70, 1, .iadd, 0, 0, 0, .null), 
  (71, 2, .bipush 10, 0, 0, 0, .int 10), (73, 1, .iload_n 3, 3, 0, 0, .null), (74, 1, .imul, 0, 0, 0, .null), (75, 1, .iadd, 0, 0, 0, .null), (76, 2, .iload 5, 5, 0, 0, .null), 
  (78, 1, .iadd, 0, 0, 0, .null), (79, 3, .invokevirtual 79, 0, 0, 0, .null), (82, 3, .iinc 5 1, 5, 0, 0, .int 1), (85, 3, .goto (-55), 30, 0, 0, .null), 
  (88, 3, .iinc 3 1, 3, 0, 0, .int 1), (91, 3, .goto (-89), 2, 0, 0, .null), (94, 1, .return_, 0, 0, 0, .null)]
theorem okX10_listMovesFrom : tX10_listMovesFrom.all (okI yX10_listMovesFrom.cls (decide (yX10_listMovesFrom.name = "<init>")) cX10_listMovesFrom) = true := by decide +kernel
def tX10_addMove : List CI := [
  (0, 1, .aload_n 0, 0, 0, 0, .null), (1, 3, .getfield 38, 9, 2, 141, .null), (4, 3, .ifCond .lt 35, 39, 0, 0, .null), (7, 1, .aload_n 0, 0, 0, 0, .null), 
  (8, 3, .getfield 38, 9, 2, 141, .null), (11, 1, .aload_n 0, 0, 0, 0, .null), (12, 3, .getfield 21, 9, 7, 150, .null), (15, 1, .arraylength, 0, 0, 0, .null), 
  (16, 3, .if_icmp .ge 23, 39, 0, 0, .null), (19, 1, .aload_n 0, 0, 0, 0, .null), (20, 3, .getfield 21, 9, 7, 150, .null), (23, 1, .aload_n 0, 0, 0, 0, .null), 
  (24, 3, .getfield 38, 9, 2, 141, .null), (27, 1, .iload_n 1, 1, 0, 0, .null), (28, 1, .iastore, 0, 0, 0, .null), (29, 1, .aload_n 0, 0, 0, 0, .null), 
  (30, 1, .dup, 0, 0, 0, .null), (31, 3, .getfield 38, 9, 2, 141, .null), (34, 1, .iconst 1, 0, 0, 0, .int 1), (35, 1, .iadd, 0, 0, 0, .null), 
  (36, 3, .putfield 38, 9, 2, 141, .int 0), (39, 1, .return_, 0, 0, 0, .null)]
theorem okX10_addMove : tX10_addMove.all (okI yX10_addMove.cls (decide (yX10_addMove.name = "<init>")) cX10_addMove) = true := by decide +kernel
def tX10_moveAt : List CI := [
  (0, 1, .iload_n 1, 1, 0, 0, .null), (1, 3, .ifCond .lt 29, 30, 0, 0, .null), (4, 1, .iload_n 1, 1, 0, 0, .null), (5, 1, .aload_n 0, 0, 0, 0, .null), 
  (6, 3, .getfield 38, 9, 2, 141, .null), (9, 3, .if_icmp .ge 21, 30, 0, 0, .null), (12, 1, .iload_n 1, 1, 0, 0, .null), (13, 1, .aload_n 0, 0, 0, 0, .null), 
  (14, 3, .getfield 21, 9, 7, 150, .null), (17, 1, .arraylength, 0, 0, 0, .null), (18, 3, .if_icmp .ge 12, 30, 0, 0, .null), (21, 1, .aload_n 0, 0, 0, 0, .null), 
  (22, 3, .getfield 21, 9, 7, 150, .null), (25, 1, .iload_n 1, 1, 0, 0, .null), (26, 1, .iaload, 0, 0, 0, .null), (27, 3, .goto 4, 31, 0, 0, .null), 
  (30, 1, .iconst 0, 0, 0, 0, .int 0), (31, 1, .ireturn, 0, 0, 0, .null)]
theorem okX10_moveAt : tX10_moveAt.all (okI yX10_moveAt.cls (decide (yX10_moveAt.name = "<init>")) cX10_moveAt) = true := by decide +kernel
def tX10_hasMove : List CI := [
  (0, 1, .iconst 0, 0, 0, 0, .int 0), (1, 1, .istore_n 2, 2, 0, 0, .null), (2, 1, .iconst 0, 0, 0, 0, .int 0), (3, 1, .istore_n 3, 3, 0, 0, .null), 
  (4, 1, .iload_n 3, 3, 0, 0, .null), (5, 1, .aload_n 0, 0, 0, 0, .null), (6, 3, .getfield 38, 9, 2, 141, .null), (9, 3, .if_icmp .ge 28, 37, 0, 0, .null), 
  (12, 1, .iload_n 2, 2, 0, 0, .null), (13, 3, .ifCond .ne 12, 25, 0, 0, .null), (16, 1, .aload_n 0, 0, 0, 0, .null), (17, 1, .iload_n 3, 3, 0, 0, .null), 
  (18, 3, .invokevirtual 83, 0, 0, 0, .null), (21, 1, .iload_n 1, 1, 0, 0, .null), (22, 3, .if_icmp .ne 7, 29, 0, 0, .null), (25, 1, .iconst 1, 0, 0, 0, .int 1), 
  (26, 3, .goto 4, 30, 0, 0, .null), (29, 1, .iconst 0, 0, 0, 0, .int 0), (30, 1, .istore_n 2, 2, 0, 0, .null), (31, 3, .iinc 3 1, 3, 0, 0, .int 1), 
  (34, 3, .goto (-30), 4, 0, 0, .null), (37, 1, .iload_n 2, 2, 0, 0, .null), (38, 1, .ireturn, 0, 0, 0, .null)]
theorem okX10_hasMove : tX10_hasMove.all (okI yX10_hasMove.cls (decide (yX10_hasMove.name = "<init>")) cX10_hasMove) = true := by decide +kernel
def tX11_init : List CI := [
  (0, 1, .aload_n 0, 0, 0, 0, .null), (1, 3, .invokespecial 3, 0, 0, 0, .null), (4, 1, .aload_n 0, 0, 0, 0, .null), (5, 3, .new 9, 0, 0, 0, .null), (8, 1, .dup, 0, 0, 0, .null), 
  (9, 3, .invokespecial 11, 0, 0, 0, .null), (12, 3, .putfield 12, 10, 0, 393, .null), (15, 1, .aload_n 0, 0, 0, 0, .null), (16, 3, .new 16, 0, 0, 0, .null), 
  (19, 1, .dup, 0, 0, 0, .null), (20, 3, .invokespecial 18, 0, 0, 0, .null), (23, 3, .putfield 19, 10, 1, 394, .null), (26, 1, .aload_n 0, 0, 0, 0, .null), 
  (27, 3, .new 16, 0, 0, 0, .null), (30, 1, .dup, 0, 0, 0, .null), (31, 3, .invokespecial 18, 0, 0, 0, .null), (34, 3, .putfield 23, 10, 2, 395, .null), 
  (37, 1, .aload_n 0, 0, 0, 0, .null), (38, 3, .new 26, 0, 0, 0, .null), (41, 1, .dup, 0, 0, 0, .null), (42, 3, .invokespecial 28, 0, 0, 0, .null), 
  (45, 3, .putfield 29, 10, 3, 396, .null), (48, 1, .aload_n 0, 0, 0, 0, .null), (49, 3, .new 33, 0, 0, 0, .null), (52, 1, .dup, 0, 0, 0, .null), 
  (53, 3, .invokespecial 35, 0, 0, 0, .null), (56, 3, .putfield 36, 10, 4, 397, .null), (59, 1, .aload_n 0, 0, 0, 0, .null), (60, 3, .new 33, 0, 0, 0, .null), 
  (63, 1, .dup, 0, 0, 0, .null), (64, 3, .invokespecial 35, 0, 0, 0, .null), (67, 3, .putfield 40, 10, 5, 398, .null), (70, 1, .aload_n 0, 0, 0, 0, .null), 
  (71, 3, .new 43, 0, 0, 0, .null), (74, 1, .dup, 0, 0, 0, .null), (75, 3, .invokespecial 45, 0, 0, 0, .null), (78, 3, .putfield 46, 10, 6, 399, .null), 
  (81, 1, .aload_n 0, 0, 0, 0, .null), (82, 3, .new 50, 0, 0, 0, .null), (85, 1, .dup, 0, 0, 0, .null), (86, 1, .aload_n 0, 0, 0, 0, .null), 
  (87, 3, .getfield 19, 10, 1, 394, .null), (90, 3, .invokespecial 52, 0, 0, 0, .null), (93, 3, .putfield 55, 10, 7, 400, .null), (96, 1, .aload_n 0, 0, 0, 0, .null), 
  (97, 3, .new 59, 0, 0, 0, .null), (100, 1, .dup, 0, 0, 0, .null), (101, 3, .invokespecial 61, 0, 0, 0, .null), (104, 3, .putfield 62, 10, 8, 401, .null), 
  (107, 1, .aload_n 0, 0, 0, 0, .null), (108, 3, .new 66, 0, 0, 0, .null), (111, 1, .dup, 0, 0, 0, .null), (112, 3, .invokespecial 68, 0, 0, 0, .null), 
  (115, 3, .putfield 69, 10, 9, 402, .null), (118, 1, .aload_n 0, 0, 0, 0, .null), (119, 3, .getfield 12, 10, 0, 393, .null), (122, 2, .bipush 115, 0, 0, 0, .int 115), 
  (124, 3, .invokevirtual 73, 0, 0, 0, .null), (127, 1, .pop, 0, 0, 0, .null), (128, 1, .aload_n 0, 0, 0, 0, .null), (129, 3, .getfield 12, 10, 0, 393, .null), 
  (132, 2, .bipush 53, 0, 0, 0, .int 53), (134, 3, .invokevirtual 73, 0, 0, 0, .null), (137, 1, .pop, 0, 0, 0, .null), (138, 1, .aload_n 0, 0, 0, 0, .null), 
  (139, 3, .getfield 12, 10, 0, 393, .null), (142, 1, .aload_n 0, 0, 0, 0, .null), (143, 3, .getfield 19, 10, 1, 394, .null), (146, 3, .invokevirtual 77, 0, 0, 0, .null), 
  (149, 1, .aload_n 0, 0, 0, 0, .null), (150, 3, .getfield 12, 10, 0, 393, .null), (153, 3, .invokevirtual 80, 0, 0, 0, .null), (156, 1, .aload_n 0, 0, 0, 0, .null), 
  (157, 3, .getfield 23, 10, 2, 395, .null), (160, 1, .aload_n 0, 0, 0, 0, .null), (161, 3, .getfield 19, 10, 1, 394, .null), (164, 3, .invokevirtual 83, 0, 0, 0, .null), 
  (167, 1, .return_, 0, 0, 0, .null)]
theorem okX11_init : tX11_init.all (okI yX11_init.cls (decide (yX11_init.name = "<init>")) cX11_init) = true := by decide +kernel
def tX11_say : List CI := [
  (0, 1, .iload_n 1, 1, 0, 0, .null), (1, 2, .bipush 33, 0, 0, 0, .int 33), (3, 3, .if_icmp .lt 9, 12, 0, 0, .null), (6, 1, .iload_n 1, 1, 0, 0, .null), 
  (7, 2, .bipush 126, 0, 0, 0, .int 126), (9, 3, .if_icmp .le 6, 15, 0, 0, .null), (12, 2, .bipush (-2), 0, 0, 0, .int (-2)), (14, 1, .ireturn, 0, 0, 0, .null), 
  (15, 1, .aload_n 0, 0, 0, 0, .null), (16, 3, .getfield 12, 10, 0, 393, .null), (19, 1, .iload_n 1, 1, 0, 0, .null), (20, 3, .invokevirtual 73, 0, 0, 0, .null), 
  (23, 3, .ifCond .eq 13, 36, 0, 0, .null), (26, 1, .aload_n 0, 0, 0, 0, .null), (27, 3, .getfield 12, 10, 0, 393, .null), (30, 3, .getfield 86, 3, 1, 105, .null), 
  (33, 3, .goto 5, 38, 0, 0, .null), (36, 2, .bipush (-4), 0, 0, 0, .int (-4)), (38, 1, .ireturn, 0, 0, 0, .null)]
theorem okX11_say : tX11_say.all (okI yX11_say.cls (decide (yX11_say.name = "<init>")) cX11_say) = true := by decide +kernel
def tX11_wipe : List CI := [
  (0, 1, .aload_n 0, 0, 0, 0, .null), (1, 3, .getfield 12, 10, 0, 393, .null), (4, 3, .getfield 86, 3, 1, 105, .null), (7, 1, .istore_n 1, 1, 0, 0, .null), 
  (8, 1, .aload_n 0, 0, 0, 0, .null), (9, 3, .getfield 12, 10, 0, 393, .null), (12, 3, .invokevirtual 80, 0, 0, 0, .null), (15, 1, .iload_n 1, 1, 0, 0, .null), 
  (16, 1, .ireturn, 0, 0, 0, .null)]
theorem okX11_wipe : tX11_wipe.all (okI yX11_wipe.cls (decide (yX11_wipe.name = "<init>")) cX11_wipe) = true := by decide +kernel
def tX11_fault : List CI := [
  (0, 1, .aload_n 0, 0, 0, 0, .null), (1, 3, .getfield 12, 10, 0, 393, .null), (4, 3, .invokevirtual 90, 0, 0, 0, .null), (7, 1, .ireturn, 0, 0, 0, .null)]
theorem okX11_fault : tX11_fault.all (okI yX11_fault.cls (decide (yX11_fault.name = "<init>")) cX11_fault) = true := by decide +kernel
def tX11_yard : List CI := [
  (0, 1, .aload_n 0, 0, 0, 0, .null), (1, 3, .getfield 12, 10, 0, 393, .null), (4, 3, .invokevirtual 90, 0, 0, 0, .null), (7, 2, .bipush (-6), 0, 0, 0, .int (-6)), 
  (9, 3, .if_icmp .eq 6, 15, 0, 0, .null), (12, 2, .bipush (-5), 0, 0, 0, .int (-5)), (14, 1, .ireturn, 0, 0, 0, .null), (15, 1, .aload_n 0, 0, 0, 0, .null), 
  (16, 3, .getfield 12, 10, 0, 393, .null), (19, 1, .aload_n 0, 0, 0, 0, .null), (20, 3, .getfield 19, 10, 1, 394, .null), (23, 3, .invokevirtual 77, 0, 0, 0, .null), 
  (26, 1, .aload_n 0, 0, 0, 0, .null), (27, 3, .getfield 12, 10, 0, 393, .null), (30, 3, .invokevirtual 80, 0, 0, 0, .null), (33, 1, .aload_n 0, 0, 0, 0, .null), 
  (34, 3, .getfield 29, 10, 3, 396, .null), (37, 1, .iconst 0, 0, 0, 0, .int 0), (38, 3, .putfield 94, 5, 0, 191, .long 0), (41, 1, .aload_n 0, 0, 0, 0, .null), 
  (42, 3, .invokevirtual 98, 0, 0, 0, .null), (45, 1, .aload_n 0, 0, 0, 0, .null), (46, 3, .getfield 19, 10, 1, 394, .null), (49, 3, .getfield 101, 9, 0, 136, .null), 
  (52, 1, .ireturn, 0, 0, 0, .null)]
theorem okX11_yard : tX11_yard.all (okI yX11_yard.cls (decide (yX11_yard.name = "<init>")) cX11_yard) = true := by decide +kernel
def tX11_siding : List CI := [
  (0, 1, .iload_n 1, 1, 0, 0, .null), (1, 3, .ifCond .lt 14, 15, 0, 0, .null), (4, 1, .iload_n 1, 1, 0, 0, .null), (5, 1, .aload_n 0, 0, 0, 0, .null), 
  (6, 3, .getfield 19, 10, 1, 394, .null), (9, 3, .getfield 101, 9, 0, 136, .null), (12, 3, .if_icmp .lt 5, 17, 0, 0, .null), (15, 1, .iconst (-1), 0, 0, 0, .int (-1)), 
  (16, 1, .ireturn, 0, 0, 0, .null), (17, 1, .iload_n 2, 2, 0, 0, .null), (18, 26, .tableswitch 53 0 2 #[26, 35, 44], 0, 0, 0, .null), (44, 1, .aload_n 0, 0, 0, 0, .null), 
  (45, 3, .getfield 19, 10, 1, 394, .null), (48, 1, .iload_n 1, 1, 0, 0, .null), (49, 3, .invokevirtual 104, 0, 0, 0, .null), (52, 1, .ireturn, 0, 0, 0, .null), 
  (53, 1, .aload_n 0, 0, 0, 0, .null), (54, 3, .getfield 19, 10, 1, 394, .null), (57, 1, .iload_n 1, 1, 0, 0, .null), (58, 3, .invokevirtual 108, 0, 0, 0, .null), 
  (61, 1, .ireturn, 0, 0, 0, .null), (62, 1, .aload_n 0, 0, 0, 0, .null), (63, 3, .getfield 19, 10, 1, 394, .null), (66, 1, .iload_n 1, 1, 0, 0, .null), 
  (67, 3, .invokevirtual 111, 0, 0, 0, .null), (70, 1, .ireturn, 0, 0, 0, .null), (71, 2, .bipush (-2), 0, 0, 0, .int (-2)), (73, 1, .ireturn, 0, 0, 0, .null)]
theorem okX11_siding : tX11_siding.all (okI yX11_siding.cls (decide (yX11_siding.name = "<init>")) cX11_siding) = true := by decide +kernel
def tX11_leads : List CI := [
  (0, 1, .aload_n 0, 0, 0, 0, .null), (1, 1, .iload_n 1, 1, 0, 0, .null), (2, 3, .invokevirtual 114, 0, 0, 0, .null), (5, 3, .ifCond .ne 11, 16, 0, 0, .null), 
  (8, 1, .aload_n 0, 0, 0, 0, .null), (9, 1, .iload_n 2, 2, 0, 0, .null), (10, 3, .invokevirtual 114, 0, 0, 0, .null), (13, 3, .ifCond .eq 5, 18, 0, 0, .null), 
  (16, 1, .iconst (-1), 0, 0, 0, .int (-1)), (17, 1, .ireturn, 0, 0, 0, .null), (18, 1, .iload_n 1, 1, 0, 0, .null), (19, 3, .ifCond .lt 17, 36, 0, 0, .null), 
  (22, 1, .iload_n 1, 1, 0, 0, .null), (23, 1, .iconst 5, 0, 0, 0, .int 5), (24, 3, .if_icmp .ge 12, 36, 0, 0, .null), (27, 1, .iload_n 2, 2, 0, 0, .null), 
  (28, 3, .ifCond .le 8, 36, 0, 0, .null), (31, 1, .iload_n 2, 2, 0, 0, .null), (32, 1, .iconst 5, 0, 0, 0, .int 5), (33, 3, .if_icmp .le 6, 39, 0, 0, .null), 
  (36, 2, .bipush (-2), 0, 0, 0, .int (-2)), (38, 1, .ireturn, 0, 0, 0, .null), (39, 1, .aload_n 0, 0, 0, 0, .null), (40, 3, .getfield 19, 10, 1, 394, .null), 
  (43, 1, .iload_n 1, 1, 0, 0, .null), (44, 1, .iload_n 2, 2, 0, 0, .null), (45, 3, .invokevirtual 117, 0, 0, 0, .null), (48, 3, .ifCond .eq 7, 55, 0, 0, .null), 
  (51, 1, .iconst 1, 0, 0, 0, .int 1), (52, 3, .goto 4, 56, 0, 0, .null), (55, 1, .iconst 0, 0, 0, 0, .int 0), (56, 1, .ireturn, 0, 0, 0, .null)]
theorem okX11_leads : tX11_leads.all (okI yX11_leads.cls (decide (yX11_leads.name = "<init>")) cX11_leads) = true := by decide +kernel
def tX11_least : List CI := [
  (0, 1, .iload_n 1, 1, 0, 0, .null), (1, 1, .iload_n 2, 2, 0, 0, .null), (2, 3, .invokestatic 121, 0, 0, 0, .null), (5, 3, .ifCond .ne 6, 11, 0, 0, .null), 
  (8, 2, .bipush (-2), 0, 0, 0, .int (-2)), (10, 1, .ireturn, 0, 0, 0, .null), (11, 1, .aload_n 0, 0, 0, 0, .null), (12, 1, .aload_n 0, 0, 0, 0, .null), 
  (13, 3, .getfield 19, 10, 1, 394, .null), (16, 1, .iload_n 1, 1, 0, 0, .null), (17, 3, .invokestatic 124, 0, 0, 0, .null), (20, 1, .iload_n 2, 2, 0, 0, .null), 
  (21, 3, .invokestatic 124, 0, 0, 0, .null), (24, 1, .iload_n 1, 1, 0, 0, .null), (25, 3, .invokestatic 129, 0, 0, 0, .null), (28, 3, .invokevirtual 132, 0, 0, 0, .null), 
  (31, 1, .istore_n 3, 3, 0, 0, .null), (32, 1, .iload_n 3, 3, 0, 0, .null), (33, 3, .ifCond .le 7, 40, 0, 0, .null), (36, 1, .iload_n 3, 3, 0, 0, .null), 
  (37, 3, .goto 5, 42, 0, 0, .null), (40, 2, .bipush (-6), 0, 0, 0, .int (-6)), (42, 1, .ireturn, 0, 0, 0, .null)]
theorem okX11_least : tX11_least.all (okI yX11_least.cls (decide (yX11_least.name = "<init>")) cX11_least) = true := by decide +kernel
def tX11_ways : List CI := [
  (0, 1, .iload_n 1, 1, 0, 0, .null), (1, 1, .iload_n 2, 2, 0, 0, .null), (2, 3, .invokestatic 121, 0, 0, 0, .null), (5, 3, .ifCond .ne 7, 12, 0, 0, .null), 
  (8, 3, .ldc2_w 136, 0, 0, 613, .long (-2)), (11, 1, .lreturn, 0, 0, 0, .null), (12, 1, .iload_n 1, 1, 0, 0, .null), (13, 3, .invokestatic 129, 0, 0, 0, .null), 
  (16, 1, .istore_n 3, 3, 0, 0, .null), (17, 1, .aload_n 0, 0, 0, 0, .null), (18, 3, .getfield 46, 10, 6, 399, .null), (21, 1, .aload_n 0, 0, 0, 0, .null), 
  (22, 3, .getfield 19, 10, 1, 394, .null), (25, 1, .iload_n 3, 3, 0, 0, .null), (26, 3, .invokevirtual 138, 0, 0, 0, .null), (29, 1, .aload_n 0, 0, 0, 0, .null), 
  (30, 3, .getfield 19, 10, 1, 394, .null), (33, 3, .getfield 142, 9, 8, 153, .null), (36, 1, .iload_n 1, 1, 0, 0, .null), (37, 3, .invokestatic 124, 0, 0, 0, .null), 
  (40, 1, .iload_n 2, 2, 0, 0, .null), (41, 3, .invokestatic 124, 0, 0, 0, .null), (44, 1, .iload_n 3, 3, 0, 0, .null), (45, 3, .invokestatic 146, 0, 0, 0, .null), 
  (48, 1, .iload_n 3, 3, 0, 0, .null), (49, 3, .invokevirtual 150, 0, 0, 0, .null), (52, 1, .lreturn, 0, 0, 0, .null)]
theorem okX11_ways : tX11_ways.all (okI yX11_ways.cls (decide (yX11_ways.name = "<init>")) cX11_ways) = true := by decide +kernel
def tX11_first : List CI := [
  (0, 1, .iload_n 1, 1, 0, 0, .null), (1, 1, .iload_n 2, 2, 0, 0, .null), (2, 3, .invokestatic 121, 0, 0, 0, .null), (5, 3, .ifCond .ne 6, 11, 0, 0, .null), 
  (8, 2, .bipush (-2), 0, 0, 0, .int (-2)), (10, 1, .ireturn, 0, 0, 0, .null), (11, 1, .iload_n 3, 3, 0, 0, .null), (12, 3, .ifCond .lt 9, 21, 0, 0, .null), 
  (15, 1, .iload_n 3, 3, 0, 0, .null), (16, 2, .bipush 20, 0, 0, 0, .int 20), (18, 3, .if_icmp .lt 6, 24, 0, 0, .null), (21, 2, .bipush (-6), 0, 0, 0, .int (-6)), 
  (23, 1, .ireturn, 0, 0, 0, .null), (24, 1, .iload_n 1, 1, 0, 0, .null), (25, 3, .invokestatic 129, 0, 0, 0, .null), (28, 2, .istore 4, 4, 0, 0, .null), 
  (30, 1, .aload_n 0, 0, 0, 0, .null), (31, 3, .getfield 55, 10, 7, 400, .null), (34, 1, .aload_n 0, 0, 0, 0, .null), (35, 3, .getfield 19, 10, 1, 394, .null), 
  (38, 2, .iload 4, 4, 0, 0, .null), (40, 1, .iload_n 1, 1, 0, 0, .null), (41, 3, .invokestatic 124, 0, 0, 0, .null), (44, 1, .iload_n 2, 2, 0, 0, .null), 
  (45, 3, .invokestatic 124, 0, 0, 0, .null), (48, 2, .iload 4, 4, 0, 0, .null), (50, 3, .invokestatic 146, 0, 0, 0, .null), (53, 3, .invokevirtual 156, 0, 0, 0, .null), 
  (56, 1, .aload_n 0, 0, 0, 0, .null), (57, 3, .getfield 55, 10, 7, 400, .null), (60, 1, .iload_n 3, 3, 0, 0, .null), (61, 3, .invokevirtual 160, 0, 0, 0, .null), 
  (64, 1, .ireturn, 0, 0, 0, .null)]
theorem okX11_first : tX11_first.all (okI yX11_first.cls (decide (yX11_first.name = "<init>")) cX11_first) = true := by decide +kernel
def tX11_orders : List CI := [
  (0, 1, .iload_n 1, 1, 0, 0, .null), (1, 3, .invokestatic 129, 0, 0, 0, .null), (4, 1, .istore_n 3, 3, 0, 0, .null), (5, 1, .iload_n 3, 3, 0, 0, .null), 
  (6, 3, .ifCond .ne 6, 12, 0, 0, .null), (9, 2, .bipush (-2), 0, 0, 0, .int (-2)), (11, 1, .ireturn, 0, 0, 0, .null), (12, 1, .iload_n 1, 1, 0, 0, .null), 
  (13, 3, .invokestatic 124, 0, 0, 0, .null), (16, 2, .istore 4, 4, 0, 0, .null), (18, 1, .iload_n 3, 3, 0, 0, .null), (19, 3, .invokestatic 163, 0, 0, 0, .null), 
  (22, 2, .istore 5, 5, 0, 0, .null), (24, 1, .iconst 0, 0, 0, 0, .int 0), (25, 2, .istore 6, 6, 0, 0, .null), (27, 1, .iconst 0, 0, 0, 0, .int 0), 
  (28, 2, .istore 7, 7, 0, 0, .null), (30, 2, .iload 7, 7, 0, 0, .null), (32, 2, .iload 5, 5, 0, 0, .null), (34, 3, .if_icmp .ge 48, 82, 0, 0, .null), 
  (37, 2, .iload 7, 7, 0, 0, .null), (39, 1, .iload_n 3, 3, 0, 0, .null), (40, 3, .invokestatic 166, 0, 0, 0, .null), (43, 2, .istore 8, 8, 0, 0, .null), 
  (45, 1, .aload_n 0, 0, 0, 0, .null), (46, 1, .aload_n 0, 0, 0, 0, .null), (47, 3, .getfield 19, 10, 1, 394, .null), (50, 2, .iload 4, 4, 0, 0, .null), 
  (52, 2, .iload 8, 8, 0, 0, .null), (54, 1, .iload_n 3, 3, 0, 0, .null), (55, 3, .invokevirtual 132, 0, 0, 0, .null), (58, 3, .ifCond .le 18, 76, 0, 0, .null), 
  (61, 2, .iload 6, 6, 0, 0, .null), (63, 1, .iload_n 2, 2, 0, 0, .null), (64, 3, .if_icmp .ne 9, 73, 0, 0, .null), (67, 2, .iload 8, 8, 0, 0, .null), 
  (69, 3, .invokestatic 170, 0, 0, 0, .null), (72, 1, .ireturn, 0, 0, 0, .null), (73, 3, .iinc 6 1, 6, 0, 0, .int 1), (76, 3, .iinc 7 1, 7, 0, 0, .int 1), 
  (79, 3, .goto (-49), 30, 0, 0, .null), (82, 1, .iload_n 2, 2, 0, 0, .null), (83, 1, .iconst (-1), 0, 0, 0, .int (-1)), (84, 3, .if_icmp .ne 8, 92, 0, 0, .null), 
  (87, 2, .iload 6, 6, 0, 0, .null), (89, 3, .goto 5, 94, 0, 0, .null), (92, 2, .bipush (-6), 0, 0, 0, .int (-6)), (94, 1, .ireturn, 0, 0, 0, .null)]
theorem okX11_orders : tX11_orders.all (okI yX11_orders.cls (decide (yX11_orders.name = "<init>")) cX11_orders) = true := by decide +kernel
def tX11_good : List CI := [
  (0, 1, .iload_n 1, 1, 0, 0, .null), (1, 1, .iconst 1, 0, 0, 0, .int 1), (2, 3, .if_icmp .lt 17, 19, 0, 0, .null), (5, 1, .iload_n 1, 1, 0, 0, .null), 
  (6, 1, .iconst 5, 0, 0, 0, .int 5), (7, 3, .if_icmp .gt 12, 19, 0, 0, .null), (10, 1, .iload_n 2, 2, 0, 0, .null), (11, 3, .ifCond .lt 8, 19, 0, 0, .null), 
  (14, 1, .iload_n 2, 2, 0, 0, .null), (15, 1, .iconst 1, 0, 0, 0, .int 1), (16, 3, .if_icmp .le 6, 22, 0, 0, .null), (19, 2, .bipush (-2), 0, 0, 0, .int (-2)), 
  (21, 1, .ireturn, 0, 0, 0, .null), (22, 1, .iload_n 1, 1, 0, 0, .null), (23, 3, .invokestatic 163, 0, 0, 0, .null), (26, 1, .istore_n 3, 3, 0, 0, .null), 
  (27, 1, .iconst 0, 0, 0, 0, .int 0), (28, 2, .istore 4, 4, 0, 0, .null), (30, 1, .iconst 0, 0, 0, 0, .int 0), (31, 2, .istore 5, 5, 0, 0, .null), 
  (33, 2, .iload 5, 5, 0, 0, .null), (35, 1, .iload_n 3, 3, 0, 0, .null), (36, 3, .if_icmp .ge 48, 84, 0, 0, .null), (39, 2, .iload 5, 5, 0, 0, .null), 
  (41, 1, .iload_n 1, 1, 0, 0, .null), (42, 3, .invokestatic 166, 0, 0, 0, .null), (45, 2, .istore 6, 6, 0, 0, .null), (47, 1, .aload_n 0, 0, 0, 0, .null), 
  (48, 1, .aload_n 0, 0, 0, 0, .null), (49, 3, .getfield 19, 10, 1, 394, .null), (52, 2, .iload 6, 6, 0, 0, .null), (54, 1, .iload_n 1, 1, 0, 0, .null), 
  (55, 3, .invokevirtual 173, 0, 0, 0, .null), (58, 3, .ifCond .le 9, 67, 0, 0, .null), (61, 3, .iinc 4 1, 4, 0, 0, .int 1), (64, 3, .goto 14, 78, 0, 0, .null), 
  (67, 1, .iload_n 2, 2, 0, 0, .null), (68, 1, .iconst 1, 0, 0, 0, .int 1), (69, 3, .if_icmp .ne 9, 78, 0, 0, .null), (72, 2, .iload 6, 6, 0, 0, .null), 
  (74, 3, .invokestatic 170, 0, 0, 0, .null), (77, 1, .ireturn, 0, 0, 0, .null), (78, 3, .iinc 5 1, 5, 0, 0, .int 1), (81, 3, .goto (-48), 33, 0, 0, .null), 
  (84, 1, .iload_n 2, 2, 0, 0, .null), (85, 3, .ifCond .ne 8, 93, 0, 0, .null), (88, 2, .iload 4, 4, 0, 0, .null), (90, 3, .goto 5, 95, 0, 0, .null), 
  (93, 2, .bipush (-6), 0, 0, 0, .int (-6)), (95, 1, .ireturn, 0, 0, 0, .null)]
theorem okX11_good : tX11_good.all (okI yX11_good.cls (decide (yX11_good.name = "<init>")) cX11_good) = true := by decide +kernel
def tX11_mean : List CI := [
  (0, 1, .iload_n 1, 1, 0, 0, .null), (1, 1, .iconst 1, 0, 0, 0, .int 1), (2, 3, .if_icmp .lt 17, 19, 0, 0, .null), (5, 1, .iload_n 1, 1, 0, 0, .null), 
  (6, 1, .iconst 5, 0, 0, 0, .int 5), (7, 3, .if_icmp .gt 12, 19, 0, 0, .null), (10, 1, .iload_n 2, 2, 0, 0, .null), (11, 3, .ifCond .lt 8, 19, 0, 0, .null), 
  (14, 1, .iload_n 2, 2, 0, 0, .null), (15, 1, .iconst 1, 0, 0, 0, .int 1), (16, 3, .if_icmp .le 7, 23, 0, 0, .null), 
  (19, 3, .ldc2_w 177, 0, 0, 685, .long (-1000000000000000002)), (22, 1, .lreturn, 0, 0, 0, .null), (23, 1, .iload_n 1, 1, 0, 0, .null), 
  (24, 3, .invokestatic 163, 0, 0, 0, .null), (27, 1, .istore_n 3, 3, 0, 0, .null), (28, 1, .iconst 0, 0, 0, 0, .int 0), (29, 2, .istore 4, 4, 0, 0, .null), 
  (31, 1, .iconst 0, 0, 0, 0, .int 0), (32, 2, .istore 5, 5, 0, 0, .null), (34, 1, .iconst 0, 0, 0, 0, .int 0), (35, 2, .istore 6, 6, 0, 0, .null), 
  (37, 2, .iload 6, 6, 0, 0, .null), (39, 1, .iload_n 3, 3, 0, 0, .null), (40, 3, .if_icmp .ge 41, 81, 0, 0, .null), (43, 1, .aload_n 0, 0, 0, 0, .null), 
  (44, 1, .aload_n 0, 0, 0, 0, .null), (45, 3, .getfield 19, 10, 1, 394, .null), (48, 2, .iload 6, 6, 0, 0, .null), (50, 1, .iload_n 1, 1, 0, 0, .null), 
  (51, 3, .invokestatic 166, 0, 0, 0, .null), (54, 1, .iload_n 1, 1, 0, 0, .null), (55, 3, .invokevirtual 173, 0, 0, 0, .null), (58, 2, .istore 7, 7, 0, 0, .null), 
  (60, 2, .iload 7, 7, 0, 0, .null), (62, 3, .ifCond .le 13, 75, 0, 0, .null), (65, 3, .iinc 4 1, 4, 0, 0, .int 1), (68, 2, .iload 5, 5, 0, 0, .null), 
  (70, 2, .iload 7, 7, 0, 0, .null), (72, 1, .iadd, 0, 0, 0, .null), (73, 2, .istore 5, 5, 0, 0, .null), (75, 3, .iinc 6 1, 6, 0, 0, .int 1), 
  (78, 3, .goto (-41), 37, 0, 0, .null), (81, 2, .iload 5, 5, 0, 0, .null), (83, 2, .iload 4, 4, 0, 0, .null), (85, 1, .iload_n 2, 2, 0, 0, .null), 
  (86, 3, .invokestatic 179, 0, 0, 0, .null), (89, 1, .lreturn, 0, 0, 0, .null)]
theorem okX11_mean : tX11_mean.all (okI yX11_mean.cls (decide (yX11_mean.name = "<init>")) cX11_mean) = true := by decide +kernel
def tX11_need : List CI := [
  (0, 1, .iload_n 2, 2, 0, 0, .null), (1, 1, .iconst (-1), 0, 0, 0, .int (-1)), (2, 3, .if_icmp .lt 14, 16, 0, 0, .null), (5, 1, .iload_n 2, 2, 0, 0, .null), 
  (6, 1, .aload_n 0, 0, 0, 0, .null), (7, 3, .getfield 19, 10, 1, 394, .null), (10, 3, .getfield 101, 9, 0, 136, .null), (13, 3, .if_icmp .lt 5, 18, 0, 0, .null), 
  (16, 1, .iconst (-1), 0, 0, 0, .int (-1)), (17, 1, .ireturn, 0, 0, 0, .null), (18, 1, .iload_n 1, 1, 0, 0, .null), (19, 3, .invokestatic 129, 0, 0, 0, .null), 
  (22, 1, .istore_n 3, 3, 0, 0, .null), (23, 1, .iload_n 3, 3, 0, 0, .null), (24, 3, .ifCond .ne 6, 30, 0, 0, .null), (27, 2, .bipush (-2), 0, 0, 0, .int (-2)), 
  (29, 1, .ireturn, 0, 0, 0, .null), (30, 1, .iload_n 1, 1, 0, 0, .null), (31, 3, .invokestatic 124, 0, 0, 0, .null), (34, 2, .istore 4, 4, 0, 0, .null), 
  (36, 1, .aload_n 0, 0, 0, 0, .null), (37, 1, .aload_n 0, 0, 0, 0, .null), (38, 3, .getfield 19, 10, 1, 394, .null), (41, 2, .iload 4, 4, 0, 0, .null), 
  (43, 1, .iload_n 3, 3, 0, 0, .null), (44, 3, .invokevirtual 173, 0, 0, 0, .null), (47, 3, .ifCond .ne 6, 53, 0, 0, .null), (50, 2, .bipush (-5), 0, 0, 0, .int (-5)), 
  (52, 1, .ireturn, 0, 0, 0, .null), (53, 1, .aload_n 0, 0, 0, 0, .null), (54, 3, .getfield 62, 10, 8, 401, .null), (57, 3, .getfield 183, 1, 0, 290, .null), 
  (60, 1, .iload_n 1, 1, 0, 0, .null), (61, 3, .if_icmp .eq 37, 98, 0, 0, .null), (64, 1, .aload_n 0, 0, 0, 0, .null), (65, 3, .getfield 62, 10, 8, 401, .null), 
  (68, 1, .aload_n 0, 0, 0, 0, .null), (69, 3, .getfield 19, 10, 1, 394, .null), (72, 1, .aload_n 0, 0, 0, 0, .null), (73, 3, .getfield 55, 10, 7, 400, .null), 
  (76, 1, .iload_n 3, 3, 0, 0, .null), (77, 2, .iload 4, 4, 0, 0, .null), (79, 1, .iload_n 3, 3, 0, 0, .null), (80, 3, .invokestatic 186, 0, 0, 0, .null), 
  (83, 1, .iload_n 3, 3, 0, 0, .null), (84, 3, .invokestatic 146, 0, 0, 0, .null), (87, 3, .invokevirtual 189, 0, 0, 0, .null), (90, 1, .aload_n 0, 0, 0, 0, .null), 
  (91, 3, .getfield 62, 10, 8, 401, .null), (94, 1, .iload_n 1, 1, 0, 0, .null), (95, 3, .putfield 183, 1, 0, 290, .int 0), (98, 1, .iload_n 2, 2, 0, 0, .null), 
  (99, 1, .iconst (-1), 0, 0, 0, .int (-1)), (100, 3, .if_icmp .ne 13, 113, 0, 0, .null), (103, 1, .aload_n 0, 0, 0, 0, .null), (104, 3, .getfield 62, 10, 8, 401, .null), 
  (107, 3, .getfield 193, 1, 1, 292, .null), (110, 3, .goto 14, 124, 0, 0, .null), (113, 1, .aload_n 0, 0, 0, 0, .null), (114, 3, .getfield 62, 10, 8, 401, .null), 
  (117, 3, .getfield 196, 1, 2, 294, .null), (120, 1, .iload_n 2, 2, 0, 0, .null), (121, 3, .invokevirtual 108, 0, 0, 0, .null), (124, 1, .ireturn, 0, 0, 0, .null)]
theorem okX11_need : tX11_need.all (okI yX11_need.cls (decide (yX11_need.name = "<init>")) cX11_need) = true := by decide +kernel
def tX11_keep : List CI := [
  (0, 1, .aload_n 0, 0, 0, 0, .null), (1, 3, .getfield 23, 10, 2, 395, .null), (4, 1, .aload_n 0, 0, 0, 0, .null), (5, 3, .getfield 19, 10, 1, 394, .null), 
  (8, 3, .invokevirtual 83, 0, 0, 0, .null), (11, 1, .aload_n 0, 0, 0, 0, .null), (12, 3, .getfield 23, 10, 2, 395, .null), (15, 3, .getfield 101, 9, 0, 136, .null), 
  (18, 1, .ireturn, 0, 0, 0, .null)]
theorem okX11_keep : tX11_keep.all (okI yX11_keep.cls (decide (yX11_keep.name = "<init>")) cX11_keep) = true := by decide +kernel
def tX11_unlike : List CI := [
  (0, 1, .iload_n 1, 1, 0, 0, .null), (1, 1, .iconst 1, 0, 0, 0, .int 1), (2, 3, .if_icmp .lt 8, 10, 0, 0, .null), (5, 1, .iload_n 1, 1, 0, 0, .null), 
  (6, 1, .iconst 5, 0, 0, 0, .int 5), (7, 3, .if_icmp .le 6, 13, 0, 0, .null), (10, 2, .bipush (-2), 0, 0, 0, .int (-2)), (12, 1, .ireturn, 0, 0, 0, .null), 
  (13, 1, .iload_n 1, 1, 0, 0, .null), (14, 3, .invokestatic 163, 0, 0, 0, .null), (17, 1, .istore_n 2, 2, 0, 0, .null), (18, 1, .iconst 0, 0, 0, 0, .int 0), 
  (19, 1, .istore_n 3, 3, 0, 0, .null), (20, 1, .iload_n 3, 3, 0, 0, .null), (21, 1, .iload_n 2, 2, 0, 0, .null), (22, 3, .if_icmp .ge 71, 93, 0, 0, .null), 
  (25, 1, .iload_n 3, 3, 0, 0, .null), (26, 1, .iload_n 1, 1, 0, 0, .null), (27, 3, .invokestatic 166, 0, 0, 0, .null), (30, 2, .istore 4, 4, 0, 0, .null), 
  (32, 1, .aload_n 0, 0, 0, 0, .null), (33, 1, .aload_n 0, 0, 0, 0, .null), (34, 3, .getfield 19, 10, 1, 394, .null), (37, 2, .iload 4, 4, 0, 0, .null), 
  (39, 1, .iload_n 1, 1, 0, 0, .null), (40, 3, .invokevirtual 173, 0, 0, 0, .null), (43, 3, .ifCond .le 7, 50, 0, 0, .null), (46, 1, .iconst 1, 0, 0, 0, .int 1), 
  (47, 3, .goto 4, 51, 0, 0, .null), (50, 1, .iconst 0, 0, 0, 0, .int 0), (51, 2, .istore 5, 5, 0, 0, .null), (53, 1, .aload_n 0, 0, 0, 0, .null), 
  (54, 1, .aload_n 0, 0, 0, 0, .null), (55, 3, .getfield 23, 10, 2, 395, .null), (58, 2, .iload 4, 4, 0, 0, .null), (60, 1, .iload_n 1, 1, 0, 0, .null), 
  (61, 3, .invokevirtual 173, 0, 0, 0, .null), (64, 3, .ifCond .le 7, 71, 0, 0, .null), (67, 1, .iconst 1, 0, 0, 0, .int 1), (68, 3, .goto 4, 72, 0, 0, .null), 
  (71, 1, .iconst 0, 0, 0, 0, .int 0), (72, 2, .istore 6, 6, 0, 0, .null), (74, 2, .iload 5, 5, 0, 0, .null), (76, 2, .iload 6, 6, 0, 0, .null), 
  (78, 3, .if_icmp .eq 9, 87, 0, 0, .null), (81, 2, .iload 4, 4, 0, 0, .null), (83, 3, .invokestatic 170, 0, 0, 0, .null), (86, 1, .ireturn, 0, 0, 0, .null), 
  (87, 3, .iinc 3 1, 3, 0, 0, .int 1), (90, 3, .goto (-70), 20, 0, 0, .null), (93, 2, .bipush (-6), 0, 0, 0, .int (-6)), (95, 1, .ireturn, 0, 0, 0, .null)]
theorem okX11_unlike : tX11_unlike.all (okI yX11_unlike.cls (decide (yX11_unlike.name = "<init>")) cX11_unlike) = true := by decide +kernel
def tX11_play : List CI := [
  (0, 1, .iload_n 1, 1, 0, 0, .null), (1, 1, .iload_n 2, 2, 0, 0, .null), (2, 3, .invokestatic 121, 0, 0, 0, .null), (5, 3, .ifCond .ne 6, 11, 0, 0, .null), 
  (8, 2, .bipush (-2), 0, 0, 0, .int (-2)), (10, 1, .ireturn, 0, 0, 0, .null), (11, 1, .iload_n 1, 1, 0, 0, .null), (12, 3, .invokestatic 129, 0, 0, 0, .null), 
  (15, 1, .istore_n 3, 3, 0, 0, .null), (16, 1, .aload_n 0, 0, 0, 0, .null), (17, 3, .getfield 29, 10, 3, 396, .null), (20, 1, .iload_n 1, 1, 0, 0, .null), 
  (21, 3, .invokestatic 124, 0, 0, 0, .null), (24, 1, .iload_n 2, 2, 0, 0, .null), (25, 3, .invokestatic 124, 0, 0, 0, .null), (28, 1, .iload_n 3, 3, 0, 0, .null), 
  (29, 3, .invokevirtual 199, 0, 0, 0, .null), (32, 1, .aload_n 0, 0, 0, 0, .null), (33, 1, .aload_n 0, 0, 0, 0, .null), (34, 3, .getfield 19, 10, 1, 394, .null), 
  (37, 1, .aload_n 0, 0, 0, 0, .null), (38, 3, .getfield 29, 10, 3, 396, .null), (41, 3, .getfield 203, 5, 1, 193, .null), (44, 1, .aload_n 0, 0, 0, 0, .null), 
  (45, 3, .getfield 29, 10, 3, 396, .null), (48, 3, .getfield 204, 5, 2, 195, .null), (51, 1, .iload_n 3, 3, 0, 0, .null), (52, 3, .invokevirtual 132, 0, 0, 0, .null), 
  (55, 2, .istore 4, 4, 0, 0, .null), (57, 2, .iload 4, 4, 0, 0, .null), (59, 3, .ifCond .le 8, 67, 0, 0, .null), (62, 2, .iload 4, 4, 0, 0, .null), 
  (64, 3, .goto 5, 69, 0, 0, .null), (67, 2, .bipush (-6), 0, 0, 0, .int (-6)), (69, 1, .ireturn, 0, 0, 0, .null)]
theorem okX11_play : tX11_play.all (okI yX11_play.cls (decide (yX11_play.name = "<init>")) cX11_play) = true := by decide +kernel
def tX11_move : List CI := [
  (0, 1, .aload_n 0, 0, 0, 0, .null), (1, 3, .getfield 29, 10, 3, 396, .null), (4, 3, .getfield 94, 5, 0, 191, .null), (7, 3, .ifCond .ne 6, 13, 0, 0, .null), 
  (10, 2, .bipush (-3), 0, 0, 0, .int (-3)), (12, 1, .ireturn, 0, 0, 0, .null), (13, 1, .aload_n 0, 0, 0, 0, .null), (14, 3, .getfield 19, 10, 1, 394, .null), 
  (17, 1, .iload_n 1, 1, 0, 0, .null), (18, 3, .invokevirtual 207, 0, 0, 0, .null), (21, 3, .ifCond .eq 42, 63, 0, 0, .null), (24, 1, .aload_n 0, 0, 0, 0, .null), 
  (25, 3, .getfield 29, 10, 3, 396, .null), (28, 3, .getfield 210, 5, 6, 202, .null), (31, 1, .aload_n 0, 0, 0, 0, .null), (32, 3, .getfield 19, 10, 1, 394, .null), 
  (35, 1, .iload_n 1, 1, 0, 0, .null), (36, 3, .invokevirtual 214, 0, 0, 0, .null), (39, 3, .ifCond .eq 24, 63, 0, 0, .null), (42, 1, .aload_n 0, 0, 0, 0, .null), 
  (43, 3, .getfield 29, 10, 3, 396, .null), (46, 1, .iload_n 1, 1, 0, 0, .null), (47, 3, .invokevirtual 220, 0, 0, 0, .null), (50, 3, .ifCond .eq 13, 63, 0, 0, .null), 
  (53, 1, .aload_n 0, 0, 0, 0, .null), (54, 3, .getfield 29, 10, 3, 396, .null), (57, 3, .getfield 221, 5, 4, 199, .null), (60, 3, .goto 5, 65, 0, 0, .null), 
  (63, 2, .bipush (-5), 0, 0, 0, .int (-5)), (65, 1, .ireturn, 0, 0, 0, .null)]
theorem okX11_move : tX11_move.all (okI yX11_move.cls (decide (yX11_move.name = "<init>")) cX11_move) = true := by decide +kernel
def tX11_back : List CI := [
  (0, 1, .aload_n 0, 0, 0, 0, .null), (1, 3, .getfield 29, 10, 3, 396, .null), (4, 3, .getfield 94, 5, 0, 191, .null), (7, 3, .ifCond .ne 6, 13, 0, 0, .null), 
  (10, 2, .bipush (-3), 0, 0, 0, .int (-3)), (12, 1, .ireturn, 0, 0, 0, .null), (13, 1, .aload_n 0, 0, 0, 0, .null), (14, 3, .getfield 29, 10, 3, 396, .null), 
  (17, 3, .invokevirtual 224, 0, 0, 0, .null), (20, 3, .ifCond .eq 13, 33, 0, 0, .null), (23, 1, .aload_n 0, 0, 0, 0, .null), (24, 3, .getfield 29, 10, 3, 396, .null), 
  (27, 3, .getfield 221, 5, 4, 199, .null), (30, 3, .goto 5, 35, 0, 0, .null), (33, 2, .bipush (-5), 0, 0, 0, .int (-5)), (35, 1, .ireturn, 0, 0, 0, .null)]
theorem okX11_back : tX11_back.all (okI yX11_back.cls (decide (yX11_back.name = "<init>")) cX11_back) = true := by decide +kernel
def tX11_rest : List CI := [
  (0, 1, .aload_n 0, 0, 0, 0, .null), (1, 3, .getfield 29, 10, 3, 396, .null), (4, 3, .getfield 94, 5, 0, 191, .null), (7, 3, .ifCond .ne 6, 13, 0, 0, .null), 
  (10, 2, .bipush (-3), 0, 0, 0, .int (-3)), (12, 1, .ireturn, 0, 0, 0, .null), (13, 1, .aload_n 0, 0, 0, 0, .null), (14, 3, .invokevirtual 228, 0, 0, 0, .null), 
  (17, 1, .aload_n 0, 0, 0, 0, .null), (18, 3, .getfield 55, 10, 7, 400, .null), (21, 1, .aload_n 0, 0, 0, 0, .null), (22, 3, .getfield 29, 10, 3, 396, .null), 
  (25, 3, .getfield 210, 5, 6, 202, .null), (28, 3, .invokevirtual 231, 0, 0, 0, .null), (31, 1, .istore_n 1, 1, 0, 0, .null), (32, 1, .iload_n 1, 1, 0, 0, .null), 
  (33, 3, .ifCond .ge 8, 41, 0, 0, .null), (36, 2, .bipush (-6), 0, 0, 0, .int (-6)), (38, 3, .goto 4, 42, 0, 0, .null), (41, 1, .iload_n 1, 1, 0, 0, .null), 
  (42, 1, .ireturn, 0, 0, 0, .null)]
theorem okX11_rest : tX11_rest.all (okI yX11_rest.cls (decide (yX11_rest.name = "<init>")) cX11_rest) = true := by decide +kernel
def tX11_next : List CI := [
  (0, 1, .aload_n 0, 0, 0, 0, .null), (1, 3, .getfield 29, 10, 3, 396, .null), (4, 3, .getfield 94, 5, 0, 191, .null), (7, 3, .ifCond .ne 6, 13, 0, 0, .null), 
  (10, 2, .bipush (-3), 0, 0, 0, .int (-3)), (12, 1, .ireturn, 0, 0, 0, .null), (13, 1, .aload_n 0, 0, 0, 0, .null), (14, 3, .invokevirtual 228, 0, 0, 0, .null), 
  (17, 1, .aload_n 0, 0, 0, 0, .null), (18, 3, .getfield 55, 10, 7, 400, .null), (21, 1, .aload_n 0, 0, 0, 0, .null), (22, 3, .getfield 29, 10, 3, 396, .null), 
  (25, 3, .getfield 210, 5, 6, 202, .null), (28, 3, .invokevirtual 235, 0, 0, 0, .null), (31, 1, .ireturn, 0, 0, 0, .null)]
theorem okX11_next : tX11_next.all (okI yX11_next.cls (decide (yX11_next.name = "<init>")) cX11_next) = true := by decide +kernel
def tX11_moves : List CI := [
  (0, 1, .aload_n 0, 0, 0, 0, .null), (1, 3, .getfield 29, 10, 3, 396, .null), (4, 3, .getfield 94, 5, 0, 191, .null), (7, 3, .ifCond .ne 6, 13, 0, 0, .null), 
  (10, 2, .bipush (-3), 0, 0, 0, .int (-3)), (12, 1, .ireturn, 0, 0, 0, .null), (13, 1, .iconst 0, 0, 0, 0, .int 0), (14, 1, .istore_n 2, 2, 0, 0, .null), 
  (15, 1, .iconst 0, 0, 0, 0, .int 0), (16, 1, .istore_n 3, 3, 0, 0, .null), (17, 1, .iload_n 3, 3, 0, 0, .null), (18, 1, .aload_n 0, 0, 0, 0, .null), 
  (19, 3, .getfield 19, 10, 1, 394, .null), (22, 3, .getfield 238, 9, 2, 145, .null), (25, 3, .if_icmp .ge 49, 74, 0, 0, .null), (28, 1, .aload_n 0, 0, 0, 0, .null), 
  (29, 3, .getfield 19, 10, 1, 394, .null), (32, 1, .iload_n 3, 3, 0, 0, .null), (33, 3, .invokevirtual 241, 0, 0, 0, .null), (36, 2, .istore 4, 4, 0, 0, .null), 
  (38, 1, .aload_n 0, 0, 0, 0, .null), (39, 3, .getfield 29, 10, 3, 396, .null), (42, 3, .getfield 210, 5, 6, 202, .null), (45, 1, .aload_n 0, 0, 0, 0, .null), 
  (46, 3, .getfield 19, 10, 1, 394, .null), (49, 2, .iload 4, 4, 0, 0, .null), (51, 3, .invokevirtual 214, 0, 0, 0, .null), (54, 3, .ifCond .eq 14, 68, 0, 0, .null), 
  (57, 1, .iload_n 2, 2, 0, 0, .null), (58, 1, .iload_n 1, 1, 0, 0, .null), (59, 3, .if_icmp .ne 6, 65, 0, 0, .null), (62, 2, .iload 4, 4, 0, 0, .null), 
  (64, 1, .ireturn, 0, 0, 0, .null), (65, 3, .iinc 2 1, 2, 0, 0, .int 1), (68, 3, .iinc 3 1, 3, 0, 0, .int 1), (71, 3, .goto (-54), 17, 0, 0, .null), 
  (74, 1, .iload_n 1, 1, 0, 0, .null), (75, 1, .iconst (-1), 0, 0, 0, .int (-1)), (76, 3, .if_icmp .ne 7, 83, 0, 0, .null), (79, 1, .iload_n 2, 2, 0, 0, .null), 
  (80, 3, .goto 5, 85, 0, 0, .null), (83, 2, .bipush (-6), 0, 0, 0, .int (-6)), (85, 1, .ireturn, 0, 0, 0, .null)]
theorem okX11_moves : tX11_moves.all (okI yX11_moves.cls (decide (yX11_moves.name = "<init>")) cX11_moves) = true := by decide +kernel
def tX11_stand : List CI := [
  (0, 1, .aload_n 0, 0, 0, 0, .null), (1, 1, .iload_n 1, 1, 0, 0, .null), (2, 3, .invokevirtual 114, 0, 0, 0, .null), (5, 3, .ifCond .eq 5, 10, 0, 0, .null), 
  (8, 1, .iconst (-1), 0, 0, 0, .int (-1)), (9, 1, .ireturn, 0, 0, 0, .null), (10, 1, .iload_n 1, 1, 0, 0, .null), (11, 3, .ifCond .lt 8, 19, 0, 0, .null), 
  (14, 1, .iload_n 1, 1, 0, 0, .null), (15, 1, .iconst 5, 0, 0, 0, .int 5), (16, 3, .if_icmp .le 6, 22, 0, 0, .null), (19, 2, .bipush (-2), 0, 0, 0, .int (-2)), 
  (21, 1, .ireturn, 0, 0, 0, .null), (22, 1, .aload_n 0, 0, 0, 0, .null), (23, 3, .getfield 29, 10, 3, 396, .null), (26, 3, .getfield 94, 5, 0, 191, .null), 
  (29, 3, .ifCond .ne 6, 35, 0, 0, .null), (32, 2, .bipush (-3), 0, 0, 0, .int (-3)), (34, 1, .ireturn, 0, 0, 0, .null), (35, 1, .aload_n 0, 0, 0, 0, .null), 
  (36, 3, .getfield 29, 10, 3, 396, .null), (39, 3, .getfield 210, 5, 6, 202, .null), (42, 1, .iload_n 1, 1, 0, 0, .null), (43, 3, .invokevirtual 244, 0, 0, 0, .null), 
  (46, 1, .aload_n 0, 0, 0, 0, .null), (47, 3, .getfield 29, 10, 3, 396, .null), (50, 3, .getfield 203, 5, 1, 193, .null), (53, 3, .invokestatic 247, 0, 0, 0, .null), 
  (56, 3, .invokestatic 170, 0, 0, 0, .null), (59, 1, .ireturn, 0, 0, 0, .null)]
theorem okX11_stand : tX11_stand.all (okI yX11_stand.cls (decide (yX11_stand.name = "<init>")) cX11_stand) = true := by decide +kernel
def tX11_thumb : List CI := [
  (0, 1, .iload_n 1, 1, 0, 0, .null), (1, 3, .invokestatic 129, 0, 0, 0, .null), (4, 1, .istore_n 3, 3, 0, 0, .null), (5, 1, .iload_n 3, 3, 0, 0, .null), 
  (6, 3, .ifCond .eq 12, 18, 0, 0, .null), (9, 1, .iload_n 2, 2, 0, 0, .null), (10, 3, .ifCond .lt 8, 18, 0, 0, .null), (13, 1, .iload_n 2, 2, 0, 0, .null), 
  (14, 1, .iconst 2, 0, 0, 0, .int 2), (15, 3, .if_icmp .le 6, 21, 0, 0, .null), (18, 2, .bipush (-2), 0, 0, 0, .int (-2)), (20, 1, .ireturn, 0, 0, 0, .null), 
  (21, 1, .aload_n 0, 0, 0, 0, .null), (22, 3, .getfield 69, 10, 9, 402, .null), (25, 1, .aload_n 0, 0, 0, 0, .null), (26, 3, .getfield 19, 10, 1, 394, .null), 
  (29, 1, .iload_n 1, 1, 0, 0, .null), (30, 3, .invokestatic 124, 0, 0, 0, .null), (33, 1, .iload_n 3, 3, 0, 0, .null), (34, 1, .iload_n 2, 2, 0, 0, .null), 
  (35, 3, .invokevirtual 250, 0, 0, 0, .null), (38, 1, .ireturn, 0, 0, 0, .null)]
theorem okX11_thumb : tX11_thumb.all (okI yX11_thumb.cls (decide (yX11_thumb.name = "<init>")) cX11_thumb) = true := by decide +kernel
def tX11_sorts : List CI := [
  (0, 1, .iload_n 1, 1, 0, 0, .null), (1, 1, .iconst 1, 0, 0, 0, .int 1), (2, 3, .if_icmp .lt 17, 19, 0, 0, .null), (5, 1, .iload_n 1, 1, 0, 0, .null), 
  (6, 1, .iconst 5, 0, 0, 0, .int 5), (7, 3, .if_icmp .gt 12, 19, 0, 0, .null), (10, 1, .iload_n 2, 2, 0, 0, .null), (11, 3, .ifCond .lt 8, 19, 0, 0, .null), 
  (14, 1, .iload_n 2, 2, 0, 0, .null), (15, 1, .iconst 2, 0, 0, 0, .int 2), (16, 3, .if_icmp .le 6, 22, 0, 0, .null), (19, 2, .bipush (-2), 0, 0, 0, .int (-2)), 
  (21, 1, .ireturn, 0, 0, 0, .null), (22, 1, .iload_n 1, 1, 0, 0, .null), (23, 3, .invokestatic 163, 0, 0, 0, .null), (26, 1, .istore_n 3, 3, 0, 0, .null), 
  (27, 1, .iconst 0, 0, 0, 0, .int 0), (28, 2, .istore 4, 4, 0, 0, .null), (30, 1, .iconst 0, 0, 0, 0, .int 0), (31, 2, .istore 5, 5, 0, 0, .null), 
  (33, 2, .iload 5, 5, 0, 0, .null), (35, 1, .iload_n 3, 3, 0, 0, .null), (36, 3, .if_icmp .ge 35, 71, 0, 0, .null), (39, 1, .aload_n 0, 0, 0, 0, .null), 
  (40, 3, .getfield 69, 10, 9, 402, .null), (43, 1, .aload_n 0, 0, 0, 0, .null), (44, 3, .getfield 19, 10, 1, 394, .null), (47, 2, .iload 5, 5, 0, 0, .null), 
  (49, 1, .iload_n 1, 1, 0, 0, .null), (50, 3, .invokestatic 166, 0, 0, 0, .null), (53, 1, .iload_n 1, 1, 0, 0, .null), (54, 1, .iload_n 2, 2, 0, 0, .null), 
  (55, 3, .invokevirtual 250, 0, 0, 0, .null), (58, 1, .iload_n 1, 1, 0, 0, .null), (59, 3, .if_icmp .ne 6, 65, 0, 0, .null), (62, 3, .iinc 4 1, 4, 0, 0, .int 1), 
  (65, 3, .iinc 5 1, 5, 0, 0, .int 1), (68, 3, .goto (-35), 33, 0, 0, .null), (71, 2, .iload 4, 4, 0, 0, .null), (73, 1, .ireturn, 0, 0, 0, .null)]
theorem okX11_sorts : tX11_sorts.all (okI yX11_sorts.cls (decide (yX11_sorts.name = "<init>")) cX11_sorts) = true := by decide +kernel
def tX11_draw : List CI := [
  (0, 1, .iload_n 1, 1, 0, 0, .null), (1, 3, .ifCond .lt 20, 21, 0, 0, .null), (4, 1, .iload_n 1, 1, 0, 0, .null), (5, 3, .sipush 9999, 0, 0, 0, .int 9999), 
  (8, 3, .if_icmp .gt 13, 21, 0, 0, .null), (11, 1, .iload_n 2, 2, 0, 0, .null), (12, 1, .iconst 1, 0, 0, 0, .int 1), (13, 3, .if_icmp .lt 8, 21, 0, 0, .null), 
  (16, 1, .iload_n 2, 2, 0, 0, .null), (17, 1, .iconst 5, 0, 0, 0, .int 5), (18, 3, .if_icmp .le 6, 24, 0, 0, .null), (21, 2, .bipush (-2), 0, 0, 0, .int (-2)), 
  (23, 1, .ireturn, 0, 0, 0, .null), (24, 1, .iload_n 1, 1, 0, 0, .null), (25, 1, .istore_n 3, 3, 0, 0, .null), (26, 1, .iload_n 2, 2, 0, 0, .null), 
  (27, 3, .invokestatic 253, 0, 0, 0, .null), (30, 2, .istore 4, 4, 0, 0, .null), (32, 1, .iconst 0, 0, 0, 0, .int 0), (33, 2, .istore 5, 5, 0, 0, .null), 
  (35, 1, .iload_n 2, 2, 0, 0, .null), (36, 2, .istore 6, 6, 0, 0, .null), (38, 2, .iload 6, 6, 0, 0, .null), (40, 3, .ifCond .le 53, 93, 0, 0, .null), 
  (43, 1, .iload_n 3, 3, 0, 0, .null), (44, 2, .bipush 75, 0, 0, 0, .int 75), (46, 1, .imul, 0, 0, 0, .null), (47, 2, .bipush 74, 0, 0, 0, .int 74), 
  (49, 1, .iadd, 0, 0, 0, .null), (50, 3, .ldc_w 256, 0, 0, 830, .int 65537), (53, 1, .irem, 0, 0, 0, .null), (54, 1, .istore_n 3, 3, 0, 0, .null), 
  (55, 2, .iload 4, 4, 0, 0, .null), (57, 1, .iload_n 3, 3, 0, 0, .null), (58, 2, .iload 6, 6, 0, 0, .null), (60, 1, .irem, 0, 0, 0, .null), 
  (61, 3, .invokestatic 257, 0, 0, 0, .null), (64, 2, .istore 7, 7, 0, 0, .null), (66, 2, .iload 4, 4, 0, 0, .null), (68, 1, .iconst 1, 0, 0, 0, .int 1), 
  (69, 2, .iload 7, 7, 0, 0, .null), (71, 1, .ishl, 0, 0, 0, .null), (72, 1, .iconst (-1), 0, 0, 0, .int (-1)), (73, 1, .ixor, 0, 0, 0, .null), (74, 1, .iand, 0, 0, 0, .null), 
  (75, 2, .istore 4, 4, 0, 0, .null), (77, 2, .iload 5, 5, 0, 0, .null), (79, 2, .bipush 10, 0, 0, 0, .int 10), (81, 1, .imul, 0, 0, 0, .null), (82, 2, .iload 7, 7, 0, 0, .null), 
  (84, 1, .iadd, 0, 0, 0, .null), (85, 2, .istore 5, 5, 0, 0, .null), (87, 3, .iinc 6 (-1), 6, 0, 0, .int (-1)), (90, 3, .goto (-52), 38, 0, 0, .null), 
  (93, 2, .iload 5, 5, 0, 0, .null), (95, 1, .ireturn, 0, 0, 0, .null)]
theorem okX11_draw : tX11_draw.all (okI yX11_draw.cls (decide (yX11_draw.name = "<init>")) cX11_draw) = true := by decide +kernel
def tX11_image : List CI := [
  (0, 1, .iload_n 1, 1, 0, 0, .null), (1, 3, .ifCond .lt 8, 9, 0, 0, .null), (4, 1, .iload_n 1, 1, 0, 0, .null), (5, 1, .iconst 1, 0, 0, 0, .int 1), 
  (6, 3, .if_icmp .le 6, 12, 0, 0, .null), (9, 2, .bipush (-2), 0, 0, 0, .int (-2)), (11, 1, .ireturn, 0, 0, 0, .null), (12, 1, .aload_n 0, 0, 0, 0, .null), 
  (13, 1, .iload_n 1, 1, 0, 0, .null), (14, 3, .invokevirtual 260, 0, 0, 0, .null), (17, 1, .astore_n 2, 2, 0, 0, .null), (18, 1, .aload_n 2, 2, 0, 0, .null), 
  (19, 1, .iconst 1, 0, 0, 0, .int 1), (20, 3, .putfield 264, 0, 0, 225, .long 0), (23, 1, .aload_n 2, 2, 0, 0, .null), (24, 3, .getfield 267, 0, 1, 227, .null), 
  (27, 1, .aload_n 0, 0, 0, 0, .null), (28, 3, .getfield 19, 10, 1, 394, .null), (31, 3, .invokevirtual 83, 0, 0, 0, .null), (34, 1, .aload_n 2, 2, 0, 0, .null), 
  (35, 3, .getfield 268, 0, 2, 229, .null), (38, 1, .aload_n 0, 0, 0, 0, .null), (39, 3, .getfield 23, 10, 2, 395, .null), (42, 3, .invokevirtual 83, 0, 0, 0, .null), 
  (45, 1, .aload_n 2, 2, 0, 0, .null), (46, 3, .getfield 269, 0, 3, 231, .null), (49, 1, .aload_n 0, 0, 0, 0, .null), (50, 3, .getfield 29, 10, 3, 396, .null), 
  (53, 3, .invokevirtual 270, 0, 0, 0, .null), (56, 1, .iconst 1, 0, 0, 0, .int 1), (57, 1, .ireturn, 0, 0, 0, .null)]
theorem okX11_image : tX11_image.all (okI yX11_image.cls (decide (yX11_image.name = "<init>")) cX11_image) = true := by decide +kernel
def tX11_restore : List CI := [
  (0, 1, .iload_n 1, 1, 0, 0, .null), (1, 3, .ifCond .lt 8, 9, 0, 0, .null), (4, 1, .iload_n 1, 1, 0, 0, .null), (5, 1, .iconst 1, 0, 0, 0, .int 1), 
  (6, 3, .if_icmp .le 6, 12, 0, 0, .null), (9, 2, .bipush (-2), 0, 0, 0, .int (-2)), (11, 1, .ireturn, 0, 0, 0, .null), (12, 1, .aload_n 0, 0, 0, 0, .null), 
  (13, 1, .iload_n 1, 1, 0, 0, .null), (14, 3, .invokevirtual 260, 0, 0, 0, .null), (17, 1, .astore_n 2, 2, 0, 0, .null), (18, 1, .aload_n 2, 2, 0, 0, .null), 
  (19, 3, .getfield 264, 0, 0, 225, .null), (22, 3, .ifCond .ne 6, 28, 0, 0, .null), (25, 2, .bipush (-3), 0, 0, 0, .int (-3)), (27, 1, .ireturn, 0, 0, 0, .null), 
  (28, 1, .aload_n 0, 0, 0, 0, .null), (29, 3, .getfield 19, 10, 1, 394, .null), (32, 1, .aload_n 2, 2, 0, 0, .null), (33, 3, .getfield 267, 0, 1, 227, .null), 
  (36, 3, .invokevirtual 83, 0, 0, 0, .null), (39, 1, .aload_n 0, 0, 0, 0, .null), (40, 3, .getfield 23, 10, 2, 395, .null), (43, 1, .aload_n 2, 2, 0, 0, .null), 
  (44, 3, .getfield 268, 0, 2, 229, .null), (47, 3, .invokevirtual 83, 0, 0, 0, .null), (50, 1, .aload_n 0, 0, 0, 0, .null), (51, 3, .getfield 29, 10, 3, 396, .null), 
  (54, 1, .aload_n 2, 2, 0, 0, .null), (55, 3, .getfield 269, 0, 3, 231, .null), (58, 3, .invokevirtual 270, 0, 0, 0, .null), (61, 1, .aload_n 0, 0, 0, 0, .null), 
  (62, 3, .invokevirtual 98, 0, 0, 0, .null), (65, 1, .iconst 1, 0, 0, 0, .int 1), (66, 1, .ireturn, 0, 0, 0, .null)]
theorem okX11_restore : tX11_restore.all (okI yX11_restore.cls (decide (yX11_restore.name = "<init>")) cX11_restore) = true := by decide +kernel
def tX11_told : List CI := [
  (0, 1, .iload_n 1, 1, 0, 0, .null), (1, 35, .tableswitch 90 0 4 #[35, 43, 51, 59, 82], 0, 0, 0, .null), (36, 1, .aload_n 0, 0, 0, 0, .null), 
  (37, 3, .getfield 12, 10, 0, 393, .null), (40, 3, .getfield 86, 3, 1, 105, .null), (43, 1, .ireturn, 0, 0, 0, .null), (44, 1, .aload_n 0, 0, 0, 0, .null), 
  (45, 3, .getfield 19, 10, 1, 394, .null), (48, 3, .getfield 101, 9, 0, 136, .null), (51, 1, .ireturn, 0, 0, 0, .null), (52, 1, .aload_n 0, 0, 0, 0, .null), 
  (53, 3, .getfield 19, 10, 1, 394, .null), (56, 3, .getfield 273, 9, 1, 140, .null), (59, 1, .ireturn, 0, 0, 0, .null), (60, 1, .aload_n 0, 0, 0, 0, .null), 
  (61, 3, .getfield 29, 10, 3, 396, .null), (64, 3, .getfield 94, 5, 0, 191, .null), (67, 3, .ifCond .eq 13, 80, 0, 0, .null), (70, 1, .aload_n 0, 0, 0, 0, .null), 
  (71, 3, .getfield 29, 10, 3, 396, .null), (74, 3, .getfield 221, 5, 4, 199, .null), (77, 3, .goto 5, 82, 0, 0, .null), (80, 2, .bipush (-6), 0, 0, 0, .int (-6)), 
  (82, 1, .ireturn, 0, 0, 0, .null), (83, 1, .aload_n 0, 0, 0, 0, .null), (84, 3, .getfield 23, 10, 2, 395, .null), (87, 3, .getfield 101, 9, 0, 136, .null), 
  (90, 1, .ireturn, 0, 0, 0, .null), (91, 2, .bipush (-2), 0, 0, 0, .int (-2)), (93, 1, .ireturn, 0, 0, 0, .null)]
theorem okX11_told : tX11_told.all (okI yX11_told.cls (decide (yX11_told.name = "<init>")) cX11_told) = true := by decide +kernel
def tX11_forgetFindings : List CI := [
  (0, 1, .aload_n 0, 0, 0, 0, .null), (1, 3, .getfield 55, 10, 7, 400, .null), (4, 3, .invokevirtual 276, 0, 0, 0, .null), (7, 1, .aload_n 0, 0, 0, 0, .null), 
  (8, 3, .getfield 62, 10, 8, 401, .null), (11, 1, .iconst 0, 0, 0, 0, .int 0), (12, 3, .putfield 183, 1, 0, 290, .int 0), (15, 1, .return_, 0, 0, 0, .null)]
theorem okX11_forgetFindings : tX11_forgetFindings.all (okI yX11_forgetFindings.cls (decide (yX11_forgetFindings.name = "<init>")) cX11_forgetFindings) = true := by decide +kernel
def tX11_isMissing : List CI := [
  (0, 1, .iload_n 1, 1, 0, 0, .null), (1, 1, .aload_n 0, 0, 0, 0, .null), (2, 3, .getfield 19, 10, 1, 394, .null), (5, 3, .getfield 101, 9, 0, 136, .null), 
  (8, 3, .if_icmp .le 12, 20, 0, 0, .null), (11, 1, .iload_n 1, 1, 0, 0, .null), (12, 1, .iconst 4, 0, 0, 0, .int 4), (13, 3, .if_icmp .gt 7, 20, 0, 0, .null), 
  (16, 1, .iconst 1, 0, 0, 0, .int 1), (17, 3, .goto 4, 21, 0, 0, .null), (20, 1, .iconst 0, 0, 0, 0, .int 0), (21, 1, .ireturn, 0, 0, 0, .null)]
theorem okX11_isMissing : tX11_isMissing.all (okI yX11_isMissing.cls (decide (yX11_isMissing.name = "<init>")) cX11_isMissing) = true := by decide +kernel
def tX11_arePair : List CI := [
  (0, 1, .iload_n 0, 0, 0, 0, .null), (1, 3, .invokestatic 129, 0, 0, 0, .null), (4, 1, .istore_n 2, 2, 0, 0, .null), (5, 1, .iload_n 2, 2, 0, 0, .null), 
  (6, 3, .ifCond .le 15, 21, 0, 0, .null), (9, 1, .iload_n 1, 1, 0, 0, .null), (10, 3, .invokestatic 129, 0, 0, 0, .null), (13, 1, .iload_n 2, 2, 0, 0, .null), 
  (14, 3, .if_icmp .ne 7, 21, 0, 0, .null), (17, 1, .iconst 1, 0, 0, 0, .int 1), (18, 3, .goto 4, 22, 0, 0, .null), (21, 1, .iconst 0, 0, 0, 0, .int 0), 
  (22, 1, .ireturn, 0, 0, 0, .null)]
theorem okX11_arePair : tX11_arePair.all (okI yX11_arePair.cls (decide (yX11_arePair.name = "<init>")) cX11_arePair) = true := by decide +kernel
def tX11_leastOf : List CI := [
  (0, 1, .aload_n 0, 0, 0, 0, .null), (1, 3, .getfield 46, 10, 6, 399, .null), (4, 1, .aload_n 1, 1, 0, 0, .null), (5, 2, .iload 4, 4, 0, 0, .null), 
  (7, 3, .invokevirtual 138, 0, 0, 0, .null), (10, 1, .aload_n 1, 1, 0, 0, .null), (11, 3, .getfield 142, 9, 8, 153, .null), (14, 1, .iload_n 2, 2, 0, 0, .null), 
  (15, 1, .iload_n 3, 3, 0, 0, .null), (16, 2, .iload 4, 4, 0, 0, .null), (18, 3, .invokestatic 146, 0, 0, 0, .null), (21, 2, .iload 4, 4, 0, 0, .null), 
  (23, 3, .invokevirtual 279, 0, 0, 0, .null), (26, 1, .ireturn, 0, 0, 0, .null)]
theorem okX11_leastOf : tX11_leastOf.all (okI yX11_leastOf.cls (decide (yX11_leastOf.name = "<init>")) cX11_leastOf) = true := by decide +kernel
def tX11_leastSorted : List CI := [
  (0, 1, .aload_n 0, 0, 0, 0, .null), (1, 1, .aload_n 1, 1, 0, 0, .null), (2, 1, .iload_n 2, 2, 0, 0, .null), (3, 1, .iload_n 3, 3, 0, 0, .null), 
  (4, 3, .invokestatic 186, 0, 0, 0, .null), (7, 1, .iload_n 3, 3, 0, 0, .null), (8, 3, .invokevirtual 132, 0, 0, 0, .null), (11, 1, .ireturn, 0, 0, 0, .null)]
theorem okX11_leastSorted : tX11_leastSorted.all (okI yX11_leastSorted.cls (decide (yX11_leastSorted.name = "<init>")) cX11_leastSorted) = true := by decide +kernel
def tX11_aimAtPlay : List CI := [
  (0, 1, .aload_n 0, 0, 0, 0, .null), (1, 3, .getfield 55, 10, 7, 400, .null), (4, 1, .aload_n 0, 0, 0, 0, .null), (5, 3, .getfield 19, 10, 1, 394, .null), 
  (8, 1, .aload_n 0, 0, 0, 0, .null), (9, 3, .getfield 29, 10, 3, 396, .null), (12, 3, .getfield 281, 5, 3, 197, .null), (15, 1, .aload_n 0, 0, 0, 0, .null), 
  (16, 3, .getfield 29, 10, 3, 396, .null), (19, 3, .getfield 203, 5, 1, 193, .null), (22, 1, .aload_n 0, 0, 0, 0, .null), (23, 3, .getfield 29, 10, 3, 396, .null), 
  (26, 3, .getfield 204, 5, 2, 195, .null), (29, 1, .aload_n 0, 0, 0, 0, .null), (30, 3, .getfield 29, 10, 3, 396, .null), (33, 3, .getfield 281, 5, 3, 197, .null), 
  (36, 3, .invokestatic 146, 0, 0, 0, .null), (39, 3, .invokevirtual 156, 0, 0, 0, .null), (42, 1, .return_, 0, 0, 0, .null)]
theorem okX11_aimAtPlay : tX11_aimAtPlay.all (okI yX11_aimAtPlay.cls (decide (yX11_aimAtPlay.name = "<init>")) cX11_aimAtPlay) = true := by decide +kernel
def tX11_imageAt : List CI := [
  (0, 1, .iload_n 1, 1, 0, 0, .null), (1, 3, .ifCond .ne 10, 11, 0, 0, .null), (4, 1, .aload_n 0, 0, 0, 0, .null), (5, 3, .getfield 36, 10, 4, 397, .null), 
  (8, 3, .goto 7, 15, 0, 0, .null), (11, 1, .aload_n 0, 0, 0, 0, .null), (12, 3, .getfield 40, 10, 5, 398, .null), (15, 1, .areturn, 0, 0, 0, .null)]
theorem okX11_imageAt : tX11_imageAt.all (okI yX11_imageAt.cls (decide (yX11_imageAt.name = "<init>")) cX11_imageAt) = true := by decide +kernel
def tX11_inLowestTerms : List CI := [
  (0, 1, .iload_n 0, 0, 0, 0, .null), (1, 1, .istore_n 3, 3, 0, 0, .null), (2, 1, .iload_n 1, 1, 0, 0, .null), (3, 2, .istore 4, 4, 0, 0, .null), 
  (5, 1, .iconst 0, 0, 0, 0, .int 0), (6, 2, .istore 5, 5, 0, 0, .null), (8, 2, .iload 5, 5, 0, 0, .null), (10, 2, .bipush 64, 0, 0, 0, .int 64), 
  (12, 3, .if_icmp .ge 27, 39, 0, 0, .null), (15, 2, .iload 4, 4, 0, 0, .null), (17, 3, .ifCond .le 22, 39, 0, 0, .null), (20, 1, .iload_n 3, 3, 0, 0, .null), 
  (21, 2, .iload 4, 4, 0, 0, .null), (23, 1, .irem, 0, 0, 0, .null), (24, 2, .istore 6, 6, 0, 0, .null), (26, 2, .iload 4, 4, 0, 0, .null), (28, 1, .istore_n 3, 3, 0, 0, .null), 
  (29, 2, .iload 6, 6, 0, 0, .null), (31, 2, .istore 4, 4, 0, 0, .null), (33, 3, .iinc 5 1, 5, 0, 0, .int 1), (36, 3, .goto (-28), 8, 0, 0, .null), 
  (39, 1, .iload_n 3, 3, 0, 0, .null), (40, 1, .iconst 1, 0, 0, 0, .int 1), (41, 3, .if_icmp .lt 8, 49, 0, 0, .null), (44, 1, .iload_n 1, 1, 0, 0, .null), 
  (45, 1, .iconst 1, 0, 0, 0, .int 1), (46, 3, .if_icmp .ge 6, 52, 0, 0, .null), (49, 1, .iload_n 2, 2, 0, 0, .null), (50, 1, .i2l, 0, 0, 0, .null), 
  (51, 1, .lreturn, 0, 0, 0, .null), (52, 1, .iload_n 2, 2, 0, 0, .null), (53, 3, .ifCond .ne 10, 63, 0, 0, .null), (56, 1, .iload_n 0, 0, 0, 0, .null), 
  (57, 1, .iload_n 3, 3, 0, 0, .null), (58, 1, .idiv, 0, 0, 0, .null), (59, 1, .i2l, 0, 0, 0, .null), (60, 3, .goto 7, 67, 0, 0, .null), (63, 1, .iload_n 1, 1, 0, 0, .null), 
  (64, 1, .iload_n 3, 3, 0, 0, .null), (65, 1, .idiv, 0, 0, 0, .null), (66, 1, .i2l, 0, 0, 0, .null), (67, 1, .lreturn, 0, 0, 0, .null)]
theorem okX11_inLowestTerms : tX11_inLowestTerms.all (okI yX11_inLowestTerms.cls (decide (yX11_inLowestTerms.name = "<init>")) cX11_inLowestTerms) = true := by decide +kernel
def tX11_copyInts : List CI := [
  (0, 1, .aload_n 0, 0, 0, 0, .null), (1, 1, .iconst 0, 0, 0, 0, .int 0), (2, 1, .aload_n 1, 1, 0, 0, .null), (3, 1, .iconst 0, 0, 0, 0, .int 0), 
  (4, 1, .aload_n 0, 0, 0, 0, .null), (5, 1, .arraylength, 0, 0, 0, .null), (6, 1, .aload_n 1, 1, 0, 0, .null), (7, 1, .arraylength, 0, 0, 0, .null), 
  (8, 3, .invokestatic 283, 0, 0, 0, .null), (11, 3, .invokestatic 288, 0, 0, 0, .null), (14, 1, .return_, 0, 0, 0, .null)]
theorem okX11_copyInts : tX11_copyInts.all (okI yX11_copyInts.cls (decide (yX11_copyInts.name = "<init>")) cX11_copyInts) = true := by decide +kernel
def tX12_init : List CI := [
  (0, 1, .aload_n 0, 0, 0, 0, .null), (1, 3, .invokespecial 1, 0, 0, 0, .null), (4, 1, .aload_n 0, 0, 0, 0, .null), (5, 1, .iconst 4, 0, 0, 0, .int 4), 
  (6, 2, .newarray .int, 0, 0, 0, .null), (8, 3, .putfield 7, 11, 0, 860, .null), (11, 1, .aload_n 0, 0, 0, 0, .null), (12, 1, .iconst 4, 0, 0, 0, .int 4), 
  (13, 2, .newarray .int, 0, 0, 0, .null), (15, 3, .putfield 13, 11, 1, 861, .null), (18, 1, .aload_n 0, 0, 0, 0, .null), (19, 1, .iconst 4, 0, 0, 0, .int 4), 
  (20, 2, .newarray .int, 0, 0, 0, .null), (22, 3, .putfield 16, 11, 2, 862, .null), (25, 1, .aload_n 0, 0, 0, 0, .null), (26, 1, .iconst 3, 0, 0, 0, .int 3), 
  (27, 2, .newarray .int, 0, 0, 0, .null), (29, 3, .putfield 19, 11, 3, 863, .null), (32, 1, .aload_n 0, 0, 0, 0, .null), (33, 1, .iconst 4, 0, 0, 0, .int 4), 
  (34, 2, .newarray .int, 0, 0, 0, .null), (36, 3, .putfield 22, 11, 6, 866, .null), (39, 1, .aload_n 0, 0, 0, 0, .null), (40, 1, .iconst 4, 0, 0, 0, .int 4), 
  (41, 2, .newarray .int, 0, 0, 0, .null), (43, 3, .putfield 25, 11, 7, 867, .null), (46, 1, .aload_n 0, 0, 0, 0, .null), (47, 1, .iconst 4, 0, 0, 0, .int 4), 
  (48, 2, .newarray .int, 0, 0, 0, .null), (50, 3, .putfield 28, 11, 8, 868, .null), (53, 1, .aload_n 0, 0, 0, 0, .null), (54, 1, .iconst 3, 0, 0, 0, .int 3), 
  (55, 2, .newarray .int, 0, 0, 0, .null), (57, 3, .putfield 31, 11, 9, 869, .null), (60, 1, .aload_n 0, 0, 0, 0, .null), (61, 2, .bipush 16, 0, 0, 0, .int 16), 
  (63, 2, .newarray .int, 0, 0, 0, .null), (65, 3, .putfield 34, 11, 12, 872, .null), (68, 1, .aload_n 0, 0, 0, 0, .null), (69, 2, .bipush 25, 0, 0, 0, .int 25), 
  (71, 2, .newarray .int, 0, 0, 0, .null), (73, 3, .putfield 37, 11, 14, 874, .null), (76, 1, .aload_n 0, 0, 0, 0, .null), (77, 1, .iconst 5, 0, 0, 0, .int 5), 
  (78, 2, .newarray .int, 0, 0, 0, .null), (80, 3, .putfield 40, 11, 15, 875, .null), (83, 1, .aload_n 0, 0, 0, 0, .null), (84, 2, .ldc 43, 0, 0, 858, .int 65536), 
  (86, 2, .newarray .int, 0, 0, 0, .null), (88, 3, .putfield 44, 11, 17, 877, .null), (91, 1, .aload_n 0, 0, 0, 0, .null), (92, 2, .ldc 43, 0, 0, 858, .int 65536), 
  (94, 2, .newarray .int, 0, 0, 0, .null), (96, 3, .putfield 47, 11, 18, 878, .null), (99, 1, .aload_n 0, 0, 0, 0, .null), (100, 2, .ldc 43, 0, 0, 858, .int 65536), 
  (102, 2, .newarray .int, 0, 0, 0, .null), (104, 3, .putfield 50, 11, 19, 879, .null), (107, 1, .aload_n 0, 0, 0, 0, .null), (108, 2, .ldc 43, 0, 0, 858, .int 65536), 
  (110, 2, .newarray .long, 0, 0, 0, .null), (112, 3, .putfield 53, 11, 20, 880, .null), (115, 1, .aload_n 0, 0, 0, 0, .null), (116, 2, .ldc 57, 0, 0, 859, .int 32768), 
  (118, 2, .newarray .int, 0, 0, 0, .null), (120, 3, .putfield 58, 11, 21, 881, .null), (123, 1, .aload_n 0, 0, 0, 0, .null), (124, 1, .iconst 5, 0, 0, 0, .int 5), 
  (125, 2, .newarray .int, 0, 0, 0, .null), (127, 3, .putfield 61, 11, 24, 884, .null), (130, 1, .aload_n 0, 0, 0, 0, .null), (131, 3, .sipush 720, 0, 0, 0, .int 720), 
  (134, 2, .newarray .int, 0, 0, 0, .null), (136, 3, .putfield 64, 11, 26, 886, .null), (139, 1, .aload_n 0, 0, 0, 0, .null), (140, 3, .sipush 720, 0, 0, 0, .int 720), 
  (143, 2, .newarray .long, 0, 0, 0, .null), (145, 3, .putfield 67, 11, 27, 887, .null), (148, 1, .aload_n 0, 0, 0, 0, .null), (149, 2, .bipush 6, 0, 0, 0, .int 6), 
  (151, 2, .newarray .boolean, 0, 0, 0, .null), (153, 3, .putfield 70, 11, 28, 888, .null), (156, 1, .aload_n 0, 0, 0, 0, .null), (157, 1, .iconst 5, 0, 0, 0, .int 5), 
  (158, 2, .newarray .int, 0, 0, 0, .null), (160, 3, .putfield 74, 11, 29, 889, .null), (163, 1, .aload_n 0, 0, 0, 0, .null), (164, 1, .iconst 5, 0, 0, 0, .int 5), 
  (165, 2, .newarray .int, 0, 0, 0, .null), (167, 3, .putfield 77, 11, 30, 890, .null), (170, 1, .aload_n 0, 0, 0, 0, .null), (171, 2, .bipush 120, 0, 0, 0, .int 120), 
  (173, 2, .newarray .int, 0, 0, 0, .null), (175, 3, .putfield 80, 11, 31, 891, .null), (178, 1, .aload_n 0, 0, 0, 0, .null), (179, 1, .iconst 4, 0, 0, 0, .int 4), 
  (180, 2, .newarray .int, 0, 0, 0, .null), (182, 3, .putfield 83, 11, 32, 892, .null), (185, 1, .aload_n 0, 0, 0, 0, .null), (186, 1, .iconst 4, 0, 0, 0, .int 4), 
  (187, 2, .newarray .int, 0, 0, 0, .null), (189, 3, .putfield 86, 11, 33, 893, .null), (192, 1, .aload_n 0, 0, 0, 0, .null), (193, 2, .bipush 120, 0, 0, 0, .int 120), 
  (195, 2, .newarray .boolean, 0, 0, 0, .null), (197, 3, .putfield 89, 11, 34, 894, .null), (200, 1, .aload_n 0, 0, 0, 0, .null), (201, 2, .bipush 41, 0, 0, 0, .int 41), 
  (203, 2, .newarray .int, 0, 0, 0, .null), (205, 3, .putfield 92, 11, 38, 898, .null), (208, 1, .aload_n 0, 0, 0, 0, .null), (209, 3, .sipush 200, 0, 0, 0, .int 200), 
  (212, 2, .newarray .int, 0, 0, 0, .null), (214, 3, .putfield 95, 11, 40, 900, .null), (217, 1, .aload_n 0, 0, 0, 0, .null), (218, 1, .iconst 2, 0, 0, 0, .int 2), 
  (219, 2, .newarray .boolean, 0, 0, 0, .null), (221, 3, .putfield 98, 11, 41, 901, .null), (224, 1, .aload_n 0, 0, 0, 0, .null), (225, 1, .iconst 1, 0, 0, 0, .int 1), 
  (226, 3, .putfield 101, 11, 4, 864, .int 0), (229, 1, .aload_n 0, 0, 0, 0, .null), (230, 1, .iconst 1, 0, 0, 0, .int 1), (231, 3, .putfield 105, 11, 5, 865, .int 0), 
  (234, 1, .aload_n 0, 0, 0, 0, .null), (235, 3, .getfield 7, 11, 0, 860, .null), (238, 1, .iconst 0, 0, 0, 0, .int 0), (239, 2, .bipush 115, 0, 0, 0, .int 115), 
  (241, 1, .iastore, 0, 0, 0, .null), (242, 1, .aload_n 0, 0, 0, 0, .null), (243, 3, .getfield 13, 11, 1, 861, .null), (246, 1, .iconst 0, 0, 0, 0, .int 0), 
  (247, 1, .iconst 5, 0, 0, 0, .int 5), (248, 1, .iastore, 0, 0, 0, .null), (249, 1, .aload_n 0, 0, 0, 0, .null), (250, 1, .iconst 1, 0, 0, 0, .int 1), 
  (251, 3, .putfield 108, 11, 10, 870, .int 0), (254, 1, .aload_n 0, 0, 0, 0, .null), (255, 1, .iconst 1, 0, 0, 0, .int 1), (256, 3, .putfield 111, 11, 11, 871, .int 0), 
  (259, 1, .aload_n 0, 0, 0, 0, .null), (260, 3, .getfield 22, 11, 6, 866, .null), (263, 1, .iconst 0, 0, 0, 0, .int 0), (264, 2, .bipush 115, 0, 0, 0, .int 115), 
  (266, 1, .iastore, 0, 0, 0, .null), (267, 1, .aload_n 0, 0, 0, 0, .null), (268, 3, .getfield 25, 11, 7, 867, .null), (271, 1, .iconst 0, 0, 0, 0, .int 0), 
  (272, 1, .iconst 5, 0, 0, 0, .int 5), (273, 1, .iastore, 0, 0, 0, .null), (274, 1, .aload_n 0, 0, 0, 0, .null), (275, 1, .iconst 0, 0, 0, 0, .int 0), 
  (276, 3, .putfield 114, 11, 37, 897, .int 0), (279, 1, .return_, 0, 0, 0, .null)]
theorem okX12_init : tX12_init.all (okI yX12_init.cls (decide (yX12_init.name = "<init>")) cX12_init) = true := by decide +kernel
def tX12_in : List CI := [
  (0, 1, .lload_n 0, 0, 0, 0, .null), (1, 1, .lload_n 2, 2, 0, 0, .null), (2, 1, .lcmp, 0, 0, 0, .null), (3, 3, .ifCond .lt 14, 17, 0, 0, .null), 
  (6, 1, .lload_n 0, 0, 0, 0, .null), (7, 2, .lload 4, 4, 0, 0, .null), (9, 1, .lcmp, 0, 0, 0, .null), (10, 3, .ifCond .gt 7, 17, 0, 0, .null), 
  (13, 1, .iconst 1, 0, 0, 0, .int 1), (14, 3, .goto 4, 18, 0, 0, .null), (17, 1, .iconst 0, 0, 0, 0, .int 0), (18, 1, .ireturn, 0, 0, 0, .null)]
theorem okX12_in : tX12_in.all (okI yX12_in.cls (decide (yX12_in.name = "<init>")) cX12_in) = true := by decide +kernel
def tX12_lowest : List CI := [
  (0, 1, .lload_n 2, 2, 0, 0, .null), (1, 1, .lconst 0, 0, 0, 0, .long 0), (2, 1, .lcmp, 0, 0, 0, .null), (3, 3, .ifCond .ne 7, 10, 0, 0, .null), (6, 2, .iload 4, 4, 0, 0, .null), 
  (8, 1, .i2l, 0, 0, 0, .null), (9, 1, .lreturn, 0, 0, 0, .null), (10, 1, .lload_n 0, 0, 0, 0, .null), (11, 2, .lstore 5, 5, 0, 0, .null), (13, 1, .lload_n 2, 2, 0, 0, .null), 
  (14, 2, .lstore 7, 7, 0, 0, .null), (16, 2, .lload 7, 7, 0, 0, .null), (18, 1, .lconst 0, 0, 0, 0, .long 0), (19, 1, .lcmp, 0, 0, 0, .null), 
  (20, 3, .ifCond .eq 21, 41, 0, 0, .null), (23, 2, .lload 5, 5, 0, 0, .null), (25, 2, .lload 7, 7, 0, 0, .null), (27, 1, .lrem, 0, 0, 0, .null), 
  (28, 2, .lstore 9, 9, 0, 0, .null), (30, 2, .lload 7, 7, 0, 0, .null), (32, 2, .lstore 5, 5, 0, 0, .null), (34, 2, .lload 9, 9, 0, 0, .null), (36, 2, .lstore 7, 7, 0, 0, .null), 
  (38, 3, .goto (-22), 16, 0, 0, .null), (41, 2, .iload 4, 4, 0, 0, .null), (43, 3, .ifCond .ne 10, 53, 0, 0, .null), (46, 1, .lload_n 0, 0, 0, 0, .null), 
  (47, 2, .lload 5, 5, 0, 0, .null), (49, 1, .ldiv, 0, 0, 0, .null), (50, 3, .goto 7, 57, 0, 0, .null), (53, 1, .lload_n 2, 2, 0, 0, .null), (54, 2, .lload 5, 5, 0, 0, .null), 
  (56, 1, .ldiv, 0, 0, 0, .null), (57, 1, .lreturn, 0, 0, 0, .null)]
theorem okX12_lowest : tX12_lowest.all (okI yX12_lowest.cls (decide (yX12_lowest.name = "<init>")) cX12_lowest) = true := by decide +kernel
def tX12_say : List CI := [
  (0, 1, .iload_n 1, 1, 0, 0, .null), (1, 1, .i2l, 0, 0, 0, .null), (2, 3, .ldc2_w 117, 0, 0, 998, .long 33), (5, 3, .ldc2_w 119, 0, 0, 999, .long 126), 
  (8, 3, .invokestatic 121, 0, 0, 0, .null), (11, 3, .ifCond .ne 6, 17, 0, 0, .null), (14, 2, .bipush (-2), 0, 0, 0, .int (-2)), (16, 1, .ireturn, 0, 0, 0, .null), 
  (17, 1, .aload_n 0, 0, 0, 0, .null), (18, 3, .getfield 125, 11, 13, 873, .null), (21, 2, .bipush 16, 0, 0, 0, .int 16), (23, 3, .if_icmp .ne 6, 29, 0, 0, .null), 
  (26, 2, .bipush (-4), 0, 0, 0, .int (-4)), (28, 1, .ireturn, 0, 0, 0, .null), (29, 1, .aload_n 0, 0, 0, 0, .null), (30, 3, .getfield 34, 11, 12, 872, .null), 
  (33, 1, .aload_n 0, 0, 0, 0, .null), (34, 3, .getfield 125, 11, 13, 873, .null), (37, 1, .iload_n 1, 1, 0, 0, .null), (38, 1, .iastore, 0, 0, 0, .null), 
  (39, 1, .aload_n 0, 0, 0, 0, .null), (40, 1, .dup, 0, 0, 0, .null), (41, 3, .getfield 125, 11, 13, 873, .null), (44, 1, .iconst 1, 0, 0, 0, .int 1), 
  (45, 1, .iadd, 0, 0, 0, .null), (46, 3, .putfield 125, 11, 13, 873, .int 0), (49, 1, .aload_n 0, 0, 0, 0, .null), (50, 3, .getfield 125, 11, 13, 873, .null), 
  (53, 1, .ireturn, 0, 0, 0, .null)]
theorem okX12_say : tX12_say.all (okI yX12_say.cls (decide (yX12_say.name = "<init>")) cX12_say) = true := by decide +kernel
def tX12_wipe : List CI := [
  (0, 1, .aload_n 0, 0, 0, 0, .null), (1, 3, .getfield 125, 11, 13, 873, .null), (4, 1, .istore_n 1, 1, 0, 0, .null), (5, 1, .aload_n 0, 0, 0, 0, .null), 
  (6, 1, .iconst 0, 0, 0, 0, .int 0), (7, 3, .putfield 125, 11, 13, 873, .int 0), (10, 1, .iload_n 1, 1, 0, 0, .null), (11, 1, .ireturn, 0, 0, 0, .null)]
theorem okX12_wipe : tX12_wipe.all (okI yX12_wipe.cls (decide (yX12_wipe.name = "<init>")) cX12_wipe) = true := by decide +kernel
def tX12_isLetter : List CI := [
  (0, 1, .iload_n 0, 0, 0, 0, .null), (1, 2, .bipush 115, 0, 0, 0, .int 115), (3, 3, .if_icmp .eq 15, 18, 0, 0, .null), (6, 1, .iload_n 0, 0, 0, 0, .null), 
  (7, 2, .bipush 113, 0, 0, 0, .int 113), (9, 3, .if_icmp .eq 9, 18, 0, 0, .null), (12, 1, .iload_n 0, 0, 0, 0, .null), (13, 2, .bipush 100, 0, 0, 0, .int 100), 
  (15, 3, .if_icmp .ne 7, 22, 0, 0, .null), (18, 1, .iconst 1, 0, 0, 0, .int 1), (19, 3, .goto 4, 23, 0, 0, .null), (22, 1, .iconst 0, 0, 0, 0, .int 0), 
  (23, 1, .ireturn, 0, 0, 0, .null)]
theorem okX12_isLetter : tX12_isLetter.all (okI yX12_isLetter.cls (decide (yX12_isLetter.name = "<init>")) cX12_isLetter) = true := by decide +kernel
def tX12_fault : List CI := [
  (0, 1, .iconst 0, 0, 0, 0, .int 0), (1, 1, .istore_n 1, 1, 0, 0, .null), (2, 1, .iconst 0, 0, 0, 0, .int 0), (3, 1, .istore_n 2, 2, 0, 0, .null), 
  (4, 1, .iconst 0, 0, 0, 0, .int 0), (5, 1, .istore_n 3, 3, 0, 0, .null), (6, 1, .iconst 0, 0, 0, 0, .int 0), (7, 2, .istore 4, 4, 0, 0, .null), 
  (9, 1, .iconst 0, 0, 0, 0, .int 0), (10, 2, .istore 5, 5, 0, 0, .null), (12, 2, .iload 5, 5, 0, 0, .null), (14, 1, .aload_n 0, 0, 0, 0, .null), 
  (15, 3, .getfield 125, 11, 13, 873, .null), (18, 3, .if_icmp .ge 118, 136, 0, 0, .null), (21, 1, .aload_n 0, 0, 0, 0, .null), (22, 3, .getfield 34, 11, 12, 872, .null), 
  (25, 2, .iload 5, 5, 0, 0, .null), (27, 1, .iaload, 0, 0, 0, .null), (28, 2, .istore 6, 6, 0, 0, .null), (30, 1, .iload_n 1, 1, 0, 0, .null), 
  (31, 1, .iconst 2, 0, 0, 0, .int 2), (32, 3, .if_icmp .ne 26, 58, 0, 0, .null), (35, 2, .iload 6, 6, 0, 0, .null), (37, 1, .i2l, 0, 0, 0, .null), 
  (38, 3, .ldc2_w 128, 0, 0, 1011, .long 49), (41, 3, .ldc2_w 130, 0, 0, 1012, .long 53), (44, 3, .invokestatic 121, 0, 0, 0, .null), (47, 3, .ifCond .ne 6, 53, 0, 0, .null), 
  (50, 2, .iload 5, 5, 0, 0, .null), (52, 1, .ireturn, 0, 0, 0, .null), (53, 1, .iconst 1, 0, 0, 0, .int 1), (54, 1, .istore_n 1, 1, 0, 0, .null), 
  (55, 3, .goto 75, 130, 0, 0, .null), (58, 2, .iload 6, 6, 0, 0, .null), (60, 3, .invokestatic 132, 0, 0, 0, .null), (63, 3, .ifCond .eq 16, 79, 0, 0, .null), 
  (66, 1, .iload_n 2, 2, 0, 0, .null), (67, 1, .iconst 4, 0, 0, 0, .int 4), (68, 3, .if_icmp .ge 11, 79, 0, 0, .null), (71, 3, .iinc 2 1, 2, 0, 0, .int 1), 
  (74, 1, .iconst 2, 0, 0, 0, .int 2), (75, 1, .istore_n 1, 1, 0, 0, .null), (76, 3, .goto 54, 130, 0, 0, .null), (79, 2, .iload 6, 6, 0, 0, .null), 
  (81, 2, .bipush 45, 0, 0, 0, .int 45), (83, 3, .if_icmp .ne 16, 99, 0, 0, .null), (86, 2, .iload 4, 4, 0, 0, .null), (88, 3, .ifCond .ne 11, 99, 0, 0, .null), 
  (91, 1, .iconst 1, 0, 0, 0, .int 1), (92, 2, .istore 4, 4, 0, 0, .null), (94, 1, .iconst 1, 0, 0, 0, .int 1), (95, 1, .istore_n 1, 1, 0, 0, .null), 
  (96, 3, .goto 34, 130, 0, 0, .null), (99, 2, .iload 6, 6, 0, 0, .null), (101, 2, .bipush 59, 0, 0, 0, .int 59), (103, 3, .if_icmp .ne 24, 127, 0, 0, .null), 
  (106, 1, .iload_n 1, 1, 0, 0, .null), (107, 1, .iconst 1, 0, 0, 0, .int 1), (108, 3, .if_icmp .ne 19, 127, 0, 0, .null), (111, 1, .iload_n 3, 3, 0, 0, .null), 
  (112, 1, .iconst 2, 0, 0, 0, .int 2), (113, 3, .if_icmp .ge 14, 127, 0, 0, .null), (116, 3, .iinc 3 1, 3, 0, 0, .int 1), (119, 1, .iconst 0, 0, 0, 0, .int 0), 
  (120, 2, .istore 4, 4, 0, 0, .null), (122, 1, .iconst 0, 0, 0, 0, .int 0), (123, 1, .istore_n 1, 1, 0, 0, .null), (124, 3, .goto 6, 130, 0, 0, .null), 
  (127, 2, .iload 5, 5, 0, 0, .null), (129, 1, .ireturn, 0, 0, 0, .null), (130, 3, .iinc 5 1, 5, 0, 0, .int 1), (133, 3, .goto (-121), 12, 0, 0, .null), 
  (136, 1, .iload_n 1, 1, 0, 0, .null), (137, 1, .iconst 1, 0, 0, 0, .int 1), (138, 3, .if_icmp .ne 12, 150, 0, 0, .null), (141, 1, .iload_n 2, 2, 0, 0, .null), 
  (142, 3, .ifCond .le 8, 150, 0, 0, .null), (145, 2, .bipush (-6), 0, 0, 0, .int (-6)), (147, 3, .goto 7, 154, 0, 0, .null), (150, 1, .aload_n 0, 0, 0, 0, .null), 
  (151, 3, .getfield 125, 11, 13, 873, .null), (154, 1, .ireturn, 0, 0, 0, .null)]
theorem okX12_fault : tX12_fault.all (okI yX12_fault.cls (decide (yX12_fault.name = "<init>")) cX12_fault) = true := by decide +kernel
def tX12_yard : List CI := [
  (0, 1, .aload_n 0, 0, 0, 0, .null), (1, 3, .invokevirtual 136, 0, 0, 0, .null), (4, 3, .ifCond .lt 6, 10, 0, 0, .null), (7, 2, .bipush (-5), 0, 0, 0, .int (-5)), 
  (9, 1, .ireturn, 0, 0, 0, .null), (10, 1, .aload_n 0, 0, 0, 0, .null), (11, 1, .iconst 0, 0, 0, 0, .int 0), (12, 3, .putfield 101, 11, 4, 864, .int 0), 
  (15, 1, .aload_n 0, 0, 0, 0, .null), (16, 1, .iconst 1, 0, 0, 0, .int 1), (17, 3, .putfield 105, 11, 5, 865, .int 0), (20, 1, .aload_n 0, 0, 0, 0, .null), 
  (21, 3, .getfield 19, 11, 3, 863, .null), (24, 1, .iconst 0, 0, 0, 0, .int 0), (25, 1, .iconst 0, 0, 0, 0, .int 0), (26, 1, .iastore, 0, 0, 0, .null), 
  (27, 1, .iconst 0, 0, 0, 0, .int 0), (28, 1, .istore_n 1, 1, 0, 0, .null), (29, 1, .iload_n 1, 1, 0, 0, .null), (30, 1, .aload_n 0, 0, 0, 0, .null), 
  (31, 3, .getfield 125, 11, 13, 873, .null), (34, 3, .if_icmp .ge 126, 160, 0, 0, .null), (37, 1, .aload_n 0, 0, 0, 0, .null), (38, 3, .getfield 34, 11, 12, 872, .null), 
  (41, 1, .iload_n 1, 1, 0, 0, .null), (42, 1, .iaload, 0, 0, 0, .null), (43, 1, .istore_n 2, 2, 0, 0, .null), (44, 1, .iload_n 2, 2, 0, 0, .null), 
  (45, 3, .invokestatic 132, 0, 0, 0, .null), (48, 3, .ifCond .eq 41, 89, 0, 0, .null), (51, 1, .aload_n 0, 0, 0, 0, .null), (52, 3, .getfield 7, 11, 0, 860, .null), 
  (55, 1, .aload_n 0, 0, 0, 0, .null), (56, 3, .getfield 101, 11, 4, 864, .null), (59, 1, .iload_n 2, 2, 0, 0, .null), (60, 1, .iastore, 0, 0, 0, .null), 
  (61, 1, .aload_n 0, 0, 0, 0, .null), (62, 3, .getfield 16, 11, 2, 862, .null), (65, 1, .aload_n 0, 0, 0, 0, .null), (66, 3, .getfield 101, 11, 4, 864, .null), 
  (69, 1, .aload_n 0, 0, 0, 0, .null), (70, 3, .getfield 105, 11, 5, 865, .null), (73, 1, .iconst 1, 0, 0, 0, .int 1), (74, 1, .isub, 0, 0, 0, .null), 
  (75, 1, .iastore, 0, 0, 0, .null), (76, 1, .aload_n 0, 0, 0, 0, .null), (77, 1, .dup, 0, 0, 0, .null), (78, 3, .getfield 101, 11, 4, 864, .null), 
  (81, 1, .iconst 1, 0, 0, 0, .int 1), (82, 1, .iadd, 0, 0, 0, .null), (83, 3, .putfield 101, 11, 4, 864, .int 0), (86, 3, .goto 68, 154, 0, 0, .null), 
  (89, 1, .iload_n 2, 2, 0, 0, .null), (90, 2, .bipush 45, 0, 0, 0, .int 45), (92, 3, .if_icmp .ne 18, 110, 0, 0, .null), (95, 1, .aload_n 0, 0, 0, 0, .null), 
  (96, 3, .getfield 19, 11, 3, 863, .null), (99, 1, .aload_n 0, 0, 0, 0, .null), (100, 3, .getfield 105, 11, 5, 865, .null), (103, 1, .iconst 1, 0, 0, 0, .int 1), 
  (104, 1, .isub, 0, 0, 0, .null), (105, 1, .iconst 1, 0, 0, 0, .int 1), (106, 1, .iastore, 0, 0, 0, .null), (107, 3, .goto 47, 154, 0, 0, .null), 
  (110, 1, .iload_n 2, 2, 0, 0, .null), (111, 2, .bipush 59, 0, 0, 0, .int 59), (113, 3, .if_icmp .ne 26, 139, 0, 0, .null), (116, 1, .aload_n 0, 0, 0, 0, .null), 
  (117, 3, .getfield 19, 11, 3, 863, .null), (120, 1, .aload_n 0, 0, 0, 0, .null), (121, 3, .getfield 105, 11, 5, 865, .null), (124, 1, .iconst 0, 0, 0, 0, .int 0), 
  (125, 1, .iastore, 0, 0, 0, .null), (126, 1, .aload_n 0, 0, 0, 0, .null), (127, 1, .dup, 0, 0, 0, .null), (128, 3, .getfield 105, 11, 5, 865, .null), 
  (131, 1, .iconst 1, 0, 0, 0, .int 1), (132, 1, .iadd, 0, 0, 0, .null), (133, 3, .putfield 105, 11, 5, 865, .int 0), (136, 3, .goto 18, 154, 0, 0, .null), 
  (139, 1, .aload_n 0, 0, 0, 0, .null), (140, 3, .getfield 13, 11, 1, 861, .null), (143, 1, .aload_n 0, 0, 0, 0, .null), (144, 3, .getfield 101, 11, 4, 864, .null), 
  (147, 1, .iconst 1, 0, 0, 0, .int 1), (148, 1, .isub, 0, 0, 0, .null), (149, 1, .iload_n 2, 2, 0, 0, .null), (150, 2, .bipush 48, 0, 0, 0, .int 48), 
  (152, 1, .isub, 0, 0, 0, .null), (153, 1, .iastore, 0, 0, 0, .null), (154, 3, .iinc 1 1, 1, 0, 0, .int 1), (157, 3, .goto (-128), 29, 0, 0, .null), 
  (160, 1, .aload_n 0, 0, 0, 0, .null), (161, 1, .iconst 0, 0, 0, 0, .int 0), (162, 3, .putfield 125, 11, 13, 873, .int 0), (165, 1, .aload_n 0, 0, 0, 0, .null), 
  (166, 1, .iconst 0, 0, 0, 0, .int 0), (167, 3, .putfield 114, 11, 37, 897, .int 0), (170, 1, .aload_n 0, 0, 0, 0, .null), (171, 3, .invokevirtual 140, 0, 0, 0, .null), 
  (174, 1, .aload_n 0, 0, 0, 0, .null), (175, 3, .getfield 101, 11, 4, 864, .null), (178, 1, .ireturn, 0, 0, 0, .null)]
theorem okX12_yard : tX12_yard.all (okI yX12_yard.cls (decide (yX12_yard.name = "<init>")) cX12_yard) = true := by decide +kernel
def tX12_isSiding : List CI := [
  (0, 1, .iload_n 1, 1, 0, 0, .null), (1, 1, .i2l, 0, 0, 0, .null), (2, 1, .lconst 0, 0, 0, 0, .long 0), (3, 1, .aload_n 0, 0, 0, 0, .null), 
  (4, 3, .getfield 101, 11, 4, 864, .null), (7, 1, .iconst 1, 0, 0, 0, .int 1), (8, 1, .isub, 0, 0, 0, .null), (9, 1, .i2l, 0, 0, 0, .null), 
  (10, 3, .invokestatic 121, 0, 0, 0, .null), (13, 1, .ireturn, 0, 0, 0, .null)]
theorem okX12_isSiding : tX12_isSiding.all (okI yX12_isSiding.cls (decide (yX12_isSiding.name = "<init>")) cX12_isSiding) = true := by decide +kernel
def tX12_siding : List CI := [
  (0, 1, .aload_n 0, 0, 0, 0, .null), (1, 1, .iload_n 1, 1, 0, 0, .null), (2, 3, .invokevirtual 143, 0, 0, 0, .null), (5, 3, .ifCond .ne 5, 10, 0, 0, .null), 
  (8, 1, .iconst (-1), 0, 0, 0, .int (-1)), (9, 1, .ireturn, 0, 0, 0, .null), (10, 1, .iload_n 2, 2, 0, 0, .null), (11, 25, .tableswitch 46 0 2 #[25, 32, 39], 0, 0, 0, .null), 
  (36, 1, .aload_n 0, 0, 0, 0, .null), (37, 3, .getfield 7, 11, 0, 860, .null), (40, 1, .iload_n 1, 1, 0, 0, .null), (41, 1, .iaload, 0, 0, 0, .null), 
  (42, 1, .ireturn, 0, 0, 0, .null), (43, 1, .aload_n 0, 0, 0, 0, .null), (44, 3, .getfield 13, 11, 1, 861, .null), (47, 1, .iload_n 1, 1, 0, 0, .null), 
  (48, 1, .iaload, 0, 0, 0, .null), (49, 1, .ireturn, 0, 0, 0, .null), (50, 1, .aload_n 0, 0, 0, 0, .null), (51, 3, .getfield 16, 11, 2, 862, .null), 
  (54, 1, .iload_n 1, 1, 0, 0, .null), (55, 1, .iaload, 0, 0, 0, .null), (56, 1, .ireturn, 0, 0, 0, .null), (57, 2, .bipush (-2), 0, 0, 0, .int (-2)), 
  (59, 1, .ireturn, 0, 0, 0, .null)]
theorem okX12_siding : tX12_siding.all (okI yX12_siding.cls (decide (yX12_siding.name = "<init>")) cX12_siding) = true := by decide +kernel
def tX12_goes : List CI := [
  (0, 1, .iload_n 1, 1, 0, 0, .null), (1, 3, .ifCond .ne 7, 8, 0, 0, .null), (4, 1, .iconst 0, 0, 0, 0, .int 0), (5, 3, .goto 13, 18, 0, 0, .null), 
  (8, 1, .aload_n 0, 0, 0, 0, .null), (9, 3, .getfield 16, 11, 2, 862, .null), (12, 1, .iload_n 1, 1, 0, 0, .null), (13, 1, .iconst 1, 0, 0, 0, .int 1), 
  (14, 1, .isub, 0, 0, 0, .null), (15, 1, .iaload, 0, 0, 0, .null), (16, 1, .iconst 1, 0, 0, 0, .int 1), (17, 1, .iadd, 0, 0, 0, .null), (18, 1, .istore_n 3, 3, 0, 0, .null), 
  (19, 1, .iload_n 2, 2, 0, 0, .null), (20, 1, .iconst 5, 0, 0, 0, .int 5), (21, 3, .if_icmp .ne 10, 31, 0, 0, .null), (24, 1, .aload_n 0, 0, 0, 0, .null), 
  (25, 3, .getfield 105, 11, 5, 865, .null), (28, 3, .goto 11, 39, 0, 0, .null), (31, 1, .aload_n 0, 0, 0, 0, .null), (32, 3, .getfield 16, 11, 2, 862, .null), 
  (35, 1, .iload_n 2, 2, 0, 0, .null), (36, 1, .iconst 1, 0, 0, 0, .int 1), (37, 1, .isub, 0, 0, 0, .null), (38, 1, .iaload, 0, 0, 0, .null), (39, 2, .istore 4, 4, 0, 0, .null), 
  (41, 1, .iload_n 3, 3, 0, 0, .null), (42, 2, .iload 4, 4, 0, 0, .null), (44, 3, .if_icmp .gt 7, 51, 0, 0, .null), (47, 1, .iconst 1, 0, 0, 0, .int 1), 
  (48, 3, .goto 4, 52, 0, 0, .null), (51, 1, .iconst 0, 0, 0, 0, .int 0), (52, 2, .istore 5, 5, 0, 0, .null), (54, 1, .iload_n 3, 3, 0, 0, .null), 
  (55, 2, .istore 6, 6, 0, 0, .null), (57, 2, .iload 6, 6, 0, 0, .null), (59, 2, .iload 4, 4, 0, 0, .null), (61, 3, .if_icmp .ge 32, 93, 0, 0, .null), 
  (64, 2, .iload 5, 5, 0, 0, .null), (66, 3, .ifCond .eq 27, 93, 0, 0, .null), (69, 1, .aload_n 0, 0, 0, 0, .null), (70, 3, .getfield 19, 11, 3, 863, .null), 
  (73, 2, .iload 6, 6, 0, 0, .null), (75, 1, .iaload, 0, 0, 0, .null), (76, 1, .iconst 1, 0, 0, 0, .int 1), (77, 3, .if_icmp .ne 7, 84, 0, 0, .null), 
  (80, 1, .iconst 1, 0, 0, 0, .int 1), (81, 3, .goto 4, 85, 0, 0, .null), (84, 1, .iconst 0, 0, 0, 0, .int 0), (85, 2, .istore 5, 5, 0, 0, .null), 
  (87, 3, .iinc 6 1, 6, 0, 0, .int 1), (90, 3, .goto (-33), 57, 0, 0, .null), (93, 2, .iload 5, 5, 0, 0, .null), (95, 1, .ireturn, 0, 0, 0, .null)]
theorem okX12_goes : tX12_goes.all (okI yX12_goes.cls (decide (yX12_goes.name = "<init>")) cX12_goes) = true := by decide +kernel
def tX12_leads : List CI := [
  (0, 1, .iload_n 1, 1, 0, 0, .null), (1, 1, .i2l, 0, 0, 0, .null), (2, 1, .lconst 1, 0, 0, 0, .long 1), (3, 3, .ldc2_w 146, 0, 0, 1035, .long 4), 
  (6, 3, .invokestatic 121, 0, 0, 0, .null), (9, 3, .ifCond .eq 13, 22, 0, 0, .null), (12, 1, .aload_n 0, 0, 0, 0, .null), (13, 1, .iload_n 1, 1, 0, 0, .null), 
  (14, 1, .iconst 1, 0, 0, 0, .int 1), (15, 1, .isub, 0, 0, 0, .null), (16, 3, .invokevirtual 143, 0, 0, 0, .null), (19, 3, .ifCond .eq 25, 44, 0, 0, .null), 
  (22, 1, .iload_n 2, 2, 0, 0, .null), (23, 1, .i2l, 0, 0, 0, .null), (24, 1, .lconst 1, 0, 0, 0, .long 1), (25, 3, .ldc2_w 146, 0, 0, 1035, .long 4), 
  (28, 3, .invokestatic 121, 0, 0, 0, .null), (31, 3, .ifCond .eq 15, 46, 0, 0, .null), (34, 1, .aload_n 0, 0, 0, 0, .null), (35, 1, .iload_n 2, 2, 0, 0, .null), 
  (36, 1, .iconst 1, 0, 0, 0, .int 1), (37, 1, .isub, 0, 0, 0, .null), (38, 3, .invokevirtual 143, 0, 0, 0, .null), (41, 3, .ifCond .ne 5, 46, 0, 0, .null), 
  (44, 1, .iconst (-1), 0, 0, 0, .int (-1)), (45, 1, .ireturn, 0, 0, 0, .null), (46, 1, .iload_n 1, 1, 0, 0, .null), (47, 1, .i2l, 0, 0, 0, .null), 
  (48, 1, .lconst 0, 0, 0, 0, .long 0), (49, 3, .ldc2_w 146, 0, 0, 1035, .long 4), (52, 3, .invokestatic 121, 0, 0, 0, .null), (55, 3, .ifCond .eq 15, 70, 0, 0, .null), 
  (58, 1, .iload_n 2, 2, 0, 0, .null), (59, 1, .i2l, 0, 0, 0, .null), (60, 1, .lconst 1, 0, 0, 0, .long 1), (61, 3, .ldc2_w 148, 0, 0, 1036, .long 5), 
  (64, 3, .invokestatic 121, 0, 0, 0, .null), (67, 3, .ifCond .ne 6, 73, 0, 0, .null), (70, 2, .bipush (-2), 0, 0, 0, .int (-2)), (72, 1, .ireturn, 0, 0, 0, .null), 
  (73, 1, .aload_n 0, 0, 0, 0, .null), (74, 1, .iload_n 1, 1, 0, 0, .null), (75, 1, .iload_n 2, 2, 0, 0, .null), (76, 3, .invokevirtual 150, 0, 0, 0, .null), 
  (79, 3, .ifCond .eq 7, 86, 0, 0, .null), (82, 1, .iconst 1, 0, 0, 0, .int 1), (83, 3, .goto 4, 87, 0, 0, .null), (86, 1, .iconst 0, 0, 0, 0, .int 0), 
  (87, 1, .ireturn, 0, 0, 0, .null)]
theorem okX12_leads : tX12_leads.all (okI yX12_leads.cls (decide (yX12_leads.name = "<init>")) cX12_leads) = true := by decide +kernel
def tX12_decode : List CI := [
  (0, 1, .iconst 0, 0, 0, 0, .int 0), (1, 1, .istore_n 2, 2, 0, 0, .null), (2, 1, .iload_n 2, 2, 0, 0, .null), (3, 1, .iconst 5, 0, 0, 0, .int 5), 
  (4, 3, .if_icmp .ge 16, 20, 0, 0, .null), (7, 1, .aload_n 0, 0, 0, 0, .null), (8, 3, .getfield 40, 11, 15, 875, .null), (11, 1, .iload_n 2, 2, 0, 0, .null), 
  (12, 1, .iconst 0, 0, 0, 0, .int 0), (13, 1, .iastore, 0, 0, 0, .null), (14, 3, .iinc 2 1, 2, 0, 0, .int 1), (17, 3, .goto (-15), 2, 0, 0, .null), 
  (20, 1, .aload_n 0, 0, 0, 0, .null), (21, 1, .iconst 0, 0, 0, 0, .int 0), (22, 3, .putfield 154, 11, 16, 876, .int 0), (25, 1, .aload_n 0, 0, 0, 0, .null), 
  (26, 3, .getfield 101, 11, 4, 864, .null), (29, 1, .istore_n 2, 2, 0, 0, .null), (30, 1, .iload_n 1, 1, 0, 0, .null), (31, 1, .istore_n 3, 3, 0, 0, .null), 
  (32, 1, .iload_n 3, 3, 0, 0, .null), (33, 3, .ifCond .le 45, 78, 0, 0, .null), (36, 1, .iload_n 3, 3, 0, 0, .null), (37, 2, .bipush 6, 0, 0, 0, .int 6), 
  (39, 1, .irem, 0, 0, 0, .null), (40, 2, .istore 4, 4, 0, 0, .null), (42, 1, .iload_n 3, 3, 0, 0, .null), (43, 2, .bipush 6, 0, 0, 0, .int 6), (45, 1, .idiv, 0, 0, 0, .null), 
  (46, 1, .istore_n 3, 3, 0, 0, .null), (47, 2, .iload 4, 4, 0, 0, .null), (49, 3, .ifCond .ne 9, 58, 0, 0, .null), (52, 3, .iinc 2 (-1), 2, 0, 0, .int (-1)), 
  (55, 3, .goto 20, 75, 0, 0, .null), (58, 1, .aload_n 0, 0, 0, 0, .null), (59, 1, .iload_n 2, 2, 0, 0, .null), (60, 2, .iload 4, 4, 0, 0, .null), 
  (62, 3, .invokevirtual 157, 0, 0, 0, .null), (65, 1, .aload_n 0, 0, 0, 0, .null), (66, 1, .dup, 0, 0, 0, .null), (67, 3, .getfield 154, 11, 16, 876, .null), 
  (70, 1, .iconst 1, 0, 0, 0, .int 1), (71, 1, .iadd, 0, 0, 0, .null), (72, 3, .putfield 154, 11, 16, 876, .int 0), (75, 3, .goto (-43), 32, 0, 0, .null), 
  (78, 1, .return_, 0, 0, 0, .null)]
theorem okX12_decode : tX12_decode.all (okI yX12_decode.cls (decide (yX12_decode.name = "<init>")) cX12_decode) = true := by decide +kernel
def tX12_putNear : List CI := [
  (0, 1, .aload_n 0, 0, 0, 0, .null), (1, 3, .getfield 40, 11, 15, 875, .null), (4, 1, .iload_n 1, 1, 0, 0, .null), (5, 1, .iaload, 0, 0, 0, .null), 
  (6, 1, .istore_n 3, 3, 0, 0, .null), (7, 1, .iload_n 3, 3, 0, 0, .null), (8, 3, .ifCond .le 31, 39, 0, 0, .null), (11, 1, .aload_n 0, 0, 0, 0, .null), 
  (12, 3, .getfield 37, 11, 14, 874, .null), (15, 1, .iconst 5, 0, 0, 0, .int 5), (16, 1, .iload_n 1, 1, 0, 0, .null), (17, 1, .imul, 0, 0, 0, .null), 
  (18, 1, .iload_n 3, 3, 0, 0, .null), (19, 1, .iadd, 0, 0, 0, .null), (20, 1, .aload_n 0, 0, 0, 0, .null), (21, 3, .getfield 37, 11, 14, 874, .null), 
  (24, 1, .iconst 5, 0, 0, 0, .int 5), (25, 1, .iload_n 1, 1, 0, 0, .null), (26, 1, .imul, 0, 0, 0, .null), (27, 1, .iload_n 3, 3, 0, 0, .null), (28, 1, .iadd, 0, 0, 0, .null), 
  (29, 1, .iconst 1, 0, 0, 0, .int 1), (30, 1, .isub, 0, 0, 0, .null), (31, 1, .iaload, 0, 0, 0, .null), (32, 1, .iastore, 0, 0, 0, .null), 
  (33, 3, .iinc 3 (-1), 3, 0, 0, .int (-1)), (36, 3, .goto (-29), 7, 0, 0, .null), (39, 1, .aload_n 0, 0, 0, 0, .null), (40, 3, .getfield 37, 11, 14, 874, .null), 
  (43, 1, .iconst 5, 0, 0, 0, .int 5), (44, 1, .iload_n 1, 1, 0, 0, .null), (45, 1, .imul, 0, 0, 0, .null), (46, 1, .iload_n 2, 2, 0, 0, .null), (47, 1, .iastore, 0, 0, 0, .null), 
  (48, 1, .aload_n 0, 0, 0, 0, .null), (49, 3, .getfield 40, 11, 15, 875, .null), (52, 1, .iload_n 1, 1, 0, 0, .null), (53, 1, .dup2, 0, 0, 0, .null), 
  (54, 1, .iaload, 0, 0, 0, .null), (55, 1, .iconst 1, 0, 0, 0, .int 1), (56, 1, .iadd, 0, 0, 0, .null), (57, 1, .iastore, 0, 0, 0, .null), (58, 1, .return_, 0, 0, 0, .null)]
theorem okX12_putNear : tX12_putNear.all (okI yX12_putNear.cls (decide (yX12_putNear.name = "<init>")) cX12_putNear) = true := by decide +kernel
def tX12_putFar : List CI := [
  (0, 1, .aload_n 0, 0, 0, 0, .null), (1, 3, .getfield 37, 11, 14, 874, .null), (4, 1, .iconst 5, 0, 0, 0, .int 5), (5, 1, .iload_n 1, 1, 0, 0, .null), 
  (6, 1, .imul, 0, 0, 0, .null), (7, 1, .aload_n 0, 0, 0, 0, .null), (8, 3, .getfield 40, 11, 15, 875, .null), (11, 1, .iload_n 1, 1, 0, 0, .null), 
  (12, 1, .iaload, 0, 0, 0, .null), (13, 1, .iadd, 0, 0, 0, .null), (14, 1, .iload_n 2, 2, 0, 0, .null), (15, 1, .iastore, 0, 0, 0, .null), (16, 1, .aload_n 0, 0, 0, 0, .null), 
  (17, 3, .getfield 40, 11, 15, 875, .null), (20, 1, .iload_n 1, 1, 0, 0, .null), (21, 1, .dup2, 0, 0, 0, .null), (22, 1, .iaload, 0, 0, 0, .null), 
  (23, 1, .iconst 1, 0, 0, 0, .int 1), (24, 1, .iadd, 0, 0, 0, .null), (25, 1, .iastore, 0, 0, 0, .null), (26, 1, .return_, 0, 0, 0, .null)]
theorem okX12_putFar : tX12_putFar.all (okI yX12_putFar.cls (decide (yX12_putFar.name = "<init>")) cX12_putFar) = true := by decide +kernel
def tX12_encode : List CI := [
  (0, 1, .iconst 0, 0, 0, 0, .int 0), (1, 1, .istore_n 1, 1, 0, 0, .null), (2, 1, .iconst 0, 0, 0, 0, .int 0), (3, 1, .istore_n 2, 2, 0, 0, .null), 
  (4, 1, .iload_n 2, 2, 0, 0, .null), (5, 1, .aload_n 0, 0, 0, 0, .null), (6, 3, .getfield 101, 11, 4, 864, .null), (9, 3, .if_icmp .gt 56, 65, 0, 0, .null), 
  (12, 1, .iload_n 2, 2, 0, 0, .null), (13, 3, .ifCond .le 10, 23, 0, 0, .null), (16, 2, .bipush 6, 0, 0, 0, .int 6), (18, 1, .iload_n 1, 1, 0, 0, .null), 
  (19, 1, .imul, 0, 0, 0, .null), (20, 3, .goto 4, 24, 0, 0, .null), (23, 1, .iconst 0, 0, 0, 0, .int 0), (24, 1, .istore_n 1, 1, 0, 0, .null), 
  (25, 1, .iconst 0, 0, 0, 0, .int 0), (26, 1, .istore_n 3, 3, 0, 0, .null), (27, 1, .iload_n 3, 3, 0, 0, .null), (28, 1, .aload_n 0, 0, 0, 0, .null), 
  (29, 3, .getfield 40, 11, 15, 875, .null), (32, 1, .iload_n 2, 2, 0, 0, .null), (33, 1, .iaload, 0, 0, 0, .null), (34, 3, .if_icmp .ge 25, 59, 0, 0, .null), 
  (37, 2, .bipush 6, 0, 0, 0, .int 6), (39, 1, .iload_n 1, 1, 0, 0, .null), (40, 1, .imul, 0, 0, 0, .null), (41, 1, .aload_n 0, 0, 0, 0, .null), 
  (42, 3, .getfield 37, 11, 14, 874, .null), (45, 1, .iconst 5, 0, 0, 0, .int 5), (46, 1, .iload_n 2, 2, 0, 0, .null), (47, 1, .imul, 0, 0, 0, .null), 
  (48, 1, .iload_n 3, 3, 0, 0, .null), (49, 1, .iadd, 0, 0, 0, .null), (50, 1, .iaload, 0, 0, 0, .null), (51, 1, .iadd, 0, 0, 0, .null), (52, 1, .istore_n 1, 1, 0, 0, .null), 
  (53, 3, .iinc 3 1, 3, 0, 0, .int 1), (56, 3, .goto (-29), 27, 0, 0, .null), (59, 3, .iinc 2 1, 2, 0, 0, .int 1), (62, 3, .goto (-58), 4, 0, 0, .null), 
  (65, 1, .iload_n 1, 1, 0, 0, .null), (66, 1, .ireturn, 0, 0, 0, .null)]
theorem okX12_encode : tX12_encode.all (okI yX12_encode.cls (decide (yX12_encode.name = "<init>")) cX12_encode) = true := by decide +kernel
def tX12_takeNear : List CI := [
  (0, 1, .aload_n 0, 0, 0, 0, .null), (1, 3, .getfield 37, 11, 14, 874, .null), (4, 1, .iconst 5, 0, 0, 0, .int 5), (5, 1, .iload_n 1, 1, 0, 0, .null), 
  (6, 1, .imul, 0, 0, 0, .null), (7, 1, .iaload, 0, 0, 0, .null), (8, 1, .istore_n 2, 2, 0, 0, .null), (9, 1, .aload_n 0, 0, 0, 0, .null), 
  (10, 3, .getfield 40, 11, 15, 875, .null), (13, 1, .iload_n 1, 1, 0, 0, .null), (14, 1, .dup2, 0, 0, 0, .null), (15, 1, .iaload, 0, 0, 0, .null), 
  (16, 1, .iconst 1, 0, 0, 0, .int 1), (17, 1, .isub, 0, 0, 0, .null), (18, 1, .iastore, 0, 0, 0, .null), (19, 1, .iconst 0, 0, 0, 0, .int 0), 
  (20, 1, .istore_n 3, 3, 0, 0, .null), (21, 1, .iload_n 3, 3, 0, 0, .null), (22, 1, .aload_n 0, 0, 0, 0, .null), (23, 3, .getfield 40, 11, 15, 875, .null), 
  (26, 1, .iload_n 1, 1, 0, 0, .null), (27, 1, .iaload, 0, 0, 0, .null), (28, 3, .if_icmp .ge 31, 59, 0, 0, .null), (31, 1, .aload_n 0, 0, 0, 0, .null), 
  (32, 3, .getfield 37, 11, 14, 874, .null), (35, 1, .iconst 5, 0, 0, 0, .int 5), (36, 1, .iload_n 1, 1, 0, 0, .null), (37, 1, .imul, 0, 0, 0, .null), 
  (38, 1, .iload_n 3, 3, 0, 0, .null), (39, 1, .iadd, 0, 0, 0, .null), (40, 1, .aload_n 0, 0, 0, 0, .null), (41, 3, .getfield 37, 11, 14, 874, .null), 
  (44, 1, .iconst 5, 0, 0, 0, .int 5), (45, 1, .iload_n 1, 1, 0, 0, .null), (46, 1, .imul, 0, 0, 0, .null), (47, 1, .iload_n 3, 3, 0, 0, .null), (48, 1, .iadd, 0, 0, 0, .null), 
  (49, 1, .iconst 1, 0, 0, 0, .int 1), (50, 1, .iadd, 0, 0, 0, .null), (51, 1, .iaload, 0, 0, 0, .null), (52, 1, .iastore, 0, 0, 0, .null), (53, 3, .iinc 3 1, 3, 0, 0, .int 1), 
  (56, 3, .goto (-35), 21, 0, 0, .null), (59, 1, .iload_n 2, 2, 0, 0, .null), (60, 1, .ireturn, 0, 0, 0, .null)]
theorem okX12_takeNear : tX12_takeNear.all (okI yX12_takeNear.cls (decide (yX12_takeNear.name = "<init>")) cX12_takeNear) = true := by decide +kernel
def tX12_takeFar : List CI := [
  (0, 1, .aload_n 0, 0, 0, 0, .null), (1, 3, .getfield 40, 11, 15, 875, .null), (4, 1, .iload_n 1, 1, 0, 0, .null), (5, 1, .dup2, 0, 0, 0, .null), (6, 1, .iaload, 0, 0, 0, .null), 
  (7, 1, .iconst 1, 0, 0, 0, .int 1), (8, 1, .isub, 0, 0, 0, .null), (9, 1, .iastore, 0, 0, 0, .null), (10, 1, .aload_n 0, 0, 0, 0, .null), 
  (11, 3, .getfield 37, 11, 14, 874, .null), (14, 1, .iconst 5, 0, 0, 0, .int 5), (15, 1, .iload_n 1, 1, 0, 0, .null), (16, 1, .imul, 0, 0, 0, .null), 
  (17, 1, .aload_n 0, 0, 0, 0, .null), (18, 3, .getfield 40, 11, 15, 875, .null), (21, 1, .iload_n 1, 1, 0, 0, .null), (22, 1, .iaload, 0, 0, 0, .null), 
  (23, 1, .iadd, 0, 0, 0, .null), (24, 1, .iaload, 0, 0, 0, .null), (25, 1, .ireturn, 0, 0, 0, .null)]
theorem okX12_takeFar : tX12_takeFar.all (okI yX12_takeFar.cls (decide (yX12_takeFar.name = "<init>")) cX12_takeFar) = true := by decide +kernel
def tX12_canMove : List CI := [
  (0, 1, .iload_n 1, 1, 0, 0, .null), (1, 3, .ifCond .ne 24, 25, 0, 0, .null), (4, 1, .iload_n 2, 2, 0, 0, .null), (5, 3, .ifCond .ne 16, 21, 0, 0, .null), 
  (8, 1, .aload_n 0, 0, 0, 0, .null), (9, 3, .getfield 154, 11, 16, 876, .null), (12, 2, .iload 5, 5, 0, 0, .null), (14, 3, .if_icmp .ge 7, 21, 0, 0, .null), 
  (17, 1, .iconst 1, 0, 0, 0, .int 1), (18, 3, .goto 34, 52, 0, 0, .null), (21, 1, .iconst 0, 0, 0, 0, .int 0), (22, 3, .goto 30, 52, 0, 0, .null), 
  (25, 1, .aload_n 0, 0, 0, 0, .null), (26, 3, .getfield 40, 11, 15, 875, .null), (29, 1, .iload_n 1, 1, 0, 0, .null), (30, 1, .iconst 1, 0, 0, 0, .int 1), 
  (31, 1, .isub, 0, 0, 0, .null), (32, 1, .iaload, 0, 0, 0, .null), (33, 3, .ifCond .le 18, 51, 0, 0, .null), (36, 1, .aload_n 0, 0, 0, 0, .null), 
  (37, 1, .iload_n 1, 1, 0, 0, .null), (38, 1, .iconst 1, 0, 0, 0, .int 1), (39, 1, .isub, 0, 0, 0, .null), (40, 1, .iload_n 2, 2, 0, 0, .null), 
  (41, 3, .invokevirtual 161, 0, 0, 0, .null), (44, 3, .ifCond .eq 7, 51, 0, 0, .null), (47, 1, .iconst 1, 0, 0, 0, .int 1), (48, 3, .goto 4, 52, 0, 0, .null), 
  (51, 1, .iconst 0, 0, 0, 0, .int 0), (52, 2, .istore 6, 6, 0, 0, .null), (54, 1, .iload_n 3, 3, 0, 0, .null), (55, 1, .iconst 5, 0, 0, 0, .int 5), 
  (56, 3, .if_icmp .ne 16, 72, 0, 0, .null), (59, 2, .iload 4, 4, 0, 0, .null), (61, 3, .ifCond .ne 7, 68, 0, 0, .null), (64, 1, .iconst 1, 0, 0, 0, .int 1), 
  (65, 3, .goto 43, 108, 0, 0, .null), (68, 1, .iconst 0, 0, 0, 0, .int 0), (69, 3, .goto 39, 108, 0, 0, .null), (72, 1, .aload_n 0, 0, 0, 0, .null), 
  (73, 3, .getfield 40, 11, 15, 875, .null), (76, 1, .iload_n 3, 3, 0, 0, .null), (77, 1, .iconst 1, 0, 0, 0, .int 1), (78, 1, .isub, 0, 0, 0, .null), 
  (79, 1, .iaload, 0, 0, 0, .null), (80, 1, .aload_n 0, 0, 0, 0, .null), (81, 3, .getfield 13, 11, 1, 861, .null), (84, 1, .iload_n 3, 3, 0, 0, .null), 
  (85, 1, .iconst 1, 0, 0, 0, .int 1), (86, 1, .isub, 0, 0, 0, .null), (87, 1, .iaload, 0, 0, 0, .null), (88, 3, .if_icmp .ge 19, 107, 0, 0, .null), 
  (91, 1, .aload_n 0, 0, 0, 0, .null), (92, 1, .iload_n 3, 3, 0, 0, .null), (93, 1, .iconst 1, 0, 0, 0, .int 1), (94, 1, .isub, 0, 0, 0, .null), (95, 2, .iload 4, 4, 0, 0, .null), 
  (97, 3, .invokevirtual 164, 0, 0, 0, .null), (100, 3, .ifCond .eq 7, 107, 0, 0, .null), (103, 1, .iconst 1, 0, 0, 0, .int 1), (104, 3, .goto 4, 108, 0, 0, .null), 
  (107, 1, .iconst 0, 0, 0, 0, .int 0), (108, 2, .istore 7, 7, 0, 0, .null), (110, 2, .iload 6, 6, 0, 0, .null), (112, 3, .ifCond .eq 21, 133, 0, 0, .null), 
  (115, 2, .iload 7, 7, 0, 0, .null), (117, 3, .ifCond .eq 16, 133, 0, 0, .null), (120, 1, .aload_n 0, 0, 0, 0, .null), (121, 1, .iload_n 1, 1, 0, 0, .null), 
  (122, 1, .iload_n 3, 3, 0, 0, .null), (123, 3, .invokevirtual 150, 0, 0, 0, .null), (126, 3, .ifCond .eq 7, 133, 0, 0, .null), (129, 1, .iconst 1, 0, 0, 0, .int 1), 
  (130, 3, .goto 4, 134, 0, 0, .null), (133, 1, .iconst 0, 0, 0, 0, .int 0), (134, 1, .ireturn, 0, 0, 0, .null)]
theorem okX12_canMove : tX12_canMove.all (okI yX12_canMove.cls (decide (yX12_canMove.name = "<init>")) cX12_canMove) = true := by decide +kernel
def tX12_isOut : List CI := [
  (0, 1, .aload_n 0, 0, 0, 0, .null), (1, 3, .getfield 7, 11, 0, 860, .null), (4, 1, .iload_n 1, 1, 0, 0, .null), (5, 1, .iaload, 0, 0, 0, .null), 
  (6, 2, .bipush 100, 0, 0, 0, .int 100), (8, 3, .if_icmp .eq 26, 34, 0, 0, .null), (11, 1, .aload_n 0, 0, 0, 0, .null), (12, 3, .getfield 7, 11, 0, 860, .null), 
  (15, 1, .iload_n 1, 1, 0, 0, .null), (16, 1, .iaload, 0, 0, 0, .null), (17, 2, .bipush 115, 0, 0, 0, .int 115), (19, 3, .if_icmp .ne 10, 29, 0, 0, .null), 
  (22, 1, .iload_n 2, 2, 0, 0, .null), (23, 3, .ifCond .ne 15, 38, 0, 0, .null), (26, 3, .goto 8, 34, 0, 0, .null), (29, 1, .iload_n 2, 2, 0, 0, .null), 
  (30, 1, .iconst 1, 0, 0, 0, .int 1), (31, 3, .if_icmp .ne 7, 38, 0, 0, .null), (34, 1, .iconst 1, 0, 0, 0, .int 1), (35, 3, .goto 4, 39, 0, 0, .null), 
  (38, 1, .iconst 0, 0, 0, 0, .int 0), (39, 1, .ireturn, 0, 0, 0, .null)]
theorem okX12_isOut : tX12_isOut.all (okI yX12_isOut.cls (decide (yX12_isOut.name = "<init>")) cX12_isOut) = true := by decide +kernel
def tX12_isIn : List CI := [
  (0, 1, .aload_n 0, 0, 0, 0, .null), (1, 3, .getfield 7, 11, 0, 860, .null), (4, 1, .iload_n 1, 1, 0, 0, .null), (5, 1, .iaload, 0, 0, 0, .null), 
  (6, 2, .bipush 100, 0, 0, 0, .int 100), (8, 3, .if_icmp .eq 7, 15, 0, 0, .null), (11, 1, .iload_n 2, 2, 0, 0, .null), (12, 3, .ifCond .ne 7, 19, 0, 0, .null), 
  (15, 1, .iconst 1, 0, 0, 0, .int 1), (16, 3, .goto 4, 20, 0, 0, .null), (19, 1, .iconst 0, 0, 0, 0, .int 0), (20, 1, .ireturn, 0, 0, 0, .null)]
theorem okX12_isIn : tX12_isIn.all (okI yX12_isIn.cls (decide (yX12_isIn.name = "<init>")) cX12_isIn) = true := by decide +kernel
def tX12_doMove : List CI := [
  (0, 1, .iconst 0, 0, 0, 0, .int 0), (1, 2, .istore 5, 5, 0, 0, .null), (3, 1, .iload_n 1, 1, 0, 0, .null), (4, 3, .ifCond .ne 22, 26, 0, 0, .null), 
  (7, 1, .aload_n 0, 0, 0, 0, .null), (8, 1, .dup, 0, 0, 0, .null), (9, 3, .getfield 154, 11, 16, 876, .null), (12, 1, .iconst 1, 0, 0, 0, .int 1), (13, 1, .iadd, 0, 0, 0, .null), 
  (14, 3, .putfield 154, 11, 16, 876, .int 0), (17, 1, .aload_n 0, 0, 0, 0, .null), (18, 3, .getfield 154, 11, 16, 876, .null), (21, 2, .istore 5, 5, 0, 0, .null), 
  (23, 3, .goto 26, 49, 0, 0, .null), (26, 1, .iload_n 2, 2, 0, 0, .null), (27, 3, .ifCond .ne 13, 40, 0, 0, .null), (30, 1, .aload_n 0, 0, 0, 0, .null), 
  (31, 1, .iload_n 1, 1, 0, 0, .null), (32, 1, .iconst 1, 0, 0, 0, .int 1), (33, 1, .isub, 0, 0, 0, .null), (34, 3, .invokevirtual 167, 0, 0, 0, .null), 
  (37, 3, .goto 10, 47, 0, 0, .null), (40, 1, .aload_n 0, 0, 0, 0, .null), (41, 1, .iload_n 1, 1, 0, 0, .null), (42, 1, .iconst 1, 0, 0, 0, .int 1), 
  (43, 1, .isub, 0, 0, 0, .null), (44, 3, .invokevirtual 171, 0, 0, 0, .null), (47, 2, .istore 5, 5, 0, 0, .null), (49, 1, .iload_n 3, 3, 0, 0, .null), 
  (50, 1, .iconst 5, 0, 0, 0, .int 5), (51, 3, .if_icmp .ne 10, 61, 0, 0, .null), (54, 1, .aload_n 0, 0, 0, 0, .null), (55, 3, .getfield 101, 11, 4, 864, .null), 
  (58, 3, .goto 6, 64, 0, 0, .null), (61, 1, .iload_n 3, 3, 0, 0, .null), (62, 1, .iconst 1, 0, 0, 0, .int 1), (63, 1, .isub, 0, 0, 0, .null), (64, 2, .istore 6, 6, 0, 0, .null), 
  (66, 1, .iload_n 3, 3, 0, 0, .null), (67, 1, .iconst 5, 0, 0, 0, .int 5), (68, 3, .if_icmp .eq 19, 87, 0, 0, .null), (71, 2, .iload 4, 4, 0, 0, .null), 
  (73, 3, .ifCond .ne 14, 87, 0, 0, .null), (76, 1, .aload_n 0, 0, 0, 0, .null), (77, 2, .iload 6, 6, 0, 0, .null), (79, 2, .iload 5, 5, 0, 0, .null), 
  (81, 3, .invokevirtual 157, 0, 0, 0, .null), (84, 3, .goto 11, 95, 0, 0, .null), (87, 1, .aload_n 0, 0, 0, 0, .null), (88, 2, .iload 6, 6, 0, 0, .null), 
  (90, 2, .iload 5, 5, 0, 0, .null), (92, 3, .invokevirtual 174, 0, 0, 0, .null), (95, 1, .return_, 0, 0, 0, .null)]
theorem okX12_doMove : tX12_doMove.all (okI yX12_doMove.cls (decide (yX12_doMove.name = "<init>")) cX12_doMove) = true := by decide +kernel
def tX12_slotOf : List CI := [
  (0, 1, .iload_n 1, 1, 0, 0, .null), (1, 1, .i2l, 0, 0, 0, .null), (2, 3, .ldc2_w 177, 0, 0, 1075, .long 2654435761), (5, 1, .lmul, 0, 0, 0, .null), 
  (6, 2, .bipush 8, 0, 0, 0, .int 8), (8, 1, .lshr, 0, 0, 0, .null), (9, 3, .ldc2_w 179, 0, 0, 1076, .long 65535), (12, 1, .land, 0, 0, 0, .null), (13, 1, .l2i, 0, 0, 0, .null), 
  (14, 1, .istore_n 2, 2, 0, 0, .null), (15, 1, .aload_n 0, 0, 0, 0, .null), (16, 3, .getfield 47, 11, 18, 878, .null), (19, 1, .iload_n 2, 2, 0, 0, .null), 
  (20, 1, .iaload, 0, 0, 0, .null), (21, 1, .aload_n 0, 0, 0, 0, .null), (22, 3, .getfield 181, 11, 23, 883, .null), (25, 3, .if_icmp .ne 23, 48, 0, 0, .null), 
  (28, 1, .aload_n 0, 0, 0, 0, .null), (29, 3, .getfield 44, 11, 17, 877, .null), (32, 1, .iload_n 2, 2, 0, 0, .null), (33, 1, .iaload, 0, 0, 0, .null), 
  (34, 1, .iload_n 1, 1, 0, 0, .null), (35, 3, .if_icmp .eq 13, 48, 0, 0, .null), (38, 1, .iload_n 2, 2, 0, 0, .null), (39, 1, .iconst 1, 0, 0, 0, .int 1), 
  (40, 1, .iadd, 0, 0, 0, .null), (41, 2, .ldc 184, 0, 0, 1077, .int 65535), (43, 1, .iand, 0, 0, 0, .null), (44, 1, .istore_n 2, 2, 0, 0, .null), 
  (45, 3, .goto (-30), 15, 0, 0, .null), (48, 1, .iload_n 2, 2, 0, 0, .null), (49, 1, .ireturn, 0, 0, 0, .null)]
theorem okX12_slotOf : tX12_slotOf.all (okI yX12_slotOf.cls (decide (yX12_slotOf.name = "<init>")) cX12_slotOf) = true := by decide +kernel
def tX12_come : List CI := [
  (0, 1, .aload_n 0, 0, 0, 0, .null), (1, 1, .iload_n 1, 1, 0, 0, .null), (2, 3, .invokevirtual 185, 0, 0, 0, .null), (5, 2, .istore 5, 5, 0, 0, .null), 
  (7, 1, .aload_n 0, 0, 0, 0, .null), (8, 3, .getfield 47, 11, 18, 878, .null), (11, 2, .iload 5, 5, 0, 0, .null), (13, 1, .iaload, 0, 0, 0, .null), 
  (14, 1, .aload_n 0, 0, 0, 0, .null), (15, 3, .getfield 181, 11, 23, 883, .null), (18, 3, .if_icmp .eq 59, 77, 0, 0, .null), (21, 1, .aload_n 0, 0, 0, 0, .null), 
  (22, 3, .getfield 47, 11, 18, 878, .null), (25, 2, .iload 5, 5, 0, 0, .null), (27, 1, .aload_n 0, 0, 0, 0, .null), (28, 3, .getfield 181, 11, 23, 883, .null), 
  (31, 1, .iastore, 0, 0, 0, .null), (32, 1, .aload_n 0, 0, 0, 0, .null), (33, 3, .getfield 44, 11, 17, 877, .null), (36, 2, .iload 5, 5, 0, 0, .null), 
  (38, 1, .iload_n 1, 1, 0, 0, .null), (39, 1, .iastore, 0, 0, 0, .null), (40, 1, .aload_n 0, 0, 0, 0, .null), (41, 3, .getfield 50, 11, 19, 879, .null), 
  (44, 2, .iload 5, 5, 0, 0, .null), (46, 1, .iload_n 2, 2, 0, 0, .null), (47, 1, .iastore, 0, 0, 0, .null), (48, 1, .aload_n 0, 0, 0, 0, .null), 
  (49, 3, .getfield 53, 11, 20, 880, .null), (52, 2, .iload 5, 5, 0, 0, .null), (54, 1, .lconst 0, 0, 0, 0, .long 0), (55, 1, .lastore, 0, 0, 0, .null), 
  (56, 1, .aload_n 0, 0, 0, 0, .null), (57, 3, .getfield 58, 11, 21, 881, .null), (60, 1, .aload_n 0, 0, 0, 0, .null), (61, 3, .getfield 188, 11, 22, 882, .null), 
  (64, 2, .iload 5, 5, 0, 0, .null), (66, 1, .iastore, 0, 0, 0, .null), (67, 1, .aload_n 0, 0, 0, 0, .null), (68, 1, .dup, 0, 0, 0, .null), 
  (69, 3, .getfield 188, 11, 22, 882, .null), (72, 1, .iconst 1, 0, 0, 0, .int 1), (73, 1, .iadd, 0, 0, 0, .null), (74, 3, .putfield 188, 11, 22, 882, .int 0), 
  (77, 1, .aload_n 0, 0, 0, 0, .null), (78, 3, .getfield 53, 11, 20, 880, .null), (81, 2, .iload 5, 5, 0, 0, .null), (83, 1, .dup2, 0, 0, 0, .null), 
  (84, 1, .laload, 0, 0, 0, .null), (85, 1, .aload_n 0, 0, 0, 0, .null), (86, 3, .getfield 50, 11, 19, 879, .null), (89, 2, .iload 5, 5, 0, 0, .null), 
  (91, 1, .iaload, 0, 0, 0, .null), (92, 1, .iload_n 2, 2, 0, 0, .null), (93, 3, .if_icmp .ne 7, 100, 0, 0, .null), (96, 1, .lload_n 3, 3, 0, 0, .null), 
  (97, 3, .goto 4, 101, 0, 0, .null), (100, 1, .lconst 0, 0, 0, 0, .long 0), (101, 1, .ladd, 0, 0, 0, .null), (102, 1, .lastore, 0, 0, 0, .null), 
  (103, 1, .return_, 0, 0, 0, .null)]
theorem okX12_come : tX12_come.all (okI yX12_come.cls (decide (yX12_come.name = "<init>")) cX12_come) = true := by decide +kernel
def tX12_isWanted : List CI := [
  (0, 1, .iconst 1, 0, 0, 0, .int 1), (1, 1, .istore_n 1, 1, 0, 0, .null), (2, 1, .iconst 0, 0, 0, 0, .int 0), (3, 1, .istore_n 2, 2, 0, 0, .null), 
  (4, 1, .iload_n 2, 2, 0, 0, .null), (5, 1, .aload_n 0, 0, 0, 0, .null), (6, 3, .getfield 40, 11, 15, 875, .null), (9, 1, .aload_n 0, 0, 0, 0, .null), 
  (10, 3, .getfield 101, 11, 4, 864, .null), (13, 1, .iaload, 0, 0, 0, .null), (14, 3, .if_icmp .ge 49, 63, 0, 0, .null), (17, 1, .iload_n 2, 2, 0, 0, .null), 
  (18, 1, .aload_n 0, 0, 0, 0, .null), (19, 3, .getfield 191, 11, 25, 885, .null), (22, 3, .if_icmp .ge 41, 63, 0, 0, .null), (25, 1, .iload_n 1, 1, 0, 0, .null), 
  (26, 3, .ifCond .eq 29, 55, 0, 0, .null), (29, 1, .aload_n 0, 0, 0, 0, .null), (30, 3, .getfield 37, 11, 14, 874, .null), (33, 1, .iconst 5, 0, 0, 0, .int 5), 
  (34, 1, .aload_n 0, 0, 0, 0, .null), (35, 3, .getfield 101, 11, 4, 864, .null), (38, 1, .imul, 0, 0, 0, .null), (39, 1, .iload_n 2, 2, 0, 0, .null), 
  (40, 1, .iadd, 0, 0, 0, .null), (41, 1, .iaload, 0, 0, 0, .null), (42, 1, .aload_n 0, 0, 0, 0, .null), (43, 3, .getfield 61, 11, 24, 884, .null), 
  (46, 1, .iload_n 2, 2, 0, 0, .null), (47, 1, .iaload, 0, 0, 0, .null), (48, 3, .if_icmp .ne 7, 55, 0, 0, .null), (51, 1, .iconst 1, 0, 0, 0, .int 1), 
  (52, 3, .goto 4, 56, 0, 0, .null), (55, 1, .iconst 0, 0, 0, 0, .int 0), (56, 1, .istore_n 1, 1, 0, 0, .null), (57, 3, .iinc 2 1, 2, 0, 0, .int 1), 
  (60, 3, .goto (-56), 4, 0, 0, .null), (63, 1, .iload_n 1, 1, 0, 0, .null), (64, 1, .ireturn, 0, 0, 0, .null)]
theorem okX12_isWanted : tX12_isWanted.all (okI yX12_isWanted.cls (decide (yX12_isWanted.name = "<init>")) cX12_isWanted) = true := by decide +kernel
def tX12_search : List CI := [
  (0, 1, .aload_n 0, 0, 0, 0, .null), (1, 1, .dup, 0, 0, 0, .null), (2, 3, .getfield 181, 11, 23, 883, .null), (5, 1, .iconst 1, 0, 0, 0, .int 1), (6, 1, .iadd, 0, 0, 0, .null), 
  (7, 3, .putfield 181, 11, 23, 883, .int 0), (10, 1, .aload_n 0, 0, 0, 0, .null), (11, 1, .iconst 0, 0, 0, 0, .int 0), (12, 3, .putfield 188, 11, 22, 882, .int 0), 
  (15, 1, .aload_n 0, 0, 0, 0, .null), (16, 1, .iload_n 1, 1, 0, 0, .null), (17, 3, .invokevirtual 194, 0, 0, 0, .null), (20, 1, .aload_n 0, 0, 0, 0, .null), 
  (21, 3, .invokevirtual 198, 0, 0, 0, .null), (24, 3, .ifCond .ne 6, 30, 0, 0, .null), (27, 2, .bipush (-6), 0, 0, 0, .int (-6)), (29, 1, .ireturn, 0, 0, 0, .null), 
  (30, 1, .aload_n 0, 0, 0, 0, .null), (31, 1, .iload_n 1, 1, 0, 0, .null), (32, 1, .iconst 0, 0, 0, 0, .int 0), (33, 1, .lconst 1, 0, 0, 0, .long 1), 
  (34, 3, .invokevirtual 202, 0, 0, 0, .null), (37, 1, .iconst 0, 0, 0, 0, .int 0), (38, 1, .istore_n 3, 3, 0, 0, .null), (39, 1, .iload_n 3, 3, 0, 0, .null), 
  (40, 1, .aload_n 0, 0, 0, 0, .null), (41, 3, .getfield 188, 11, 22, 882, .null), (44, 3, .if_icmp .ge 63, 107, 0, 0, .null), (47, 1, .aload_n 0, 0, 0, 0, .null), 
  (48, 3, .getfield 58, 11, 21, 881, .null), (51, 1, .iload_n 3, 3, 0, 0, .null), (52, 1, .iaload, 0, 0, 0, .null), (53, 2, .istore 4, 4, 0, 0, .null), 
  (55, 1, .aload_n 0, 0, 0, 0, .null), (56, 1, .aload_n 0, 0, 0, 0, .null), (57, 3, .getfield 44, 11, 17, 877, .null), (60, 2, .iload 4, 4, 0, 0, .null), 
  (62, 1, .iaload, 0, 0, 0, .null), (63, 3, .invokevirtual 194, 0, 0, 0, .null), (66, 1, .aload_n 0, 0, 0, 0, .null), (67, 3, .getfield 40, 11, 15, 875, .null), 
  (70, 1, .aload_n 0, 0, 0, 0, .null), (71, 3, .getfield 101, 11, 4, 864, .null), (74, 1, .iaload, 0, 0, 0, .null), (75, 1, .iload_n 2, 2, 0, 0, .null), 
  (76, 3, .if_icmp .ne 18, 94, 0, 0, .null), (79, 1, .aload_n 0, 0, 0, 0, .null), (80, 3, .getfield 191, 11, 25, 885, .null), (83, 3, .ifCond .le 11, 94, 0, 0, .null), 
  (86, 1, .aload_n 0, 0, 0, 0, .null), (87, 3, .getfield 50, 11, 19, 879, .null), (90, 2, .iload 4, 4, 0, 0, .null), (92, 1, .iaload, 0, 0, 0, .null), 
  (93, 1, .ireturn, 0, 0, 0, .null), (94, 1, .aload_n 0, 0, 0, 0, .null), (95, 2, .iload 4, 4, 0, 0, .null), (97, 1, .iload_n 2, 2, 0, 0, .null), 
  (98, 3, .invokevirtual 206, 0, 0, 0, .null), (101, 3, .iinc 3 1, 3, 0, 0, .int 1), (104, 3, .goto (-65), 39, 0, 0, .null), (107, 2, .bipush (-6), 0, 0, 0, .int (-6)), 
  (109, 1, .ireturn, 0, 0, 0, .null)]
theorem okX12_search : tX12_search.all (okI yX12_search.cls (decide (yX12_search.name = "<init>")) cX12_search) = true := by decide +kernel
def tX12_spread : List CI := [
  (0, 1, .iconst 0, 0, 0, 0, .int 0), (1, 1, .istore_n 3, 3, 0, 0, .null), (2, 1, .iload_n 3, 3, 0, 0, .null), (3, 1, .aload_n 0, 0, 0, 0, .null), 
  (4, 3, .getfield 101, 11, 4, 864, .null), (7, 3, .if_icmp .gt 134, 141, 0, 0, .null), (10, 1, .iconst 0, 0, 0, 0, .int 0), (11, 2, .istore 4, 4, 0, 0, .null), 
  (13, 2, .iload 4, 4, 0, 0, .null), (15, 1, .iconst 2, 0, 0, 0, .int 2), (16, 3, .if_icmp .ge 119, 135, 0, 0, .null), (19, 1, .iconst 1, 0, 0, 0, .int 1), 
  (20, 2, .istore 5, 5, 0, 0, .null), (22, 2, .iload 5, 5, 0, 0, .null), (24, 1, .iconst 5, 0, 0, 0, .int 5), (25, 3, .if_icmp .gt 104, 129, 0, 0, .null), 
  (28, 1, .iconst 0, 0, 0, 0, .int 0), (29, 2, .istore 6, 6, 0, 0, .null), (31, 2, .iload 6, 6, 0, 0, .null), (33, 1, .iconst 2, 0, 0, 0, .int 2), 
  (34, 3, .if_icmp .ge 89, 123, 0, 0, .null), (37, 2, .iload 5, 5, 0, 0, .null), (39, 1, .aload_n 0, 0, 0, 0, .null), (40, 3, .getfield 101, 11, 4, 864, .null), 
  (43, 3, .if_icmp .le 9, 52, 0, 0, .null), (46, 2, .iload 5, 5, 0, 0, .null), (48, 1, .iconst 5, 0, 0, 0, .int 5), (49, 3, .if_icmp .ne 74, 123, 0, 0, .null), 
  (52, 1, .aload_n 0, 0, 0, 0, .null), (53, 1, .aload_n 0, 0, 0, 0, .null), (54, 3, .getfield 44, 11, 17, 877, .null), (57, 1, .iload_n 1, 1, 0, 0, .null), 
  (58, 1, .iaload, 0, 0, 0, .null), (59, 3, .invokevirtual 194, 0, 0, 0, .null), (62, 1, .aload_n 0, 0, 0, 0, .null), (63, 1, .iload_n 3, 3, 0, 0, .null), 
  (64, 2, .iload 4, 4, 0, 0, .null), (66, 2, .iload 5, 5, 0, 0, .null), (68, 2, .iload 6, 6, 0, 0, .null), (70, 1, .iload_n 2, 2, 0, 0, .null), 
  (71, 3, .invokevirtual 209, 0, 0, 0, .null), (74, 3, .ifCond .eq 43, 117, 0, 0, .null), (77, 1, .aload_n 0, 0, 0, 0, .null), (78, 1, .iload_n 3, 3, 0, 0, .null), 
  (79, 2, .iload 4, 4, 0, 0, .null), (81, 2, .iload 5, 5, 0, 0, .null), (83, 2, .iload 6, 6, 0, 0, .null), (85, 3, .invokevirtual 213, 0, 0, 0, .null), 
  (88, 1, .aload_n 0, 0, 0, 0, .null), (89, 3, .invokevirtual 198, 0, 0, 0, .null), (92, 3, .ifCond .eq 25, 117, 0, 0, .null), (95, 1, .aload_n 0, 0, 0, 0, .null), 
  (96, 1, .aload_n 0, 0, 0, 0, .null), (97, 3, .invokevirtual 217, 0, 0, 0, .null), (100, 1, .aload_n 0, 0, 0, 0, .null), (101, 3, .getfield 50, 11, 19, 879, .null), 
  (104, 1, .iload_n 1, 1, 0, 0, .null), (105, 1, .iaload, 0, 0, 0, .null), (106, 1, .iconst 1, 0, 0, 0, .int 1), (107, 1, .iadd, 0, 0, 0, .null), 
  (108, 1, .aload_n 0, 0, 0, 0, .null), (109, 3, .getfield 53, 11, 20, 880, .null), (112, 1, .iload_n 1, 1, 0, 0, .null), (113, 1, .laload, 0, 0, 0, .null), 
  (114, 3, .invokevirtual 202, 0, 0, 0, .null), (117, 3, .iinc 6 1, 6, 0, 0, .int 1), (120, 3, .goto (-89), 31, 0, 0, .null), (123, 3, .iinc 5 1, 5, 0, 0, .int 1), 
  (126, 3, .goto (-104), 22, 0, 0, .null), (129, 3, .iinc 4 1, 4, 0, 0, .int 1), (132, 3, .goto (-119), 13, 0, 0, .null), (135, 3, .iinc 3 1, 3, 0, 0, .int 1), 
  (138, 3, .goto (-136), 2, 0, 0, .null), (141, 1, .return_, 0, 0, 0, .null)]
theorem okX12_spread : tX12_spread.all (okI yX12_spread.cls (decide (yX12_spread.name = "<init>")) cX12_spread) = true := by decide +kernel
def tX12_forget : List CI := [
  (0, 1, .iconst 0, 0, 0, 0, .int 0), (1, 1, .istore_n 1, 1, 0, 0, .null), (2, 1, .iload_n 1, 1, 0, 0, .null), (3, 1, .iconst 5, 0, 0, 0, .int 5), 
  (4, 3, .if_icmp .gt 16, 20, 0, 0, .null), (7, 1, .aload_n 0, 0, 0, 0, .null), (8, 3, .getfield 70, 11, 28, 888, .null), (11, 1, .iload_n 1, 1, 0, 0, .null), 
  (12, 1, .iconst 0, 0, 0, 0, .int 0), (13, 1, .bastore, 0, 0, 0, .null), (14, 3, .iinc 1 1, 1, 0, 0, .int 1), (17, 3, .goto (-15), 2, 0, 0, .null), 
  (20, 1, .return_, 0, 0, 0, .null)]
theorem okX12_forget : tX12_forget.all (okI yX12_forget.cls (decide (yX12_forget.name = "<init>")) cX12_forget) = true := by decide +kernel
def tX12_power : List CI := [
  (0, 1, .iconst 1, 0, 0, 0, .int 1), (1, 1, .istore_n 1, 1, 0, 0, .null), (2, 1, .iconst 2, 0, 0, 0, .int 2), (3, 1, .istore_n 2, 2, 0, 0, .null), 
  (4, 1, .iload_n 2, 2, 0, 0, .null), (5, 1, .iload_n 0, 0, 0, 0, .null), (6, 3, .if_icmp .gt 13, 19, 0, 0, .null), (9, 1, .iload_n 1, 1, 0, 0, .null), 
  (10, 1, .iload_n 2, 2, 0, 0, .null), (11, 1, .imul, 0, 0, 0, .null), (12, 1, .istore_n 1, 1, 0, 0, .null), (13, 3, .iinc 2 1, 2, 0, 0, .int 1), 
  (16, 3, .goto (-12), 4, 0, 0, .null), (19, 1, .iload_n 1, 1, 0, 0, .null), (20, 1, .ireturn, 0, 0, 0, .null)]
theorem okX12_power : tX12_power.all (okI yX12_power.cls (decide (yX12_power.name = "<init>")) cX12_power) = true := by decide +kernel
def tX12_rankOf : List CI := [
  (0, 1, .iconst 0, 0, 0, 0, .int 0), (1, 1, .istore_n 2, 2, 0, 0, .null), (2, 1, .iconst 0, 0, 0, 0, .int 0), (3, 1, .istore_n 3, 3, 0, 0, .null), 
  (4, 1, .iload_n 3, 3, 0, 0, .null), (5, 1, .iload_n 1, 1, 0, 0, .null), (6, 3, .if_icmp .ge 64, 70, 0, 0, .null), (9, 1, .iconst 0, 0, 0, 0, .int 0), 
  (10, 2, .istore 4, 4, 0, 0, .null), (12, 1, .iload_n 3, 3, 0, 0, .null), (13, 1, .iconst 1, 0, 0, 0, .int 1), (14, 1, .iadd, 0, 0, 0, .null), (15, 2, .istore 5, 5, 0, 0, .null), 
  (17, 2, .iload 5, 5, 0, 0, .null), (19, 1, .iload_n 1, 1, 0, 0, .null), (20, 3, .if_icmp .ge 35, 55, 0, 0, .null), (23, 2, .iload 4, 4, 0, 0, .null), 
  (25, 1, .aload_n 0, 0, 0, 0, .null), (26, 3, .getfield 74, 11, 29, 889, .null), (29, 2, .iload 5, 5, 0, 0, .null), (31, 1, .iaload, 0, 0, 0, .null), 
  (32, 1, .aload_n 0, 0, 0, 0, .null), (33, 3, .getfield 74, 11, 29, 889, .null), (36, 1, .iload_n 3, 3, 0, 0, .null), (37, 1, .iaload, 0, 0, 0, .null), 
  (38, 3, .if_icmp .ge 7, 45, 0, 0, .null), (41, 1, .iconst 1, 0, 0, 0, .int 1), (42, 3, .goto 4, 46, 0, 0, .null), (45, 1, .iconst 0, 0, 0, 0, .int 0), 
  (46, 1, .iadd, 0, 0, 0, .null), (47, 2, .istore 4, 4, 0, 0, .null), (49, 3, .iinc 5 1, 5, 0, 0, .int 1), (52, 3, .goto (-35), 17, 0, 0, .null), 
  (55, 1, .iload_n 2, 2, 0, 0, .null), (56, 1, .iload_n 1, 1, 0, 0, .null), (57, 1, .iload_n 3, 3, 0, 0, .null), (58, 1, .isub, 0, 0, 0, .null), (59, 1, .imul, 0, 0, 0, .null), 
  (60, 2, .iload 4, 4, 0, 0, .null), (62, 1, .iadd, 0, 0, 0, .null), (63, 1, .istore_n 2, 2, 0, 0, .null), (64, 3, .iinc 3 1, 3, 0, 0, .int 1), 
  (67, 3, .goto (-63), 4, 0, 0, .null), (70, 1, .iload_n 2, 2, 0, 0, .null), (71, 1, .ireturn, 0, 0, 0, .null)]
theorem okX12_rankOf : tX12_rankOf.all (okI yX12_rankOf.cls (decide (yX12_rankOf.name = "<init>")) cX12_rankOf) = true := by decide +kernel
def tX12_layRow : List CI := [
  (0, 1, .iload_n 1, 1, 0, 0, .null), (1, 1, .istore_n 3, 3, 0, 0, .null), (2, 1, .iload_n 2, 2, 0, 0, .null), (3, 1, .iconst 1, 0, 0, 0, .int 1), (4, 1, .isub, 0, 0, 0, .null), 
  (5, 2, .istore 4, 4, 0, 0, .null), (7, 2, .iload 4, 4, 0, 0, .null), (9, 3, .ifCond .lt 29, 38, 0, 0, .null), (12, 1, .aload_n 0, 0, 0, 0, .null), 
  (13, 3, .getfield 74, 11, 29, 889, .null), (16, 2, .iload 4, 4, 0, 0, .null), (18, 1, .iload_n 3, 3, 0, 0, .null), (19, 1, .iload_n 2, 2, 0, 0, .null), 
  (20, 2, .iload 4, 4, 0, 0, .null), (22, 1, .isub, 0, 0, 0, .null), (23, 1, .irem, 0, 0, 0, .null), (24, 1, .iastore, 0, 0, 0, .null), (25, 1, .iload_n 3, 3, 0, 0, .null), 
  (26, 1, .iload_n 2, 2, 0, 0, .null), (27, 2, .iload 4, 4, 0, 0, .null), (29, 1, .isub, 0, 0, 0, .null), (30, 1, .idiv, 0, 0, 0, .null), (31, 1, .istore_n 3, 3, 0, 0, .null), 
  (32, 3, .iinc 4 (-1), 4, 0, 0, .int (-1)), (35, 3, .goto (-28), 7, 0, 0, .null), (38, 1, .iload_n 2, 2, 0, 0, .null), (39, 1, .iconst 1, 0, 0, 0, .int 1), 
  (40, 1, .isub, 0, 0, 0, .null), (41, 2, .istore 4, 4, 0, 0, .null), (43, 2, .iload 4, 4, 0, 0, .null), (45, 3, .ifCond .lt 70, 115, 0, 0, .null), 
  (48, 1, .aload_n 0, 0, 0, 0, .null), (49, 3, .getfield 74, 11, 29, 889, .null), (52, 2, .iload 4, 4, 0, 0, .null), (54, 1, .dup2, 0, 0, 0, .null), 
  (55, 1, .iaload, 0, 0, 0, .null), (56, 1, .iconst 1, 0, 0, 0, .int 1), (57, 1, .iadd, 0, 0, 0, .null), (58, 1, .iastore, 0, 0, 0, .null), (59, 2, .iload 4, 4, 0, 0, .null), 
  (61, 1, .iconst 1, 0, 0, 0, .int 1), (62, 1, .iadd, 0, 0, 0, .null), (63, 2, .istore 5, 5, 0, 0, .null), (65, 2, .iload 5, 5, 0, 0, .null), (67, 1, .iload_n 2, 2, 0, 0, .null), 
  (68, 3, .if_icmp .ge 41, 109, 0, 0, .null), (71, 1, .aload_n 0, 0, 0, 0, .null), (72, 3, .getfield 74, 11, 29, 889, .null), (75, 2, .iload 5, 5, 0, 0, .null), 
  (77, 1, .dup2, 0, 0, 0, .null), (78, 1, .iaload, 0, 0, 0, .null), (79, 1, .aload_n 0, 0, 0, 0, .null), (80, 3, .getfield 74, 11, 29, 889, .null), 
  (83, 2, .iload 5, 5, 0, 0, .null), (85, 1, .iaload, 0, 0, 0, .null), (86, 1, .aload_n 0, 0, 0, 0, .null), (87, 3, .getfield 74, 11, 29, 889, .null), 
  (90, 2, .iload 4, 4, 0, 0, .null), (92, 1, .iaload, 0, 0, 0, .null), (93, 3, .if_icmp .lt 7, 100, 0, 0, .null), (96, 1, .iconst 1, 0, 0, 0, .int 1), 
  (97, 3, .goto 4, 101, 0, 0, .null), (100, 1, .iconst 0, 0, 0, 0, .int 0), (101, 1, .iadd, 0, 0, 0, .null), (102, 1, .iastore, 0, 0, 0, .null), 
  (103, 3, .iinc 5 1, 5, 0, 0, .int 1), (106, 3, .goto (-41), 65, 0, 0, .null), (109, 3, .iinc 4 (-1), 4, 0, 0, .int (-1)), (112, 3, .goto (-69), 43, 0, 0, .null), 
  (115, 1, .return_, 0, 0, 0, .null)]
theorem okX12_layRow : tX12_layRow.all (okI yX12_layRow.cls (decide (yX12_layRow.name = "<init>")) cX12_layRow) = true := by decide +kernel
def tX12_findAll : List CI := [
  (0, 1, .aload_n 0, 0, 0, 0, .null), (1, 3, .getfield 70, 11, 28, 888, .null), (4, 1, .iload_n 1, 1, 0, 0, .null), (5, 1, .baload, 0, 0, 0, .null), 
  (6, 3, .ifCond .eq 4, 10, 0, 0, .null), (9, 1, .return_, 0, 0, 0, .null), (10, 1, .aload_n 0, 0, 0, 0, .null), (11, 3, .getfield 70, 11, 28, 888, .null), 
  (14, 1, .iload_n 1, 1, 0, 0, .null), (15, 1, .iconst 1, 0, 0, 0, .int 1), (16, 1, .bastore, 0, 0, 0, .null), (17, 1, .iconst 0, 0, 0, 0, .int 0), 
  (18, 1, .istore_n 2, 2, 0, 0, .null), (19, 1, .iload_n 2, 2, 0, 0, .null), (20, 2, .bipush 120, 0, 0, 0, .int 120), (22, 3, .if_icmp .ge 34, 56, 0, 0, .null), 
  (25, 1, .aload_n 0, 0, 0, 0, .null), (26, 3, .getfield 64, 11, 26, 886, .null), (29, 2, .bipush 120, 0, 0, 0, .int 120), (31, 1, .iload_n 1, 1, 0, 0, .null), 
  (32, 1, .imul, 0, 0, 0, .null), (33, 1, .iload_n 2, 2, 0, 0, .null), (34, 1, .iadd, 0, 0, 0, .null), (35, 2, .bipush (-6), 0, 0, 0, .int (-6)), 
  (37, 1, .iastore, 0, 0, 0, .null), (38, 1, .aload_n 0, 0, 0, 0, .null), (39, 3, .getfield 67, 11, 27, 887, .null), (42, 2, .bipush 120, 0, 0, 0, .int 120), 
  (44, 1, .iload_n 1, 1, 0, 0, .null), (45, 1, .imul, 0, 0, 0, .null), (46, 1, .iload_n 2, 2, 0, 0, .null), (47, 1, .iadd, 0, 0, 0, .null), (48, 1, .lconst 0, 0, 0, 0, .long 0), 
  (49, 1, .lastore, 0, 0, 0, .null), (50, 3, .iinc 2 1, 2, 0, 0, .int 1), (53, 3, .goto (-34), 19, 0, 0, .null), (56, 1, .aload_n 0, 0, 0, 0, .null), 
  (57, 1, .iconst 0, 0, 0, 0, .int 0), (58, 3, .putfield 191, 11, 25, 885, .int 0), (61, 1, .aload_n 0, 0, 0, 0, .null), (62, 1, .iconst 0, 0, 0, 0, .int 0), 
  (63, 1, .iload_n 1, 1, 0, 0, .null), (64, 3, .invokevirtual 220, 0, 0, 0, .null), (67, 1, .pop, 0, 0, 0, .null), (68, 1, .iconst 0, 0, 0, 0, .int 0), 
  (69, 1, .istore_n 2, 2, 0, 0, .null), (70, 1, .iload_n 2, 2, 0, 0, .null), (71, 1, .aload_n 0, 0, 0, 0, .null), (72, 3, .getfield 188, 11, 22, 882, .null), 
  (75, 3, .if_icmp .ge 113, 188, 0, 0, .null), (78, 1, .aload_n 0, 0, 0, 0, .null), (79, 3, .getfield 58, 11, 21, 881, .null), (82, 1, .iload_n 2, 2, 0, 0, .null), 
  (83, 1, .iaload, 0, 0, 0, .null), (84, 1, .istore_n 3, 3, 0, 0, .null), (85, 1, .aload_n 0, 0, 0, 0, .null), (86, 1, .aload_n 0, 0, 0, 0, .null), 
  (87, 3, .getfield 44, 11, 17, 877, .null), (90, 1, .iload_n 3, 3, 0, 0, .null), (91, 1, .iaload, 0, 0, 0, .null), (92, 3, .invokevirtual 194, 0, 0, 0, .null), 
  (95, 1, .aload_n 0, 0, 0, 0, .null), (96, 3, .getfield 40, 11, 15, 875, .null), (99, 1, .aload_n 0, 0, 0, 0, .null), (100, 3, .getfield 101, 11, 4, 864, .null), 
  (103, 1, .iaload, 0, 0, 0, .null), (104, 1, .iload_n 1, 1, 0, 0, .null), (105, 3, .if_icmp .ne 77, 182, 0, 0, .null), (108, 1, .iconst 0, 0, 0, 0, .int 0), 
  (109, 2, .istore 4, 4, 0, 0, .null), (111, 2, .iload 4, 4, 0, 0, .null), (113, 1, .iload_n 1, 1, 0, 0, .null), (114, 3, .if_icmp .ge 30, 144, 0, 0, .null), 
  (117, 1, .aload_n 0, 0, 0, 0, .null), (118, 3, .getfield 74, 11, 29, 889, .null), (121, 2, .iload 4, 4, 0, 0, .null), (123, 1, .aload_n 0, 0, 0, 0, .null), 
  (124, 3, .getfield 37, 11, 14, 874, .null), (127, 1, .iconst 5, 0, 0, 0, .int 5), (128, 1, .aload_n 0, 0, 0, 0, .null), (129, 3, .getfield 101, 11, 4, 864, .null), 
  (132, 1, .imul, 0, 0, 0, .null), (133, 2, .iload 4, 4, 0, 0, .null), (135, 1, .iadd, 0, 0, 0, .null), (136, 1, .iaload, 0, 0, 0, .null), (137, 1, .iastore, 0, 0, 0, .null), 
  (138, 3, .iinc 4 1, 4, 0, 0, .int 1), (141, 3, .goto (-30), 111, 0, 0, .null), (144, 2, .bipush 120, 0, 0, 0, .int 120), (146, 1, .iload_n 1, 1, 0, 0, .null), 
  (147, 1, .imul, 0, 0, 0, .null), (148, 1, .aload_n 0, 0, 0, 0, .null), (149, 1, .iload_n 1, 1, 0, 0, .null), (150, 3, .invokevirtual 224, 0, 0, 0, .null), 
  (153, 1, .iadd, 0, 0, 0, .null), (154, 2, .istore 4, 4, 0, 0, .null), (156, 1, .aload_n 0, 0, 0, 0, .null), (157, 3, .getfield 64, 11, 26, 886, .null), 
  (160, 2, .iload 4, 4, 0, 0, .null), (162, 1, .aload_n 0, 0, 0, 0, .null), (163, 3, .getfield 50, 11, 19, 879, .null), (166, 1, .iload_n 3, 3, 0, 0, .null), 
  (167, 1, .iaload, 0, 0, 0, .null), (168, 1, .iastore, 0, 0, 0, .null), (169, 1, .aload_n 0, 0, 0, 0, .null), (170, 3, .getfield 67, 11, 27, 887, .null), 
  (173, 2, .iload 4, 4, 0, 0, .null), (175, 1, .aload_n 0, 0, 0, 0, .null), (176, 3, .getfield 53, 11, 20, 880, .null), (179, 1, .iload_n 3, 3, 0, 0, .null), 
  (180, 1, .laload, 0, 0, 0, .null), (181, 1, .lastore, 0, 0, 0, .null), (182, 3, .iinc 2 1, 2, 0, 0, .int 1), (185, 3, .goto (-115), 70, 0, 0, .null), 
  (188, 1, .return_, 0, 0, 0, .null)]
theorem okX12_findAll : tX12_findAll.all (okI yX12_findAll.cls (decide (yX12_findAll.name = "<init>")) cX12_findAll) = true := by decide +kernel
def tX12_wagonsOf : List CI := [
  (0, 1, .iconst 0, 0, 0, 0, .int 0), (1, 1, .istore_n 1, 1, 0, 0, .null), (2, 1, .iconst 0, 0, 0, 0, .int 0), (3, 1, .istore_n 2, 2, 0, 0, .null), 
  (4, 1, .iload_n 0, 0, 0, 0, .null), (5, 1, .istore_n 3, 3, 0, 0, .null), (6, 1, .iload_n 3, 3, 0, 0, .null), (7, 3, .ifCond .le 27, 34, 0, 0, .null), 
  (10, 1, .iload_n 3, 3, 0, 0, .null), (11, 2, .bipush 10, 0, 0, 0, .int 10), (13, 1, .irem, 0, 0, 0, .null), (14, 2, .istore 4, 4, 0, 0, .null), 
  (16, 1, .iload_n 2, 2, 0, 0, .null), (17, 1, .iconst 1, 0, 0, 0, .int 1), (18, 2, .iload 4, 4, 0, 0, .null), (20, 1, .ishl, 0, 0, 0, .null), (21, 1, .ior, 0, 0, 0, .null), 
  (22, 1, .istore_n 2, 2, 0, 0, .null), (23, 3, .iinc 1 1, 1, 0, 0, .int 1), (26, 1, .iload_n 3, 3, 0, 0, .null), (27, 2, .bipush 10, 0, 0, 0, .int 10), 
  (29, 1, .idiv, 0, 0, 0, .null), (30, 1, .istore_n 3, 3, 0, 0, .null), (31, 3, .goto (-25), 6, 0, 0, .null), (34, 1, .iload_n 0, 0, 0, 0, .null), (35, 1, .i2l, 0, 0, 0, .null), 
  (36, 1, .lconst 1, 0, 0, 0, .long 1), (37, 3, .ldc2_w 227, 0, 0, 1050, .long 54321), (40, 3, .invokestatic 121, 0, 0, 0, .null), (43, 3, .ifCond .eq 18, 61, 0, 0, .null), 
  (46, 1, .iload_n 2, 2, 0, 0, .null), (47, 1, .iconst 1, 0, 0, 0, .int 1), (48, 1, .iload_n 1, 1, 0, 0, .null), (49, 1, .iconst 1, 0, 0, 0, .int 1), 
  (50, 1, .iadd, 0, 0, 0, .null), (51, 1, .ishl, 0, 0, 0, .null), (52, 1, .iconst 2, 0, 0, 0, .int 2), (53, 1, .isub, 0, 0, 0, .null), (54, 3, .if_icmp .ne 7, 61, 0, 0, .null), 
  (57, 1, .iload_n 1, 1, 0, 0, .null), (58, 3, .goto 4, 62, 0, 0, .null), (61, 1, .iconst 0, 0, 0, 0, .int 0), (62, 1, .ireturn, 0, 0, 0, .null)]
theorem okX12_wagonsOf : tX12_wagonsOf.all (okI yX12_wagonsOf.cls (decide (yX12_wagonsOf.name = "<init>")) cX12_wagonsOf) = true := by decide +kernel
def tX12_digitAt : List CI := [
  (0, 1, .iload_n 0, 0, 0, 0, .null), (1, 1, .istore_n 3, 3, 0, 0, .null), (2, 1, .iload_n 1, 1, 0, 0, .null), (3, 1, .iconst 1, 0, 0, 0, .int 1), (4, 1, .isub, 0, 0, 0, .null), 
  (5, 2, .istore 4, 4, 0, 0, .null), (7, 2, .iload 4, 4, 0, 0, .null), (9, 1, .iload_n 2, 2, 0, 0, .null), (10, 3, .if_icmp .le 14, 24, 0, 0, .null), 
  (13, 1, .iload_n 3, 3, 0, 0, .null), (14, 2, .bipush 10, 0, 0, 0, .int 10), (16, 1, .idiv, 0, 0, 0, .null), (17, 1, .istore_n 3, 3, 0, 0, .null), 
  (18, 3, .iinc 4 (-1), 4, 0, 0, .int (-1)), (21, 3, .goto (-14), 7, 0, 0, .null), (24, 1, .iload_n 3, 3, 0, 0, .null), (25, 2, .bipush 10, 0, 0, 0, .int 10), 
  (27, 1, .irem, 0, 0, 0, .null), (28, 1, .ireturn, 0, 0, 0, .null)]
theorem okX12_digitAt : tX12_digitAt.all (okI yX12_digitAt.cls (decide (yX12_digitAt.name = "<init>")) cX12_digitAt) = true := by decide +kernel
def tX12_layTrain : List CI := [
  (0, 1, .iconst 0, 0, 0, 0, .int 0), (1, 1, .istore_n 3, 3, 0, 0, .null), (2, 1, .iload_n 3, 3, 0, 0, .null), (3, 1, .iload_n 2, 2, 0, 0, .null), 
  (4, 3, .if_icmp .ge 21, 25, 0, 0, .null), (7, 1, .aload_n 0, 0, 0, 0, .null), (8, 3, .getfield 77, 11, 30, 890, .null), (11, 1, .iload_n 3, 3, 0, 0, .null), 
  (12, 1, .iload_n 1, 1, 0, 0, .null), (13, 1, .iload_n 2, 2, 0, 0, .null), (14, 1, .iload_n 3, 3, 0, 0, .null), (15, 3, .invokestatic 229, 0, 0, 0, .null), 
  (18, 1, .iastore, 0, 0, 0, .null), (19, 3, .iinc 3 1, 3, 0, 0, .int 1), (22, 3, .goto (-20), 2, 0, 0, .null), (25, 1, .return_, 0, 0, 0, .null)]
theorem okX12_layTrain : tX12_layTrain.all (okI yX12_layTrain.cls (decide (yX12_layTrain.name = "<init>")) cX12_layTrain) = true := by decide +kernel
def tX12_placeOf : List CI := [
  (0, 1, .iconst 0, 0, 0, 0, .int 0), (1, 1, .istore_n 3, 3, 0, 0, .null), (2, 1, .iconst 0, 0, 0, 0, .int 0), (3, 2, .istore 4, 4, 0, 0, .null), (5, 2, .iload 4, 4, 0, 0, .null), 
  (7, 1, .iload_n 2, 2, 0, 0, .null), (8, 3, .if_icmp .ge 29, 37, 0, 0, .null), (11, 1, .aload_n 0, 0, 0, 0, .null), (12, 3, .getfield 77, 11, 30, 890, .null), 
  (15, 2, .iload 4, 4, 0, 0, .null), (17, 1, .iaload, 0, 0, 0, .null), (18, 1, .iload_n 1, 1, 0, 0, .null), (19, 3, .if_icmp .ne 10, 29, 0, 0, .null), 
  (22, 2, .iload 4, 4, 0, 0, .null), (24, 1, .iconst 1, 0, 0, 0, .int 1), (25, 1, .iadd, 0, 0, 0, .null), (26, 3, .goto 4, 30, 0, 0, .null), (29, 1, .iload_n 3, 3, 0, 0, .null), 
  (30, 1, .istore_n 3, 3, 0, 0, .null), (31, 3, .iinc 4 1, 4, 0, 0, .int 1), (34, 3, .goto (-29), 5, 0, 0, .null), (37, 1, .iload_n 3, 3, 0, 0, .null), 
  (38, 1, .ireturn, 0, 0, 0, .null)]
theorem okX12_placeOf : tX12_placeOf.all (okI yX12_placeOf.cls (decide (yX12_placeOf.name = "<init>")) cX12_placeOf) = true := by decide +kernel
def tX12_layOrder : List CI := [
  (0, 1, .iconst 0, 0, 0, 0, .int 0), (1, 1, .istore_n 3, 3, 0, 0, .null), (2, 1, .iload_n 3, 3, 0, 0, .null), (3, 1, .iload_n 2, 2, 0, 0, .null), 
  (4, 3, .if_icmp .ge 26, 30, 0, 0, .null), (7, 1, .aload_n 0, 0, 0, 0, .null), (8, 3, .getfield 74, 11, 29, 889, .null), (11, 1, .iload_n 3, 3, 0, 0, .null), 
  (12, 1, .aload_n 0, 0, 0, 0, .null), (13, 1, .iload_n 1, 1, 0, 0, .null), (14, 1, .iload_n 2, 2, 0, 0, .null), (15, 1, .iload_n 3, 3, 0, 0, .null), 
  (16, 3, .invokestatic 229, 0, 0, 0, .null), (19, 1, .iload_n 2, 2, 0, 0, .null), (20, 3, .invokevirtual 233, 0, 0, 0, .null), (23, 1, .iastore, 0, 0, 0, .null), 
  (24, 3, .iinc 3 1, 3, 0, 0, .int 1), (27, 3, .goto (-25), 2, 0, 0, .null), (30, 1, .return_, 0, 0, 0, .null)]
theorem okX12_layOrder : tX12_layOrder.all (okI yX12_layOrder.cls (decide (yX12_layOrder.name = "<init>")) cX12_layOrder) = true := by decide +kernel
def tX12_sortedOf : List CI := [
  (0, 1, .iconst 0, 0, 0, 0, .int 0), (1, 1, .istore_n 2, 2, 0, 0, .null), (2, 1, .iconst 1, 0, 0, 0, .int 1), (3, 1, .istore_n 3, 3, 0, 0, .null), 
  (4, 1, .iload_n 3, 3, 0, 0, .null), (5, 1, .iload_n 1, 1, 0, 0, .null), (6, 3, .if_icmp .gt 16, 22, 0, 0, .null), (9, 2, .bipush 10, 0, 0, 0, .int 10), 
  (11, 1, .iload_n 2, 2, 0, 0, .null), (12, 1, .imul, 0, 0, 0, .null), (13, 1, .iload_n 3, 3, 0, 0, .null), (14, 1, .iadd, 0, 0, 0, .null), (15, 1, .istore_n 2, 2, 0, 0, .null), 
  (16, 3, .iinc 3 1, 3, 0, 0, .int 1), (19, 3, .goto (-15), 4, 0, 0, .null), (22, 1, .iload_n 2, 2, 0, 0, .null), (23, 1, .ireturn, 0, 0, 0, .null)]
theorem okX12_sortedOf : tX12_sortedOf.all (okI yX12_sortedOf.cls (decide (yX12_sortedOf.name = "<init>")) cX12_sortedOf) = true := by decide +kernel
def tX12_found : List CI := [
  (0, 1, .aload_n 0, 0, 0, 0, .null), (1, 1, .iload_n 3, 3, 0, 0, .null), (2, 3, .invokevirtual 236, 0, 0, 0, .null), (5, 1, .aload_n 0, 0, 0, 0, .null), 
  (6, 1, .iload_n 1, 1, 0, 0, .null), (7, 1, .iload_n 3, 3, 0, 0, .null), (8, 3, .invokevirtual 239, 0, 0, 0, .null), (11, 1, .aload_n 0, 0, 0, 0, .null), 
  (12, 1, .iload_n 2, 2, 0, 0, .null), (13, 1, .iload_n 3, 3, 0, 0, .null), (14, 3, .invokevirtual 242, 0, 0, 0, .null), (17, 2, .bipush 120, 0, 0, 0, .int 120), 
  (19, 1, .iload_n 3, 3, 0, 0, .null), (20, 1, .imul, 0, 0, 0, .null), (21, 1, .aload_n 0, 0, 0, 0, .null), (22, 1, .iload_n 3, 3, 0, 0, .null), 
  (23, 3, .invokevirtual 224, 0, 0, 0, .null), (26, 1, .iadd, 0, 0, 0, .null), (27, 1, .ireturn, 0, 0, 0, .null)]
theorem okX12_found : tX12_found.all (okI yX12_found.cls (decide (yX12_found.name = "<init>")) cX12_found) = true := by decide +kernel
def tX12_areTwo : List CI := [
  (0, 1, .iload_n 0, 0, 0, 0, .null), (1, 3, .invokestatic 245, 0, 0, 0, .null), (4, 3, .ifCond .le 18, 22, 0, 0, .null), (7, 1, .iload_n 1, 1, 0, 0, .null), 
  (8, 3, .invokestatic 245, 0, 0, 0, .null), (11, 1, .iload_n 0, 0, 0, 0, .null), (12, 3, .invokestatic 245, 0, 0, 0, .null), (15, 3, .if_icmp .ne 7, 22, 0, 0, .null), 
  (18, 1, .iconst 1, 0, 0, 0, .int 1), (19, 3, .goto 4, 23, 0, 0, .null), (22, 1, .iconst 0, 0, 0, 0, .int 0), (23, 1, .ireturn, 0, 0, 0, .null)]
theorem okX12_areTwo : tX12_areTwo.all (okI yX12_areTwo.cls (decide (yX12_areTwo.name = "<init>")) cX12_areTwo) = true := by decide +kernel
def tX12_least : List CI := [
  (0, 1, .iload_n 1, 1, 0, 0, .null), (1, 1, .iload_n 2, 2, 0, 0, .null), (2, 3, .invokestatic 248, 0, 0, 0, .null), (5, 3, .ifCond .eq 21, 26, 0, 0, .null), 
  (8, 1, .aload_n 0, 0, 0, 0, .null), (9, 3, .getfield 64, 11, 26, 886, .null), (12, 1, .aload_n 0, 0, 0, 0, .null), (13, 1, .iload_n 1, 1, 0, 0, .null), 
  (14, 1, .iload_n 2, 2, 0, 0, .null), (15, 1, .iload_n 1, 1, 0, 0, .null), (16, 3, .invokestatic 245, 0, 0, 0, .null), (19, 3, .invokevirtual 251, 0, 0, 0, .null), 
  (22, 1, .iaload, 0, 0, 0, .null), (23, 3, .goto 5, 28, 0, 0, .null), (26, 2, .bipush (-2), 0, 0, 0, .int (-2)), (28, 1, .ireturn, 0, 0, 0, .null)]
theorem okX12_least : tX12_least.all (okI yX12_least.cls (decide (yX12_least.name = "<init>")) cX12_least) = true := by decide +kernel
def tX12_ways : List CI := [
  (0, 1, .iload_n 1, 1, 0, 0, .null), (1, 1, .iload_n 2, 2, 0, 0, .null), (2, 3, .invokestatic 248, 0, 0, 0, .null), (5, 3, .ifCond .eq 21, 26, 0, 0, .null), 
  (8, 1, .aload_n 0, 0, 0, 0, .null), (9, 3, .getfield 67, 11, 27, 887, .null), (12, 1, .aload_n 0, 0, 0, 0, .null), (13, 1, .iload_n 1, 1, 0, 0, .null), 
  (14, 1, .iload_n 2, 2, 0, 0, .null), (15, 1, .iload_n 1, 1, 0, 0, .null), (16, 3, .invokestatic 245, 0, 0, 0, .null), (19, 3, .invokevirtual 251, 0, 0, 0, .null), 
  (22, 1, .laload, 0, 0, 0, .null), (23, 3, .goto 6, 29, 0, 0, .null), (26, 3, .ldc2_w 254, 0, 0, 1124, .long (-2)), (29, 1, .lreturn, 0, 0, 0, .null)]
theorem okX12_ways : tX12_ways.all (okI yX12_ways.cls (decide (yX12_ways.name = "<init>")) cX12_ways) = true := by decide +kernel
def tX12_nextOf : List CI := [
  (0, 1, .iconst 0, 0, 0, 0, .int 0), (1, 2, .istore 4, 4, 0, 0, .null), (3, 2, .iload 4, 4, 0, 0, .null), (5, 3, .sipush 5000, 0, 0, 0, .int 5000), 
  (8, 3, .if_icmp .ge 110, 118, 0, 0, .null), (11, 2, .iload 4, 4, 0, 0, .null), (13, 3, .sipush 1000, 0, 0, 0, .int 1000), (16, 1, .idiv, 0, 0, 0, .null), 
  (17, 2, .istore 5, 5, 0, 0, .null), (19, 2, .iload 4, 4, 0, 0, .null), (21, 2, .bipush 100, 0, 0, 0, .int 100), (23, 1, .idiv, 0, 0, 0, .null), 
  (24, 2, .bipush 10, 0, 0, 0, .int 10), (26, 1, .irem, 0, 0, 0, .null), (27, 2, .istore 6, 6, 0, 0, .null), (29, 2, .iload 4, 4, 0, 0, .null), 
  (31, 2, .bipush 10, 0, 0, 0, .int 10), (33, 1, .idiv, 0, 0, 0, .null), (34, 2, .bipush 10, 0, 0, 0, .int 10), (36, 1, .irem, 0, 0, 0, .null), (37, 2, .istore 7, 7, 0, 0, .null), 
  (39, 2, .iload 4, 4, 0, 0, .null), (41, 2, .bipush 10, 0, 0, 0, .int 10), (43, 1, .irem, 0, 0, 0, .null), (44, 2, .istore 8, 8, 0, 0, .null), 
  (46, 1, .aload_n 0, 0, 0, 0, .null), (47, 2, .iload 5, 5, 0, 0, .null), (49, 2, .iload 6, 6, 0, 0, .null), (51, 2, .iload 7, 7, 0, 0, .null), (53, 2, .iload 8, 8, 0, 0, .null), 
  (55, 3, .invokevirtual 256, 0, 0, 0, .null), (58, 3, .ifCond .eq 54, 112, 0, 0, .null), (61, 1, .aload_n 0, 0, 0, 0, .null), (62, 1, .iload_n 1, 1, 0, 0, .null), 
  (63, 3, .invokevirtual 194, 0, 0, 0, .null), (66, 1, .aload_n 0, 0, 0, 0, .null), (67, 2, .iload 5, 5, 0, 0, .null), (69, 2, .iload 6, 6, 0, 0, .null), 
  (71, 2, .iload 7, 7, 0, 0, .null), (73, 2, .iload 8, 8, 0, 0, .null), (75, 1, .iload_n 2, 2, 0, 0, .null), (76, 3, .invokevirtual 209, 0, 0, 0, .null), 
  (79, 3, .ifCond .eq 33, 112, 0, 0, .null), (82, 1, .aload_n 0, 0, 0, 0, .null), (83, 2, .iload 5, 5, 0, 0, .null), (85, 2, .iload 6, 6, 0, 0, .null), 
  (87, 2, .iload 7, 7, 0, 0, .null), (89, 2, .iload 8, 8, 0, 0, .null), (91, 3, .invokevirtual 213, 0, 0, 0, .null), (94, 1, .aload_n 0, 0, 0, 0, .null), 
  (95, 1, .aload_n 0, 0, 0, 0, .null), (96, 3, .invokevirtual 217, 0, 0, 0, .null), (99, 1, .iload_n 2, 2, 0, 0, .null), (100, 3, .invokevirtual 220, 0, 0, 0, .null), 
  (103, 1, .iload_n 3, 3, 0, 0, .null), (104, 1, .iconst 1, 0, 0, 0, .int 1), (105, 1, .isub, 0, 0, 0, .null), (106, 3, .if_icmp .ne 6, 112, 0, 0, .null), 
  (109, 2, .iload 4, 4, 0, 0, .null), (111, 1, .ireturn, 0, 0, 0, .null), (112, 3, .iinc 4 1, 4, 0, 0, .int 1), (115, 3, .goto (-112), 3, 0, 0, .null), 
  (118, 2, .bipush (-6), 0, 0, 0, .int (-6)), (120, 1, .ireturn, 0, 0, 0, .null)]
theorem okX12_nextOf : tX12_nextOf.all (okI yX12_nextOf.cls (decide (yX12_nextOf.name = "<init>")) cX12_nextOf) = true := by decide +kernel
def tX12_isMove : List CI := [
  (0, 1, .iload_n 1, 1, 0, 0, .null), (1, 1, .i2l, 0, 0, 0, .null), (2, 1, .lconst 0, 0, 0, 0, .long 0), (3, 1, .aload_n 0, 0, 0, 0, .null), 
  (4, 3, .getfield 101, 11, 4, 864, .null), (7, 1, .i2l, 0, 0, 0, .null), (8, 3, .invokestatic 121, 0, 0, 0, .null), (11, 3, .ifCond .eq 37, 48, 0, 0, .null), 
  (14, 1, .iload_n 2, 2, 0, 0, .null), (15, 1, .iconst 2, 0, 0, 0, .int 2), (16, 3, .if_icmp .ge 32, 48, 0, 0, .null), (19, 1, .iload_n 3, 3, 0, 0, .null), 
  (20, 1, .iconst 5, 0, 0, 0, .int 5), (21, 3, .if_icmp .eq 17, 38, 0, 0, .null), (24, 1, .iload_n 3, 3, 0, 0, .null), (25, 1, .i2l, 0, 0, 0, .null), 
  (26, 1, .lconst 1, 0, 0, 0, .long 1), (27, 1, .aload_n 0, 0, 0, 0, .null), (28, 3, .getfield 101, 11, 4, 864, .null), (31, 1, .i2l, 0, 0, 0, .null), 
  (32, 3, .invokestatic 121, 0, 0, 0, .null), (35, 3, .ifCond .eq 13, 48, 0, 0, .null), (38, 2, .iload 4, 4, 0, 0, .null), (40, 1, .iconst 2, 0, 0, 0, .int 2), 
  (41, 3, .if_icmp .ge 7, 48, 0, 0, .null), (44, 1, .iconst 1, 0, 0, 0, .int 1), (45, 3, .goto 4, 49, 0, 0, .null), (48, 1, .iconst 0, 0, 0, 0, .int 0), 
  (49, 1, .ireturn, 0, 0, 0, .null)]
theorem okX12_isMove : tX12_isMove.all (okI yX12_isMove.cls (decide (yX12_isMove.name = "<init>")) cX12_isMove) = true := by decide +kernel
def tX12_moved : List CI := [
  (0, 1, .aload_n 0, 0, 0, 0, .null), (1, 1, .iload_n 1, 1, 0, 0, .null), (2, 3, .invokevirtual 194, 0, 0, 0, .null), (5, 1, .aload_n 0, 0, 0, 0, .null), 
  (6, 1, .iload_n 2, 2, 0, 0, .null), (7, 3, .sipush 1000, 0, 0, 0, .int 1000), (10, 1, .idiv, 0, 0, 0, .null), (11, 1, .iload_n 2, 2, 0, 0, .null), 
  (12, 2, .bipush 100, 0, 0, 0, .int 100), (14, 1, .idiv, 0, 0, 0, .null), (15, 2, .bipush 10, 0, 0, 0, .int 10), (17, 1, .irem, 0, 0, 0, .null), 
  (18, 1, .iload_n 2, 2, 0, 0, .null), (19, 2, .bipush 10, 0, 0, 0, .int 10), (21, 1, .idiv, 0, 0, 0, .null), (22, 2, .bipush 10, 0, 0, 0, .int 10), 
  (24, 1, .irem, 0, 0, 0, .null), (25, 1, .iload_n 2, 2, 0, 0, .null), (26, 2, .bipush 10, 0, 0, 0, .int 10), (28, 1, .irem, 0, 0, 0, .null), 
  (29, 3, .invokevirtual 213, 0, 0, 0, .null), (32, 1, .aload_n 0, 0, 0, 0, .null), (33, 3, .invokevirtual 217, 0, 0, 0, .null), (36, 1, .ireturn, 0, 0, 0, .null)]
theorem okX12_moved : tX12_moved.all (okI yX12_moved.cls (decide (yX12_moved.name = "<init>")) cX12_moved) = true := by decide +kernel
def tX12_want : List CI := [
  (0, 1, .aload_n 0, 0, 0, 0, .null), (1, 1, .iload_n 1, 1, 0, 0, .null), (2, 1, .iload_n 3, 3, 0, 0, .null), (3, 3, .invokevirtual 239, 0, 0, 0, .null), 
  (6, 1, .aload_n 0, 0, 0, 0, .null), (7, 1, .iload_n 2, 2, 0, 0, .null), (8, 1, .iload_n 3, 3, 0, 0, .null), (9, 3, .invokevirtual 242, 0, 0, 0, .null), 
  (12, 1, .iconst 0, 0, 0, 0, .int 0), (13, 2, .istore 4, 4, 0, 0, .null), (15, 2, .iload 4, 4, 0, 0, .null), (17, 1, .iload_n 3, 3, 0, 0, .null), 
  (18, 3, .if_icmp .ge 23, 41, 0, 0, .null), (21, 1, .aload_n 0, 0, 0, 0, .null), (22, 3, .getfield 61, 11, 24, 884, .null), (25, 2, .iload 4, 4, 0, 0, .null), 
  (27, 1, .aload_n 0, 0, 0, 0, .null), (28, 3, .getfield 74, 11, 29, 889, .null), (31, 2, .iload 4, 4, 0, 0, .null), (33, 1, .iaload, 0, 0, 0, .null), 
  (34, 1, .iastore, 0, 0, 0, .null), (35, 3, .iinc 4 1, 4, 0, 0, .int 1), (38, 3, .goto (-23), 15, 0, 0, .null), (41, 1, .aload_n 0, 0, 0, 0, .null), 
  (42, 1, .iload_n 3, 3, 0, 0, .null), (43, 3, .putfield 191, 11, 25, 885, .int 0), (46, 1, .return_, 0, 0, 0, .null)]
theorem okX12_want : tX12_want.all (okI yX12_want.cls (decide (yX12_want.name = "<init>")) cX12_want) = true := by decide +kernel
def tX12_first : List CI := [
  (0, 1, .iload_n 1, 1, 0, 0, .null), (1, 1, .iload_n 2, 2, 0, 0, .null), (2, 3, .invokestatic 248, 0, 0, 0, .null), (5, 3, .ifCond .ne 6, 11, 0, 0, .null), 
  (8, 2, .bipush (-2), 0, 0, 0, .int (-2)), (10, 1, .ireturn, 0, 0, 0, .null), (11, 1, .iload_n 1, 1, 0, 0, .null), (12, 3, .invokestatic 245, 0, 0, 0, .null), 
  (15, 2, .istore 4, 4, 0, 0, .null), (17, 1, .aload_n 0, 0, 0, 0, .null), (18, 3, .getfield 64, 11, 26, 886, .null), (21, 1, .aload_n 0, 0, 0, 0, .null), 
  (22, 1, .iload_n 1, 1, 0, 0, .null), (23, 1, .iload_n 2, 2, 0, 0, .null), (24, 2, .iload 4, 4, 0, 0, .null), (26, 3, .invokevirtual 251, 0, 0, 0, .null), 
  (29, 1, .iaload, 0, 0, 0, .null), (30, 2, .istore 5, 5, 0, 0, .null), (32, 1, .iload_n 3, 3, 0, 0, .null), (33, 1, .i2l, 0, 0, 0, .null), (34, 1, .lconst 0, 0, 0, 0, .long 0), 
  (35, 2, .iload 5, 5, 0, 0, .null), (37, 1, .iconst 1, 0, 0, 0, .int 1), (38, 1, .isub, 0, 0, 0, .null), (39, 1, .i2l, 0, 0, 0, .null), 
  (40, 3, .invokestatic 121, 0, 0, 0, .null), (43, 3, .ifCond .ne 6, 49, 0, 0, .null), (46, 2, .bipush (-6), 0, 0, 0, .int (-6)), (48, 1, .ireturn, 0, 0, 0, .null), 
  (49, 1, .aload_n 0, 0, 0, 0, .null), (50, 1, .iload_n 1, 1, 0, 0, .null), (51, 1, .iload_n 2, 2, 0, 0, .null), (52, 2, .iload 4, 4, 0, 0, .null), 
  (54, 3, .invokevirtual 260, 0, 0, 0, .null), (57, 1, .iconst 0, 0, 0, 0, .int 0), (58, 2, .istore 6, 6, 0, 0, .null), (60, 2, .bipush (-6), 0, 0, 0, .int (-6)), 
  (62, 2, .istore 7, 7, 0, 0, .null), (64, 1, .iconst 0, 0, 0, 0, .int 0), (65, 2, .istore 8, 8, 0, 0, .null), (67, 2, .iload 8, 8, 0, 0, .null), 
  (69, 1, .iload_n 3, 3, 0, 0, .null), (70, 3, .if_icmp .gt 34, 104, 0, 0, .null), (73, 1, .aload_n 0, 0, 0, 0, .null), (74, 2, .iload 6, 6, 0, 0, .null), 
  (76, 2, .iload 4, 4, 0, 0, .null), (78, 2, .iload 5, 5, 0, 0, .null), (80, 2, .iload 8, 8, 0, 0, .null), (82, 1, .isub, 0, 0, 0, .null), 
  (83, 3, .invokevirtual 264, 0, 0, 0, .null), (86, 2, .istore 7, 7, 0, 0, .null), (88, 1, .aload_n 0, 0, 0, 0, .null), (89, 2, .iload 6, 6, 0, 0, .null), 
  (91, 2, .iload 7, 7, 0, 0, .null), (93, 3, .invokevirtual 267, 0, 0, 0, .null), (96, 2, .istore 6, 6, 0, 0, .null), (98, 3, .iinc 8 1, 8, 0, 0, .int 1), 
  (101, 3, .goto (-34), 67, 0, 0, .null), (104, 2, .iload 7, 7, 0, 0, .null), (106, 1, .ireturn, 0, 0, 0, .null)]
theorem okX12_first : tX12_first.all (okI yX12_first.cls (decide (yX12_first.name = "<init>")) cX12_first) = true := by decide +kernel
def tX12_orders : List CI := [
  (0, 1, .iload_n 1, 1, 0, 0, .null), (1, 3, .invokestatic 245, 0, 0, 0, .null), (4, 1, .istore_n 3, 3, 0, 0, .null), (5, 1, .iload_n 3, 3, 0, 0, .null), 
  (6, 3, .ifCond .ne 6, 12, 0, 0, .null), (9, 2, .bipush (-2), 0, 0, 0, .int (-2)), (11, 1, .ireturn, 0, 0, 0, .null), (12, 1, .aload_n 0, 0, 0, 0, .null), 
  (13, 1, .iload_n 3, 3, 0, 0, .null), (14, 3, .invokevirtual 236, 0, 0, 0, .null), (17, 1, .aload_n 0, 0, 0, 0, .null), (18, 1, .iload_n 1, 1, 0, 0, .null), 
  (19, 1, .iload_n 3, 3, 0, 0, .null), (20, 3, .invokevirtual 239, 0, 0, 0, .null), (23, 1, .iconst 0, 0, 0, 0, .int 0), (24, 2, .istore 4, 4, 0, 0, .null), 
  (26, 1, .iconst 0, 0, 0, 0, .int 0), (27, 2, .istore 5, 5, 0, 0, .null), (29, 2, .iload 5, 5, 0, 0, .null), (31, 1, .iload_n 3, 3, 0, 0, .null), 
  (32, 3, .invokestatic 270, 0, 0, 0, .null), (35, 3, .if_icmp .ge 82, 117, 0, 0, .null), (38, 1, .aload_n 0, 0, 0, 0, .null), (39, 3, .getfield 64, 11, 26, 886, .null), 
  (42, 2, .bipush 120, 0, 0, 0, .int 120), (44, 1, .iload_n 3, 3, 0, 0, .null), (45, 1, .imul, 0, 0, 0, .null), (46, 2, .iload 5, 5, 0, 0, .null), (48, 1, .iadd, 0, 0, 0, .null), 
  (49, 1, .iaload, 0, 0, 0, .null), (50, 3, .ifCond .lt 61, 111, 0, 0, .null), (53, 1, .aload_n 0, 0, 0, 0, .null), (54, 2, .iload 5, 5, 0, 0, .null), 
  (56, 1, .iload_n 3, 3, 0, 0, .null), (57, 3, .invokevirtual 273, 0, 0, 0, .null), (60, 1, .iconst 0, 0, 0, 0, .int 0), (61, 2, .istore 6, 6, 0, 0, .null), 
  (63, 1, .iconst 0, 0, 0, 0, .int 0), (64, 2, .istore 7, 7, 0, 0, .null), (66, 2, .iload 7, 7, 0, 0, .null), (68, 1, .iload_n 3, 3, 0, 0, .null), 
  (69, 3, .if_icmp .ge 31, 100, 0, 0, .null), (72, 2, .bipush 10, 0, 0, 0, .int 10), (74, 2, .iload 6, 6, 0, 0, .null), (76, 1, .imul, 0, 0, 0, .null), 
  (77, 1, .aload_n 0, 0, 0, 0, .null), (78, 3, .getfield 77, 11, 30, 890, .null), (81, 1, .aload_n 0, 0, 0, 0, .null), (82, 3, .getfield 74, 11, 29, 889, .null), 
  (85, 2, .iload 7, 7, 0, 0, .null), (87, 1, .iaload, 0, 0, 0, .null), (88, 1, .iconst 1, 0, 0, 0, .int 1), (89, 1, .isub, 0, 0, 0, .null), (90, 1, .iaload, 0, 0, 0, .null), 
  (91, 1, .iadd, 0, 0, 0, .null), (92, 2, .istore 6, 6, 0, 0, .null), (94, 3, .iinc 7 1, 7, 0, 0, .int 1), (97, 3, .goto (-31), 66, 0, 0, .null), 
  (100, 1, .aload_n 0, 0, 0, 0, .null), (101, 2, .iload 4, 4, 0, 0, .null), (103, 2, .iload 6, 6, 0, 0, .null), (105, 3, .invokevirtual 276, 0, 0, 0, .null), 
  (108, 3, .iinc 4 1, 4, 0, 0, .int 1), (111, 3, .iinc 5 1, 5, 0, 0, .int 1), (114, 3, .goto (-85), 29, 0, 0, .null), (117, 1, .iload_n 2, 2, 0, 0, .null), 
  (118, 1, .iconst (-1), 0, 0, 0, .int (-1)), (119, 3, .if_icmp .ne 8, 127, 0, 0, .null), (122, 2, .iload 4, 4, 0, 0, .null), (124, 3, .goto 28, 152, 0, 0, .null), 
  (127, 1, .iload_n 2, 2, 0, 0, .null), (128, 1, .i2l, 0, 0, 0, .null), (129, 1, .lconst 0, 0, 0, 0, .long 0), (130, 2, .iload 4, 4, 0, 0, .null), 
  (132, 1, .iconst 1, 0, 0, 0, .int 1), (133, 1, .isub, 0, 0, 0, .null), (134, 1, .i2l, 0, 0, 0, .null), (135, 3, .invokestatic 121, 0, 0, 0, .null), 
  (138, 3, .ifCond .eq 12, 150, 0, 0, .null), (141, 1, .aload_n 0, 0, 0, 0, .null), (142, 3, .getfield 80, 11, 31, 891, .null), (145, 1, .iload_n 2, 2, 0, 0, .null), 
  (146, 1, .iaload, 0, 0, 0, .null), (147, 3, .goto 5, 152, 0, 0, .null), (150, 2, .bipush (-6), 0, 0, 0, .int (-6)), (152, 1, .ireturn, 0, 0, 0, .null)]
theorem okX12_orders : tX12_orders.all (okI yX12_orders.cls (decide (yX12_orders.name = "<init>")) cX12_orders) = true := by decide +kernel
def tX12_insert : List CI := [
  (0, 1, .iload_n 1, 1, 0, 0, .null), (1, 1, .istore_n 3, 3, 0, 0, .null), (2, 1, .iload_n 3, 3, 0, 0, .null), (3, 3, .ifCond .le 35, 38, 0, 0, .null), 
  (6, 1, .aload_n 0, 0, 0, 0, .null), (7, 3, .getfield 80, 11, 31, 891, .null), (10, 1, .iload_n 3, 3, 0, 0, .null), (11, 1, .iconst 1, 0, 0, 0, .int 1), 
  (12, 1, .isub, 0, 0, 0, .null), (13, 1, .iaload, 0, 0, 0, .null), (14, 1, .iload_n 2, 2, 0, 0, .null), (15, 3, .if_icmp .le 23, 38, 0, 0, .null), 
  (18, 1, .aload_n 0, 0, 0, 0, .null), (19, 3, .getfield 80, 11, 31, 891, .null), (22, 1, .iload_n 3, 3, 0, 0, .null), (23, 1, .aload_n 0, 0, 0, 0, .null), 
  (24, 3, .getfield 80, 11, 31, 891, .null), (27, 1, .iload_n 3, 3, 0, 0, .null), (28, 1, .iconst 1, 0, 0, 0, .int 1), (29, 1, .isub, 0, 0, 0, .null), 
  (30, 1, .iaload, 0, 0, 0, .null), (31, 1, .iastore, 0, 0, 0, .null), (32, 3, .iinc 3 (-1), 3, 0, 0, .int (-1)), (35, 3, .goto (-33), 2, 0, 0, .null), 
  (38, 1, .aload_n 0, 0, 0, 0, .null), (39, 3, .getfield 80, 11, 31, 891, .null), (42, 1, .iload_n 3, 3, 0, 0, .null), (43, 1, .iload_n 2, 2, 0, 0, .null), 
  (44, 1, .iastore, 0, 0, 0, .null), (45, 1, .return_, 0, 0, 0, .null)]
theorem okX12_insert : tX12_insert.all (okI yX12_insert.cls (decide (yX12_insert.name = "<init>")) cX12_insert) = true := by decide +kernel
def tX12_trainOf : List CI := [
  (0, 1, .aload_n 0, 0, 0, 0, .null), (1, 1, .iload_n 1, 1, 0, 0, .null), (2, 1, .iload_n 2, 2, 0, 0, .null), (3, 3, .invokevirtual 273, 0, 0, 0, .null), 
  (6, 1, .iconst 0, 0, 0, 0, .int 0), (7, 1, .istore_n 3, 3, 0, 0, .null), (8, 1, .iconst 0, 0, 0, 0, .int 0), (9, 2, .istore 4, 4, 0, 0, .null), 
  (11, 2, .iload 4, 4, 0, 0, .null), (13, 1, .iload_n 2, 2, 0, 0, .null), (14, 3, .if_icmp .ge 22, 36, 0, 0, .null), (17, 2, .bipush 10, 0, 0, 0, .int 10), 
  (19, 1, .iload_n 3, 3, 0, 0, .null), (20, 1, .imul, 0, 0, 0, .null), (21, 1, .aload_n 0, 0, 0, 0, .null), (22, 3, .getfield 74, 11, 29, 889, .null), 
  (25, 2, .iload 4, 4, 0, 0, .null), (27, 1, .iaload, 0, 0, 0, .null), (28, 1, .iadd, 0, 0, 0, .null), (29, 1, .istore_n 3, 3, 0, 0, .null), (30, 3, .iinc 4 1, 4, 0, 0, .int 1), 
  (33, 3, .goto (-22), 11, 0, 0, .null), (36, 1, .iload_n 3, 3, 0, 0, .null), (37, 1, .ireturn, 0, 0, 0, .null)]
theorem okX12_trainOf : tX12_trainOf.all (okI yX12_trainOf.cls (decide (yX12_trainOf.name = "<init>")) cX12_trainOf) = true := by decide +kernel
def tX12_sortFar : List CI := [
  (0, 1, .aload_n 0, 0, 0, 0, .null), (1, 3, .getfield 64, 11, 26, 886, .null), (4, 1, .aload_n 0, 0, 0, 0, .null), (5, 1, .iload_n 1, 1, 0, 0, .null), 
  (6, 1, .aload_n 0, 0, 0, 0, .null), (7, 1, .iload_n 2, 2, 0, 0, .null), (8, 3, .invokevirtual 279, 0, 0, 0, .null), (11, 1, .iload_n 2, 2, 0, 0, .null), 
  (12, 3, .invokevirtual 251, 0, 0, 0, .null), (15, 1, .iaload, 0, 0, 0, .null), (16, 1, .ireturn, 0, 0, 0, .null)]
theorem okX12_sortFar : tX12_sortFar.all (okI yX12_sortFar.cls (decide (yX12_sortFar.name = "<init>")) cX12_sortFar) = true := by decide +kernel
def tX12_isCount : List CI := [
  (0, 1, .iload_n 0, 0, 0, 0, .null), (1, 1, .i2l, 0, 0, 0, .null), (2, 1, .lconst 1, 0, 0, 0, .long 1), (3, 3, .ldc2_w 148, 0, 0, 1036, .long 5), 
  (6, 3, .invokestatic 121, 0, 0, 0, .null), (9, 1, .ireturn, 0, 0, 0, .null)]
theorem okX12_isCount : tX12_isCount.all (okI yX12_isCount.cls (decide (yX12_isCount.name = "<init>")) cX12_isCount) = true := by decide +kernel
def tX12_good : List CI := [
  (0, 1, .iload_n 1, 1, 0, 0, .null), (1, 3, .invokestatic 282, 0, 0, 0, .null), (4, 3, .ifCond .eq 13, 17, 0, 0, .null), (7, 1, .iload_n 2, 2, 0, 0, .null), 
  (8, 1, .i2l, 0, 0, 0, .null), (9, 1, .lconst 0, 0, 0, 0, .long 0), (10, 1, .lconst 1, 0, 0, 0, .long 1), (11, 3, .invokestatic 121, 0, 0, 0, .null), 
  (14, 3, .ifCond .ne 6, 20, 0, 0, .null), (17, 2, .bipush (-2), 0, 0, 0, .int (-2)), (19, 1, .ireturn, 0, 0, 0, .null), (20, 1, .iconst 0, 0, 0, 0, .int 0), 
  (21, 1, .istore_n 3, 3, 0, 0, .null), (22, 2, .bipush (-6), 0, 0, 0, .int (-6)), (24, 2, .istore 4, 4, 0, 0, .null), (26, 1, .iload_n 1, 1, 0, 0, .null), 
  (27, 3, .invokestatic 270, 0, 0, 0, .null), (30, 1, .iconst 1, 0, 0, 0, .int 1), (31, 1, .isub, 0, 0, 0, .null), (32, 2, .istore 5, 5, 0, 0, .null), 
  (34, 2, .iload 5, 5, 0, 0, .null), (36, 3, .ifCond .lt 38, 74, 0, 0, .null), (39, 1, .aload_n 0, 0, 0, 0, .null), (40, 2, .iload 5, 5, 0, 0, .null), 
  (42, 1, .iload_n 1, 1, 0, 0, .null), (43, 3, .invokevirtual 285, 0, 0, 0, .null), (46, 2, .istore 6, 6, 0, 0, .null), (48, 1, .aload_n 0, 0, 0, 0, .null), 
  (49, 2, .iload 6, 6, 0, 0, .null), (51, 1, .iload_n 1, 1, 0, 0, .null), (52, 3, .invokevirtual 288, 0, 0, 0, .null), (55, 3, .ifCond .lt 9, 64, 0, 0, .null), 
  (58, 3, .iinc 3 1, 3, 0, 0, .int 1), (61, 3, .goto 7, 68, 0, 0, .null), (64, 2, .iload 6, 6, 0, 0, .null), (66, 2, .istore 4, 4, 0, 0, .null), 
  (68, 3, .iinc 5 (-1), 5, 0, 0, .int (-1)), (71, 3, .goto (-37), 34, 0, 0, .null), (74, 1, .iload_n 2, 2, 0, 0, .null), (75, 3, .ifCond .ne 7, 82, 0, 0, .null), 
  (78, 1, .iload_n 3, 3, 0, 0, .null), (79, 3, .goto 5, 84, 0, 0, .null), (82, 2, .iload 4, 4, 0, 0, .null), (84, 1, .ireturn, 0, 0, 0, .null)]
theorem okX12_good : tX12_good.all (okI yX12_good.cls (decide (yX12_good.name = "<init>")) cX12_good) = true := by decide +kernel
def tX12_mean : List CI := [
  (0, 1, .iload_n 1, 1, 0, 0, .null), (1, 3, .invokestatic 282, 0, 0, 0, .null), (4, 3, .ifCond .eq 13, 17, 0, 0, .null), (7, 1, .iload_n 2, 2, 0, 0, .null), 
  (8, 1, .i2l, 0, 0, 0, .null), (9, 1, .lconst 0, 0, 0, 0, .long 0), (10, 1, .lconst 1, 0, 0, 0, .long 1), (11, 3, .invokestatic 121, 0, 0, 0, .null), 
  (14, 3, .ifCond .ne 7, 21, 0, 0, .null), (17, 3, .ldc2_w 291, 0, 0, 1174, .long (-1000000000000000002)), (20, 1, .lreturn, 0, 0, 0, .null), (21, 1, .lconst 0, 0, 0, 0, .long 0), 
  (22, 1, .lstore_n 3, 3, 0, 0, .null), (23, 1, .lconst 0, 0, 0, 0, .long 0), (24, 2, .lstore 5, 5, 0, 0, .null), (26, 1, .iconst 0, 0, 0, 0, .int 0), 
  (27, 2, .istore 7, 7, 0, 0, .null), (29, 2, .iload 7, 7, 0, 0, .null), (31, 1, .iload_n 1, 1, 0, 0, .null), (32, 3, .invokestatic 270, 0, 0, 0, .null), 
  (35, 3, .if_icmp .ge 53, 88, 0, 0, .null), (38, 1, .aload_n 0, 0, 0, 0, .null), (39, 1, .aload_n 0, 0, 0, 0, .null), (40, 2, .iload 7, 7, 0, 0, .null), 
  (42, 1, .iload_n 1, 1, 0, 0, .null), (43, 3, .invokevirtual 285, 0, 0, 0, .null), (46, 1, .iload_n 1, 1, 0, 0, .null), (47, 3, .invokevirtual 288, 0, 0, 0, .null), 
  (50, 2, .istore 8, 8, 0, 0, .null), (52, 1, .lload_n 3, 3, 0, 0, .null), (53, 2, .iload 8, 8, 0, 0, .null), (55, 3, .ifCond .ge 7, 62, 0, 0, .null), 
  (58, 1, .lconst 0, 0, 0, 0, .long 0), (59, 3, .goto 6, 65, 0, 0, .null), (62, 2, .iload 8, 8, 0, 0, .null), (64, 1, .i2l, 0, 0, 0, .null), (65, 1, .ladd, 0, 0, 0, .null), 
  (66, 1, .lstore_n 3, 3, 0, 0, .null), (67, 2, .lload 5, 5, 0, 0, .null), (69, 2, .iload 8, 8, 0, 0, .null), (71, 3, .ifCond .ge 7, 78, 0, 0, .null), 
  (74, 1, .lconst 0, 0, 0, 0, .long 0), (75, 3, .goto 4, 79, 0, 0, .null), (78, 1, .lconst 1, 0, 0, 0, .long 1), (79, 1, .ladd, 0, 0, 0, .null), 
  (80, 2, .lstore 5, 5, 0, 0, .null), (82, 3, .iinc 7 1, 7, 0, 0, .int 1), (85, 3, .goto (-56), 29, 0, 0, .null), (88, 1, .lload_n 3, 3, 0, 0, .null), 
  (89, 2, .lload 5, 5, 0, 0, .null), (91, 1, .iload_n 2, 2, 0, 0, .null), (92, 3, .invokestatic 293, 0, 0, 0, .null), (95, 1, .lreturn, 0, 0, 0, .null)]
theorem okX12_mean : tX12_mean.all (okI yX12_mean.cls (decide (yX12_mean.name = "<init>")) cX12_mean) = true := by decide +kernel
def tX12_findNeed : List CI := [
  (0, 1, .aload_n 0, 0, 0, 0, .null), (1, 1, .iload_n 1, 1, 0, 0, .null), (2, 1, .aload_n 0, 0, 0, 0, .null), (3, 1, .iload_n 2, 2, 0, 0, .null), 
  (4, 3, .invokevirtual 279, 0, 0, 0, .null), (7, 1, .iload_n 2, 2, 0, 0, .null), (8, 3, .invokevirtual 260, 0, 0, 0, .null), (11, 1, .iconst 0, 0, 0, 0, .int 0), 
  (12, 1, .istore_n 3, 3, 0, 0, .null), (13, 1, .iload_n 3, 3, 0, 0, .null), (14, 1, .iconst 4, 0, 0, 0, .int 4), (15, 3, .if_icmp .ge 28, 43, 0, 0, .null), 
  (18, 1, .aload_n 0, 0, 0, 0, .null), (19, 3, .getfield 83, 11, 32, 892, .null), (22, 1, .iload_n 3, 3, 0, 0, .null), (23, 1, .aload_n 0, 0, 0, 0, .null), 
  (24, 3, .getfield 13, 11, 1, 861, .null), (27, 1, .iload_n 3, 3, 0, 0, .null), (28, 1, .iaload, 0, 0, 0, .null), (29, 1, .iastore, 0, 0, 0, .null), 
  (30, 1, .aload_n 0, 0, 0, 0, .null), (31, 3, .getfield 13, 11, 1, 861, .null), (34, 1, .iload_n 3, 3, 0, 0, .null), (35, 1, .iconst 1, 0, 0, 0, .int 1), 
  (36, 1, .iastore, 0, 0, 0, .null), (37, 3, .iinc 3 1, 3, 0, 0, .int 1), (40, 3, .goto (-27), 13, 0, 0, .null), (43, 2, .bipush (-6), 0, 0, 0, .int (-6)), 
  (45, 1, .istore_n 3, 3, 0, 0, .null), (46, 1, .iconst 1, 0, 0, 0, .int 1), (47, 2, .istore 4, 4, 0, 0, .null), (49, 2, .iload 4, 4, 0, 0, .null), 
  (51, 3, .ifCond .eq 165, 216, 0, 0, .null), (54, 1, .iconst 0, 0, 0, 0, .int 0), (55, 2, .istore 5, 5, 0, 0, .null), (57, 1, .iconst 0, 0, 0, 0, .int 0), 
  (58, 2, .istore 6, 6, 0, 0, .null), (60, 2, .iload 6, 6, 0, 0, .null), (62, 1, .aload_n 0, 0, 0, 0, .null), (63, 3, .getfield 101, 11, 4, 864, .null), 
  (66, 3, .if_icmp .ge 21, 87, 0, 0, .null), (69, 2, .iload 5, 5, 0, 0, .null), (71, 1, .aload_n 0, 0, 0, 0, .null), (72, 3, .getfield 13, 11, 1, 861, .null), 
  (75, 2, .iload 6, 6, 0, 0, .null), (77, 1, .iaload, 0, 0, 0, .null), (78, 1, .iadd, 0, 0, 0, .null), (79, 2, .istore 5, 5, 0, 0, .null), (81, 3, .iinc 6 1, 6, 0, 0, .int 1), 
  (84, 3, .goto (-24), 60, 0, 0, .null), (87, 1, .iload_n 3, 3, 0, 0, .null), (88, 3, .ifCond .lt 9, 97, 0, 0, .null), (91, 2, .iload 5, 5, 0, 0, .null), 
  (93, 1, .iload_n 3, 3, 0, 0, .null), (94, 3, .if_icmp .ge 47, 141, 0, 0, .null), (97, 1, .aload_n 0, 0, 0, 0, .null), (98, 1, .iconst 0, 0, 0, 0, .int 0), 
  (99, 1, .iload_n 2, 2, 0, 0, .null), (100, 3, .invokevirtual 220, 0, 0, 0, .null), (103, 3, .ifCond .lt 38, 141, 0, 0, .null), (106, 2, .iload 5, 5, 0, 0, .null), 
  (108, 1, .istore_n 3, 3, 0, 0, .null), (109, 1, .iconst 0, 0, 0, 0, .int 0), (110, 2, .istore 6, 6, 0, 0, .null), (112, 2, .iload 6, 6, 0, 0, .null), 
  (114, 1, .aload_n 0, 0, 0, 0, .null), (115, 3, .getfield 101, 11, 4, 864, .null), (118, 3, .if_icmp .ge 23, 141, 0, 0, .null), (121, 1, .aload_n 0, 0, 0, 0, .null), 
  (122, 3, .getfield 86, 11, 33, 893, .null), (125, 2, .iload 6, 6, 0, 0, .null), (127, 1, .aload_n 0, 0, 0, 0, .null), (128, 3, .getfield 13, 11, 1, 861, .null), 
  (131, 2, .iload 6, 6, 0, 0, .null), (133, 1, .iaload, 0, 0, 0, .null), (134, 1, .iastore, 0, 0, 0, .null), (135, 3, .iinc 6 1, 6, 0, 0, .int 1), 
  (138, 3, .goto (-26), 112, 0, 0, .null), (141, 1, .aload_n 0, 0, 0, 0, .null), (142, 3, .getfield 101, 11, 4, 864, .null), (145, 1, .iconst 1, 0, 0, 0, .int 1), 
  (146, 1, .isub, 0, 0, 0, .null), (147, 2, .istore 6, 6, 0, 0, .null), (149, 2, .iload 6, 6, 0, 0, .null), (151, 3, .ifCond .lt 34, 185, 0, 0, .null), 
  (154, 1, .aload_n 0, 0, 0, 0, .null), (155, 3, .getfield 13, 11, 1, 861, .null), (158, 2, .iload 6, 6, 0, 0, .null), (160, 1, .iaload, 0, 0, 0, .null), 
  (161, 1, .aload_n 0, 0, 0, 0, .null), (162, 3, .getfield 83, 11, 32, 892, .null), (165, 2, .iload 6, 6, 0, 0, .null), (167, 1, .iaload, 0, 0, 0, .null), 
  (168, 3, .if_icmp .ne 17, 185, 0, 0, .null), (171, 1, .aload_n 0, 0, 0, 0, .null), (172, 3, .getfield 13, 11, 1, 861, .null), (175, 2, .iload 6, 6, 0, 0, .null), 
  (177, 1, .iconst 1, 0, 0, 0, .int 1), (178, 1, .iastore, 0, 0, 0, .null), (179, 3, .iinc 6 (-1), 6, 0, 0, .int (-1)), (182, 3, .goto (-33), 149, 0, 0, .null), 
  (185, 2, .iload 6, 6, 0, 0, .null), (187, 3, .ifCond .lt 7, 194, 0, 0, .null), (190, 1, .iconst 1, 0, 0, 0, .int 1), (191, 3, .goto 4, 195, 0, 0, .null), 
  (194, 1, .iconst 0, 0, 0, 0, .int 0), (195, 2, .istore 4, 4, 0, 0, .null), (197, 2, .iload 4, 4, 0, 0, .null), (199, 3, .ifCond .eq 14, 213, 0, 0, .null), 
  (202, 1, .aload_n 0, 0, 0, 0, .null), (203, 3, .getfield 13, 11, 1, 861, .null), (206, 2, .iload 6, 6, 0, 0, .null), (208, 1, .dup2, 0, 0, 0, .null), 
  (209, 1, .iaload, 0, 0, 0, .null), (210, 1, .iconst 1, 0, 0, 0, .int 1), (211, 1, .iadd, 0, 0, 0, .null), (212, 1, .iastore, 0, 0, 0, .null), 
  (213, 3, .goto (-164), 49, 0, 0, .null), (216, 1, .iconst 0, 0, 0, 0, .int 0), (217, 2, .istore 5, 5, 0, 0, .null), (219, 2, .iload 5, 5, 0, 0, .null), 
  (221, 1, .iconst 4, 0, 0, 0, .int 4), (222, 3, .if_icmp .ge 23, 245, 0, 0, .null), (225, 1, .aload_n 0, 0, 0, 0, .null), (226, 3, .getfield 13, 11, 1, 861, .null), 
  (229, 2, .iload 5, 5, 0, 0, .null), (231, 1, .aload_n 0, 0, 0, 0, .null), (232, 3, .getfield 83, 11, 32, 892, .null), (235, 2, .iload 5, 5, 0, 0, .null), 
  (237, 1, .iaload, 0, 0, 0, .null), (238, 1, .iastore, 0, 0, 0, .null), (239, 3, .iinc 5 1, 5, 0, 0, .int 1), (242, 3, .goto (-23), 219, 0, 0, .null), 
  (245, 1, .iload_n 3, 3, 0, 0, .null), (246, 1, .ireturn, 0, 0, 0, .null)]
theorem okX12_findNeed : tX12_findNeed.all (okI yX12_findNeed.cls (decide (yX12_findNeed.name = "<init>")) cX12_findNeed) = true := by decide +kernel
def tX12_need : List CI := [
  (0, 1, .iload_n 2, 2, 0, 0, .null), (1, 1, .iconst (-1), 0, 0, 0, .int (-1)), (2, 3, .if_icmp .eq 13, 15, 0, 0, .null), (5, 1, .aload_n 0, 0, 0, 0, .null), 
  (6, 1, .iload_n 2, 2, 0, 0, .null), (7, 3, .invokevirtual 143, 0, 0, 0, .null), (10, 3, .ifCond .ne 5, 15, 0, 0, .null), (13, 1, .iconst (-1), 0, 0, 0, .int (-1)), 
  (14, 1, .ireturn, 0, 0, 0, .null), (15, 1, .iload_n 1, 1, 0, 0, .null), (16, 3, .invokestatic 245, 0, 0, 0, .null), (19, 1, .istore_n 3, 3, 0, 0, .null), 
  (20, 1, .iload_n 3, 3, 0, 0, .null), (21, 3, .ifCond .ne 6, 27, 0, 0, .null), (24, 2, .bipush (-2), 0, 0, 0, .int (-2)), (26, 1, .ireturn, 0, 0, 0, .null), 
  (27, 1, .aload_n 0, 0, 0, 0, .null), (28, 1, .iload_n 1, 1, 0, 0, .null), (29, 1, .iload_n 3, 3, 0, 0, .null), (30, 3, .invokevirtual 297, 0, 0, 0, .null), 
  (33, 2, .istore 4, 4, 0, 0, .null), (35, 2, .iload 4, 4, 0, 0, .null), (37, 3, .ifCond .ge 8, 45, 0, 0, .null), (40, 2, .bipush (-5), 0, 0, 0, .int (-5)), 
  (42, 3, .goto 19, 61, 0, 0, .null), (45, 1, .iload_n 2, 2, 0, 0, .null), (46, 1, .iconst (-1), 0, 0, 0, .int (-1)), (47, 3, .if_icmp .ne 8, 55, 0, 0, .null), 
  (50, 2, .iload 4, 4, 0, 0, .null), (52, 3, .goto 9, 61, 0, 0, .null), (55, 1, .aload_n 0, 0, 0, 0, .null), (56, 3, .getfield 86, 11, 33, 893, .null), 
  (59, 1, .iload_n 2, 2, 0, 0, .null), (60, 1, .iaload, 0, 0, 0, .null), (61, 1, .ireturn, 0, 0, 0, .null)]
theorem okX12_need : tX12_need.all (okI yX12_need.cls (decide (yX12_need.name = "<init>")) cX12_need) = true := by decide +kernel
def tX12_keep : List CI := [
  (0, 1, .iconst 0, 0, 0, 0, .int 0), (1, 1, .istore_n 1, 1, 0, 0, .null), (2, 1, .iload_n 1, 1, 0, 0, .null), (3, 1, .iconst 4, 0, 0, 0, .int 4), 
  (4, 3, .if_icmp .ge 45, 49, 0, 0, .null), (7, 1, .aload_n 0, 0, 0, 0, .null), (8, 3, .getfield 22, 11, 6, 866, .null), (11, 1, .iload_n 1, 1, 0, 0, .null), 
  (12, 1, .aload_n 0, 0, 0, 0, .null), (13, 3, .getfield 7, 11, 0, 860, .null), (16, 1, .iload_n 1, 1, 0, 0, .null), (17, 1, .iaload, 0, 0, 0, .null), 
  (18, 1, .iastore, 0, 0, 0, .null), (19, 1, .aload_n 0, 0, 0, 0, .null), (20, 3, .getfield 25, 11, 7, 867, .null), (23, 1, .iload_n 1, 1, 0, 0, .null), 
  (24, 1, .aload_n 0, 0, 0, 0, .null), (25, 3, .getfield 13, 11, 1, 861, .null), (28, 1, .iload_n 1, 1, 0, 0, .null), (29, 1, .iaload, 0, 0, 0, .null), 
  (30, 1, .iastore, 0, 0, 0, .null), (31, 1, .aload_n 0, 0, 0, 0, .null), (32, 3, .getfield 28, 11, 8, 868, .null), (35, 1, .iload_n 1, 1, 0, 0, .null), 
  (36, 1, .aload_n 0, 0, 0, 0, .null), (37, 3, .getfield 16, 11, 2, 862, .null), (40, 1, .iload_n 1, 1, 0, 0, .null), (41, 1, .iaload, 0, 0, 0, .null), 
  (42, 1, .iastore, 0, 0, 0, .null), (43, 3, .iinc 1 1, 1, 0, 0, .int 1), (46, 3, .goto (-44), 2, 0, 0, .null), (49, 1, .iconst 0, 0, 0, 0, .int 0), 
  (50, 1, .istore_n 1, 1, 0, 0, .null), (51, 1, .iload_n 1, 1, 0, 0, .null), (52, 1, .iconst 3, 0, 0, 0, .int 3), (53, 3, .if_icmp .ge 21, 74, 0, 0, .null), 
  (56, 1, .aload_n 0, 0, 0, 0, .null), (57, 3, .getfield 31, 11, 9, 869, .null), (60, 1, .iload_n 1, 1, 0, 0, .null), (61, 1, .aload_n 0, 0, 0, 0, .null), 
  (62, 3, .getfield 19, 11, 3, 863, .null), (65, 1, .iload_n 1, 1, 0, 0, .null), (66, 1, .iaload, 0, 0, 0, .null), (67, 1, .iastore, 0, 0, 0, .null), 
  (68, 3, .iinc 1 1, 1, 0, 0, .int 1), (71, 3, .goto (-20), 51, 0, 0, .null), (74, 1, .aload_n 0, 0, 0, 0, .null), (75, 1, .aload_n 0, 0, 0, 0, .null), 
  (76, 3, .getfield 101, 11, 4, 864, .null), (79, 3, .putfield 108, 11, 10, 870, .int 0), (82, 1, .aload_n 0, 0, 0, 0, .null), (83, 1, .aload_n 0, 0, 0, 0, .null), 
  (84, 3, .getfield 105, 11, 5, 865, .null), (87, 3, .putfield 111, 11, 11, 871, .int 0), (90, 1, .aload_n 0, 0, 0, 0, .null), (91, 3, .getfield 101, 11, 4, 864, .null), 
  (94, 1, .ireturn, 0, 0, 0, .null)]
theorem okX12_keep : tX12_keep.all (okI yX12_keep.cls (decide (yX12_keep.name = "<init>")) cX12_keep) = true := by decide +kernel
def tX12_changeAbout : List CI := [
  (0, 1, .iconst 0, 0, 0, 0, .int 0), (1, 1, .istore_n 1, 1, 0, 0, .null), (2, 1, .iload_n 1, 1, 0, 0, .null), (3, 1, .iconst 4, 0, 0, 0, .int 4), 
  (4, 3, .if_icmp .ge 87, 91, 0, 0, .null), (7, 1, .aload_n 0, 0, 0, 0, .null), (8, 3, .getfield 7, 11, 0, 860, .null), (11, 1, .iload_n 1, 1, 0, 0, .null), 
  (12, 1, .iaload, 0, 0, 0, .null), (13, 1, .istore_n 2, 2, 0, 0, .null), (14, 1, .aload_n 0, 0, 0, 0, .null), (15, 3, .getfield 7, 11, 0, 860, .null), 
  (18, 1, .iload_n 1, 1, 0, 0, .null), (19, 1, .aload_n 0, 0, 0, 0, .null), (20, 3, .getfield 22, 11, 6, 866, .null), (23, 1, .iload_n 1, 1, 0, 0, .null), 
  (24, 1, .iaload, 0, 0, 0, .null), (25, 1, .iastore, 0, 0, 0, .null), (26, 1, .aload_n 0, 0, 0, 0, .null), (27, 3, .getfield 22, 11, 6, 866, .null), 
  (30, 1, .iload_n 1, 1, 0, 0, .null), (31, 1, .iload_n 2, 2, 0, 0, .null), (32, 1, .iastore, 0, 0, 0, .null), (33, 1, .aload_n 0, 0, 0, 0, .null), 
  (34, 3, .getfield 13, 11, 1, 861, .null), (37, 1, .iload_n 1, 1, 0, 0, .null), (38, 1, .iaload, 0, 0, 0, .null), (39, 1, .istore_n 2, 2, 0, 0, .null), 
  (40, 1, .aload_n 0, 0, 0, 0, .null), (41, 3, .getfield 13, 11, 1, 861, .null), (44, 1, .iload_n 1, 1, 0, 0, .null), (45, 1, .aload_n 0, 0, 0, 0, .null), 
  (46, 3, .getfield 25, 11, 7, 867, .null), (49, 1, .iload_n 1, 1, 0, 0, .null), (50, 1, .iaload, 0, 0, 0, .null), (51, 1, .iastore, 0, 0, 0, .null), 
  (52, 1, .aload_n 0, 0, 0, 0, .null), (53, 3, .getfield 25, 11, 7, 867, .null), (56, 1, .iload_n 1, 1, 0, 0, .null), (57, 1, .iload_n 2, 2, 0, 0, .null), 
  (58, 1, .iastore, 0, 0, 0, .null), (59, 1, .aload_n 0, 0, 0, 0, .null), (60, 3, .getfield 16, 11, 2, 862, .null), (63, 1, .iload_n 1, 1, 0, 0, .null), 
  (64, 1, .iaload, 0, 0, 0, .null), (65, 1, .istore_n 2, 2, 0, 0, .null), (66, 1, .aload_n 0, 0, 0, 0, .null), (67, 3, .getfield 16, 11, 2, 862, .null), 
  (70, 1, .iload_n 1, 1, 0, 0, .null), (71, 1, .aload_n 0, 0, 0, 0, .null), (72, 3, .getfield 28, 11, 8, 868, .null), (75, 1, .iload_n 1, 1, 0, 0, .null), 
  (76, 1, .iaload, 0, 0, 0, .null), (77, 1, .iastore, 0, 0, 0, .null), (78, 1, .aload_n 0, 0, 0, 0, .null), (79, 3, .getfield 28, 11, 8, 868, .null), 
  (82, 1, .iload_n 1, 1, 0, 0, .null), (83, 1, .iload_n 2, 2, 0, 0, .null), (84, 1, .iastore, 0, 0, 0, .null), (85, 3, .iinc 1 1, 1, 0, 0, .int 1), 
  (88, 3, .goto (-86), 2, 0, 0, .null), (91, 1, .iconst 0, 0, 0, 0, .int 0), (92, 1, .istore_n 1, 1, 0, 0, .null), (93, 1, .iload_n 1, 1, 0, 0, .null), 
  (94, 1, .iconst 3, 0, 0, 0, .int 3), (95, 3, .if_icmp .ge 35, 130, 0, 0, .null), (98, 1, .aload_n 0, 0, 0, 0, .null), (99, 3, .getfield 19, 11, 3, 863, .null), 
  (102, 1, .iload_n 1, 1, 0, 0, .null), (103, 1, .iaload, 0, 0, 0, .null), (104, 1, .istore_n 2, 2, 0, 0, .null), (105, 1, .aload_n 0, 0, 0, 0, .null), 
  (106, 3, .getfield 19, 11, 3, 863, .null), (109, 1, .iload_n 1, 1, 0, 0, .null), (110, 1, .aload_n 0, 0, 0, 0, .null), (111, 3, .getfield 31, 11, 9, 869, .null), 
  (114, 1, .iload_n 1, 1, 0, 0, .null), (115, 1, .iaload, 0, 0, 0, .null), (116, 1, .iastore, 0, 0, 0, .null), (117, 1, .aload_n 0, 0, 0, 0, .null), 
  (118, 3, .getfield 31, 11, 9, 869, .null), (121, 1, .iload_n 1, 1, 0, 0, .null), (122, 1, .iload_n 2, 2, 0, 0, .null), (123, 1, .iastore, 0, 0, 0, .null), 
  (124, 3, .iinc 1 1, 1, 0, 0, .int 1), (127, 3, .goto (-34), 93, 0, 0, .null), (130, 1, .aload_n 0, 0, 0, 0, .null), (131, 3, .getfield 101, 11, 4, 864, .null), 
  (134, 1, .istore_n 1, 1, 0, 0, .null), (135, 1, .aload_n 0, 0, 0, 0, .null), (136, 1, .aload_n 0, 0, 0, 0, .null), (137, 3, .getfield 108, 11, 10, 870, .null), 
  (140, 3, .putfield 101, 11, 4, 864, .int 0), (143, 1, .aload_n 0, 0, 0, 0, .null), (144, 1, .iload_n 1, 1, 0, 0, .null), (145, 3, .putfield 108, 11, 10, 870, .int 0), 
  (148, 1, .aload_n 0, 0, 0, 0, .null), (149, 3, .getfield 105, 11, 5, 865, .null), (152, 1, .istore_n 1, 1, 0, 0, .null), (153, 1, .aload_n 0, 0, 0, 0, .null), 
  (154, 1, .aload_n 0, 0, 0, 0, .null), (155, 3, .getfield 111, 11, 11, 871, .null), (158, 3, .putfield 105, 11, 5, 865, .int 0), (161, 1, .aload_n 0, 0, 0, 0, .null), 
  (162, 1, .iload_n 1, 1, 0, 0, .null), (163, 3, .putfield 111, 11, 11, 871, .int 0), (166, 1, .aload_n 0, 0, 0, 0, .null), (167, 3, .invokevirtual 140, 0, 0, 0, .null), 
  (170, 1, .return_, 0, 0, 0, .null)]
theorem okX12_changeAbout : tX12_changeAbout.all (okI yX12_changeAbout.cls (decide (yX12_changeAbout.name = "<init>")) cX12_changeAbout) = true := by decide +kernel
def tX12_unlike : List CI := [
  (0, 1, .iload_n 1, 1, 0, 0, .null), (1, 3, .invokestatic 282, 0, 0, 0, .null), (4, 3, .ifCond .ne 6, 10, 0, 0, .null), (7, 2, .bipush (-2), 0, 0, 0, .int (-2)), 
  (9, 1, .ireturn, 0, 0, 0, .null), (10, 1, .aload_n 0, 0, 0, 0, .null), (11, 3, .invokevirtual 300, 0, 0, 0, .null), (14, 1, .iconst 0, 0, 0, 0, .int 0), 
  (15, 1, .istore_n 2, 2, 0, 0, .null), (16, 1, .iload_n 2, 2, 0, 0, .null), (17, 1, .iload_n 1, 1, 0, 0, .null), (18, 3, .invokestatic 270, 0, 0, 0, .null), 
  (21, 3, .if_icmp .ge 34, 55, 0, 0, .null), (24, 1, .aload_n 0, 0, 0, 0, .null), (25, 3, .getfield 89, 11, 34, 894, .null), (28, 1, .iload_n 2, 2, 0, 0, .null), 
  (29, 1, .aload_n 0, 0, 0, 0, .null), (30, 1, .aload_n 0, 0, 0, 0, .null), (31, 1, .iload_n 2, 2, 0, 0, .null), (32, 1, .iload_n 1, 1, 0, 0, .null), 
  (33, 3, .invokevirtual 285, 0, 0, 0, .null), (36, 1, .iload_n 1, 1, 0, 0, .null), (37, 3, .invokevirtual 288, 0, 0, 0, .null), (40, 3, .ifCond .lt 7, 47, 0, 0, .null), 
  (43, 1, .iconst 1, 0, 0, 0, .int 1), (44, 3, .goto 4, 48, 0, 0, .null), (47, 1, .iconst 0, 0, 0, 0, .int 0), (48, 1, .bastore, 0, 0, 0, .null), 
  (49, 3, .iinc 2 1, 2, 0, 0, .int 1), (52, 3, .goto (-36), 16, 0, 0, .null), (55, 1, .aload_n 0, 0, 0, 0, .null), (56, 3, .invokevirtual 300, 0, 0, 0, .null), 
  (59, 1, .iconst 0, 0, 0, 0, .int 0), (60, 1, .istore_n 2, 2, 0, 0, .null), (61, 1, .iload_n 2, 2, 0, 0, .null), (62, 1, .iload_n 1, 1, 0, 0, .null), 
  (63, 3, .invokestatic 270, 0, 0, 0, .null), (66, 3, .if_icmp .ge 41, 107, 0, 0, .null), (69, 1, .aload_n 0, 0, 0, 0, .null), (70, 1, .iload_n 2, 2, 0, 0, .null), 
  (71, 1, .iload_n 1, 1, 0, 0, .null), (72, 3, .invokevirtual 285, 0, 0, 0, .null), (75, 1, .istore_n 3, 3, 0, 0, .null), (76, 1, .aload_n 0, 0, 0, 0, .null), 
  (77, 3, .getfield 89, 11, 34, 894, .null), (80, 1, .iload_n 2, 2, 0, 0, .null), (81, 1, .baload, 0, 0, 0, .null), (82, 1, .aload_n 0, 0, 0, 0, .null), 
  (83, 1, .iload_n 3, 3, 0, 0, .null), (84, 1, .iload_n 1, 1, 0, 0, .null), (85, 3, .invokevirtual 288, 0, 0, 0, .null), (88, 3, .ifCond .lt 7, 95, 0, 0, .null), 
  (91, 1, .iconst 1, 0, 0, 0, .int 1), (92, 3, .goto 4, 96, 0, 0, .null), (95, 1, .iconst 0, 0, 0, 0, .int 0), (96, 3, .if_icmp .eq 5, 101, 0, 0, .null), 
  (99, 1, .iload_n 3, 3, 0, 0, .null), (100, 1, .ireturn, 0, 0, 0, .null), (101, 3, .iinc 2 1, 2, 0, 0, .int 1), (104, 3, .goto (-43), 61, 0, 0, .null), 
  (107, 2, .bipush (-6), 0, 0, 0, .int (-6)), (109, 1, .ireturn, 0, 0, 0, .null)]
theorem okX12_unlike : tX12_unlike.all (okI yX12_unlike.cls (decide (yX12_unlike.name = "<init>")) cX12_unlike) = true := by decide +kernel
def tX12_play : List CI := [
  (0, 1, .iload_n 1, 1, 0, 0, .null), (1, 1, .iload_n 2, 2, 0, 0, .null), (2, 3, .invokestatic 248, 0, 0, 0, .null), (5, 3, .ifCond .ne 6, 11, 0, 0, .null), 
  (8, 2, .bipush (-2), 0, 0, 0, .int (-2)), (10, 1, .ireturn, 0, 0, 0, .null), (11, 1, .aload_n 0, 0, 0, 0, .null), (12, 1, .iload_n 1, 1, 0, 0, .null), 
  (13, 3, .putfield 303, 11, 35, 895, .int 0), (16, 1, .aload_n 0, 0, 0, 0, .null), (17, 1, .iload_n 2, 2, 0, 0, .null), (18, 3, .putfield 306, 11, 36, 896, .int 0), 
  (21, 1, .aload_n 0, 0, 0, 0, .null), (22, 1, .iload_n 1, 1, 0, 0, .null), (23, 3, .invokestatic 245, 0, 0, 0, .null), (26, 3, .putfield 114, 11, 37, 897, .int 0), 
  (29, 1, .aload_n 0, 0, 0, 0, .null), (30, 1, .iconst 0, 0, 0, 0, .int 0), (31, 3, .putfield 309, 11, 39, 899, .int 0), (34, 1, .aload_n 0, 0, 0, 0, .null), 
  (35, 3, .getfield 92, 11, 38, 898, .null), (38, 1, .iconst 0, 0, 0, 0, .int 0), (39, 1, .iconst 0, 0, 0, 0, .int 0), (40, 1, .iastore, 0, 0, 0, .null), 
  (41, 1, .aload_n 0, 0, 0, 0, .null), (42, 3, .getfield 64, 11, 26, 886, .null), (45, 1, .aload_n 0, 0, 0, 0, .null), (46, 1, .iload_n 1, 1, 0, 0, .null), 
  (47, 1, .iload_n 2, 2, 0, 0, .null), (48, 1, .aload_n 0, 0, 0, 0, .null), (49, 3, .getfield 114, 11, 37, 897, .null), (52, 3, .invokevirtual 251, 0, 0, 0, .null), 
  (55, 1, .iaload, 0, 0, 0, .null), (56, 1, .ireturn, 0, 0, 0, .null)]
theorem okX12_play : tX12_play.all (okI yX12_play.cls (decide (yX12_play.name = "<init>")) cX12_play) = true := by decide +kernel
def tX12_move : List CI := [
  (0, 1, .aload_n 0, 0, 0, 0, .null), (1, 3, .getfield 114, 11, 37, 897, .null), (4, 3, .ifCond .ne 6, 10, 0, 0, .null), (7, 2, .bipush (-3), 0, 0, 0, .int (-3)), 
  (9, 1, .ireturn, 0, 0, 0, .null), (10, 1, .iload_n 1, 1, 0, 0, .null), (11, 3, .sipush 1000, 0, 0, 0, .int 1000), (14, 1, .idiv, 0, 0, 0, .null), 
  (15, 1, .istore_n 2, 2, 0, 0, .null), (16, 1, .iload_n 1, 1, 0, 0, .null), (17, 2, .bipush 100, 0, 0, 0, .int 100), (19, 1, .idiv, 0, 0, 0, .null), 
  (20, 2, .bipush 10, 0, 0, 0, .int 10), (22, 1, .irem, 0, 0, 0, .null), (23, 1, .istore_n 3, 3, 0, 0, .null), (24, 1, .iload_n 1, 1, 0, 0, .null), 
  (25, 2, .bipush 10, 0, 0, 0, .int 10), (27, 1, .idiv, 0, 0, 0, .null), (28, 2, .bipush 10, 0, 0, 0, .int 10), (30, 1, .irem, 0, 0, 0, .null), (31, 2, .istore 4, 4, 0, 0, .null), 
  (33, 1, .iload_n 1, 1, 0, 0, .null), (34, 2, .bipush 10, 0, 0, 0, .int 10), (36, 1, .irem, 0, 0, 0, .null), (37, 2, .istore 5, 5, 0, 0, .null), 
  (39, 1, .iload_n 1, 1, 0, 0, .null), (40, 3, .ifCond .lt 16, 56, 0, 0, .null), (43, 1, .aload_n 0, 0, 0, 0, .null), (44, 1, .iload_n 2, 2, 0, 0, .null), 
  (45, 1, .iload_n 3, 3, 0, 0, .null), (46, 2, .iload 4, 4, 0, 0, .null), (48, 2, .iload 5, 5, 0, 0, .null), (50, 3, .invokevirtual 256, 0, 0, 0, .null), 
  (53, 3, .ifCond .ne 6, 59, 0, 0, .null), (56, 2, .bipush (-5), 0, 0, 0, .int (-5)), (58, 1, .ireturn, 0, 0, 0, .null), (59, 1, .aload_n 0, 0, 0, 0, .null), 
  (60, 1, .aload_n 0, 0, 0, 0, .null), (61, 3, .getfield 92, 11, 38, 898, .null), (64, 1, .aload_n 0, 0, 0, 0, .null), (65, 3, .getfield 309, 11, 39, 899, .null), 
  (68, 1, .iaload, 0, 0, 0, .null), (69, 3, .invokevirtual 194, 0, 0, 0, .null), (72, 1, .aload_n 0, 0, 0, 0, .null), (73, 1, .iload_n 2, 2, 0, 0, .null), 
  (74, 1, .iload_n 3, 3, 0, 0, .null), (75, 2, .iload 4, 4, 0, 0, .null), (77, 2, .iload 5, 5, 0, 0, .null), (79, 1, .aload_n 0, 0, 0, 0, .null), 
  (80, 3, .getfield 114, 11, 37, 897, .null), (83, 3, .invokevirtual 209, 0, 0, 0, .null), (86, 3, .ifCond .ne 6, 92, 0, 0, .null), (89, 2, .bipush (-5), 0, 0, 0, .int (-5)), 
  (91, 1, .ireturn, 0, 0, 0, .null), (92, 1, .aload_n 0, 0, 0, 0, .null), (93, 1, .iload_n 2, 2, 0, 0, .null), (94, 1, .iload_n 3, 3, 0, 0, .null), 
  (95, 2, .iload 4, 4, 0, 0, .null), (97, 2, .iload 5, 5, 0, 0, .null), (99, 3, .invokevirtual 213, 0, 0, 0, .null), (102, 1, .aload_n 0, 0, 0, 0, .null), 
  (103, 1, .dup, 0, 0, 0, .null), (104, 3, .getfield 309, 11, 39, 899, .null), (107, 1, .iconst 1, 0, 0, 0, .int 1), (108, 1, .iadd, 0, 0, 0, .null), 
  (109, 3, .putfield 309, 11, 39, 899, .int 0), (112, 1, .aload_n 0, 0, 0, 0, .null), (113, 3, .getfield 92, 11, 38, 898, .null), (116, 1, .aload_n 0, 0, 0, 0, .null), 
  (117, 3, .getfield 309, 11, 39, 899, .null), (120, 1, .aload_n 0, 0, 0, 0, .null), (121, 3, .invokevirtual 217, 0, 0, 0, .null), (124, 1, .iastore, 0, 0, 0, .null), 
  (125, 1, .aload_n 0, 0, 0, 0, .null), (126, 3, .getfield 309, 11, 39, 899, .null), (129, 1, .ireturn, 0, 0, 0, .null)]
theorem okX12_move : tX12_move.all (okI yX12_move.cls (decide (yX12_move.name = "<init>")) cX12_move) = true := by decide +kernel
def tX12_back : List CI := [
  (0, 1, .aload_n 0, 0, 0, 0, .null), (1, 3, .getfield 114, 11, 37, 897, .null), (4, 3, .ifCond .ne 6, 10, 0, 0, .null), (7, 2, .bipush (-3), 0, 0, 0, .int (-3)), 
  (9, 1, .ireturn, 0, 0, 0, .null), (10, 1, .aload_n 0, 0, 0, 0, .null), (11, 3, .getfield 309, 11, 39, 899, .null), (14, 3, .ifCond .ne 6, 20, 0, 0, .null), 
  (17, 2, .bipush (-5), 0, 0, 0, .int (-5)), (19, 1, .ireturn, 0, 0, 0, .null), (20, 1, .aload_n 0, 0, 0, 0, .null), (21, 1, .dup, 0, 0, 0, .null), 
  (22, 3, .getfield 309, 11, 39, 899, .null), (25, 1, .iconst 1, 0, 0, 0, .int 1), (26, 1, .isub, 0, 0, 0, .null), (27, 3, .putfield 309, 11, 39, 899, .int 0), 
  (30, 1, .aload_n 0, 0, 0, 0, .null), (31, 3, .getfield 309, 11, 39, 899, .null), (34, 1, .ireturn, 0, 0, 0, .null)]
theorem okX12_back : tX12_back.all (okI yX12_back.cls (decide (yX12_back.name = "<init>")) cX12_back) = true := by decide +kernel
def tX12_restOf : List CI := [
  (0, 1, .aload_n 0, 0, 0, 0, .null), (1, 1, .aload_n 0, 0, 0, 0, .null), (2, 3, .getfield 303, 11, 35, 895, .null), (5, 1, .aload_n 0, 0, 0, 0, .null), 
  (6, 3, .getfield 306, 11, 36, 896, .null), (9, 1, .aload_n 0, 0, 0, 0, .null), (10, 3, .getfield 114, 11, 37, 897, .null), (13, 3, .invokevirtual 260, 0, 0, 0, .null), 
  (16, 1, .aload_n 0, 0, 0, 0, .null), (17, 1, .aload_n 0, 0, 0, 0, .null), (18, 3, .getfield 92, 11, 38, 898, .null), (21, 1, .aload_n 0, 0, 0, 0, .null), 
  (22, 3, .getfield 309, 11, 39, 899, .null), (25, 1, .iaload, 0, 0, 0, .null), (26, 1, .aload_n 0, 0, 0, 0, .null), (27, 3, .getfield 114, 11, 37, 897, .null), 
  (30, 3, .invokevirtual 220, 0, 0, 0, .null), (33, 1, .ireturn, 0, 0, 0, .null)]
theorem okX12_restOf : tX12_restOf.all (okI yX12_restOf.cls (decide (yX12_restOf.name = "<init>")) cX12_restOf) = true := by decide +kernel
def tX12_rest : List CI := [
  (0, 1, .aload_n 0, 0, 0, 0, .null), (1, 3, .getfield 114, 11, 37, 897, .null), (4, 3, .ifCond .ne 8, 12, 0, 0, .null), (7, 2, .bipush (-3), 0, 0, 0, .int (-3)), 
  (9, 3, .goto 7, 16, 0, 0, .null), (12, 1, .aload_n 0, 0, 0, 0, .null), (13, 3, .invokevirtual 312, 0, 0, 0, .null), (16, 1, .ireturn, 0, 0, 0, .null)]
theorem okX12_rest : tX12_rest.all (okI yX12_rest.cls (decide (yX12_rest.name = "<init>")) cX12_rest) = true := by decide +kernel
def tX12_next : List CI := [
  (0, 1, .aload_n 0, 0, 0, 0, .null), (1, 3, .getfield 114, 11, 37, 897, .null), (4, 3, .ifCond .ne 6, 10, 0, 0, .null), (7, 2, .bipush (-3), 0, 0, 0, .int (-3)), 
  (9, 1, .ireturn, 0, 0, 0, .null), (10, 1, .aload_n 0, 0, 0, 0, .null), (11, 3, .invokevirtual 312, 0, 0, 0, .null), (14, 1, .istore_n 1, 1, 0, 0, .null), 
  (15, 1, .iload_n 1, 1, 0, 0, .null), (16, 3, .ifCond .gt 8, 24, 0, 0, .null), (19, 2, .bipush (-6), 0, 0, 0, .int (-6)), (21, 3, .goto 21, 42, 0, 0, .null), 
  (24, 1, .aload_n 0, 0, 0, 0, .null), (25, 1, .aload_n 0, 0, 0, 0, .null), (26, 3, .getfield 92, 11, 38, 898, .null), (29, 1, .aload_n 0, 0, 0, 0, .null), 
  (30, 3, .getfield 309, 11, 39, 899, .null), (33, 1, .iaload, 0, 0, 0, .null), (34, 1, .aload_n 0, 0, 0, 0, .null), (35, 3, .getfield 114, 11, 37, 897, .null), 
  (38, 1, .iload_n 1, 1, 0, 0, .null), (39, 3, .invokevirtual 264, 0, 0, 0, .null), (42, 1, .ireturn, 0, 0, 0, .null)]
theorem okX12_next : tX12_next.all (okI yX12_next.cls (decide (yX12_next.name = "<init>")) cX12_next) = true := by decide +kernel
def tX12_moves : List CI := [
  (0, 1, .aload_n 0, 0, 0, 0, .null), (1, 3, .getfield 114, 11, 37, 897, .null), (4, 3, .ifCond .ne 6, 10, 0, 0, .null), (7, 2, .bipush (-3), 0, 0, 0, .int (-3)), 
  (9, 1, .ireturn, 0, 0, 0, .null), (10, 1, .aload_n 0, 0, 0, 0, .null), (11, 1, .aload_n 0, 0, 0, 0, .null), (12, 3, .getfield 92, 11, 38, 898, .null), 
  (15, 1, .aload_n 0, 0, 0, 0, .null), (16, 3, .getfield 309, 11, 39, 899, .null), (19, 1, .iaload, 0, 0, 0, .null), (20, 3, .invokevirtual 194, 0, 0, 0, .null), 
  (23, 1, .iconst 0, 0, 0, 0, .int 0), (24, 1, .istore_n 2, 2, 0, 0, .null), (25, 1, .iconst 0, 0, 0, 0, .int 0), (26, 1, .istore_n 3, 3, 0, 0, .null), 
  (27, 1, .iload_n 3, 3, 0, 0, .null), (28, 3, .sipush 5000, 0, 0, 0, .int 5000), (31, 3, .if_icmp .ge 84, 115, 0, 0, .null), (34, 1, .iload_n 3, 3, 0, 0, .null), 
  (35, 3, .sipush 1000, 0, 0, 0, .int 1000), (38, 1, .idiv, 0, 0, 0, .null), (39, 2, .istore 4, 4, 0, 0, .null), (41, 1, .iload_n 3, 3, 0, 0, .null), 
  (42, 2, .bipush 100, 0, 0, 0, .int 100), (44, 1, .idiv, 0, 0, 0, .null), (45, 2, .bipush 10, 0, 0, 0, .int 10), (47, 1, .irem, 0, 0, 0, .null), 
  (48, 2, .istore 5, 5, 0, 0, .null), (50, 1, .iload_n 3, 3, 0, 0, .null), (51, 2, .bipush 10, 0, 0, 0, .int 10), (53, 1, .idiv, 0, 0, 0, .null), 
  (54, 2, .bipush 10, 0, 0, 0, .int 10), (56, 1, .irem, 0, 0, 0, .null), (57, 2, .istore 6, 6, 0, 0, .null), (59, 1, .iload_n 3, 3, 0, 0, .null), 
  (60, 2, .bipush 10, 0, 0, 0, .int 10), (62, 1, .irem, 0, 0, 0, .null), (63, 2, .istore 7, 7, 0, 0, .null), (65, 1, .aload_n 0, 0, 0, 0, .null), 
  (66, 2, .iload 4, 4, 0, 0, .null), (68, 2, .iload 5, 5, 0, 0, .null), (70, 2, .iload 6, 6, 0, 0, .null), (72, 2, .iload 7, 7, 0, 0, .null), 
  (74, 3, .invokevirtual 256, 0, 0, 0, .null), (77, 3, .ifCond .eq 32, 109, 0, 0, .null), (80, 1, .aload_n 0, 0, 0, 0, .null), (81, 2, .iload 4, 4, 0, 0, .null), 
  (83, 2, .iload 5, 5, 0, 0, .null), (85, 2, .iload 6, 6, 0, 0, .null), (87, 2, .iload 7, 7, 0, 0, .null), (89, 1, .aload_n 0, 0, 0, 0, .null), 
  (90, 3, .getfield 114, 11, 37, 897, .null), (93, 3, .invokevirtual 209, 0, 0, 0, .null), (96, 3, .ifCond .eq 13, 109, 0, 0, .null), (99, 1, .iload_n 2, 2, 0, 0, .null), 
  (100, 1, .iload_n 1, 1, 0, 0, .null), (101, 3, .if_icmp .ne 5, 106, 0, 0, .null), (104, 1, .iload_n 3, 3, 0, 0, .null), (105, 1, .ireturn, 0, 0, 0, .null), 
  (106, 3, .iinc 2 1, 2, 0, 0, .int 1), (109, 3, .iinc 3 1, 3, 0, 0, .int 1), (112, 3, .goto (-85), 27, 0, 0, .null), (115, 1, .iload_n 1, 1, 0, 0, .null), 
  (116, 1, .iconst (-1), 0, 0, 0, .int (-1)), (117, 3, .if_icmp .ne 7, 124, 0, 0, .null), (120, 1, .iload_n 2, 2, 0, 0, .null), (121, 3, .goto 5, 126, 0, 0, .null), 
  (124, 2, .bipush (-6), 0, 0, 0, .int (-6)), (126, 1, .ireturn, 0, 0, 0, .null)]
theorem okX12_moves : tX12_moves.all (okI yX12_moves.cls (decide (yX12_moves.name = "<init>")) cX12_moves) = true := by decide +kernel
def tX12_stand : List CI := [
  (0, 1, .iload_n 1, 1, 0, 0, .null), (1, 1, .i2l, 0, 0, 0, .null), (2, 1, .lconst 1, 0, 0, 0, .long 1), (3, 3, .ldc2_w 146, 0, 0, 1035, .long 4), 
  (6, 3, .invokestatic 121, 0, 0, 0, .null), (9, 3, .ifCond .eq 15, 24, 0, 0, .null), (12, 1, .aload_n 0, 0, 0, 0, .null), (13, 1, .iload_n 1, 1, 0, 0, .null), 
  (14, 1, .iconst 1, 0, 0, 0, .int 1), (15, 1, .isub, 0, 0, 0, .null), (16, 3, .invokevirtual 143, 0, 0, 0, .null), (19, 3, .ifCond .ne 5, 24, 0, 0, .null), 
  (22, 1, .iconst (-1), 0, 0, 0, .int (-1)), (23, 1, .ireturn, 0, 0, 0, .null), (24, 1, .iload_n 1, 1, 0, 0, .null), (25, 1, .i2l, 0, 0, 0, .null), 
  (26, 1, .lconst 0, 0, 0, 0, .long 0), (27, 3, .ldc2_w 148, 0, 0, 1036, .long 5), (30, 3, .invokestatic 121, 0, 0, 0, .null), (33, 3, .ifCond .ne 6, 39, 0, 0, .null), 
  (36, 2, .bipush (-2), 0, 0, 0, .int (-2)), (38, 1, .ireturn, 0, 0, 0, .null), (39, 1, .aload_n 0, 0, 0, 0, .null), (40, 3, .getfield 114, 11, 37, 897, .null), 
  (43, 3, .ifCond .ne 6, 49, 0, 0, .null), (46, 2, .bipush (-3), 0, 0, 0, .int (-3)), (48, 1, .ireturn, 0, 0, 0, .null), (49, 1, .aload_n 0, 0, 0, 0, .null), 
  (50, 1, .aload_n 0, 0, 0, 0, .null), (51, 3, .getfield 92, 11, 38, 898, .null), (54, 1, .aload_n 0, 0, 0, 0, .null), (55, 3, .getfield 309, 11, 39, 899, .null), 
  (58, 1, .iaload, 0, 0, 0, .null), (59, 3, .invokevirtual 194, 0, 0, 0, .null), (62, 1, .aload_n 0, 0, 0, 0, .null), (63, 1, .aload_n 0, 0, 0, 0, .null), 
  (64, 3, .getfield 303, 11, 35, 895, .null), (67, 1, .aload_n 0, 0, 0, 0, .null), (68, 3, .getfield 114, 11, 37, 897, .null), (71, 3, .invokevirtual 239, 0, 0, 0, .null), 
  (74, 1, .iconst 0, 0, 0, 0, .int 0), (75, 1, .istore_n 2, 2, 0, 0, .null), (76, 1, .iload_n 1, 1, 0, 0, .null), (77, 3, .ifCond .ne 36, 113, 0, 0, .null), 
  (80, 1, .aload_n 0, 0, 0, 0, .null), (81, 3, .getfield 154, 11, 16, 876, .null), (84, 1, .istore_n 3, 3, 0, 0, .null), (85, 1, .iload_n 3, 3, 0, 0, .null), 
  (86, 1, .aload_n 0, 0, 0, 0, .null), (87, 3, .getfield 114, 11, 37, 897, .null), (90, 3, .if_icmp .ge 21, 111, 0, 0, .null), (93, 2, .bipush 10, 0, 0, 0, .int 10), 
  (95, 1, .iload_n 2, 2, 0, 0, .null), (96, 1, .imul, 0, 0, 0, .null), (97, 1, .aload_n 0, 0, 0, 0, .null), (98, 3, .getfield 77, 11, 30, 890, .null), 
  (101, 1, .iload_n 3, 3, 0, 0, .null), (102, 1, .iaload, 0, 0, 0, .null), (103, 1, .iadd, 0, 0, 0, .null), (104, 1, .istore_n 2, 2, 0, 0, .null), 
  (105, 3, .iinc 3 1, 3, 0, 0, .int 1), (108, 3, .goto (-23), 85, 0, 0, .null), (111, 1, .iload_n 2, 2, 0, 0, .null), (112, 1, .ireturn, 0, 0, 0, .null), 
  (113, 1, .iload_n 1, 1, 0, 0, .null), (114, 1, .iconst 5, 0, 0, 0, .int 5), (115, 3, .if_icmp .ne 10, 125, 0, 0, .null), (118, 1, .aload_n 0, 0, 0, 0, .null), 
  (119, 3, .getfield 101, 11, 4, 864, .null), (122, 3, .goto 6, 128, 0, 0, .null), (125, 1, .iload_n 1, 1, 0, 0, .null), (126, 1, .iconst 1, 0, 0, 0, .int 1), 
  (127, 1, .isub, 0, 0, 0, .null), (128, 1, .istore_n 3, 3, 0, 0, .null), (129, 1, .iconst 0, 0, 0, 0, .int 0), (130, 2, .istore 4, 4, 0, 0, .null), 
  (132, 2, .iload 4, 4, 0, 0, .null), (134, 1, .aload_n 0, 0, 0, 0, .null), (135, 3, .getfield 40, 11, 15, 875, .null), (138, 1, .iload_n 3, 3, 0, 0, .null), 
  (139, 1, .iaload, 0, 0, 0, .null), (140, 3, .if_icmp .ge 33, 173, 0, 0, .null), (143, 2, .bipush 10, 0, 0, 0, .int 10), (145, 1, .iload_n 2, 2, 0, 0, .null), 
  (146, 1, .imul, 0, 0, 0, .null), (147, 1, .aload_n 0, 0, 0, 0, .null), (148, 3, .getfield 77, 11, 30, 890, .null), (151, 1, .aload_n 0, 0, 0, 0, .null), 
  (152, 3, .getfield 37, 11, 14, 874, .null), (155, 1, .iconst 5, 0, 0, 0, .int 5), (156, 1, .iload_n 3, 3, 0, 0, .null), (157, 1, .imul, 0, 0, 0, .null), 
  (158, 2, .iload 4, 4, 0, 0, .null), (160, 1, .iadd, 0, 0, 0, .null), (161, 1, .iaload, 0, 0, 0, .null), (162, 1, .iconst 1, 0, 0, 0, .int 1), (163, 1, .isub, 0, 0, 0, .null), 
  (164, 1, .iaload, 0, 0, 0, .null), (165, 1, .iadd, 0, 0, 0, .null), (166, 1, .istore_n 2, 2, 0, 0, .null), (167, 3, .iinc 4 1, 4, 0, 0, .int 1), 
  (170, 3, .goto (-38), 132, 0, 0, .null), (173, 1, .iload_n 2, 2, 0, 0, .null), (174, 1, .ireturn, 0, 0, 0, .null)]
theorem okX12_stand : tX12_stand.all (okI yX12_stand.cls (decide (yX12_stand.name = "<init>")) cX12_stand) = true := by decide +kernel
def tX12_wagonAt : List CI := [
  (0, 1, .aload_n 0, 0, 0, 0, .null), (1, 3, .getfield 77, 11, 30, 890, .null), (4, 1, .iload_n 1, 1, 0, 0, .null), (5, 1, .iconst 1, 0, 0, 0, .int 1), 
  (6, 1, .isub, 0, 0, 0, .null), (7, 1, .iaload, 0, 0, 0, .null), (8, 1, .ireturn, 0, 0, 0, .null)]
theorem okX12_wagonAt : tX12_wagonAt.all (okI yX12_wagonAt.cls (decide (yX12_wagonAt.name = "<init>")) cX12_wagonAt) = true := by decide +kernel
def tX12_letOut : List CI := [
  (0, 1, .aload_n 0, 0, 0, 0, .null), (1, 3, .getfield 40, 11, 15, 875, .null), (4, 1, .aload_n 0, 0, 0, 0, .null), (5, 3, .getfield 101, 11, 4, 864, .null), 
  (8, 1, .iaload, 0, 0, 0, .null), (9, 1, .iconst 1, 0, 0, 0, .int 1), (10, 1, .iadd, 0, 0, 0, .null), (11, 1, .istore_n 2, 2, 0, 0, .null), (12, 1, .aload_n 0, 0, 0, 0, .null), 
  (13, 3, .getfield 154, 11, 16, 876, .null), (16, 1, .iload_n 1, 1, 0, 0, .null), (17, 3, .if_icmp .ge 35, 52, 0, 0, .null), (20, 1, .aload_n 0, 0, 0, 0, .null), 
  (21, 3, .getfield 77, 11, 30, 890, .null), (24, 1, .aload_n 0, 0, 0, 0, .null), (25, 3, .getfield 154, 11, 16, 876, .null), (28, 1, .iaload, 0, 0, 0, .null), 
  (29, 1, .iload_n 2, 2, 0, 0, .null), (30, 3, .if_icmp .ne 22, 52, 0, 0, .null), (33, 1, .aload_n 0, 0, 0, 0, .null), (34, 1, .iconst 0, 0, 0, 0, .int 0), 
  (35, 1, .iconst 5, 0, 0, 0, .int 5), (36, 3, .invokevirtual 150, 0, 0, 0, .null), (39, 3, .ifCond .eq 13, 52, 0, 0, .null), (42, 1, .aload_n 0, 0, 0, 0, .null), 
  (43, 1, .iconst 0, 0, 0, 0, .int 0), (44, 1, .iconst 0, 0, 0, 0, .int 0), (45, 1, .iconst 5, 0, 0, 0, .int 5), (46, 1, .iconst 0, 0, 0, 0, .int 0), 
  (47, 3, .invokevirtual 213, 0, 0, 0, .null), (50, 1, .iconst 1, 0, 0, 0, .int 1), (51, 1, .ireturn, 0, 0, 0, .null), (52, 1, .iconst 0, 0, 0, 0, .int 0), 
  (53, 1, .istore_n 3, 3, 0, 0, .null), (54, 1, .iload_n 3, 3, 0, 0, .null), (55, 1, .aload_n 0, 0, 0, 0, .null), (56, 3, .getfield 101, 11, 4, 864, .null), 
  (59, 3, .if_icmp .ge 112, 171, 0, 0, .null), (62, 1, .iconst 0, 0, 0, 0, .int 0), (63, 2, .istore 4, 4, 0, 0, .null), (65, 2, .iload 4, 4, 0, 0, .null), 
  (67, 1, .iconst 2, 0, 0, 0, .int 2), (68, 3, .if_icmp .ge 97, 165, 0, 0, .null), (71, 1, .aload_n 0, 0, 0, 0, .null), (72, 3, .getfield 40, 11, 15, 875, .null), 
  (75, 1, .iload_n 3, 3, 0, 0, .null), (76, 1, .iaload, 0, 0, 0, .null), (77, 3, .ifCond .le 82, 159, 0, 0, .null), (80, 1, .aload_n 0, 0, 0, 0, .null), 
  (81, 1, .iload_n 3, 3, 0, 0, .null), (82, 2, .iload 4, 4, 0, 0, .null), (84, 3, .invokevirtual 161, 0, 0, 0, .null), (87, 3, .ifCond .eq 72, 159, 0, 0, .null), 
  (90, 1, .aload_n 0, 0, 0, 0, .null), (91, 1, .iload_n 3, 3, 0, 0, .null), (92, 1, .iconst 1, 0, 0, 0, .int 1), (93, 1, .iadd, 0, 0, 0, .null), 
  (94, 1, .iconst 5, 0, 0, 0, .int 5), (95, 3, .invokevirtual 150, 0, 0, 0, .null), (98, 3, .ifCond .eq 61, 159, 0, 0, .null), (101, 2, .iload 4, 4, 0, 0, .null), 
  (103, 3, .ifCond .ne 14, 117, 0, 0, .null), (106, 1, .aload_n 0, 0, 0, 0, .null), (107, 3, .getfield 37, 11, 14, 874, .null), (110, 1, .iconst 5, 0, 0, 0, .int 5), 
  (111, 1, .iload_n 3, 3, 0, 0, .null), (112, 1, .imul, 0, 0, 0, .null), (113, 1, .iaload, 0, 0, 0, .null), (114, 3, .goto 20, 134, 0, 0, .null), 
  (117, 1, .aload_n 0, 0, 0, 0, .null), (118, 3, .getfield 37, 11, 14, 874, .null), (121, 1, .iconst 5, 0, 0, 0, .int 5), (122, 1, .iload_n 3, 3, 0, 0, .null), 
  (123, 1, .imul, 0, 0, 0, .null), (124, 1, .aload_n 0, 0, 0, 0, .null), (125, 3, .getfield 40, 11, 15, 875, .null), (128, 1, .iload_n 3, 3, 0, 0, .null), 
  (129, 1, .iaload, 0, 0, 0, .null), (130, 1, .iadd, 0, 0, 0, .null), (131, 1, .iconst 1, 0, 0, 0, .int 1), (132, 1, .isub, 0, 0, 0, .null), (133, 1, .iaload, 0, 0, 0, .null), 
  (134, 2, .istore 5, 5, 0, 0, .null), (136, 1, .aload_n 0, 0, 0, 0, .null), (137, 2, .iload 5, 5, 0, 0, .null), (139, 3, .invokevirtual 315, 0, 0, 0, .null), 
  (142, 1, .iload_n 2, 2, 0, 0, .null), (143, 3, .if_icmp .ne 16, 159, 0, 0, .null), (146, 1, .aload_n 0, 0, 0, 0, .null), (147, 1, .iload_n 3, 3, 0, 0, .null), 
  (148, 1, .iconst 1, 0, 0, 0, .int 1), (149, 1, .iadd, 0, 0, 0, .null), (150, 2, .iload 4, 4, 0, 0, .null), (152, 1, .iconst 5, 0, 0, 0, .int 5), 
  (153, 1, .iconst 0, 0, 0, 0, .int 0), (154, 3, .invokevirtual 213, 0, 0, 0, .null), (157, 1, .iconst 1, 0, 0, 0, .int 1), (158, 1, .ireturn, 0, 0, 0, .null), 
  (159, 3, .iinc 4 1, 4, 0, 0, .int 1), (162, 3, .goto (-97), 65, 0, 0, .null), (165, 3, .iinc 3 1, 3, 0, 0, .int 1), (168, 3, .goto (-114), 54, 0, 0, .null), 
  (171, 1, .iconst 0, 0, 0, 0, .int 0), (172, 1, .ireturn, 0, 0, 0, .null)]
theorem okX12_letOut : tX12_letOut.all (okI yX12_letOut.cls (decide (yX12_letOut.name = "<init>")) cX12_letOut) = true := by decide +kernel
def tX12_areHigher : List CI := [
  (0, 1, .iconst 1, 0, 0, 0, .int 1), (1, 1, .istore_n 3, 3, 0, 0, .null), (2, 1, .iconst 0, 0, 0, 0, .int 0), (3, 2, .istore 4, 4, 0, 0, .null), (5, 2, .iload 4, 4, 0, 0, .null), 
  (7, 1, .aload_n 0, 0, 0, 0, .null), (8, 3, .getfield 40, 11, 15, 875, .null), (11, 1, .iload_n 1, 1, 0, 0, .null), (12, 1, .iaload, 0, 0, 0, .null), 
  (13, 3, .if_icmp .ge 38, 51, 0, 0, .null), (16, 1, .iload_n 3, 3, 0, 0, .null), (17, 3, .ifCond .eq 26, 43, 0, 0, .null), (20, 1, .aload_n 0, 0, 0, 0, .null), 
  (21, 1, .aload_n 0, 0, 0, 0, .null), (22, 3, .getfield 37, 11, 14, 874, .null), (25, 1, .iconst 5, 0, 0, 0, .int 5), (26, 1, .iload_n 1, 1, 0, 0, .null), 
  (27, 1, .imul, 0, 0, 0, .null), (28, 2, .iload 4, 4, 0, 0, .null), (30, 1, .iadd, 0, 0, 0, .null), (31, 1, .iaload, 0, 0, 0, .null), (32, 3, .invokevirtual 315, 0, 0, 0, .null), 
  (35, 1, .iload_n 2, 2, 0, 0, .null), (36, 3, .if_icmp .le 7, 43, 0, 0, .null), (39, 1, .iconst 1, 0, 0, 0, .int 1), (40, 3, .goto 4, 44, 0, 0, .null), 
  (43, 1, .iconst 0, 0, 0, 0, .int 0), (44, 1, .istore_n 3, 3, 0, 0, .null), (45, 3, .iinc 4 1, 4, 0, 0, .int 1), (48, 3, .goto (-43), 5, 0, 0, .null), 
  (51, 1, .iload_n 3, 3, 0, 0, .null), (52, 1, .ireturn, 0, 0, 0, .null)]
theorem okX12_areHigher : tX12_areHigher.all (okI yX12_areHigher.cls (decide (yX12_areHigher.name = "<init>")) cX12_areHigher) = true := by decide +kernel
def tX12_hasRoom : List CI := [
  (0, 1, .aload_n 0, 0, 0, 0, .null), (1, 3, .getfield 40, 11, 15, 875, .null), (4, 1, .iload_n 1, 1, 0, 0, .null), (5, 1, .iaload, 0, 0, 0, .null), 
  (6, 1, .aload_n 0, 0, 0, 0, .null), (7, 3, .getfield 13, 11, 1, 861, .null), (10, 1, .iload_n 1, 1, 0, 0, .null), (11, 1, .iaload, 0, 0, 0, .null), 
  (12, 3, .if_icmp .ge 18, 30, 0, 0, .null), (15, 1, .aload_n 0, 0, 0, 0, .null), (16, 1, .iconst 0, 0, 0, 0, .int 0), (17, 1, .iload_n 1, 1, 0, 0, .null), 
  (18, 1, .iconst 1, 0, 0, 0, .int 1), (19, 1, .iadd, 0, 0, 0, .null), (20, 3, .invokevirtual 150, 0, 0, 0, .null), (23, 3, .ifCond .eq 7, 30, 0, 0, .null), 
  (26, 1, .iconst 1, 0, 0, 0, .int 1), (27, 3, .goto 4, 31, 0, 0, .null), (30, 1, .iconst 0, 0, 0, 0, .int 0), (31, 1, .ireturn, 0, 0, 0, .null)]
theorem okX12_hasRoom : tX12_hasRoom.all (okI yX12_hasRoom.cls (decide (yX12_hasRoom.name = "<init>")) cX12_hasRoom) = true := by decide +kernel
def tX12_chosen : List CI := [
  (0, 2, .bipush (-6), 0, 0, 0, .int (-6)), (2, 1, .istore_n 3, 3, 0, 0, .null), (3, 2, .bipush (-6), 0, 0, 0, .int (-6)), (5, 2, .istore 4, 4, 0, 0, .null), 
  (7, 2, .bipush (-6), 0, 0, 0, .int (-6)), (9, 2, .istore 5, 5, 0, 0, .null), (11, 1, .iconst 0, 0, 0, 0, .int 0), (12, 2, .istore 6, 6, 0, 0, .null), 
  (14, 2, .iload 6, 6, 0, 0, .null), (16, 1, .aload_n 0, 0, 0, 0, .null), (17, 3, .getfield 101, 11, 4, 864, .null), (20, 3, .if_icmp .ge 84, 104, 0, 0, .null), 
  (23, 1, .aload_n 0, 0, 0, 0, .null), (24, 2, .iload 6, 6, 0, 0, .null), (26, 3, .invokevirtual 318, 0, 0, 0, .null), (29, 3, .ifCond .eq 69, 98, 0, 0, .null), 
  (32, 1, .iload_n 3, 3, 0, 0, .null), (33, 3, .ifCond .ge 8, 41, 0, 0, .null), (36, 2, .iload 6, 6, 0, 0, .null), (38, 3, .goto 4, 42, 0, 0, .null), 
  (41, 1, .iload_n 3, 3, 0, 0, .null), (42, 1, .istore_n 3, 3, 0, 0, .null), (43, 2, .iload 4, 4, 0, 0, .null), (45, 3, .ifCond .lt 20, 65, 0, 0, .null), 
  (48, 1, .aload_n 0, 0, 0, 0, .null), (49, 3, .getfield 40, 11, 15, 875, .null), (52, 2, .iload 6, 6, 0, 0, .null), (54, 1, .iaload, 0, 0, 0, .null), 
  (55, 1, .aload_n 0, 0, 0, 0, .null), (56, 3, .getfield 40, 11, 15, 875, .null), (59, 2, .iload 4, 4, 0, 0, .null), (61, 1, .iaload, 0, 0, 0, .null), 
  (62, 3, .if_icmp .ge 8, 70, 0, 0, .null), (65, 2, .iload 6, 6, 0, 0, .null), (67, 3, .goto 5, 72, 0, 0, .null), (70, 2, .iload 4, 4, 0, 0, .null), 
  (72, 2, .istore 4, 4, 0, 0, .null), (74, 2, .iload 5, 5, 0, 0, .null), (76, 3, .ifCond .ge 18, 94, 0, 0, .null), (79, 1, .aload_n 0, 0, 0, 0, .null), 
  (80, 2, .iload 6, 6, 0, 0, .null), (82, 1, .iload_n 1, 1, 0, 0, .null), (83, 3, .invokevirtual 321, 0, 0, 0, .null), (86, 3, .ifCond .eq 8, 94, 0, 0, .null), 
  (89, 2, .iload 6, 6, 0, 0, .null), (91, 3, .goto 5, 96, 0, 0, .null), (94, 2, .iload 5, 5, 0, 0, .null), (96, 2, .istore 5, 5, 0, 0, .null), (98, 3, .iinc 6 1, 6, 0, 0, .int 1), 
  (101, 3, .goto (-87), 14, 0, 0, .null), (104, 1, .iload_n 2, 2, 0, 0, .null), (105, 1, .iconst 2, 0, 0, 0, .int 2), (106, 3, .if_icmp .ne 8, 114, 0, 0, .null), 
  (109, 2, .iload 4, 4, 0, 0, .null), (111, 3, .goto 19, 130, 0, 0, .null), (114, 1, .iload_n 2, 2, 0, 0, .null), (115, 1, .iconst 1, 0, 0, 0, .int 1), 
  (116, 3, .if_icmp .ne 13, 129, 0, 0, .null), (119, 2, .iload 5, 5, 0, 0, .null), (121, 3, .ifCond .lt 8, 129, 0, 0, .null), (124, 2, .iload 5, 5, 0, 0, .null), 
  (126, 3, .goto 4, 130, 0, 0, .null), (129, 1, .iload_n 3, 3, 0, 0, .null), (130, 1, .ireturn, 0, 0, 0, .null)]
theorem okX12_chosen : tX12_chosen.all (okI yX12_chosen.cls (decide (yX12_chosen.name = "<init>")) cX12_chosen) = true := by decide +kernel
def tX12_goIn : List CI := [
  (0, 1, .aload_n 0, 0, 0, 0, .null), (1, 3, .getfield 154, 11, 16, 876, .null), (4, 1, .iload_n 1, 1, 0, 0, .null), (5, 3, .if_icmp .ne 5, 10, 0, 0, .null), 
  (8, 1, .iconst 0, 0, 0, 0, .int 0), (9, 1, .ireturn, 0, 0, 0, .null), (10, 1, .aload_n 0, 0, 0, 0, .null), (11, 1, .aload_n 0, 0, 0, 0, .null), 
  (12, 3, .getfield 77, 11, 30, 890, .null), (15, 1, .aload_n 0, 0, 0, 0, .null), (16, 3, .getfield 154, 11, 16, 876, .null), (19, 1, .iaload, 0, 0, 0, .null), 
  (20, 1, .iload_n 2, 2, 0, 0, .null), (21, 3, .invokevirtual 324, 0, 0, 0, .null), (24, 1, .istore_n 3, 3, 0, 0, .null), (25, 1, .iload_n 3, 3, 0, 0, .null), 
  (26, 3, .ifCond .ge 5, 31, 0, 0, .null), (29, 1, .iconst 0, 0, 0, 0, .int 0), (30, 1, .ireturn, 0, 0, 0, .null), (31, 1, .aload_n 0, 0, 0, 0, .null), 
  (32, 1, .iconst 0, 0, 0, 0, .int 0), (33, 1, .iconst 0, 0, 0, 0, .int 0), (34, 1, .iload_n 3, 3, 0, 0, .null), (35, 1, .iconst 1, 0, 0, 0, .int 1), 
  (36, 1, .iadd, 0, 0, 0, .null), (37, 1, .iconst 0, 0, 0, 0, .int 0), (38, 3, .invokevirtual 213, 0, 0, 0, .null), (41, 1, .iconst 1, 0, 0, 0, .int 1), 
  (42, 1, .ireturn, 0, 0, 0, .null)]
theorem okX12_goIn : tX12_goIn.all (okI yX12_goIn.cls (decide (yX12_goIn.name = "<init>")) cX12_goIn) = true := by decide +kernel
def tX12_goOn : List CI := [
  (0, 1, .iconst 1, 0, 0, 0, .int 1), (1, 1, .istore_n 2, 2, 0, 0, .null), (2, 1, .iload_n 2, 2, 0, 0, .null), (3, 1, .aload_n 0, 0, 0, 0, .null), 
  (4, 3, .getfield 101, 11, 4, 864, .null), (7, 3, .if_icmp .gt 81, 88, 0, 0, .null), (10, 1, .iconst 0, 0, 0, 0, .int 0), (11, 1, .istore_n 3, 3, 0, 0, .null), 
  (12, 1, .iload_n 3, 3, 0, 0, .null), (13, 1, .iconst 2, 0, 0, 0, .int 2), (14, 3, .if_icmp .ge 68, 82, 0, 0, .null), (17, 1, .iconst 1, 0, 0, 0, .int 1), 
  (18, 2, .istore 4, 4, 0, 0, .null), (20, 2, .iload 4, 4, 0, 0, .null), (22, 1, .aload_n 0, 0, 0, 0, .null), (23, 3, .getfield 101, 11, 4, 864, .null), 
  (26, 3, .if_icmp .gt 50, 76, 0, 0, .null), (29, 1, .iconst 0, 0, 0, 0, .int 0), (30, 2, .istore 5, 5, 0, 0, .null), (32, 2, .iload 5, 5, 0, 0, .null), 
  (34, 1, .iconst 2, 0, 0, 0, .int 2), (35, 3, .if_icmp .ge 35, 70, 0, 0, .null), (38, 1, .aload_n 0, 0, 0, 0, .null), (39, 1, .iload_n 2, 2, 0, 0, .null), 
  (40, 1, .iload_n 3, 3, 0, 0, .null), (41, 2, .iload 4, 4, 0, 0, .null), (43, 2, .iload 5, 5, 0, 0, .null), (45, 1, .iload_n 1, 1, 0, 0, .null), 
  (46, 3, .invokevirtual 209, 0, 0, 0, .null), (49, 3, .ifCond .eq 15, 64, 0, 0, .null), (52, 1, .aload_n 0, 0, 0, 0, .null), (53, 1, .iload_n 2, 2, 0, 0, .null), 
  (54, 1, .iload_n 3, 3, 0, 0, .null), (55, 2, .iload 4, 4, 0, 0, .null), (57, 2, .iload 5, 5, 0, 0, .null), (59, 3, .invokevirtual 213, 0, 0, 0, .null), 
  (62, 1, .iconst 1, 0, 0, 0, .int 1), (63, 1, .ireturn, 0, 0, 0, .null), (64, 3, .iinc 5 1, 5, 0, 0, .int 1), (67, 3, .goto (-35), 32, 0, 0, .null), 
  (70, 3, .iinc 4 1, 4, 0, 0, .int 1), (73, 3, .goto (-53), 20, 0, 0, .null), (76, 3, .iinc 3 1, 3, 0, 0, .int 1), (79, 3, .goto (-67), 12, 0, 0, .null), 
  (82, 3, .iinc 2 1, 2, 0, 0, .int 1), (85, 3, .goto (-83), 2, 0, 0, .null), (88, 1, .iconst 0, 0, 0, 0, .int 0), (89, 1, .ireturn, 0, 0, 0, .null)]
theorem okX12_goOn : tX12_goOn.all (okI yX12_goOn.cls (decide (yX12_goOn.name = "<init>")) cX12_goOn) = true := by decide +kernel
def tX12_thumbed : List CI := [
  (0, 1, .aload_n 0, 0, 0, 0, .null), (1, 1, .iload_n 1, 1, 0, 0, .null), (2, 1, .iload_n 2, 2, 0, 0, .null), (3, 3, .invokevirtual 239, 0, 0, 0, .null), 
  (6, 1, .aload_n 0, 0, 0, 0, .null), (7, 1, .iconst 0, 0, 0, 0, .int 0), (8, 3, .invokevirtual 194, 0, 0, 0, .null), (11, 1, .iconst 1, 0, 0, 0, .int 1), 
  (12, 2, .istore 4, 4, 0, 0, .null), (14, 2, .iload 4, 4, 0, 0, .null), (16, 3, .ifCond .eq 54, 70, 0, 0, .null), (19, 1, .aload_n 0, 0, 0, 0, .null), 
  (20, 1, .iload_n 2, 2, 0, 0, .null), (21, 3, .invokevirtual 327, 0, 0, 0, .null), (24, 2, .istore 4, 4, 0, 0, .null), (26, 2, .iload 4, 4, 0, 0, .null), 
  (28, 3, .ifCond .ne 12, 40, 0, 0, .null), (31, 1, .aload_n 0, 0, 0, 0, .null), (32, 1, .iload_n 2, 2, 0, 0, .null), (33, 1, .iload_n 3, 3, 0, 0, .null), 
  (34, 3, .invokevirtual 330, 0, 0, 0, .null), (37, 3, .ifCond .eq 7, 44, 0, 0, .null), (40, 1, .iconst 1, 0, 0, 0, .int 1), (41, 3, .goto 4, 45, 0, 0, .null), 
  (44, 1, .iconst 0, 0, 0, 0, .int 0), (45, 2, .istore 4, 4, 0, 0, .null), (47, 2, .iload 4, 4, 0, 0, .null), (49, 3, .ifCond .ne 11, 60, 0, 0, .null), 
  (52, 1, .aload_n 0, 0, 0, 0, .null), (53, 1, .iload_n 2, 2, 0, 0, .null), (54, 3, .invokevirtual 333, 0, 0, 0, .null), (57, 3, .ifCond .eq 7, 64, 0, 0, .null), 
  (60, 1, .iconst 1, 0, 0, 0, .int 1), (61, 3, .goto 4, 65, 0, 0, .null), (64, 1, .iconst 0, 0, 0, 0, .int 0), (65, 2, .istore 4, 4, 0, 0, .null), 
  (67, 3, .goto (-53), 14, 0, 0, .null), (70, 1, .aload_n 0, 0, 0, 0, .null), (71, 3, .getfield 40, 11, 15, 875, .null), (74, 1, .aload_n 0, 0, 0, 0, .null), 
  (75, 3, .getfield 101, 11, 4, 864, .null), (78, 1, .iaload, 0, 0, 0, .null), (79, 1, .ireturn, 0, 0, 0, .null)]
theorem okX12_thumbed : tX12_thumbed.all (okI yX12_thumbed.cls (decide (yX12_thumbed.name = "<init>")) cX12_thumbed) = true := by decide +kernel
def tX12_thumb : List CI := [
  (0, 1, .iload_n 1, 1, 0, 0, .null), (1, 3, .invokestatic 245, 0, 0, 0, .null), (4, 1, .istore_n 3, 3, 0, 0, .null), (5, 1, .iload_n 3, 3, 0, 0, .null), 
  (6, 3, .ifCond .le 25, 31, 0, 0, .null), (9, 1, .iload_n 2, 2, 0, 0, .null), (10, 1, .i2l, 0, 0, 0, .null), (11, 1, .lconst 0, 0, 0, 0, .long 0), 
  (12, 3, .ldc2_w 336, 0, 0, 1231, .long 2), (15, 3, .invokestatic 121, 0, 0, 0, .null), (18, 3, .ifCond .eq 13, 31, 0, 0, .null), (21, 1, .aload_n 0, 0, 0, 0, .null), 
  (22, 1, .iload_n 1, 1, 0, 0, .null), (23, 1, .iload_n 3, 3, 0, 0, .null), (24, 1, .iload_n 2, 2, 0, 0, .null), (25, 3, .invokevirtual 338, 0, 0, 0, .null), 
  (28, 3, .goto 5, 33, 0, 0, .null), (31, 2, .bipush (-2), 0, 0, 0, .int (-2)), (33, 1, .ireturn, 0, 0, 0, .null)]
theorem okX12_thumb : tX12_thumb.all (okI yX12_thumb.cls (decide (yX12_thumb.name = "<init>")) cX12_thumb) = true := by decide +kernel
def tX12_sorts : List CI := [
  (0, 1, .iload_n 1, 1, 0, 0, .null), (1, 3, .invokestatic 282, 0, 0, 0, .null), (4, 3, .ifCond .eq 15, 19, 0, 0, .null), (7, 1, .iload_n 2, 2, 0, 0, .null), 
  (8, 1, .i2l, 0, 0, 0, .null), (9, 1, .lconst 0, 0, 0, 0, .long 0), (10, 3, .ldc2_w 336, 0, 0, 1231, .long 2), (13, 3, .invokestatic 121, 0, 0, 0, .null), 
  (16, 3, .ifCond .ne 6, 22, 0, 0, .null), (19, 2, .bipush (-2), 0, 0, 0, .int (-2)), (21, 1, .ireturn, 0, 0, 0, .null), (22, 1, .iconst 0, 0, 0, 0, .int 0), 
  (23, 1, .istore_n 3, 3, 0, 0, .null), (24, 1, .iconst 0, 0, 0, 0, .int 0), (25, 2, .istore 4, 4, 0, 0, .null), (27, 2, .iload 4, 4, 0, 0, .null), 
  (29, 1, .iload_n 1, 1, 0, 0, .null), (30, 3, .invokestatic 270, 0, 0, 0, .null), (33, 3, .if_icmp .ge 34, 67, 0, 0, .null), (36, 1, .iload_n 3, 3, 0, 0, .null), 
  (37, 1, .aload_n 0, 0, 0, 0, .null), (38, 1, .aload_n 0, 0, 0, 0, .null), (39, 2, .iload 4, 4, 0, 0, .null), (41, 1, .iload_n 1, 1, 0, 0, .null), 
  (42, 3, .invokevirtual 285, 0, 0, 0, .null), (45, 1, .iload_n 1, 1, 0, 0, .null), (46, 1, .iload_n 2, 2, 0, 0, .null), (47, 3, .invokevirtual 338, 0, 0, 0, .null), 
  (50, 1, .iload_n 1, 1, 0, 0, .null), (51, 3, .if_icmp .ne 7, 58, 0, 0, .null), (54, 1, .iconst 1, 0, 0, 0, .int 1), (55, 3, .goto 4, 59, 0, 0, .null), 
  (58, 1, .iconst 0, 0, 0, 0, .int 0), (59, 1, .iadd, 0, 0, 0, .null), (60, 1, .istore_n 3, 3, 0, 0, .null), (61, 3, .iinc 4 1, 4, 0, 0, .int 1), 
  (64, 3, .goto (-37), 27, 0, 0, .null), (67, 1, .iload_n 3, 3, 0, 0, .null), (68, 1, .ireturn, 0, 0, 0, .null)]
theorem okX12_sorts : tX12_sorts.all (okI yX12_sorts.cls (decide (yX12_sorts.name = "<init>")) cX12_sorts) = true := by decide +kernel
def tX12_draw : List CI := [
  (0, 1, .iload_n 1, 1, 0, 0, .null), (1, 1, .i2l, 0, 0, 0, .null), (2, 1, .lconst 0, 0, 0, 0, .long 0), (3, 3, .ldc2_w 341, 0, 0, 1264, .long 9999), 
  (6, 3, .invokestatic 121, 0, 0, 0, .null), (9, 3, .ifCond .eq 10, 19, 0, 0, .null), (12, 1, .iload_n 2, 2, 0, 0, .null), (13, 3, .invokestatic 282, 0, 0, 0, .null), 
  (16, 3, .ifCond .ne 6, 22, 0, 0, .null), (19, 2, .bipush (-2), 0, 0, 0, .int (-2)), (21, 1, .ireturn, 0, 0, 0, .null), (22, 1, .iload_n 1, 1, 0, 0, .null), 
  (23, 1, .istore_n 3, 3, 0, 0, .null), (24, 1, .iconst 0, 0, 0, 0, .int 0), (25, 2, .istore 4, 4, 0, 0, .null), (27, 1, .iconst 0, 0, 0, 0, .int 0), 
  (28, 2, .istore 5, 5, 0, 0, .null), (30, 1, .iconst 0, 0, 0, 0, .int 0), (31, 2, .istore 6, 6, 0, 0, .null), (33, 2, .iload 6, 6, 0, 0, .null), 
  (35, 1, .iload_n 2, 2, 0, 0, .null), (36, 3, .if_icmp .ge 94, 130, 0, 0, .null), (39, 2, .bipush 75, 0, 0, 0, .int 75), (41, 1, .iload_n 3, 3, 0, 0, .null), 
  (42, 1, .imul, 0, 0, 0, .null), (43, 2, .bipush 74, 0, 0, 0, .int 74), (45, 1, .iadd, 0, 0, 0, .null), (46, 3, .ldc_w 343, 0, 0, 1265, .int 65537), 
  (49, 1, .irem, 0, 0, 0, .null), (50, 1, .istore_n 3, 3, 0, 0, .null), (51, 1, .iload_n 3, 3, 0, 0, .null), (52, 1, .iload_n 2, 2, 0, 0, .null), 
  (53, 2, .iload 6, 6, 0, 0, .null), (55, 1, .isub, 0, 0, 0, .null), (56, 1, .irem, 0, 0, 0, .null), (57, 2, .istore 7, 7, 0, 0, .null), (59, 1, .iconst 1, 0, 0, 0, .int 1), 
  (60, 2, .istore 8, 8, 0, 0, .null), (62, 2, .iload 4, 4, 0, 0, .null), (64, 2, .iload 8, 8, 0, 0, .null), (66, 1, .ishr, 0, 0, 0, .null), (67, 1, .iconst 1, 0, 0, 0, .int 1), 
  (68, 1, .iand, 0, 0, 0, .null), (69, 1, .iconst 1, 0, 0, 0, .int 1), (70, 3, .if_icmp .eq 8, 78, 0, 0, .null), (73, 2, .iload 7, 7, 0, 0, .null), 
  (75, 3, .ifCond .le 30, 105, 0, 0, .null), (78, 2, .iload 7, 7, 0, 0, .null), (80, 2, .iload 4, 4, 0, 0, .null), (82, 2, .iload 8, 8, 0, 0, .null), 
  (84, 1, .ishr, 0, 0, 0, .null), (85, 1, .iconst 1, 0, 0, 0, .int 1), (86, 1, .iand, 0, 0, 0, .null), (87, 1, .iconst 1, 0, 0, 0, .int 1), 
  (88, 3, .if_icmp .ne 7, 95, 0, 0, .null), (91, 1, .iconst 0, 0, 0, 0, .int 0), (92, 3, .goto 4, 96, 0, 0, .null), (95, 1, .iconst 1, 0, 0, 0, .int 1), 
  (96, 1, .isub, 0, 0, 0, .null), (97, 2, .istore 7, 7, 0, 0, .null), (99, 3, .iinc 8 1, 8, 0, 0, .int 1), (102, 3, .goto (-40), 62, 0, 0, .null), 
  (105, 2, .iload 4, 4, 0, 0, .null), (107, 1, .iconst 1, 0, 0, 0, .int 1), (108, 2, .iload 8, 8, 0, 0, .null), (110, 1, .ishl, 0, 0, 0, .null), (111, 1, .ior, 0, 0, 0, .null), 
  (112, 2, .istore 4, 4, 0, 0, .null), (114, 2, .bipush 10, 0, 0, 0, .int 10), (116, 2, .iload 5, 5, 0, 0, .null), (118, 1, .imul, 0, 0, 0, .null), 
  (119, 2, .iload 8, 8, 0, 0, .null), (121, 1, .iadd, 0, 0, 0, .null), (122, 2, .istore 5, 5, 0, 0, .null), (124, 3, .iinc 6 1, 6, 0, 0, .int 1), 
  (127, 3, .goto (-94), 33, 0, 0, .null), (130, 2, .iload 5, 5, 0, 0, .null), (132, 1, .ireturn, 0, 0, 0, .null)]
theorem okX12_draw : tX12_draw.all (okI yX12_draw.cls (decide (yX12_draw.name = "<init>")) cX12_draw) = true := by decide +kernel
def tX12_pass : List CI := [
  (0, 1, .aload_n 0, 0, 0, 0, .null), (1, 3, .getfield 344, 11, 43, 903, .null), (4, 3, .ifCond .eq 7, 11, 0, 0, .null), (7, 1, .iload_n 1, 1, 0, 0, .null), 
  (8, 3, .goto 12, 20, 0, 0, .null), (11, 1, .aload_n 0, 0, 0, 0, .null), (12, 3, .getfield 95, 11, 40, 900, .null), (15, 1, .aload_n 0, 0, 0, 0, .null), 
  (16, 3, .getfield 348, 11, 42, 902, .null), (19, 1, .iaload, 0, 0, 0, .null), (20, 1, .istore_n 2, 2, 0, 0, .null), (21, 1, .aload_n 0, 0, 0, 0, .null), 
  (22, 3, .getfield 95, 11, 40, 900, .null), (25, 1, .aload_n 0, 0, 0, 0, .null), (26, 3, .getfield 348, 11, 42, 902, .null), (29, 1, .iload_n 2, 2, 0, 0, .null), 
  (30, 1, .iastore, 0, 0, 0, .null), (31, 1, .aload_n 0, 0, 0, 0, .null), (32, 1, .dup, 0, 0, 0, .null), (33, 3, .getfield 348, 11, 42, 902, .null), 
  (36, 1, .iconst 1, 0, 0, 0, .int 1), (37, 1, .iadd, 0, 0, 0, .null), (38, 3, .putfield 348, 11, 42, 902, .int 0), (41, 1, .iload_n 2, 2, 0, 0, .null), 
  (42, 1, .ireturn, 0, 0, 0, .null)]
theorem okX12_pass : tX12_pass.all (okI yX12_pass.cls (decide (yX12_pass.name = "<init>")) cX12_pass) = true := by decide +kernel
def tX12_passAll : List CI := [
  (0, 1, .aload_n 0, 0, 0, 0, .null), (1, 1, .aload_n 0, 0, 0, 0, .null), (2, 1, .aload_n 0, 0, 0, 0, .null), (3, 3, .getfield 101, 11, 4, 864, .null), 
  (6, 3, .invokevirtual 351, 0, 0, 0, .null), (9, 3, .putfield 101, 11, 4, 864, .int 0), (12, 1, .aload_n 0, 0, 0, 0, .null), (13, 1, .aload_n 0, 0, 0, 0, .null), 
  (14, 1, .aload_n 0, 0, 0, 0, .null), (15, 3, .getfield 105, 11, 5, 865, .null), (18, 3, .invokevirtual 351, 0, 0, 0, .null), (21, 3, .putfield 105, 11, 5, 865, .int 0), 
  (24, 1, .aload_n 0, 0, 0, 0, .null), (25, 1, .aload_n 0, 0, 0, 0, .null), (26, 1, .aload_n 0, 0, 0, 0, .null), (27, 3, .getfield 108, 11, 10, 870, .null), 
  (30, 3, .invokevirtual 351, 0, 0, 0, .null), (33, 3, .putfield 108, 11, 10, 870, .int 0), (36, 1, .aload_n 0, 0, 0, 0, .null), (37, 1, .aload_n 0, 0, 0, 0, .null), 
  (38, 1, .aload_n 0, 0, 0, 0, .null), (39, 3, .getfield 111, 11, 11, 871, .null), (42, 3, .invokevirtual 351, 0, 0, 0, .null), (45, 3, .putfield 111, 11, 11, 871, .int 0), 
  (48, 1, .aload_n 0, 0, 0, 0, .null), (49, 1, .aload_n 0, 0, 0, 0, .null), (50, 1, .aload_n 0, 0, 0, 0, .null), (51, 3, .getfield 303, 11, 35, 895, .null), 
  (54, 3, .invokevirtual 351, 0, 0, 0, .null), (57, 3, .putfield 303, 11, 35, 895, .int 0), (60, 1, .aload_n 0, 0, 0, 0, .null), (61, 1, .aload_n 0, 0, 0, 0, .null), 
  (62, 1, .aload_n 0, 0, 0, 0, .null), (63, 3, .getfield 306, 11, 36, 896, .null), (66, 3, .invokevirtual 351, 0, 0, 0, .null), (69, 3, .putfield 306, 11, 36, 896, .int 0), 
  (72, 1, .aload_n 0, 0, 0, 0, .null), (73, 1, .aload_n 0, 0, 0, 0, .null), (74, 1, .aload_n 0, 0, 0, 0, .null), (75, 3, .getfield 114, 11, 37, 897, .null), 
  (78, 3, .invokevirtual 351, 0, 0, 0, .null), (81, 3, .putfield 114, 11, 37, 897, .int 0), (84, 1, .aload_n 0, 0, 0, 0, .null), (85, 1, .aload_n 0, 0, 0, 0, .null), 
  (86, 1, .aload_n 0, 0, 0, 0, .null), (87, 3, .getfield 309, 11, 39, 899, .null), (90, 3, .invokevirtual 351, 0, 0, 0, .null), (93, 3, .putfield 309, 11, 39, 899, .int 0), 
  (96, 1, .iconst 0, 0, 0, 0, .int 0), (97, 1, .istore_n 1, 1, 0, 0, .null), (98, 1, .iload_n 1, 1, 0, 0, .null), (99, 1, .iconst 4, 0, 0, 0, .int 4), 
  (100, 3, .if_icmp .ge 105, 205, 0, 0, .null), (103, 1, .aload_n 0, 0, 0, 0, .null), (104, 3, .getfield 7, 11, 0, 860, .null), (107, 1, .iload_n 1, 1, 0, 0, .null), 
  (108, 1, .aload_n 0, 0, 0, 0, .null), (109, 1, .aload_n 0, 0, 0, 0, .null), (110, 3, .getfield 7, 11, 0, 860, .null), (113, 1, .iload_n 1, 1, 0, 0, .null), 
  (114, 1, .iaload, 0, 0, 0, .null), (115, 3, .invokevirtual 351, 0, 0, 0, .null), (118, 1, .iastore, 0, 0, 0, .null), (119, 1, .aload_n 0, 0, 0, 0, .null), 
  (120, 3, .getfield 13, 11, 1, 861, .null), (123, 1, .iload_n 1, 1, 0, 0, .null), (124, 1, .aload_n 0, 0, 0, 0, .null), (125, 1, .aload_n 0, 0, 0, 0, .null), 
  (126, 3, .getfield 13, 11, 1, 861, .null), (129, 1, .iload_n 1, 1, 0, 0, .null), (130, 1, .iaload, 0, 0, 0, .null), (131, 3, .invokevirtual 351, 0, 0, 0, .null), 
  (134, 1, .iastore, 0, 0, 0, .null), (135, 1, .aload_n 0, 0, 0, 0, .null), (136, 3, .getfield 16, 11, 2, 862, .null), (139, 1, .iload_n 1, 1, 0, 0, .null), 
  (140, 1, .aload_n 0, 0, 0, 0, .null), (141, 1, .aload_n 0, 0, 0, 0, .null), (142, 3, .getfield 16, 11, 2, 862, .null), (145, 1, .iload_n 1, 1, 0, 0, .null), 
  (146, 1, .iaload, 0, 0, 0, .null), (147, 3, .invokevirtual 351, 0, 0, 0, .null), (150, 1, .iastore, 0, 0, 0, .null), (151, 1, .aload_n 0, 0, 0, 0, .null), 
  (152, 3, .getfield 22, 11, 6, 866, .null), (155, 1, .iload_n 1, 1, 0, 0, .null), (156, 1, .aload_n 0, 0, 0, 0, .null), (157, 1, .aload_n 0, 0, 0, 0, .null), 
  (158, 3, .getfield 22, 11, 6, 866, .null), (161, 1, .iload_n 1, 1, 0, 0, .null), (162, 1, .iaload, 0, 0, 0, .null), (163, 3, .invokevirtual 351, 0, 0, 0, .null), 
  (166, 1, .iastore, 0, 0, 0, .null), (167, 1, .aload_n 0, 0, 0, 0, .null), (168, 3, .getfield 25, 11, 7, 867, .null), (171, 1, .iload_n 1, 1, 0, 0, .null), 
  (172, 1, .aload_n 0, 0, 0, 0, .null), (173, 1, .aload_n 0, 0, 0, 0, .null), (174, 3, .getfield 25, 11, 7, 867, .null), (177, 1, .iload_n 1, 1, 0, 0, .null), 
  (178, 1, .iaload, 0, 0, 0, .null), (179, 3, .invokevirtual 351, 0, 0, 0, .null), (182, 1, .iastore, 0, 0, 0, .null), (183, 1, .aload_n 0, 0, 0, 0, .null), 
  (184, 3, .getfield 28, 11, 8, 868, .null), (187, 1, .iload_n 1, 1, 0, 0, .null), (188, 1, .aload_n 0, 0, 0, 0, .null), (189, 1, .aload_n 0, 0, 0, 0, .null), 
  (190, 3, .getfield 28, 11, 8, 868, .null), (193, 1, .iload_n 1, 1, 0, 0, .null), (194, 1, .iaload, 0, 0, 0, .null), (195, 3, .invokevirtual 351, 0, 0, 0, .null), 
  (198, 1, .iastore, 0, 0, 0, .null), (199, 3, .iinc 1 1, 1, 0, 0, .int 1), (202, 3, .goto (-104), 98, 0, 0, .null), (205, 1, .iconst 0, 0, 0, 0, .int 0), 
  (206, 1, .istore_n 1, 1, 0, 0, .null), (207, 1, .iload_n 1, 1, 0, 0, .null), (208, 1, .iconst 3, 0, 0, 0, .int 3), (209, 3, .if_icmp .ge 41, 250, 0, 0, .null), 
  (212, 1, .aload_n 0, 0, 0, 0, .null), (213, 3, .getfield 19, 11, 3, 863, .null), (216, 1, .iload_n 1, 1, 0, 0, .null), (217, 1, .aload_n 0, 0, 0, 0, .null), 
  (218, 1, .aload_n 0, 0, 0, 0, .null), (219, 3, .getfield 19, 11, 3, 863, .null), (222, 1, .iload_n 1, 1, 0, 0, .null), (223, 1, .iaload, 0, 0, 0, .null), 
  (224, 3, .invokevirtual 351, 0, 0, 0, .null), (227, 1, .iastore, 0, 0, 0, .null), (228, 1, .aload_n 0, 0, 0, 0, .null), (229, 3, .getfield 31, 11, 9, 869, .null), 
  (232, 1, .iload_n 1, 1, 0, 0, .null), (233, 1, .aload_n 0, 0, 0, 0, .null), (234, 1, .aload_n 0, 0, 0, 0, .null), (235, 3, .getfield 31, 11, 9, 869, .null), 
  (238, 1, .iload_n 1, 1, 0, 0, .null), (239, 1, .iaload, 0, 0, 0, .null), (240, 3, .invokevirtual 351, 0, 0, 0, .null), (243, 1, .iastore, 0, 0, 0, .null), 
  (244, 3, .iinc 1 1, 1, 0, 0, .int 1), (247, 3, .goto (-40), 207, 0, 0, .null), (250, 1, .iconst 0, 0, 0, 0, .int 0), (251, 1, .istore_n 1, 1, 0, 0, .null), 
  (252, 1, .iload_n 1, 1, 0, 0, .null), (253, 2, .bipush 40, 0, 0, 0, .int 40), (255, 3, .if_icmp .gt 25, 280, 0, 0, .null), (258, 1, .aload_n 0, 0, 0, 0, .null), 
  (259, 3, .getfield 92, 11, 38, 898, .null), (262, 1, .iload_n 1, 1, 0, 0, .null), (263, 1, .aload_n 0, 0, 0, 0, .null), (264, 1, .aload_n 0, 0, 0, 0, .null), 
  (265, 3, .getfield 92, 11, 38, 898, .null), (268, 1, .iload_n 1, 1, 0, 0, .null), (269, 1, .iaload, 0, 0, 0, .null), (270, 3, .invokevirtual 351, 0, 0, 0, .null), 
  (273, 1, .iastore, 0, 0, 0, .null), (274, 3, .iinc 1 1, 1, 0, 0, .int 1), (277, 3, .goto (-25), 252, 0, 0, .null), (280, 1, .aload_n 0, 0, 0, 0, .null), 
  (281, 3, .invokevirtual 140, 0, 0, 0, .null), (284, 1, .return_, 0, 0, 0, .null)]
theorem okX12_passAll : tX12_passAll.all (okI yX12_passAll.cls (decide (yX12_passAll.name = "<init>")) cX12_passAll) = true := by decide +kernel
def tX12_image : List CI := [
  (0, 1, .iload_n 1, 1, 0, 0, .null), (1, 1, .i2l, 0, 0, 0, .null), (2, 1, .lconst 0, 0, 0, 0, .long 0), (3, 1, .lconst 1, 0, 0, 0, .long 1), 
  (4, 3, .invokestatic 121, 0, 0, 0, .null), (7, 3, .ifCond .ne 6, 13, 0, 0, .null), (10, 2, .bipush (-2), 0, 0, 0, .int (-2)), (12, 1, .ireturn, 0, 0, 0, .null), 
  (13, 1, .aload_n 0, 0, 0, 0, .null), (14, 2, .bipush 100, 0, 0, 0, .int 100), (16, 1, .iload_n 1, 1, 0, 0, .null), (17, 1, .imul, 0, 0, 0, .null), 
  (18, 3, .putfield 348, 11, 42, 902, .int 0), (21, 1, .aload_n 0, 0, 0, 0, .null), (22, 1, .iconst 1, 0, 0, 0, .int 1), (23, 3, .putfield 344, 11, 43, 903, .long 0), 
  (26, 1, .aload_n 0, 0, 0, 0, .null), (27, 3, .invokevirtual 354, 0, 0, 0, .null), (30, 1, .aload_n 0, 0, 0, 0, .null), (31, 3, .getfield 98, 11, 41, 901, .null), 
  (34, 1, .iload_n 1, 1, 0, 0, .null), (35, 1, .iconst 1, 0, 0, 0, .int 1), (36, 1, .bastore, 0, 0, 0, .null), (37, 1, .iconst 1, 0, 0, 0, .int 1), 
  (38, 1, .ireturn, 0, 0, 0, .null)]
theorem okX12_image : tX12_image.all (okI yX12_image.cls (decide (yX12_image.name = "<init>")) cX12_image) = true := by decide +kernel
def tX12_restore : List CI := [
  (0, 1, .iload_n 1, 1, 0, 0, .null), (1, 1, .i2l, 0, 0, 0, .null), (2, 1, .lconst 0, 0, 0, 0, .long 0), (3, 1, .lconst 1, 0, 0, 0, .long 1), 
  (4, 3, .invokestatic 121, 0, 0, 0, .null), (7, 3, .ifCond .ne 6, 13, 0, 0, .null), (10, 2, .bipush (-2), 0, 0, 0, .int (-2)), (12, 1, .ireturn, 0, 0, 0, .null), 
  (13, 1, .aload_n 0, 0, 0, 0, .null), (14, 3, .getfield 98, 11, 41, 901, .null), (17, 1, .iload_n 1, 1, 0, 0, .null), (18, 1, .baload, 0, 0, 0, .null), 
  (19, 3, .ifCond .ne 6, 25, 0, 0, .null), (22, 2, .bipush (-3), 0, 0, 0, .int (-3)), (24, 1, .ireturn, 0, 0, 0, .null), (25, 1, .aload_n 0, 0, 0, 0, .null), 
  (26, 2, .bipush 100, 0, 0, 0, .int 100), (28, 1, .iload_n 1, 1, 0, 0, .null), (29, 1, .imul, 0, 0, 0, .null), (30, 3, .putfield 348, 11, 42, 902, .int 0), 
  (33, 1, .aload_n 0, 0, 0, 0, .null), (34, 1, .iconst 0, 0, 0, 0, .int 0), (35, 3, .putfield 344, 11, 43, 903, .long 0), (38, 1, .aload_n 0, 0, 0, 0, .null), 
  (39, 3, .invokevirtual 354, 0, 0, 0, .null), (42, 1, .iconst 1, 0, 0, 0, .int 1), (43, 1, .ireturn, 0, 0, 0, .null)]
theorem okX12_restore : tX12_restore.all (okI yX12_restore.cls (decide (yX12_restore.name = "<init>")) cX12_restore) = true := by decide +kernel
def tX12_told : List CI := [
  (0, 1, .iload_n 1, 1, 0, 0, .null), (1, 35, .tableswitch 72 0 4 #[35, 40, 45, 50, 67], 0, 0, 0, .null), (36, 1, .aload_n 0, 0, 0, 0, .null), 
  (37, 3, .getfield 125, 11, 13, 873, .null), (40, 1, .ireturn, 0, 0, 0, .null), (41, 1, .aload_n 0, 0, 0, 0, .null), (42, 3, .getfield 101, 11, 4, 864, .null), 
  (45, 1, .ireturn, 0, 0, 0, .null), (46, 1, .aload_n 0, 0, 0, 0, .null), (47, 3, .getfield 105, 11, 5, 865, .null), (50, 1, .ireturn, 0, 0, 0, .null), 
  (51, 1, .aload_n 0, 0, 0, 0, .null), (52, 3, .getfield 114, 11, 37, 897, .null), (55, 3, .ifCond .ne 8, 63, 0, 0, .null), (58, 2, .bipush (-6), 0, 0, 0, .int (-6)), 
  (60, 3, .goto 7, 67, 0, 0, .null), (63, 1, .aload_n 0, 0, 0, 0, .null), (64, 3, .getfield 309, 11, 39, 899, .null), (67, 1, .ireturn, 0, 0, 0, .null), 
  (68, 1, .aload_n 0, 0, 0, 0, .null), (69, 3, .getfield 108, 11, 10, 870, .null), (72, 1, .ireturn, 0, 0, 0, .null), (73, 2, .bipush (-2), 0, 0, 0, .int (-2)), 
  (75, 1, .ireturn, 0, 0, 0, .null)]
theorem okX12_told : tX12_told.all (okI yX12_told.cls (decide (yX12_told.name = "<init>")) cX12_told) = true := by decide +kernel
def tJ6_bitCount_0f7a4 : List CI := [
  (0, 1, .iload_n 0, 0, 0, 0, .null), (1, 1, .iload_n 0, 0, 0, 0, .null), (2, 1, .iconst 1, 0, 0, 0, .int 1), (3, 1, .iushr, 0, 0, 0, .null), 
  (4, 3, .ldc_w 265, 0, 0, 545, .int 1431655765), (7, 1, .iand, 0, 0, 0, .null), (8, 1, .isub, 0, 0, 0, .null), (9, 1, .istore_n 0, 0, 0, 0, .null), 
  (10, 1, .iload_n 0, 0, 0, 0, .null), (11, 3, .ldc_w 266, 0, 0, 546, .int 858993459), (14, 1, .iand, 0, 0, 0, .null), (15, 1, .iload_n 0, 0, 0, 0, .null), 
  (16, 1, .iconst 2, 0, 0, 0, .int 2), (17, 1, .iushr, 0, 0, 0, .null), (18, 3, .ldc_w 266, 0, 0, 546, .int 858993459), (21, 1, .iand, 0, 0, 0, .null), 
  (22, 1, .iadd, 0, 0, 0, .null), (23, 1, .istore_n 0, 0, 0, 0, .null), (24, 1, .iload_n 0, 0, 0, 0, .null), (25, 1, .iload_n 0, 0, 0, 0, .null), 
  (26, 1, .iconst 4, 0, 0, 0, .int 4), (27, 1, .iushr, 0, 0, 0, .null), (28, 1, .iadd, 0, 0, 0, .null), (29, 3, .ldc_w 267, 0, 0, 547, .int 252645135), 
  (32, 1, .iand, 0, 0, 0, .null), (33, 1, .istore_n 0, 0, 0, 0, .null), (34, 1, .iload_n 0, 0, 0, 0, .null), (35, 1, .iload_n 0, 0, 0, 0, .null), 
  (36, 2, .bipush 8, 0, 0, 0, .int 8), (38, 1, .iushr, 0, 0, 0, .null), (39, 1, .iadd, 0, 0, 0, .null), (40, 1, .istore_n 0, 0, 0, 0, .null), (41, 1, .iload_n 0, 0, 0, 0, .null), 
  (42, 1, .iload_n 0, 0, 0, 0, .null), (43, 2, .bipush 16, 0, 0, 0, .int 16), (45, 1, .iushr, 0, 0, 0, .null), (46, 1, .iadd, 0, 0, 0, .null), 
  (47, 1, .istore_n 0, 0, 0, 0, .null), (48, 1, .iload_n 0, 0, 0, 0, .null), (49, 2, .bipush 63, 0, 0, 0, .int 63), (51, 1, .iand, 0, 0, 0, .null), 
  (52, 1, .ireturn, 0, 0, 0, .null)]
theorem okJ6_bitCount_0f7a4 : tJ6_bitCount_0f7a4.all (okI yJ6_bitCount_0f7a4.cls (decide (yJ6_bitCount_0f7a4.name = "<init>")) cJ6_bitCount_0f7a4) = true := by decide +kernel
