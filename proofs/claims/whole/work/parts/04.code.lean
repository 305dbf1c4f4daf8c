def cd0 : List AE := [
  (0, .aload_n 0, 1, 0, 0, 0), (1, .invokespecial 3, 3, 1000, 0, 74), (4, .aload_n 0, 1, 0, 0, 0), (5, .bipush 20, 2, 0, 0, 0),
  (7, .newarray .int, 2, 0, 0, 0), (9, .putfield 9, 3, 0, 3, 107), (12, .aload_n 0, 1, 0, 0, 0), (13, .bipush 20, 2, 0, 0, 0),
  (15, .newarray .int, 2, 0, 0, 0), (17, .putfield 15, 3, 0, 4, 108), (20, .aload_n 0, 1, 0, 0, 0), (21, .bipush 20, 2, 0, 0, 0),
  (23, .newarray .int, 2, 0, 0, 0), (25, .putfield 18, 3, 0, 5, 109), (28, .aload_n 0, 1, 0, 0, 0), (29, .iconst 1, 1, 0, 0, 0),
  (30, .iconst 1, 1, 0, 0, 0), (31, .iconst 0, 1, 0, 0, 0), (32, .invokevirtual 21, 3, 3, 0, 75), (35, .return_, 1, 0, 0, 0)]
def mm0 : MT := (yX0_init, cX0_init, 1, none, 0, 2, 3, 65, 0, cd0)
def cd1 : List AE := [
  (0, .iload_n 0, 1, 0, 0, 0), (1, .iconst 1, 1, 0, 0, 0), (2, .if_icmp .lt 26, 3, 28, 0, 0), (5, .iload_n 0, 1, 0, 0, 0),
  (6, .iconst 5, 1, 0, 0, 0), (7, .if_icmp .gt 21, 3, 28, 0, 0), (10, .iload_n 1, 1, 0, 0, 0), (11, .iconst 1, 1, 0, 0, 0),
  (12, .if_icmp .lt 16, 3, 28, 0, 0), (15, .iload_n 1, 1, 0, 0, 0), (16, .iconst 5, 1, 0, 0, 0), (17, .if_icmp .gt 11, 3, 28, 0, 0),
  (20, .iload_n 0, 1, 0, 0, 0), (21, .iload_n 1, 1, 0, 0, 0), (22, .imul, 1, 0, 0, 0), (23, .bipush 20, 2, 0, 0, 0),
  (25, .if_icmp .le 5, 3, 30, 0, 0), (28, .iconst 0, 1, 0, 0, 0), (29, .ireturn, 1, 0, 0, 0), (30, .iload_n 2, 1, 0, 0, 0),
  (31, .ifCond .eq 17, 3, 48, 0, 0), (34, .iload_n 0, 1, 0, 0, 0), (35, .invokestatic 25, 3, 2, 0, 94), (38, .ifCond .eq 14, 3, 52, 0, 0),
  (41, .iload_n 1, 1, 0, 0, 0), (42, .invokestatic 25, 3, 2, 0, 94), (45, .ifCond .eq 7, 3, 52, 0, 0), (48, .iconst 1, 1, 0, 0, 0),
  (49, .goto 4, 3, 53, 0, 0), (52, .iconst 0, 1, 0, 0, 0), (53, .ireturn, 1, 0, 0, 0)]
def mm1 : MT := (yX0_canBe, cX0_canBe, 3, (some .boolean), 3, 0, 1, 20, 0, cd1)
def cd2 : List AE := [
  (0, .iload_n 0, 1, 0, 0, 0), (1, .iconst 1, 1, 0, 0, 0), (2, .iand, 1, 0, 0, 0), (3, .ifCond .ne 7, 3, 10, 0, 0),
  (6, .iconst 1, 1, 0, 0, 0), (7, .goto 4, 3, 11, 0, 0), (10, .iconst 0, 1, 0, 0, 0), (11, .ireturn, 1, 0, 0, 0)]
def mm2 : MT := (yX0_isEven, cX0_isEven, 1, (some .boolean), 1, 0, 0, 0, 0, cd2)
def cd3 : List AE := [
  (0, .aload_n 0, 1, 0, 0, 0), (1, .iload_n 1, 1, 0, 0, 0), (2, .putfield 29, 3, 0, 0, 98), (5, .aload_n 0, 1, 0, 0, 0),
  (6, .iload_n 2, 1, 0, 0, 0), (7, .putfield 33, 3, 0, 1, 102), (10, .aload_n 0, 1, 0, 0, 0), (11, .iload_n 3, 1, 0, 0, 0),
  (12, .putfield 36, 3, 0, 2, 104), (15, .iconst 0, 1, 0, 0, 0), (16, .istore 4, 2, 0, 0, 0), (18, .iload 4, 2, 0, 0, 0),
  (20, .bipush 20, 2, 0, 0, 0), (22, .if_icmp .ge 83, 3, 105, 0, 0), (25, .aload_n 0, 1, 0, 0, 0), (26, .getfield 9, 3, 0, 3, 107),
  (29, .iload 4, 2, 0, 0, 0), (31, .sipush 1023, 3, 0, 0, 0), (34, .iastore, 1, 0, 0, 0), (35, .aload_n 0, 1, 0, 0, 0),
  (36, .getfield 15, 3, 0, 4, 108), (39, .iload 4, 2, 0, 0, 0), (41, .aload_n 0, 1, 0, 0, 0), (42, .aload_n 0, 1, 0, 0, 0),
  (43, .iload 4, 2, 0, 0, 0), (45, .invokevirtual 40, 3, 12, 0, 79), (48, .aload_n 0, 1, 0, 0, 0), (49, .iload 4, 2, 0, 0, 0),
  (51, .invokevirtual 44, 3, 13, 0, 83), (54, .invokevirtual 47, 3, 4, 0, 87), (57, .iastore, 1, 0, 0, 0), (58, .aload_n 0, 1, 0, 0, 0),
  (59, .getfield 18, 3, 0, 5, 109), (62, .iload 4, 2, 0, 0, 0), (64, .aload_n 0, 1, 0, 0, 0), (65, .getfield 36, 3, 0, 2, 104),
  (68, .ifCond .eq 29, 3, 97, 0, 0), (71, .aload_n 0, 1, 0, 0, 0), (72, .getfield 15, 3, 0, 4, 108), (75, .iload 4, 2, 0, 0, 0),
  (77, .iaload, 1, 0, 0, 0), (78, .aload_n 0, 1, 0, 0, 0), (79, .iload 4, 2, 0, 0, 0), (81, .invokevirtual 40, 3, 12, 0, 79),
  (84, .aload_n 0, 1, 0, 0, 0), (85, .iload 4, 2, 0, 0, 0), (87, .invokevirtual 44, 3, 13, 0, 83), (90, .invokestatic 51, 3, 5, 0, 91),
  (93, .iand, 1, 0, 0, 0), (94, .goto 4, 3, 98, 0, 0), (97, .iconst 0, 1, 0, 0, 0), (98, .iastore, 1, 0, 0, 0),
  (99, .iinc 4 1, 3, 0, 0, 0), (102, .goto (-84), 3, 18, 0, 0), (105, .return_, 1, 0, 0, 0)]
def mm3 : MT := (yX0_renew, cX0_renew, 5, none, 3, 1, 2, 41, 0, cd3)
def cd4 : List AE := [
  (0, .iconst 0, 1, 0, 0, 0), (1, .istore_n 3, 1, 0, 0, 0), (2, .iload_n 2, 1, 0, 0, 0), (3, .ifCond .ne 7, 3, 10, 0, 0),
  (6, .iload_n 3, 1, 0, 0, 0), (7, .iconst 1, 1, 0, 0, 0), (8, .ior, 1, 0, 0, 0), (9, .istore_n 3, 1, 0, 0, 0),
  (10, .iload_n 1, 1, 0, 0, 0), (11, .aload_n 0, 1, 0, 0, 0), (12, .getfield 29, 3, 0, 0, 98), (15, .iconst 1, 1, 0, 0, 0),
  (16, .isub, 1, 0, 0, 0), (17, .if_icmp .ne 7, 3, 24, 0, 0), (20, .iload_n 3, 1, 0, 0, 0), (21, .iconst 2, 1, 0, 0, 0),
  (22, .ior, 1, 0, 0, 0), (23, .istore_n 3, 1, 0, 0, 0), (24, .iload_n 2, 1, 0, 0, 0), (25, .aload_n 0, 1, 0, 0, 0),
  (26, .getfield 33, 3, 0, 1, 102), (29, .iconst 1, 1, 0, 0, 0), (30, .isub, 1, 0, 0, 0), (31, .if_icmp .ne 7, 3, 38, 0, 0),
  (34, .iload_n 3, 1, 0, 0, 0), (35, .iconst 4, 1, 0, 0, 0), (36, .ior, 1, 0, 0, 0), (37, .istore_n 3, 1, 0, 0, 0),
  (38, .iload_n 1, 1, 0, 0, 0), (39, .ifCond .ne 8, 3, 47, 0, 0), (42, .iload_n 3, 1, 0, 0, 0), (43, .bipush 8, 2, 0, 0, 0),
  (45, .ior, 1, 0, 0, 0), (46, .istore_n 3, 1, 0, 0, 0), (47, .iload_n 3, 1, 0, 0, 0), (48, .ireturn, 1, 0, 0, 0)]
def mm4 : MT := (yX0_edgesAt, cX0_edgesAt, 4, (some .int), 2, 1, 0, 0, 0, cd4)
def cd5 : List AE := [
  (0, .iload_n 0, 1, 0, 0, 0), (1, .invokestatic 25, 3, 2, 0, 94), (4, .ifCond .eq 7, 3, 11, 0, 0), (7, .iconst 5, 1, 0, 0, 0),
  (8, .goto 4, 3, 12, 0, 0), (11, .iconst 0, 1, 0, 0, 0), (12, .iload_n 1, 1, 0, 0, 0), (13, .invokestatic 25, 3, 2, 0, 94),
  (16, .ifCond .eq 8, 3, 24, 0, 0), (19, .bipush 10, 2, 0, 0, 0), (21, .goto 4, 3, 25, 0, 0), (24, .iconst 0, 1, 0, 0, 0),
  (25, .ior, 1, 0, 0, 0), (26, .ireturn, 1, 0, 0, 0)]
def mm5 : MT := (yX0_firstOfTwo, cX0_firstOfTwo, 2, (some .int), 2, 0, 1, 20, 0, cd5)
def cd6 : List AE := [
  (0, .aload_n 0, 1, 0, 0, 0), (1, .getfield 29, 3, 0, 0, 98), (4, .aload_n 0, 1, 0, 0, 0), (5, .getfield 33, 3, 0, 1, 102),
  (8, .imul, 1, 0, 0, 0), (9, .ireturn, 1, 0, 0, 0)]
def mm6 : MT := (yX0_cells, cX0_cells, 1, (some .int), 0, 1, 0, 0, 0, cd6)
def cd7 : List AE := [
  (0, .iload_n 1, 1, 0, 0, 0), (1, .ifCond .lt 26, 3, 27, 0, 0), (4, .iload_n 1, 1, 0, 0, 0), (5, .aload_n 0, 1, 0, 0, 0),
  (6, .getfield 29, 3, 0, 0, 98), (9, .aload_n 0, 1, 0, 0, 0), (10, .getfield 33, 3, 0, 1, 102), (13, .imul, 1, 0, 0, 0),
  (14, .if_icmp .ge 13, 3, 27, 0, 0), (17, .iload_n 1, 1, 0, 0, 0), (18, .bipush 20, 2, 0, 0, 0), (20, .if_icmp .ge 7, 3, 27, 0, 0),
  (23, .iconst 1, 1, 0, 0, 0), (24, .goto 4, 3, 28, 0, 0), (27, .iconst 0, 1, 0, 0, 0), (28, .ireturn, 1, 0, 0, 0)]
def mm7 : MT := (yX0_has, cX0_has, 2, (some .boolean), 1, 1, 0, 0, 0, cd7)
def cd8 : List AE := [
  (0, .aload_n 0, 1, 0, 0, 0), (1, .iload_n 1, 1, 0, 0, 0), (2, .invokevirtual 54, 3, 7, 0, 283), (5, .ifCond .eq 12, 3, 17, 0, 0),
  (8, .aload_n 0, 1, 0, 0, 0), (9, .getfield 15, 3, 0, 4, 108), (12, .iload_n 1, 1, 0, 0, 0), (13, .iaload, 1, 0, 0, 0),
  (14, .goto 4, 3, 18, 0, 0), (17, .iconst 0, 1, 0, 0, 0), (18, .ireturn, 1, 0, 0, 0)]
def mm8 : MT := (yX0_edgesOf, cX0_edgesOf, 2, (some .int), 1, 1, 1, 21, 0, cd8)
def cd9 : List AE := [
  (0, .aload_n 0, 1, 0, 0, 0), (1, .iload_n 1, 1, 0, 0, 0), (2, .invokevirtual 54, 3, 7, 0, 283), (5, .ifCond .eq 12, 3, 17, 0, 0),
  (8, .aload_n 0, 1, 0, 0, 0), (9, .getfield 18, 3, 0, 5, 109), (12, .iload_n 1, 1, 0, 0, 0), (13, .iaload, 1, 0, 0, 0),
  (14, .goto 4, 3, 18, 0, 0), (17, .iconst 0, 1, 0, 0, 0), (18, .ireturn, 1, 0, 0, 0)]
def mm9 : MT := (yX0_firstEndsOf, cX0_firstEndsOf, 2, (some .int), 1, 1, 1, 21, 0, cd9)
def cd10 : List AE := [
  (0, .aload_n 0, 1, 0, 0, 0), (1, .getfield 36, 3, 0, 2, 104), (4, .ifCond .eq 29, 3, 33, 0, 0), (7, .aload_n 0, 1, 0, 0, 0),
  (8, .iload_n 1, 1, 0, 0, 0), (9, .invokevirtual 54, 3, 7, 0, 283), (12, .ifCond .eq 21, 3, 33, 0, 0), (15, .aload_n 0, 1, 0, 0, 0),
  (16, .getfield 15, 3, 0, 4, 108), (19, .iload_n 1, 1, 0, 0, 0), (20, .iaload, 1, 0, 0, 0), (21, .aload_n 0, 1, 0, 0, 0),
  (22, .getfield 18, 3, 0, 5, 109), (25, .iload_n 1, 1, 0, 0, 0), (26, .iaload, 1, 0, 0, 0), (27, .iconst (-1), 1, 0, 0, 0),
  (28, .ixor, 1, 0, 0, 0), (29, .iand, 1, 0, 0, 0), (30, .goto 4, 3, 34, 0, 0), (33, .iconst 0, 1, 0, 0, 0),
  (34, .ireturn, 1, 0, 0, 0)]
def mm10 : MT := (yX0_secondEndsOf, cX0_secondEndsOf, 2, (some .int), 1, 1, 1, 21, 0, cd10)
def cd11 : List AE := [
  (0, .iload_n 1, 1, 0, 0, 0), (1, .ifCond .lt 23, 3, 24, 0, 0), (4, .iload_n 1, 1, 0, 0, 0), (5, .aload_n 0, 1, 0, 0, 0),
  (6, .getfield 29, 3, 0, 0, 98), (9, .if_icmp .ge 15, 3, 24, 0, 0), (12, .iload_n 2, 1, 0, 0, 0), (13, .ifCond .lt 11, 3, 24, 0, 0),
  (16, .iload_n 2, 1, 0, 0, 0), (17, .aload_n 0, 1, 0, 0, 0), (18, .getfield 33, 3, 0, 1, 102), (21, .if_icmp .lt 5, 3, 26, 0, 0),
  (24, .iconst (-1), 1, 0, 0, 0), (25, .ireturn, 1, 0, 0, 0), (26, .iload_n 1, 1, 0, 0, 0), (27, .aload_n 0, 1, 0, 0, 0),
  (28, .getfield 29, 3, 0, 0, 98), (31, .iload_n 2, 1, 0, 0, 0), (32, .imul, 1, 0, 0, 0), (33, .iadd, 1, 0, 0, 0),
  (34, .ireturn, 1, 0, 0, 0)]
def mm11 : MT := (yX0_cellAt, cX0_cellAt, 3, (some .int), 2, 1, 0, 0, 0, cd11)
def cd12 : List AE := [
  (0, .aload_n 0, 1, 0, 0, 0), (1, .getfield 29, 3, 0, 0, 98), (4, .ifCond .le 12, 3, 16, 0, 0), (7, .iload_n 1, 1, 0, 0, 0),
  (8, .aload_n 0, 1, 0, 0, 0), (9, .getfield 29, 3, 0, 0, 98), (12, .irem, 1, 0, 0, 0), (13, .goto 4, 3, 17, 0, 0),
  (16, .iconst 0, 1, 0, 0, 0), (17, .ireturn, 1, 0, 0, 0)]
def mm12 : MT := (yX0_column, cX0_column, 2, (some .int), 1, 1, 0, 0, 0, cd12)
def cd13 : List AE := [
  (0, .aload_n 0, 1, 0, 0, 0), (1, .getfield 29, 3, 0, 0, 98), (4, .ifCond .le 12, 3, 16, 0, 0), (7, .iload_n 1, 1, 0, 0, 0),
  (8, .aload_n 0, 1, 0, 0, 0), (9, .getfield 29, 3, 0, 0, 98), (12, .idiv, 1, 0, 0, 0), (13, .goto 4, 3, 17, 0, 0),
  (16, .iconst 0, 1, 0, 0, 0), (17, .ireturn, 1, 0, 0, 0)]
def mm13 : MT := (yX0_row, cX0_row, 2, (some .int), 1, 1, 0, 0, 0, cd13)
def cd14 : List AE := [
  (0, .iload_n 2, 1, 0, 0, 0), (1, .sipush 1023, 3, 0, 0, 0), (4, .iand, 1, 0, 0, 0), (5, .istore_n 3, 1, 0, 0, 0),
  (6, .aload_n 0, 1, 0, 0, 0), (7, .iload_n 1, 1, 0, 0, 0), (8, .invokevirtual 54, 3, 7, 0, 283), (11, .ifCond .eq 13, 3, 24, 0, 0),
  (14, .aload_n 0, 1, 0, 0, 0), (15, .getfield 9, 3, 0, 3, 107), (18, .iload_n 1, 1, 0, 0, 0), (19, .iaload, 1, 0, 0, 0),
  (20, .iload_n 3, 1, 0, 0, 0), (21, .if_icmp .ne 5, 3, 26, 0, 0), (24, .iconst 0, 1, 0, 0, 0), (25, .ireturn, 1, 0, 0, 0),
  (26, .aload_n 0, 1, 0, 0, 0), (27, .getfield 9, 3, 0, 3, 107), (30, .iload_n 1, 1, 0, 0, 0), (31, .iload_n 3, 1, 0, 0, 0),
  (32, .iastore, 1, 0, 0, 0), (33, .iconst 1, 1, 0, 0, 0), (34, .ireturn, 1, 0, 0, 0)]
def mm14 : MT := (yX0_permit, cX0_permit, 4, (some .boolean), 2, 1, 1, 21, 0, cd14)
def cd15 : List AE := [
  (0, .aload_n 0, 1, 0, 0, 0), (1, .iload_n 1, 1, 0, 0, 0), (2, .invokevirtual 54, 3, 7, 0, 283), (5, .ifCond .eq 12, 3, 17, 0, 0),
  (8, .aload_n 0, 1, 0, 0, 0), (9, .getfield 9, 3, 0, 3, 107), (12, .iload_n 1, 1, 0, 0, 0), (13, .iaload, 1, 0, 0, 0),
  (14, .goto 4, 3, 18, 0, 0), (17, .iconst 0, 1, 0, 0, 0), (18, .ireturn, 1, 0, 0, 0)]
def mm15 : MT := (yX0_permitted, cX0_permitted, 2, (some .int), 1, 1, 1, 21, 0, cd15)
def cd16 : List AE := [
  (0, .iload_n 2, 1, 0, 0, 0), (1, .invokestatic 57, 3, 103, 1, 3), (4, .ifCond .eq 20, 3, 24, 0, 0), (7, .aload_n 0, 1, 0, 0, 0),
  (8, .iload_n 1, 1, 0, 0, 0), (9, .invokevirtual 60, 3, 15, 0, 469), (12, .iload_n 2, 1, 0, 0, 0), (13, .ishr, 1, 0, 0, 0),
  (14, .iconst 1, 1, 0, 0, 0), (15, .iand, 1, 0, 0, 0), (16, .iconst 1, 1, 0, 0, 0), (17, .if_icmp .ne 7, 3, 24, 0, 0),
  (20, .iconst 1, 1, 0, 0, 0), (21, .goto 4, 3, 25, 0, 0), (24, .iconst 0, 1, 0, 0, 0), (25, .ireturn, 1, 0, 0, 0)]
def mm16 : MT := (yX0_permits, cX0_permits, 3, (some .boolean), 2, 1, 2, 42, 0, cd16)
def cd17 : List AE := [
  (0, .aload_n 0, 1, 0, 0, 0), (1, .iload_n 1, 1, 0, 0, 0), (2, .invokevirtual 63, 3, 8, 0, 617), (5, .iload_n 2, 1, 0, 0, 0),
  (6, .ishr, 1, 0, 0, 0), (7, .iconst 1, 1, 0, 0, 0), (8, .iand, 1, 0, 0, 0), (9, .iconst 1, 1, 0, 0, 0),
  (10, .if_icmp .ne 7, 3, 17, 0, 0), (13, .iconst 1, 1, 0, 0, 0), (14, .goto 4, 3, 18, 0, 0), (17, .iconst 0, 1, 0, 0, 0),
  (18, .ireturn, 1, 0, 0, 0)]
def mm17 : MT := (yX0_atBorder, cX0_atBorder, 3, (some .boolean), 2, 1, 2, 42, 0, cd17)
def cd18 : List AE := [
  (0, .aload_n 0, 1, 0, 0, 0), (1, .iload_n 1, 1, 0, 0, 0), (2, .invokevirtual 40, 3, 12, 0, 79), (5, .istore_n 3, 1, 0, 0, 0),
  (6, .aload_n 0, 1, 0, 0, 0), (7, .iload_n 1, 1, 0, 0, 0), (8, .invokevirtual 44, 3, 13, 0, 83), (11, .istore 4, 2, 0, 0, 0),
  (13, .iload_n 2, 1, 0, 0, 0), (14, .ifCond .eq 8, 3, 22, 0, 0), (17, .iload_n 2, 1, 0, 0, 0), (18, .iconst 2, 1, 0, 0, 0),
  (19, .if_icmp .ne 7, 3, 26, 0, 0), (22, .iconst 1, 1, 0, 0, 0), (23, .goto 4, 3, 27, 0, 0), (26, .iconst 0, 1, 0, 0, 0),
  (27, .istore 5, 2, 0, 0, 0), (29, .aload_n 0, 1, 0, 0, 0), (30, .iload_n 1, 1, 0, 0, 0), (31, .iload_n 2, 1, 0, 0, 0),
  (32, .invokevirtual 66, 3, 17, 0, 625), (35, .ifCond .eq 30, 3, 65, 0, 0), (38, .iload 5, 2, 0, 0, 0), (40, .ifCond .eq 15, 3, 55, 0, 0),
  (43, .aload_n 0, 1, 0, 0, 0), (44, .iload_n 3, 1, 0, 0, 0), (45, .iconst 1, 1, 0, 0, 0), (46, .ixor, 1, 0, 0, 0),
  (47, .iload 4, 2, 0, 0, 0), (49, .invokevirtual 70, 3, 11, 0, 626), (52, .goto 12, 3, 64, 0, 0), (55, .aload_n 0, 1, 0, 0, 0),
  (56, .iload_n 3, 1, 0, 0, 0), (57, .iload 4, 2, 0, 0, 0), (59, .iconst 1, 1, 0, 0, 0), (60, .ixor, 1, 0, 0, 0),
  (61, .invokevirtual 70, 3, 11, 0, 626), (64, .ireturn, 1, 0, 0, 0), (65, .iload_n 2, 1, 0, 0, 0), (66, .iconst 1, 1, 0, 0, 0),
  (67, .if_icmp .eq 8, 3, 75, 0, 0), (70, .iload_n 2, 1, 0, 0, 0), (71, .iconst 2, 1, 0, 0, 0), (72, .if_icmp .ne 7, 3, 79, 0, 0),
  (75, .iconst 1, 1, 0, 0, 0), (76, .goto 4, 3, 80, 0, 0), (79, .iconst (-1), 1, 0, 0, 0), (80, .istore 6, 2, 0, 0, 0),
  (82, .iload 5, 2, 0, 0, 0), (84, .ifCond .eq 16, 3, 100, 0, 0), (87, .aload_n 0, 1, 0, 0, 0), (88, .iload_n 3, 1, 0, 0, 0),
  (89, .iload 4, 2, 0, 0, 0), (91, .iload 6, 2, 0, 0, 0), (93, .iadd, 1, 0, 0, 0), (94, .invokevirtual 70, 3, 11, 0, 626),
  (97, .goto 13, 3, 110, 0, 0), (100, .aload_n 0, 1, 0, 0, 0), (101, .iload_n 3, 1, 0, 0, 0), (102, .iload 6, 2, 0, 0, 0),
  (104, .iadd, 1, 0, 0, 0), (105, .iload 4, 2, 0, 0, 0), (107, .invokevirtual 70, 3, 11, 0, 626), (110, .ireturn, 1, 0, 0, 0)]
def mm18 : MT := (yX0_beyond, cX0_beyond, 7, (some .int), 2, 1, 3, 64, 0, cd18)
def cd19 : List AE := [
  (0, .aload_n 0, 1, 0, 0, 0), (1, .invokespecial 3, 3, 1000, 0, 129), (4, .aload_n 0, 1, 0, 0, 0), (5, .bipush 6, 2, 0, 0, 0),
  (7, .newarray .int, 2, 0, 0, 0), (9, .putfield 11, 3, 1, 1, 139), (12, .aload_n 0, 1, 0, 0, 0), (13, .aload_n 1, 1, 0, 0, 0),
  (14, .putfield 15, 3, 1, 0, 138), (17, .aload_n 0, 1, 0, 0, 0), (18, .invokevirtual 19, 3, 21, 0, 130), (21, .return_, 1, 0, 0, 0)]
def mm19 : MT := (yX1_init, cX1_init, 2, none, 1, 2, 2, 42, 1, cd19)
def cd20 : List AE := [
  (0, .iload_n 0, 1, 0, 0, 0), (1, .ifCond .lt 9, 3, 10, 0, 0), (4, .iload_n 0, 1, 0, 0, 0), (5, .bipush 6, 2, 0, 0, 0),
  (7, .if_icmp .le 8, 3, 15, 0, 0), (10, .bipush 76, 2, 0, 0, 0), (12, .goto 8, 3, 20, 0, 0), (15, .getstatic 22, 3, 3, 0, 417),
  (18, .iload_n 0, 1, 0, 0, 0), (19, .iaload, 1, 0, 0, 0), (20, .ireturn, 1, 0, 0, 0)]
def mm20 : MT := (yX1_joinings, cX1_joinings, 1, (some .int), 1, 0, 0, 0, 1, cd20)
def cd21 : List AE := [
  (0, .aload_n 0, 1, 0, 0, 0), (1, .iconst 0, 1, 0, 0, 0), (2, .invokevirtual 25, 3, 23, 0, 134), (5, .return_, 1, 0, 0, 0)]
def mm21 : MT := (yX1_clear, cX1_clear, 1, none, 0, 1, 1, 22, 1, cd21)
def cd22 : List AE := [
  (0, .iconst 0, 1, 0, 0, 0), (1, .istore_n 1, 1, 0, 0, 0), (2, .iconst 5, 1, 0, 0, 0), (3, .istore_n 2, 1, 0, 0, 0),
  (4, .iload_n 2, 1, 0, 0, 0), (5, .ifCond .lt 22, 3, 27, 0, 0), (8, .iload_n 1, 1, 0, 0, 0), (9, .iconst 3, 1, 0, 0, 0),
  (10, .ishl, 1, 0, 0, 0), (11, .aload_n 0, 1, 0, 0, 0), (12, .getfield 11, 3, 1, 1, 139), (15, .iload_n 2, 1, 0, 0, 0),
  (16, .iaload, 1, 0, 0, 0), (17, .iconst 1, 1, 0, 0, 0), (18, .iadd, 1, 0, 0, 0), (19, .ior, 1, 0, 0, 0),
  (20, .istore_n 1, 1, 0, 0, 0), (21, .iinc 2 (-1), 3, 0, 0, 0), (24, .goto (-20), 3, 4, 0, 0), (27, .iload_n 1, 1, 0, 0, 0),
  (28, .ireturn, 1, 0, 0, 0)]
def mm22 : MT := (yX1_pack, cX1_pack, 3, (some .int), 0, 1, 0, 0, 1, cd22)
def cd23 : List AE := [
  (0, .iconst 0, 1, 0, 0, 0), (1, .istore_n 2, 1, 0, 0, 0), (2, .iload_n 2, 1, 0, 0, 0), (3, .bipush 6, 2, 0, 0, 0),
  (5, .if_icmp .ge 25, 3, 30, 0, 0), (8, .aload_n 0, 1, 0, 0, 0), (9, .getfield 11, 3, 1, 1, 139), (12, .iload_n 2, 1, 0, 0, 0),
  (13, .iload_n 1, 1, 0, 0, 0), (14, .iconst 3, 1, 0, 0, 0), (15, .iload_n 2, 1, 0, 0, 0), (16, .imul, 1, 0, 0, 0),
  (17, .ishr, 1, 0, 0, 0), (18, .bipush 7, 2, 0, 0, 0), (20, .iand, 1, 0, 0, 0), (21, .iconst 1, 1, 0, 0, 0),
  (22, .isub, 1, 0, 0, 0), (23, .iastore, 1, 0, 0, 0), (24, .iinc 2 1, 3, 0, 0, 0), (27, .goto (-25), 3, 2, 0, 0),
  (30, .return_, 1, 0, 0, 0)]
def mm23 : MT := (yX1_unpack, cX1_unpack, 3, none, 1, 1, 0, 0, 1, cd23)
def cd24 : List AE := [
  (0, .iconst 0, 1, 0, 0, 0), (1, .istore_n 1, 1, 0, 0, 0), (2, .iconst 0, 1, 0, 0, 0), (3, .istore_n 2, 1, 0, 0, 0),
  (4, .bipush 6, 2, 0, 0, 0), (6, .istore_n 3, 1, 0, 0, 0), (7, .iconst 5, 1, 0, 0, 0), (8, .istore 4, 2, 0, 0, 0),
  (10, .iload 4, 2, 0, 0, 0), (12, .ifCond .lt 82, 3, 94, 0, 0), (15, .iload_n 2, 1, 0, 0, 0), (16, .iload 4, 2, 0, 0, 0),
  (18, .ishr, 1, 0, 0, 0), (19, .iconst 1, 1, 0, 0, 0), (20, .iand, 1, 0, 0, 0), (21, .iconst 1, 1, 0, 0, 0),
  (22, .if_icmp .ne 6, 3, 28, 0, 0), (25, .goto 63, 3, 88, 0, 0), (28, .aload_n 0, 1, 0, 0, 0), (29, .iload 4, 2, 0, 0, 0),
  (31, .invokevirtual 29, 3, 25, 0, 356), (34, .istore 5, 2, 0, 0, 0), (36, .iinc 3 (-1), 3, 0, 0, 0), (39, .iload 5, 2, 0, 0, 0),
  (41, .iconst (-1), 1, 0, 0, 0), (42, .if_icmp .eq 46, 3, 88, 0, 0), (45, .iload 5, 2, 0, 0, 0), (47, .iload_n 2, 1, 0, 0, 0),
  (48, .iconst 1, 1, 0, 0, 0), (49, .iload 5, 2, 0, 0, 0), (51, .ishl, 1, 0, 0, 0), (52, .iconst 1, 1, 0, 0, 0),
  (53, .isub, 1, 0, 0, 0), (54, .iand, 1, 0, 0, 0), (55, .invokestatic 33, 3, 143, 0, 408), (58, .isub, 1, 0, 0, 0),
  (59, .istore 6, 2, 0, 0, 0), (61, .iload_n 1, 1, 0, 0, 0), (62, .iload_n 3, 1, 0, 0, 0), (63, .invokestatic 38, 3, 20, 0, 414),
  (66, .iload 6, 2, 0, 0, 0), (68, .iload_n 3, 1, 0, 0, 0), (69, .iconst 1, 1, 0, 0, 0), (70, .isub, 1, 0, 0, 0),
  (71, .invokestatic 38, 3, 20, 0, 414), (74, .imul, 1, 0, 0, 0), (75, .iadd, 1, 0, 0, 0), (76, .iadd, 1, 0, 0, 0),
  (77, .istore_n 1, 1, 0, 0, 0), (78, .iload_n 2, 1, 0, 0, 0), (79, .iconst 1, 1, 0, 0, 0), (80, .iload 5, 2, 0, 0, 0),
  (82, .ishl, 1, 0, 0, 0), (83, .ior, 1, 0, 0, 0), (84, .istore_n 2, 1, 0, 0, 0), (85, .iinc 3 (-1), 3, 0, 0, 0),
  (88, .iinc 4 (-1), 3, 0, 0, 0), (91, .goto (-81), 3, 10, 0, 0), (94, .iload_n 1, 1, 0, 0, 0), (95, .ireturn, 1, 0, 0, 0)]
def mm24 : MT := (yX1_number, cX1_number, 7, (some .int), 0, 1, 1, 21, 1, cd24)
def cd25 : List AE := [
  (0, .iload_n 1, 1, 0, 0, 0), (1, .ifCond .lt 18, 3, 19, 0, 0), (4, .iload_n 1, 1, 0, 0, 0), (5, .bipush 6, 2, 0, 0, 0),
  (7, .if_icmp .ge 12, 3, 19, 0, 0), (10, .aload_n 0, 1, 0, 0, 0), (11, .getfield 11, 3, 1, 1, 139), (14, .iload_n 1, 1, 0, 0, 0),
  (15, .iaload, 1, 0, 0, 0), (16, .goto 4, 3, 20, 0, 0), (19, .iconst (-1), 1, 0, 0, 0), (20, .ireturn, 1, 0, 0, 0)]
def mm25 : MT := (yX1_mateOf, cX1_mateOf, 2, (some .int), 1, 1, 0, 0, 1, cd25)
def cd26 : List AE := [
  (0, .aload_n 0, 1, 0, 0, 0), (1, .iload_n 1, 1, 0, 0, 0), (2, .invokevirtual 29, 3, 25, 0, 356), (5, .iconst (-1), 1, 0, 0, 0),
  (6, .if_icmp .eq 7, 3, 13, 0, 0), (9, .iconst 1, 1, 0, 0, 0), (10, .goto 4, 3, 14, 0, 0), (13, .iconst 0, 1, 0, 0, 0),
  (14, .ireturn, 1, 0, 0, 0)]
def mm26 : MT := (yX1_leadsOn, cX1_leadsOn, 2, (some .boolean), 1, 1, 1, 21, 1, cd26)
def cd27 : List AE := [
  (0, .iload_n 1, 1, 0, 0, 0), (1, .ifCond .lt 33, 3, 34, 0, 0), (4, .iload_n 1, 1, 0, 0, 0), (5, .bipush 6, 2, 0, 0, 0),
  (7, .if_icmp .ge 27, 3, 34, 0, 0), (10, .iload_n 2, 1, 0, 0, 0), (11, .ifCond .lt 23, 3, 34, 0, 0), (14, .iload_n 2, 1, 0, 0, 0),
  (15, .bipush 6, 2, 0, 0, 0), (17, .if_icmp .ge 17, 3, 34, 0, 0), (20, .aload_n 0, 1, 0, 0, 0), (21, .getfield 11, 3, 1, 1, 139),
  (24, .iload_n 1, 1, 0, 0, 0), (25, .iload_n 2, 1, 0, 0, 0), (26, .iastore, 1, 0, 0, 0), (27, .aload_n 0, 1, 0, 0, 0),
  (28, .getfield 11, 3, 1, 1, 139), (31, .iload_n 2, 1, 0, 0, 0), (32, .iload_n 1, 1, 0, 0, 0), (33, .iastore, 1, 0, 0, 0),
  (34, .return_, 1, 0, 0, 0)]
def mm27 : MT := (yX1_pair, cX1_pair, 3, none, 2, 1, 0, 0, 1, cd27)
def cd28 : List AE := [
  (0, .iload_n 1, 1, 0, 0, 0), (1, .ifCond .lt 16, 3, 17, 0, 0), (4, .iload_n 1, 1, 0, 0, 0), (5, .bipush 6, 2, 0, 0, 0),
  (7, .if_icmp .ge 10, 3, 17, 0, 0), (10, .aload_n 0, 1, 0, 0, 0), (11, .getfield 11, 3, 1, 1, 139), (14, .iload_n 1, 1, 0, 0, 0),
  (15, .iconst (-1), 1, 0, 0, 0), (16, .iastore, 1, 0, 0, 0), (17, .return_, 1, 0, 0, 0)]
def mm28 : MT := (yX1_empty, cX1_empty, 2, none, 1, 1, 0, 0, 1, cd28)
def cd29 : List AE := [
  (0, .aload_n 0, 1, 0, 0, 0), (1, .getfield 15, 3, 1, 0, 138), (4, .getfield 41, 3, 0, 2, 106), (7, .ifCond .eq 22, 3, 29, 0, 0),
  (10, .iload_n 1, 1, 0, 0, 0), (11, .invokestatic 47, 3, 2, 0, 365), (14, .ifCond .ne 15, 3, 29, 0, 0), (17, .aload_n 0, 1, 0, 0, 0),
  (18, .getfield 15, 3, 1, 0, 138), (21, .getfield 51, 3, 0, 0, 100), (24, .iconst 1, 1, 0, 0, 0), (25, .iadd, 1, 0, 0, 0),
  (26, .goto 10, 3, 36, 0, 0), (29, .aload_n 0, 1, 0, 0, 0), (30, .getfield 15, 3, 1, 0, 138), (33, .getfield 51, 3, 0, 0, 100),
  (36, .ireturn, 1, 0, 0, 0)]
def mm29 : MT := (yX1_lineSlot, cX1_lineSlot, 2, (some .int), 1, 1, 1, 20, 1, cd29)
def cd30 : List AE := [
  (0, .iload_n 2, 1, 0, 0, 0), (1, .invokestatic 55, 3, 103, 1, 1), (4, .ifCond .eq 26, 3, 30, 0, 0), (7, .getstatic 58, 3, 0, 1, 2),
  (10, .iload_n 2, 1, 0, 0, 0), (11, .iaload, 1, 0, 0, 0), (12, .aload_n 0, 1, 0, 0, 0), (13, .iload_n 1, 1, 0, 0, 0),
  (14, .invokevirtual 61, 3, 31, 0, 565), (17, .iand, 1, 0, 0, 0), (18, .aload_n 0, 1, 0, 0, 0), (19, .iload_n 1, 1, 0, 0, 0),
  (20, .invokevirtual 64, 3, 32, 0, 566), (23, .if_icmp .ne 7, 3, 30, 0, 0), (26, .iconst 1, 1, 0, 0, 0), (27, .goto 4, 3, 31, 0, 0),
  (30, .iconst 0, 1, 0, 0, 0), (31, .ireturn, 1, 0, 0, 0)]
def mm30 : MT := (yX1_agrees, cX1_agrees, 3, (some .boolean), 2, 1, 3, 66, 1, cd30)
def cd31 : List AE := [
  (0, .bipush 9, 2, 0, 0, 0), (2, .aload_n 0, 1, 0, 0, 0), (3, .getfield 15, 3, 1, 0, 138), (6, .iload_n 1, 1, 0, 0, 0),
  (7, .invokevirtual 67, 3, 8, 0, 335), (10, .ior, 1, 0, 0, 0), (11, .aload_n 0, 1, 0, 0, 0), (12, .getfield 15, 3, 1, 0, 138),
  (15, .iload_n 1, 1, 0, 0, 0), (16, .invokevirtual 70, 3, 9, 0, 339), (19, .iconst (-1), 1, 0, 0, 0), (20, .ixor, 1, 0, 0, 0),
  (21, .iand, 1, 0, 0, 0), (22, .ireturn, 1, 0, 0, 0)]
def mm31 : MT := (yX1_settledSides, cX1_settledSides, 2, (some .int), 1, 1, 2, 42, 1, cd31)
def cd32 : List AE := [
  (0, .aload_n 0, 1, 0, 0, 0), (1, .getfield 15, 3, 1, 0, 138), (4, .iload_n 1, 1, 0, 0, 0), (5, .invokevirtual 73, 3, 12, 0, 347),
  (8, .istore_n 2, 1, 0, 0, 0), (9, .aload_n 0, 1, 0, 0, 0), (10, .getfield 15, 3, 1, 0, 138), (13, .iload_n 1, 1, 0, 0, 0),
  (14, .invokevirtual 76, 3, 10, 0, 348), (17, .istore_n 3, 1, 0, 0, 0), (18, .iconst 0, 1, 0, 0, 0), (19, .istore 4, 2, 0, 0, 0),
  (21, .aload_n 0, 1, 0, 0, 0), (22, .iload_n 2, 1, 0, 0, 0), (23, .invokevirtual 79, 3, 26, 0, 352), (26, .ifCond .eq 9, 3, 35, 0, 0),
  (29, .iload 4, 2, 0, 0, 0), (31, .iconst 1, 1, 0, 0, 0), (32, .ior, 1, 0, 0, 0), (33, .istore 4, 2, 0, 0, 0),
  (35, .aload_n 0, 1, 0, 0, 0), (36, .aload_n 0, 1, 0, 0, 0), (37, .aload_n 0, 1, 0, 0, 0), (38, .getfield 15, 3, 1, 0, 138),
  (41, .iload_n 1, 1, 0, 0, 0), (42, .invokevirtual 82, 3, 13, 0, 360), (45, .invokevirtual 85, 3, 29, 0, 361), (48, .invokevirtual 79, 3, 26, 0, 352),
  (51, .ifCond .eq 10, 3, 61, 0, 0), (54, .iload 4, 2, 0, 0, 0), (56, .bipush 8, 2, 0, 0, 0), (58, .ior, 1, 0, 0, 0),
  (59, .istore 4, 2, 0, 0, 0), (61, .iload_n 3, 1, 0, 0, 0), (62, .iconst 2, 1, 0, 0, 0), (63, .iand, 1, 0, 0, 0),
  (64, .ifCond .eq 23, 3, 87, 0, 0), (67, .aload_n 0, 1, 0, 0, 0), (68, .aload_n 0, 1, 0, 0, 0), (69, .getfield 15, 3, 1, 0, 138),
  (72, .getfield 51, 3, 0, 0, 100), (75, .invokevirtual 79, 3, 26, 0, 352), (78, .ifCond .eq 9, 3, 87, 0, 0), (81, .iload 4, 2, 0, 0, 0),
  (83, .iconst 2, 1, 0, 0, 0), (84, .ior, 1, 0, 0, 0), (85, .istore 4, 2, 0, 0, 0), (87, .iload_n 3, 1, 0, 0, 0),
  (88, .iconst 4, 1, 0, 0, 0), (89, .iand, 1, 0, 0, 0), (90, .ifCond .eq 19, 3, 109, 0, 0), (93, .aload_n 0, 1, 0, 0, 0),
  (94, .iload_n 2, 1, 0, 0, 0), (95, .iconst 1, 1, 0, 0, 0), (96, .isub, 1, 0, 0, 0), (97, .invokevirtual 79, 3, 26, 0, 352),
  (100, .ifCond .eq 9, 3, 109, 0, 0), (103, .iload 4, 2, 0, 0, 0), (105, .iconst 4, 1, 0, 0, 0), (106, .ior, 1, 0, 0, 0),
  (107, .istore 4, 2, 0, 0, 0), (109, .iload 4, 2, 0, 0, 0), (111, .ireturn, 1, 0, 0, 0)]
def mm32 : MT := (yX1_wantedSides, cX1_wantedSides, 5, (some .int), 1, 1, 2, 42, 1, cd32)
def cd33 : List AE := [
  (0, .aload_n 0, 1, 0, 0, 0), (1, .getfield 15, 3, 1, 0, 138), (4, .iload_n 1, 1, 0, 0, 0), (5, .invokevirtual 73, 3, 12, 0, 347),
  (8, .istore_n 3, 1, 0, 0, 0), (9, .aload_n 0, 1, 0, 0, 0), (10, .aload_n 0, 1, 0, 0, 0), (11, .getfield 15, 3, 1, 0, 138),
  (14, .iload_n 1, 1, 0, 0, 0), (15, .invokevirtual 82, 3, 13, 0, 360), (18, .invokevirtual 85, 3, 29, 0, 361), (21, .istore 4, 2, 0, 0, 0),
  (23, .iload_n 2, 1, 0, 0, 0), (24, .invokestatic 55, 3, 103, 1, 1), (27, .ifCond .eq 11, 3, 38, 0, 0), (30, .getstatic 58, 3, 0, 1, 2),
  (33, .iload_n 2, 1, 0, 0, 0), (34, .iaload, 1, 0, 0, 0), (35, .goto 4, 3, 39, 0, 0), (38, .iconst 0, 1, 0, 0, 0),
  (39, .istore 5, 2, 0, 0, 0), (41, .aload_n 0, 1, 0, 0, 0), (42, .iload_n 3, 1, 0, 0, 0), (43, .iload 5, 2, 0, 0, 0),
  (45, .aload_n 0, 1, 0, 0, 0), (46, .getfield 15, 3, 1, 0, 138), (49, .iload_n 1, 1, 0, 0, 0), (50, .invokevirtual 70, 3, 9, 0, 339),
  (53, .iand, 1, 0, 0, 0), (54, .invokevirtual 88, 3, 34, 0, 376), (57, .iconst 0, 1, 0, 0, 0), (58, .istore 6, 2, 0, 0, 0),
  (60, .iload_n 2, 1, 0, 0, 0), (61, .tableswitch 90 3 8 #[39, 49, 39, 59, 71, 39], 39, 0, 0, 0), (100, .aload_n 0, 1, 0, 0, 0), (101, .iload_n 3, 1, 0, 0, 0),
  (102, .iload 4, 2, 0, 0, 0), (104, .invokevirtual 92, 3, 37, 0, 384), (107, .goto 44, 3, 151, 0, 0), (110, .aload_n 0, 1, 0, 0, 0),
  (111, .iload_n 3, 1, 0, 0, 0), (112, .iload 4, 2, 0, 0, 0), (114, .invokevirtual 95, 3, 27, 0, 380), (117, .goto 34, 3, 151, 0, 0),
  (120, .aload_n 0, 1, 0, 0, 0), (121, .iload_n 3, 1, 0, 0, 0), (122, .iload 4, 2, 0, 0, 0), (124, .invokevirtual 98, 3, 36, 0, 396),
  (127, .istore 6, 2, 0, 0, 0), (129, .goto 22, 3, 151, 0, 0), (132, .aload_n 0, 1, 0, 0, 0), (133, .iload_n 3, 1, 0, 0, 0),
  (134, .iload 4, 2, 0, 0, 0), (136, .invokevirtual 98, 3, 36, 0, 396), (139, .istore 6, 2, 0, 0, 0), (141, .aload_n 0, 1, 0, 0, 0),
  (142, .iload_n 3, 1, 0, 0, 0), (143, .iload 4, 2, 0, 0, 0), (145, .invokevirtual 95, 3, 27, 0, 380), (148, .goto 3, 3, 151, 0, 0),
  (151, .iload 6, 2, 0, 0, 0), (153, .aload_n 0, 1, 0, 0, 0), (154, .iload_n 3, 1, 0, 0, 0), (155, .iload 5, 2, 0, 0, 0),
  (157, .aload_n 0, 1, 0, 0, 0), (158, .getfield 15, 3, 1, 0, 138), (161, .iload_n 1, 1, 0, 0, 0), (162, .invokevirtual 76, 3, 10, 0, 348),
  (165, .iand, 1, 0, 0, 0), (166, .invokevirtual 102, 3, 35, 0, 400), (169, .iadd, 1, 0, 0, 0), (170, .ireturn, 1, 0, 0, 0)]
def mm33 : MT := (yX1_take, cX1_take, 7, (some .int), 2, 1, 3, 69, 1, cd33)
def cd34 : List AE := [
  (0, .iload_n 2, 1, 0, 0, 0), (1, .iconst 1, 1, 0, 0, 0), (2, .iand, 1, 0, 0, 0), (3, .ifCond .eq 11, 3, 14, 0, 0),
  (6, .aload_n 0, 1, 0, 0, 0), (7, .iload_n 1, 1, 0, 0, 0), (8, .iload_n 1, 1, 0, 0, 0), (9, .iconst 1, 1, 0, 0, 0),
  (10, .iadd, 1, 0, 0, 0), (11, .invokevirtual 95, 3, 27, 0, 380), (14, .iload_n 2, 1, 0, 0, 0), (15, .bipush 8, 2, 0, 0, 0),
  (17, .iand, 1, 0, 0, 0), (18, .ifCond .eq 23, 3, 41, 0, 0), (21, .aload_n 0, 1, 0, 0, 0), (22, .aload_n 0, 1, 0, 0, 0),
  (23, .getfield 15, 3, 1, 0, 138), (26, .getfield 51, 3, 0, 0, 100), (29, .aload_n 0, 1, 0, 0, 0), (30, .getfield 15, 3, 1, 0, 138),
  (33, .getfield 51, 3, 0, 0, 100), (36, .iconst 1, 1, 0, 0, 0), (37, .iadd, 1, 0, 0, 0), (38, .invokevirtual 95, 3, 27, 0, 380),
  (41, .return_, 1, 0, 0, 0)]
def mm34 : MT := (yX1_openArcs, cX1_openArcs, 3, none, 2, 1, 1, 22, 1, cd34)
def cd35 : List AE := [
  (0, .iconst 0, 1, 0, 0, 0), (1, .istore_n 3, 1, 0, 0, 0), (2, .iload_n 2, 1, 0, 0, 0), (3, .iconst 2, 1, 0, 0, 0),
  (4, .iand, 1, 0, 0, 0), (5, .ifCond .eq 26, 3, 31, 0, 0), (8, .iload_n 3, 1, 0, 0, 0), (9, .aload_n 0, 1, 0, 0, 0),
  (10, .aload_n 0, 1, 0, 0, 0), (11, .getfield 15, 3, 1, 0, 138), (14, .getfield 51, 3, 0, 0, 100), (17, .aload_n 0, 1, 0, 0, 0),
  (18, .getfield 15, 3, 1, 0, 138), (21, .getfield 51, 3, 0, 0, 100), (24, .iconst 1, 1, 0, 0, 0), (25, .iadd, 1, 0, 0, 0),
  (26, .invokevirtual 98, 3, 36, 0, 396), (29, .iadd, 1, 0, 0, 0), (30, .istore_n 3, 1, 0, 0, 0), (31, .iload_n 2, 1, 0, 0, 0),
  (32, .iconst 4, 1, 0, 0, 0), (33, .iand, 1, 0, 0, 0), (34, .ifCond .eq 14, 3, 48, 0, 0), (37, .iload_n 3, 1, 0, 0, 0),
  (38, .aload_n 0, 1, 0, 0, 0), (39, .iload_n 1, 1, 0, 0, 0), (40, .iconst 1, 1, 0, 0, 0), (41, .isub, 1, 0, 0, 0),
  (42, .iload_n 1, 1, 0, 0, 0), (43, .invokevirtual 98, 3, 36, 0, 396), (46, .iadd, 1, 0, 0, 0), (47, .istore_n 3, 1, 0, 0, 0),
  (48, .iload_n 3, 1, 0, 0, 0), (49, .ireturn, 1, 0, 0, 0)]
def mm35 : MT := (yX1_closeArcs, cX1_closeArcs, 4, (some .int), 2, 1, 2, 46, 1, cd35)
def cd36 : List AE := [
  (0, .aload_n 0, 1, 0, 0, 0), (1, .iload_n 1, 1, 0, 0, 0), (2, .invokevirtual 29, 3, 25, 0, 356), (5, .istore_n 3, 1, 0, 0, 0),
  (6, .aload_n 0, 1, 0, 0, 0), (7, .iload_n 2, 1, 0, 0, 0), (8, .invokevirtual 29, 3, 25, 0, 356), (11, .istore 4, 2, 0, 0, 0),
  (13, .aload_n 0, 1, 0, 0, 0), (14, .iload_n 1, 1, 0, 0, 0), (15, .invokevirtual 105, 3, 28, 0, 392), (18, .aload_n 0, 1, 0, 0, 0),
  (19, .iload_n 2, 1, 0, 0, 0), (20, .invokevirtual 105, 3, 28, 0, 392), (23, .iload_n 3, 1, 0, 0, 0), (24, .iload_n 2, 1, 0, 0, 0),
  (25, .if_icmp .ne 5, 3, 30, 0, 0), (28, .iconst 1, 1, 0, 0, 0), (29, .ireturn, 1, 0, 0, 0), (30, .aload_n 0, 1, 0, 0, 0),
  (31, .iload_n 3, 1, 0, 0, 0), (32, .iload 4, 2, 0, 0, 0), (34, .invokevirtual 95, 3, 27, 0, 380), (37, .iconst 0, 1, 0, 0, 0),
  (38, .ireturn, 1, 0, 0, 0)]
def mm36 : MT := (yX1_join, cX1_join, 5, (some .int), 2, 1, 1, 22, 1, cd36)
def cd37 : List AE := [
  (0, .aload_n 0, 1, 0, 0, 0), (1, .iload_n 1, 1, 0, 0, 0), (2, .invokevirtual 29, 3, 25, 0, 356), (5, .istore_n 3, 1, 0, 0, 0),
  (6, .aload_n 0, 1, 0, 0, 0), (7, .iload_n 2, 1, 0, 0, 0), (8, .invokevirtual 29, 3, 25, 0, 356), (11, .istore 4, 2, 0, 0, 0),
  (13, .iload_n 3, 1, 0, 0, 0), (14, .iload_n 2, 1, 0, 0, 0), (15, .if_icmp .ne 4, 3, 19, 0, 0), (18, .return_, 1, 0, 0, 0),
  (19, .aload_n 0, 1, 0, 0, 0), (20, .iload_n 3, 1, 0, 0, 0), (21, .iload_n 2, 1, 0, 0, 0), (22, .invokevirtual 108, 3, 38, 0, 388),
  (25, .aload_n 0, 1, 0, 0, 0), (26, .iload 4, 2, 0, 0, 0), (28, .iload_n 1, 1, 0, 0, 0), (29, .invokevirtual 108, 3, 38, 0, 388),
  (32, .return_, 1, 0, 0, 0)]
def mm37 : MT := (yX1_swap, cX1_swap, 5, none, 2, 1, 2, 44, 1, cd37)
def cd38 : List AE := [
  (0, .iload_n 1, 1, 0, 0, 0), (1, .iconst (-1), 1, 0, 0, 0), (2, .if_icmp .ne 11, 3, 13, 0, 0), (5, .aload_n 0, 1, 0, 0, 0),
  (6, .iload_n 2, 1, 0, 0, 0), (7, .invokevirtual 105, 3, 28, 0, 392), (10, .goto 9, 3, 19, 0, 0), (13, .aload_n 0, 1, 0, 0, 0),
  (14, .iload_n 1, 1, 0, 0, 0), (15, .iload_n 2, 1, 0, 0, 0), (16, .invokevirtual 95, 3, 27, 0, 380), (19, .return_, 1, 0, 0, 0)]
def mm38 : MT := (yX1_moveEnd, cX1_moveEnd, 3, none, 2, 1, 1, 22, 1, cd38)
def cd39 : List AE := [
  (0, .aload_n 0, 1, 0, 0, 0), (1, .invokespecial 3, 3, 1000, 0, 175), (4, .aload_n 0, 1, 0, 0, 0), (5, .bipush 21, 2, 0, 0, 0),
  (7, .newarray .int, 2, 0, 0, 0), (9, .putfield 9, 3, 2, 2, 178), (12, .aload_n 0, 1, 0, 0, 0), (13, .bipush 76, 2, 0, 0, 0),
  (15, .newarray .int, 2, 0, 0, 0), (17, .putfield 17, 3, 2, 3, 179), (20, .aload_n 0, 1, 0, 0, 0), (21, .bipush 76, 2, 0, 0, 0),
  (23, .newarray .boolean, 2, 0, 0, 0), (25, .putfield 20, 3, 2, 4, 180), (28, .aload_n 0, 1, 0, 0, 0), (29, .bipush 76, 2, 0, 0, 0),
  (31, .newarray .boolean, 2, 0, 0, 0), (33, .putfield 24, 3, 2, 5, 181), (36, .aload_n 0, 1, 0, 0, 0), (37, .bipush 64, 2, 0, 0, 0),
  (39, .newarray .int, 2, 0, 0, 0), (41, .putfield 27, 3, 2, 6, 182), (44, .aload_n 0, 1, 0, 0, 0), (45, .aload_n 1, 1, 0, 0, 0),
  (46, .putfield 30, 3, 2, 0, 176), (49, .aload_n 0, 1, 0, 0, 0), (50, .aload_n 2, 1, 0, 0, 0), (51, .putfield 34, 3, 2, 1, 177),
  (54, .return_, 1, 0, 0, 0)]
def mm39 : MT := (yX2_init, cX2_init, 3, none, 2, 2, 1, 20, 2, cd39)
def cd40 : List AE := [
  (0, .aload_n 0, 1, 0, 0, 0), (1, .getfield 38, 3, 2, 8, 184), (4, .aload_n 0, 1, 0, 0, 0), (5, .getfield 30, 3, 2, 0, 176),
  (8, .getfield 42, 3, 0, 0, 97), (11, .if_icmp .ne 32, 3, 43, 0, 0), (14, .aload_n 0, 1, 0, 0, 0), (15, .getfield 47, 3, 2, 9, 185),
  (18, .aload_n 0, 1, 0, 0, 0), (19, .getfield 30, 3, 2, 0, 176), (22, .getfield 50, 3, 0, 1, 101), (25, .if_icmp .ne 18, 3, 43, 0, 0),
  (28, .aload_n 0, 1, 0, 0, 0), (29, .getfield 53, 3, 2, 10, 186), (32, .aload_n 0, 1, 0, 0, 0), (33, .getfield 30, 3, 2, 0, 176),
  (36, .getfield 57, 3, 0, 2, 103), (39, .if_icmp .ne 4, 3, 43, 0, 0), (42, .return_, 1, 0, 0, 0), (43, .aload_n 0, 1, 0, 0, 0),
  (44, .aload_n 0, 1, 0, 0, 0), (45, .getfield 30, 3, 2, 0, 176), (48, .getfield 42, 3, 0, 0, 97), (51, .putfield 38, 3, 2, 8, 184),
  (54, .aload_n 0, 1, 0, 0, 0), (55, .aload_n 0, 1, 0, 0, 0), (56, .getfield 30, 3, 2, 0, 176), (59, .getfield 50, 3, 0, 1, 101),
  (62, .putfield 47, 3, 2, 9, 185), (65, .aload_n 0, 1, 0, 0, 0), (66, .aload_n 0, 1, 0, 0, 0), (67, .getfield 30, 3, 2, 0, 176),
  (70, .getfield 57, 3, 0, 2, 103), (73, .putfield 53, 3, 2, 10, 186), (76, .aload_n 0, 1, 0, 0, 0), (77, .iconst 0, 1, 0, 0, 0),
  (78, .putfield 60, 3, 2, 7, 183), (81, .aload_n 0, 1, 0, 0, 0), (82, .getfield 20, 3, 2, 4, 180), (85, .invokestatic 63, 3, 41, 0, 319),
  (88, .aload_n 0, 1, 0, 0, 0), (89, .getfield 20, 3, 2, 4, 180), (92, .iconst 0, 1, 0, 0, 0), (93, .iconst 1, 1, 0, 0, 0),
  (94, .bastore, 1, 0, 0, 0), (95, .aload_n 0, 1, 0, 0, 0), (96, .getfield 30, 3, 2, 0, 176), (99, .invokevirtual 67, 3, 6, 0, 322),
  (102, .bipush 20, 2, 0, 0, 0), (104, .invokestatic 71, 3, 1003, 0, 323), (107, .istore_n 1, 1, 0, 0, 0), (108, .iconst 0, 1, 0, 0, 0),
  (109, .istore_n 2, 1, 0, 0, 0), (110, .iload_n 2, 1, 0, 0, 0), (111, .iload_n 1, 1, 0, 0, 0), (112, .if_icmp .ge 75, 3, 187, 0, 0),
  (115, .aload_n 0, 1, 0, 0, 0), (116, .getfield 24, 3, 2, 5, 181), (119, .invokestatic 63, 3, 41, 0, 319), (122, .iconst 0, 1, 0, 0, 0),
  (123, .istore_n 3, 1, 0, 0, 0), (124, .iload_n 3, 1, 0, 0, 0), (125, .bipush 76, 2, 0, 0, 0), (127, .if_icmp .ge 24, 3, 151, 0, 0),
  (130, .aload_n 0, 1, 0, 0, 0), (131, .getfield 20, 3, 2, 4, 180), (134, .iload_n 3, 1, 0, 0, 0), (135, .baload, 1, 0, 0, 0),
  (136, .ifCond .eq 9, 3, 145, 0, 0), (139, .aload_n 0, 1, 0, 0, 0), (140, .iload_n 2, 1, 0, 0, 0), (141, .iload_n 3, 1, 0, 0, 0),
  (142, .invokevirtual 77, 3, 42, 0, 326), (145, .iinc 3 1, 3, 0, 0, 0), (148, .goto (-24), 3, 124, 0, 0), (151, .aload_n 0, 1, 0, 0, 0),
  (152, .getfield 9, 3, 2, 2, 178), (155, .iload_n 2, 1, 0, 0, 0), (156, .iconst 1, 1, 0, 0, 0), (157, .iadd, 1, 0, 0, 0),
  (158, .aload_n 0, 1, 0, 0, 0), (159, .getfield 60, 3, 2, 7, 183), (162, .iastore, 1, 0, 0, 0), (163, .aload_n 0, 1, 0, 0, 0),
  (164, .getfield 20, 3, 2, 4, 180), (167, .astore_n 3, 1, 0, 0, 0), (168, .aload_n 0, 1, 0, 0, 0), (169, .aload_n 0, 1, 0, 0, 0),
  (170, .getfield 24, 3, 2, 5, 181), (173, .putfield 20, 3, 2, 4, 180), (176, .aload_n 0, 1, 0, 0, 0), (177, .aload_n 3, 1, 0, 0, 0),
  (178, .putfield 24, 3, 2, 5, 181), (181, .iinc 2 1, 3, 0, 0, 0), (184, .goto (-74), 3, 110, 0, 0), (187, .return_, 1, 0, 0, 0)]
def mm40 : MT := (yX2_build, cX2_build, 4, none, 0, 1, 5, 121, 2, cd40)
def cd41 : List AE := [
  (0, .iconst 0, 1, 0, 0, 0), (1, .istore_n 1, 1, 0, 0, 0), (2, .iload_n 1, 1, 0, 0, 0), (3, .aload_n 0, 1, 0, 0, 0),
  (4, .arraylength, 1, 0, 0, 0), (5, .if_icmp .ge 13, 3, 18, 0, 0), (8, .aload_n 0, 1, 0, 0, 0), (9, .iload_n 1, 1, 0, 0, 0),
  (10, .iconst 0, 1, 0, 0, 0), (11, .bastore, 1, 0, 0, 0), (12, .iinc 1 1, 3, 0, 0, 0), (15, .goto (-13), 3, 2, 0, 0),
  (18, .return_, 1, 0, 0, 0)]
def mm41 : MT := (yX2_unreach, cX2_unreach, 2, none, 1, 0, 0, 0, 2, cd41)
def cd42 : List AE := [
  (0, .aload_n 0, 1, 0, 0, 0), (1, .getfield 34, 3, 2, 1, 177), (4, .aload_n 0, 1, 0, 0, 0), (5, .getfield 17, 3, 2, 3, 179),
  (8, .iload_n 2, 1, 0, 0, 0), (9, .iaload, 1, 0, 0, 0), (10, .invokevirtual 81, 3, 23, 0, 330), (13, .aload_n 0, 1, 0, 0, 0),
  (14, .getfield 34, 3, 2, 1, 177), (17, .iload_n 1, 1, 0, 0, 0), (18, .invokevirtual 85, 3, 31, 0, 331), (21, .istore_n 3, 1, 0, 0, 0),
  (22, .aload_n 0, 1, 0, 0, 0), (23, .getfield 34, 3, 2, 1, 177), (26, .iload_n 1, 1, 0, 0, 0), (27, .invokevirtual 89, 3, 32, 0, 343),
  (30, .istore 4, 2, 0, 0, 0), (32, .iconst 0, 1, 0, 0, 0), (33, .istore 5, 2, 0, 0, 0), (35, .iload 5, 2, 0, 0, 0),
  (37, .bipush 10, 2, 0, 0, 0), (39, .if_icmp .ge 71, 3, 110, 0, 0), (42, .getstatic 92, 3, 0, 1, 0), (45, .iload 5, 2, 0, 0, 0),
  (47, .iaload, 1, 0, 0, 0), (48, .iload_n 3, 1, 0, 0, 0), (49, .iand, 1, 0, 0, 0), (50, .iload 4, 2, 0, 0, 0),
  (52, .if_icmp .ne 52, 3, 104, 0, 0), (55, .aload_n 0, 1, 0, 0, 0), (56, .getfield 34, 3, 2, 1, 177), (59, .aload_n 0, 1, 0, 0, 0),
  (60, .getfield 17, 3, 2, 3, 179), (63, .iload_n 2, 1, 0, 0, 0), (64, .iaload, 1, 0, 0, 0), (65, .invokevirtual 81, 3, 23, 0, 330),
  (68, .aload_n 0, 1, 0, 0, 0), (69, .getfield 34, 3, 2, 1, 177), (72, .iload_n 1, 1, 0, 0, 0), (73, .iload 5, 2, 0, 0, 0),
  (75, .invokevirtual 95, 3, 33, 0, 368), (78, .istore 6, 2, 0, 0, 0), (80, .aload_n 0, 1, 0, 0, 0), (81, .iload_n 2, 1, 0, 0, 0),
  (82, .iload 5, 2, 0, 0, 0), (84, .bipush 14, 2, 0, 0, 0), (86, .ishl, 1, 0, 0, 0), (87, .ior, 1, 0, 0, 0),
  (88, .iload 6, 2, 0, 0, 0), (90, .bipush 18, 2, 0, 0, 0), (92, .ishl, 1, 0, 0, 0), (93, .ior, 1, 0, 0, 0),
  (94, .aload_n 0, 1, 0, 0, 0), (95, .getfield 34, 3, 2, 1, 177), (98, .invokevirtual 98, 3, 24, 0, 404), (101, .invokevirtual 101, 3, 43, 0, 419),
  (104, .iinc 5 1, 3, 0, 0, 0), (107, .goto (-72), 3, 35, 0, 0), (110, .return_, 1, 0, 0, 0)]
def mm42 : MT := (yX2_addMoves, cX2_addMoves, 7, none, 2, 1, 4, 95, 2, cd42)
def cd43 : List AE := [
  (0, .iload_n 2, 1, 0, 0, 0), (1, .ifCond .lt 9, 3, 10, 0, 0), (4, .iload_n 2, 1, 0, 0, 0), (5, .bipush 76, 2, 0, 0, 0),
  (7, .if_icmp .lt 4, 3, 11, 0, 0), (10, .return_, 1, 0, 0, 0), (11, .aload_n 0, 1, 0, 0, 0), (12, .getfield 17, 3, 2, 3, 179),
  (15, .iload_n 2, 1, 0, 0, 0), (16, .aload_n 0, 1, 0, 0, 0), (17, .getfield 34, 3, 2, 1, 177), (20, .invokevirtual 104, 3, 22, 0, 423),
  (23, .iastore, 1, 0, 0, 0), (24, .aload_n 0, 1, 0, 0, 0), (25, .getfield 24, 3, 2, 5, 181), (28, .iload_n 2, 1, 0, 0, 0),
  (29, .iconst 1, 1, 0, 0, 0), (30, .bastore, 1, 0, 0, 0), (31, .aload_n 0, 1, 0, 0, 0), (32, .invokevirtual 107, 3, 44, 0, 427),
  (35, .aload_n 0, 1, 0, 0, 0), (36, .getfield 27, 3, 2, 6, 182), (39, .aload_n 0, 1, 0, 0, 0), (40, .getfield 60, 3, 2, 7, 183),
  (43, .iload_n 1, 1, 0, 0, 0), (44, .iload_n 2, 1, 0, 0, 0), (45, .bipush 7, 2, 0, 0, 0), (47, .ishl, 1, 0, 0, 0),
  (48, .ior, 1, 0, 0, 0), (49, .iastore, 1, 0, 0, 0), (50, .aload_n 0, 1, 0, 0, 0), (51, .dup, 1, 0, 0, 0),
  (52, .getfield 60, 3, 2, 7, 183), (55, .iconst 1, 1, 0, 0, 0), (56, .iadd, 1, 0, 0, 0), (57, .putfield 60, 3, 2, 7, 183),
  (60, .return_, 1, 0, 0, 0)]
def mm43 : MT := (yX2_addMove, cX2_addMove, 3, none, 2, 1, 2, 69, 2, cd43)
def cd44 : List AE := [
  (0, .aload_n 0, 1, 0, 0, 0), (1, .getfield 60, 3, 2, 7, 183), (4, .aload_n 0, 1, 0, 0, 0), (5, .getfield 27, 3, 2, 6, 182),
  (8, .arraylength, 1, 0, 0, 0), (9, .if_icmp .ge 4, 3, 13, 0, 0), (12, .return_, 1, 0, 0, 0), (13, .iconst 2, 1, 0, 0, 0),
  (14, .aload_n 0, 1, 0, 0, 0), (15, .getfield 60, 3, 2, 7, 183), (18, .imul, 1, 0, 0, 0), (19, .iconst 1, 1, 0, 0, 0),
  (20, .iadd, 1, 0, 0, 0), (21, .newarray .int, 2, 0, 0, 0), (23, .astore_n 1, 1, 0, 0, 0), (24, .aload_n 0, 1, 0, 0, 0),
  (25, .getfield 27, 3, 2, 6, 182), (28, .iconst 0, 1, 0, 0, 0), (29, .aload_n 1, 1, 0, 0, 0), (30, .iconst 0, 1, 0, 0, 0),
  (31, .aload_n 0, 1, 0, 0, 0), (32, .getfield 60, 3, 2, 7, 183), (35, .invokestatic 110, 3, 1001, 0, 431), (38, .aload_n 0, 1, 0, 0, 0),
  (39, .aload_n 1, 1, 0, 0, 0), (40, .putfield 27, 3, 2, 6, 182), (43, .return_, 1, 0, 0, 0)]
def mm44 : MT := (yX2_makeRoom, cX2_makeRoom, 2, none, 0, 1, 1, 48, 2, cd44)
def cd45 : List AE := [
  (0, .iload_n 1, 1, 0, 0, 0), (1, .ifCond .lt 9, 3, 10, 0, 0), (4, .iload_n 1, 1, 0, 0, 0), (5, .bipush 20, 2, 0, 0, 0),
  (7, .if_icmp .le 10, 3, 17, 0, 0), (10, .aload_n 0, 1, 0, 0, 0), (11, .getfield 60, 3, 2, 7, 183), (14, .goto 9, 3, 23, 0, 0),
  (17, .aload_n 0, 1, 0, 0, 0), (18, .getfield 9, 3, 2, 2, 178), (21, .iload_n 1, 1, 0, 0, 0), (22, .iaload, 1, 0, 0, 0),
  (23, .ireturn, 1, 0, 0, 0)]
def mm45 : MT := (yX2_start, cX2_start, 2, (some .int), 1, 1, 0, 0, 2, cd45)
def cd46 : List AE := [
  (0, .iload_n 1, 1, 0, 0, 0), (1, .ifCond .lt 12, 3, 13, 0, 0), (4, .iload_n 1, 1, 0, 0, 0), (5, .aload_n 0, 1, 0, 0, 0),
  (6, .getfield 27, 3, 2, 6, 182), (9, .arraylength, 1, 0, 0, 0), (10, .if_icmp .lt 7, 3, 17, 0, 0), (13, .iconst 0, 1, 0, 0, 0),
  (14, .goto 9, 3, 23, 0, 0), (17, .aload_n 0, 1, 0, 0, 0), (18, .getfield 27, 3, 2, 6, 182), (21, .iload_n 1, 1, 0, 0, 0),
  (22, .iaload, 1, 0, 0, 0), (23, .ireturn, 1, 0, 0, 0)]
def mm46 : MT := (yX2_move, cX2_move, 2, (some .int), 1, 1, 0, 0, 2, cd46)
def cd47 : List AE := [
  (0, .aload_n 0, 1, 0, 0, 0), (1, .iload_n 1, 1, 0, 0, 0), (2, .invokevirtual 116, 3, 46, 0, 460), (5, .bipush 127, 2, 0, 0, 0),
  (7, .iand, 1, 0, 0, 0), (8, .ireturn, 1, 0, 0, 0)]
def mm47 : MT := (yX2_from, cX2_from, 2, (some .int), 1, 1, 1, 21, 2, cd47)
def cd48 : List AE := [
  (0, .aload_n 0, 1, 0, 0, 0), (1, .iload_n 1, 1, 0, 0, 0), (2, .invokevirtual 116, 3, 46, 0, 460), (5, .bipush 7, 2, 0, 0, 0),
  (7, .ishr, 1, 0, 0, 0), (8, .bipush 127, 2, 0, 0, 0), (10, .iand, 1, 0, 0, 0), (11, .ireturn, 1, 0, 0, 0)]
def mm48 : MT := (yX2_to, cX2_to, 2, (some .int), 1, 1, 1, 21, 2, cd48)
def cd49 : List AE := [
  (0, .aload_n 0, 1, 0, 0, 0), (1, .iload_n 1, 1, 0, 0, 0), (2, .invokevirtual 116, 3, 46, 0, 460), (5, .bipush 14, 2, 0, 0, 0),
  (7, .ishr, 1, 0, 0, 0), (8, .bipush 15, 2, 0, 0, 0), (10, .iand, 1, 0, 0, 0), (11, .ireturn, 1, 0, 0, 0)]
def mm49 : MT := (yX2_tileOf, cX2_tileOf, 2, (some .int), 1, 1, 1, 21, 2, cd49)
def cd50 : List AE := [
  (0, .aload_n 0, 1, 0, 0, 0), (1, .iload_n 1, 1, 0, 0, 0), (2, .invokevirtual 116, 3, 46, 0, 460), (5, .bipush 18, 2, 0, 0, 0),
  (7, .ishr, 1, 0, 0, 0), (8, .ireturn, 1, 0, 0, 0)]
def mm50 : MT := (yX2_closes, cX2_closes, 2, (some .int), 1, 1, 1, 21, 2, cd50)
def cd51 : List AE := [
  (0, .aload_n 0, 1, 0, 0, 0), (1, .invokespecial 3, 3, 1000, 0, 150), (4, .aload_n 0, 1, 0, 0, 0), (5, .bipush 20, 2, 0, 0, 0),
  (7, .newarray .int, 2, 0, 0, 0), (9, .putfield 9, 3, 3, 2, 153), (12, .aload_n 0, 1, 0, 0, 0), (13, .bipush 40, 2, 0, 0, 0),
  (15, .newarray .boolean, 2, 0, 0, 0), (17, .putfield 15, 3, 3, 3, 154), (20, .aload_n 0, 1, 0, 0, 0), (21, .aload_n 1, 1, 0, 0, 0),
  (22, .putfield 19, 3, 3, 0, 151), (25, .aload_n 0, 1, 0, 0, 0), (26, .aload_n 2, 1, 0, 0, 0), (27, .putfield 23, 3, 3, 1, 152),
  (30, .return_, 1, 0, 0, 0)]
def mm51 : MT := (yX3_init, cX3_init, 3, none, 2, 2, 1, 20, 3, cd51)
def cd52 : List AE := [
  (0, .iconst 0, 1, 0, 0, 0), (1, .istore_n 1, 1, 0, 0, 0), (2, .iload_n 1, 1, 0, 0, 0), (3, .bipush 20, 2, 0, 0, 0),
  (5, .if_icmp .ge 16, 3, 21, 0, 0), (8, .aload_n 0, 1, 0, 0, 0), (9, .getfield 9, 3, 3, 2, 153), (12, .iload_n 1, 1, 0, 0, 0),
  (13, .iconst 0, 1, 0, 0, 0), (14, .iastore, 1, 0, 0, 0), (15, .iinc 1 1, 3, 0, 0, 0), (18, .goto (-16), 3, 2, 0, 0),
  (21, .return_, 1, 0, 0, 0)]
def mm52 : MT := (yX3_blank, cX3_blank, 2, none, 0, 1, 0, 0, 3, cd52)
def cd53 : List AE := [
  (0, .aload_n 0, 1, 0, 0, 0), (1, .getfield 19, 3, 3, 0, 151), (4, .iload_n 1, 1, 0, 0, 0), (5, .invokevirtual 27, 3, 7, 0, 535),
  (8, .ifCond .eq 12, 3, 20, 0, 0), (11, .aload_n 0, 1, 0, 0, 0), (12, .getfield 9, 3, 3, 2, 153), (15, .iload_n 1, 1, 0, 0, 0),
  (16, .iaload, 1, 0, 0, 0), (17, .goto 4, 3, 21, 0, 0), (20, .iconst (-1), 1, 0, 0, 0), (21, .ireturn, 1, 0, 0, 0)]
def mm53 : MT := (yX3_at, cX3_at, 2, (some .int), 1, 1, 1, 21, 3, cd53)
def cd54 : List AE := [
  (0, .aload_n 0, 1, 0, 0, 0), (1, .getfield 19, 3, 3, 0, 151), (4, .iload_n 1, 1, 0, 0, 0), (5, .invokevirtual 27, 3, 7, 0, 535),
  (8, .ifCond .eq 17, 3, 25, 0, 0), (11, .iload_n 2, 1, 0, 0, 0), (12, .invokestatic 33, 3, 103, 1, 4), (15, .ifCond .eq 10, 3, 25, 0, 0),
  (18, .aload_n 0, 1, 0, 0, 0), (19, .getfield 9, 3, 3, 2, 153), (22, .iload_n 1, 1, 0, 0, 0), (23, .iload_n 2, 1, 0, 0, 0),
  (24, .iastore, 1, 0, 0, 0), (25, .return_, 1, 0, 0, 0)]
def mm54 : MT := (yX3_lay, cX3_lay, 3, none, 2, 1, 1, 21, 3, cd54)
def cd55 : List AE := [
  (0, .aload_n 0, 1, 0, 0, 0), (1, .getfield 19, 3, 3, 0, 151), (4, .invokevirtual 36, 3, 6, 0, 557), (7, .istore_n 1, 1, 0, 0, 0),
  (8, .aload_n 0, 1, 0, 0, 0), (9, .getfield 23, 3, 3, 1, 152), (12, .invokevirtual 40, 3, 21, 0, 558), (15, .aload_n 0, 1, 0, 0, 0),
  (16, .iconst 0, 1, 0, 0, 0), (17, .putfield 45, 3, 3, 4, 155), (20, .iconst 0, 1, 0, 0, 0), (21, .istore_n 2, 1, 0, 0, 0),
  (22, .iload_n 2, 1, 0, 0, 0), (23, .iload_n 1, 1, 0, 0, 0), (24, .if_icmp .ge 59, 3, 83, 0, 0), (27, .aload_n 0, 1, 0, 0, 0),
  (28, .iload_n 2, 1, 0, 0, 0), (29, .invokevirtual 49, 3, 53, 0, 559), (32, .istore_n 3, 1, 0, 0, 0), (33, .aload_n 0, 1, 0, 0, 0),
  (34, .getfield 19, 3, 3, 0, 151), (37, .iload_n 2, 1, 0, 0, 0), (38, .iload_n 3, 1, 0, 0, 0), (39, .invokevirtual 53, 3, 16, 0, 560),
  (42, .ifCond .eq 15, 3, 57, 0, 0), (45, .aload_n 0, 1, 0, 0, 0), (46, .getfield 23, 3, 3, 1, 152), (49, .iload_n 2, 1, 0, 0, 0),
  (50, .iload_n 3, 1, 0, 0, 0), (51, .invokevirtual 57, 3, 30, 0, 561), (54, .ifCond .ne 5, 3, 59, 0, 0), (57, .iload_n 2, 1, 0, 0, 0),
  (58, .ireturn, 1, 0, 0, 0), (59, .aload_n 0, 1, 0, 0, 0), (60, .dup, 1, 0, 0, 0), (61, .getfield 45, 3, 3, 4, 155),
  (64, .aload_n 0, 1, 0, 0, 0), (65, .getfield 23, 3, 3, 1, 152), (68, .iload_n 2, 1, 0, 0, 0), (69, .iload_n 3, 1, 0, 0, 0),
  (70, .invokevirtual 60, 3, 33, 0, 567), (73, .iadd, 1, 0, 0, 0), (74, .putfield 45, 3, 3, 4, 155), (77, .iinc 2 1, 3, 0, 0, 0),
  (80, .goto (-58), 3, 22, 0, 0), (83, .iload_n 1, 1, 0, 0, 0), (84, .ireturn, 1, 0, 0, 0)]
def mm55 : MT := (yX3_firstMisfit, cX3_firstMisfit, 4, (some .int), 0, 1, 4, 95, 3, cd55)
def cd56 : List AE := [
  (0, .aload_n 0, 1, 0, 0, 0), (1, .invokevirtual 64, 3, 55, 0, 553), (4, .aload_n 0, 1, 0, 0, 0), (5, .getfield 19, 3, 3, 0, 151),
  (8, .invokevirtual 36, 3, 6, 0, 557), (11, .if_icmp .ne 7, 3, 18, 0, 0), (14, .iconst 1, 1, 0, 0, 0), (15, .goto 4, 3, 19, 0, 0),
  (18, .iconst 0, 1, 0, 0, 0), (19, .ireturn, 1, 0, 0, 0)]
def mm56 : MT := (yX3_isFilling, cX3_isFilling, 1, (some .boolean), 0, 1, 5, 118, 3, cd56)
def cd57 : List AE := [
  (0, .aload_n 0, 1, 0, 0, 0), (1, .getfield 45, 3, 3, 4, 155), (4, .ireturn, 1, 0, 0, 0)]
def mm57 : MT := (yX3_closedLoops, cX3_closedLoops, 1, (some .int), 0, 1, 0, 0, 3, cd57)
def cd58 : List AE := [
  (0, .aload_n 0, 1, 0, 0, 0), (1, .iload_n 1, 1, 0, 0, 0), (2, .invokevirtual 49, 3, 53, 0, 559), (5, .istore_n 3, 1, 0, 0, 0),
  (6, .iload_n 2, 1, 0, 0, 0), (7, .ifCond .lt 28, 3, 35, 0, 0), (10, .iload_n 2, 1, 0, 0, 0), (11, .iconst 1, 1, 0, 0, 0),
  (12, .if_icmp .gt 23, 3, 35, 0, 0), (15, .iload_n 3, 1, 0, 0, 0), (16, .invokestatic 33, 3, 103, 1, 4), (19, .ifCond .eq 16, 3, 35, 0, 0),
  (22, .getstatic 67, 3, 2, 1, 5), (25, .iconst 2, 1, 0, 0, 0), (26, .iload_n 3, 1, 0, 0, 0), (27, .imul, 1, 0, 0, 0),
  (28, .iload_n 2, 1, 0, 0, 0), (29, .iadd, 1, 0, 0, 0), (30, .iaload, 1, 0, 0, 0), (31, .iconst (-1), 1, 0, 0, 0),
  (32, .if_icmp .ne 5, 3, 37, 0, 0), (35, .iconst (-1), 1, 0, 0, 0), (36, .ireturn, 1, 0, 0, 0), (37, .iconst 2, 1, 0, 0, 0),
  (38, .iload_n 1, 1, 0, 0, 0), (39, .imul, 1, 0, 0, 0), (40, .iload_n 2, 1, 0, 0, 0), (41, .iadd, 1, 0, 0, 0),
  (42, .ireturn, 1, 0, 0, 0)]
def mm58 : MT := (yX3_pieceAt, cX3_pieceAt, 4, (some .int), 2, 1, 2, 42, 3, cd58)
def cd59 : List AE := [
  (0, .iconst 0, 1, 0, 0, 0), (1, .istore_n 1, 1, 0, 0, 0), (2, .iload_n 1, 1, 0, 0, 0), (3, .bipush 40, 2, 0, 0, 0),
  (5, .if_icmp .ge 16, 3, 21, 0, 0), (8, .aload_n 0, 1, 0, 0, 0), (9, .getfield 15, 3, 3, 3, 154), (12, .iload_n 1, 1, 0, 0, 0),
  (13, .iconst 0, 1, 0, 0, 0), (14, .bastore, 1, 0, 0, 0), (15, .iinc 1 1, 3, 0, 0, 0), (18, .goto (-16), 3, 2, 0, 0),
  (21, .return_, 1, 0, 0, 0)]
def mm59 : MT := (yX3_forgetMet, cX3_forgetMet, 2, none, 0, 1, 0, 0, 3, cd59)
def cd60 : List AE := [
  (0, .iload_n 1, 1, 0, 0, 0), (1, .ifCond .lt 22, 3, 23, 0, 0), (4, .iload_n 1, 1, 0, 0, 0), (5, .bipush 40, 2, 0, 0, 0),
  (7, .if_icmp .ge 16, 3, 23, 0, 0), (10, .aload_n 0, 1, 0, 0, 0), (11, .getfield 15, 3, 3, 3, 154), (14, .iload_n 1, 1, 0, 0, 0),
  (15, .baload, 1, 0, 0, 0), (16, .ifCond .eq 7, 3, 23, 0, 0), (19, .iconst 1, 1, 0, 0, 0), (20, .goto 4, 3, 24, 0, 0),
  (23, .iconst 0, 1, 0, 0, 0), (24, .ireturn, 1, 0, 0, 0)]
def mm60 : MT := (yX3_hasMet, cX3_hasMet, 2, (some .boolean), 1, 1, 0, 0, 3, cd60)
def cd61 : List AE := [
  (0, .iload_n 1, 1, 0, 0, 0), (1, .istore_n 2, 1, 0, 0, 0), (2, .iconst 0, 1, 0, 0, 0), (3, .istore_n 3, 1, 0, 0, 0),
  (4, .aload_n 0, 1, 0, 0, 0), (5, .iload_n 1, 1, 0, 0, 0), (6, .invokevirtual 70, 3, 63, 0, 609), (9, .istore 4, 2, 0, 0, 0),
  (11, .iload_n 3, 1, 0, 0, 0), (12, .bipush 40, 2, 0, 0, 0), (14, .if_icmp .ge 97, 3, 111, 0, 0), (17, .iload_n 2, 1, 0, 0, 0),
  (18, .ifCond .lt 93, 3, 111, 0, 0), (21, .iload_n 2, 1, 0, 0, 0), (22, .bipush 40, 2, 0, 0, 0), (24, .if_icmp .ge 87, 3, 111, 0, 0),
  (27, .aload_n 0, 1, 0, 0, 0), (28, .getfield 15, 3, 3, 3, 154), (31, .iload_n 2, 1, 0, 0, 0), (32, .iconst 1, 1, 0, 0, 0),
  (33, .bastore, 1, 0, 0, 0), (34, .iinc 3 1, 3, 0, 0, 0), (37, .iload_n 2, 1, 0, 0, 0), (38, .iconst 2, 1, 0, 0, 0),
  (39, .idiv, 1, 0, 0, 0), (40, .istore 5, 2, 0, 0, 0), (42, .aload_n 0, 1, 0, 0, 0), (43, .getfield 19, 3, 3, 0, 151),
  (46, .iload 5, 2, 0, 0, 0), (48, .iload 4, 2, 0, 0, 0), (50, .invokevirtual 73, 3, 17, 0, 613), (53, .ifCond .eq 8, 3, 61, 0, 0),
  (56, .iload 4, 2, 0, 0, 0), (58, .goto 8, 3, 66, 0, 0), (61, .iload 4, 2, 0, 0, 0), (63, .invokestatic 76, 3, 62, 0, 618),
  (66, .istore 6, 2, 0, 0, 0), (68, .aload_n 0, 1, 0, 0, 0), (69, .getfield 19, 3, 3, 0, 151), (72, .iload 5, 2, 0, 0, 0),
  (74, .iload 4, 2, 0, 0, 0), (76, .invokevirtual 79, 3, 18, 0, 621), (79, .istore 7, 2, 0, 0, 0), (81, .aload_n 0, 1, 0, 0, 0),
  (82, .iload 7, 2, 0, 0, 0), (84, .iload 6, 2, 0, 0, 0), (86, .invokevirtual 82, 3, 65, 0, 627), (89, .istore_n 2, 1, 0, 0, 0),
  (90, .aload_n 0, 1, 0, 0, 0), (91, .iload 7, 2, 0, 0, 0), (93, .iload 6, 2, 0, 0, 0), (95, .invokevirtual 85, 3, 64, 0, 631),
  (98, .istore 4, 2, 0, 0, 0), (100, .iload_n 2, 1, 0, 0, 0), (101, .iload_n 1, 1, 0, 0, 0), (102, .if_icmp .ne 6, 3, 108, 0, 0),
  (105, .goto 6, 3, 111, 0, 0), (108, .goto (-97), 3, 11, 0, 0), (111, .iload_n 3, 1, 0, 0, 0), (112, .ireturn, 1, 0, 0, 0)]
def mm61 : MT := (yX3_follow, cX3_follow, 8, (some .int), 1, 1, 4, 90, 3, cd61)
def cd62 : List AE := [
  (0, .iload_n 0, 1, 0, 0, 0), (1, .iconst 2, 1, 0, 0, 0), (2, .ixor, 1, 0, 0, 0), (3, .ireturn, 1, 0, 0, 0)]
def mm62 : MT := (yX3_opposite, cX3_opposite, 1, (some .int), 1, 0, 0, 0, 3, cd62)
def cd63 : List AE := [
  (0, .iload_n 1, 1, 0, 0, 0), (1, .ifCond .ge 7, 3, 8, 0, 0), (4, .iconst (-1), 1, 0, 0, 0), (5, .goto 10, 3, 15, 0, 0),
  (8, .aload_n 0, 1, 0, 0, 0), (9, .iload_n 1, 1, 0, 0, 0), (10, .iconst 2, 1, 0, 0, 0), (11, .idiv, 1, 0, 0, 0),
  (12, .invokevirtual 49, 3, 53, 0, 559), (15, .istore_n 2, 1, 0, 0, 0), (16, .iload_n 2, 1, 0, 0, 0), (17, .invokestatic 33, 3, 103, 1, 4),
  (20, .ifCond .eq 17, 3, 37, 0, 0), (23, .getstatic 67, 3, 2, 1, 5), (26, .iconst 2, 1, 0, 0, 0), (27, .iload_n 2, 1, 0, 0, 0),
  (28, .imul, 1, 0, 0, 0), (29, .iload_n 1, 1, 0, 0, 0), (30, .iconst 1, 1, 0, 0, 0), (31, .iand, 1, 0, 0, 0),
  (32, .iadd, 1, 0, 0, 0), (33, .iaload, 1, 0, 0, 0), (34, .goto 4, 3, 38, 0, 0), (37, .iconst (-1), 1, 0, 0, 0),
  (38, .ireturn, 1, 0, 0, 0)]
def mm63 : MT := (yX3_lastSide, cX3_lastSide, 3, (some .int), 1, 1, 2, 42, 3, cd63)
def cd64 : List AE := [
  (0, .aload_n 0, 1, 0, 0, 0), (1, .iload_n 1, 1, 0, 0, 0), (2, .invokevirtual 49, 3, 53, 0, 559), (5, .istore_n 3, 1, 0, 0, 0),
  (6, .iload_n 3, 1, 0, 0, 0), (7, .invokestatic 33, 3, 103, 1, 4), (10, .ifCond .eq 24, 3, 34, 0, 0), (13, .iload_n 2, 1, 0, 0, 0),
  (14, .ifCond .lt 20, 3, 34, 0, 0), (17, .iload_n 2, 1, 0, 0, 0), (18, .iconst 3, 1, 0, 0, 0), (19, .if_icmp .gt 15, 3, 34, 0, 0),
  (22, .getstatic 88, 3, 1, 1, 6), (25, .iconst 4, 1, 0, 0, 0), (26, .iload_n 3, 1, 0, 0, 0), (27, .imul, 1, 0, 0, 0),
  (28, .iload_n 2, 1, 0, 0, 0), (29, .iadd, 1, 0, 0, 0), (30, .iaload, 1, 0, 0, 0), (31, .goto 4, 3, 35, 0, 0),
  (34, .iconst (-1), 1, 0, 0, 0), (35, .ireturn, 1, 0, 0, 0)]
def mm64 : MT := (yX3_otherSide, cX3_otherSide, 4, (some .int), 2, 1, 2, 42, 3, cd64)
def cd65 : List AE := [
  (0, .aload_n 0, 1, 0, 0, 0), (1, .iconst 2, 1, 0, 0, 0), (2, .iload_n 1, 1, 0, 0, 0), (3, .imul, 1, 0, 0, 0),
  (4, .invokevirtual 70, 3, 63, 0, 609), (7, .istore_n 3, 1, 0, 0, 0), (8, .iload_n 3, 1, 0, 0, 0), (9, .iconst (-1), 1, 0, 0, 0),
  (10, .if_icmp .eq 8, 3, 18, 0, 0), (13, .iload_n 2, 1, 0, 0, 0), (14, .iconst (-1), 1, 0, 0, 0), (15, .if_icmp .ne 5, 3, 20, 0, 0),
  (18, .iconst (-1), 1, 0, 0, 0), (19, .ireturn, 1, 0, 0, 0), (20, .iload_n 2, 1, 0, 0, 0), (21, .iload_n 3, 1, 0, 0, 0),
  (22, .if_icmp .eq 13, 3, 35, 0, 0), (25, .iload_n 2, 1, 0, 0, 0), (26, .aload_n 0, 1, 0, 0, 0), (27, .iload_n 1, 1, 0, 0, 0),
  (28, .iload_n 3, 1, 0, 0, 0), (29, .invokevirtual 85, 3, 64, 0, 631), (32, .if_icmp .ne 7, 3, 39, 0, 0), (35, .iconst 1, 1, 0, 0, 0),
  (36, .goto 4, 3, 40, 0, 0), (39, .iconst 0, 1, 0, 0, 0), (40, .istore 4, 2, 0, 0, 0), (42, .iload 4, 2, 0, 0, 0),
  (44, .ifCond .eq 9, 3, 53, 0, 0), (47, .iconst 2, 1, 0, 0, 0), (48, .iload_n 1, 1, 0, 0, 0), (49, .imul, 1, 0, 0, 0),
  (50, .goto 8, 3, 58, 0, 0), (53, .iconst 2, 1, 0, 0, 0), (54, .iload_n 1, 1, 0, 0, 0), (55, .imul, 1, 0, 0, 0),
  (56, .iconst 1, 1, 0, 0, 0), (57, .iadd, 1, 0, 0, 0), (58, .ireturn, 1, 0, 0, 0)]
def mm65 : MT := (yX3_pieceOf, cX3_pieceOf, 5, (some .int), 2, 1, 3, 65, 3, cd65)
def cd66 : List AE := [
  (0, .aload_n 0, 1, 0, 0, 0), (1, .getfield 19, 3, 3, 0, 151), (4, .invokevirtual 36, 3, 6, 0, 557), (7, .istore_n 1, 1, 0, 0, 0),
  (8, .aload_n 0, 1, 0, 0, 0), (9, .invokevirtual 91, 3, 59, 0, 645), (12, .iconst 0, 1, 0, 0, 0), (13, .istore_n 2, 1, 0, 0, 0),
  (14, .iconst 0, 1, 0, 0, 0), (15, .istore_n 3, 1, 0, 0, 0), (16, .iload_n 3, 1, 0, 0, 0), (17, .iload_n 1, 1, 0, 0, 0),
  (18, .if_icmp .ge 59, 3, 77, 0, 0), (21, .iconst 0, 1, 0, 0, 0), (22, .istore 4, 2, 0, 0, 0), (24, .iload 4, 2, 0, 0, 0),
  (26, .iconst 2, 1, 0, 0, 0), (27, .if_icmp .ge 44, 3, 71, 0, 0), (30, .aload_n 0, 1, 0, 0, 0), (31, .iload_n 3, 1, 0, 0, 0),
  (32, .iload 4, 2, 0, 0, 0), (34, .invokevirtual 94, 3, 58, 0, 649), (37, .istore 5, 2, 0, 0, 0), (39, .iload 5, 2, 0, 0, 0),
  (41, .iconst (-1), 1, 0, 0, 0), (42, .if_icmp .eq 23, 3, 65, 0, 0), (45, .aload_n 0, 1, 0, 0, 0), (46, .iload 5, 2, 0, 0, 0),
  (48, .invokevirtual 97, 3, 60, 0, 650), (51, .ifCond .ne 14, 3, 65, 0, 0), (54, .iload_n 2, 1, 0, 0, 0), (55, .aload_n 0, 1, 0, 0, 0),
  (56, .iload 5, 2, 0, 0, 0), (58, .invokevirtual 100, 3, 61, 0, 654), (61, .invokestatic 103, 3, 1002, 0, 655), (64, .istore_n 2, 1, 0, 0, 0),
  (65, .iinc 4 1, 3, 0, 0, 0), (68, .goto (-44), 3, 24, 0, 0), (71, .iinc 3 1, 3, 0, 0, 0), (74, .goto (-58), 3, 16, 0, 0),
  (77, .iload_n 2, 1, 0, 0, 0), (78, .ireturn, 1, 0, 0, 0)]
def mm66 : MT := (yX3_greatestLength, cX3_greatestLength, 6, (some .int), 0, 1, 5, 117, 3, cd66)
def cd67 : List AE := [
  (0, .aload_n 0, 1, 0, 0, 0), (1, .invokespecial 5, 3, 1000, 0, 213), (4, .aload_n 0, 1, 0, 0, 0), (5, .bipush 21, 2, 0, 0, 0),
  (7, .newarray .int, 2, 0, 0, 0), (9, .putfield 11, 3, 4, 2, 220), (12, .aload_n 0, 1, 0, 0, 0), (13, .iconst 0, 1, 0, 0, 0),
  (14, .newarray .long, 2, 0, 0, 0), (16, .putfield 15, 3, 4, 3, 221), (19, .aload_n 0, 1, 0, 0, 0), (20, .bipush 76, 2, 0, 0, 0),
  (22, .newarray .long, 2, 0, 0, 0), (24, .putfield 21, 3, 4, 4, 222), (27, .aload_n 0, 1, 0, 0, 0), (28, .bipush 76, 2, 0, 0, 0),
  (30, .newarray .long, 2, 0, 0, 0), (32, .putfield 24, 3, 4, 5, 223), (35, .aload_n 0, 1, 0, 0, 0), (36, .aload_n 1, 1, 0, 0, 0),
  (37, .putfield 27, 3, 4, 0, 218), (40, .aload_n 0, 1, 0, 0, 0), (41, .aload_n 2, 1, 0, 0, 0), (42, .putfield 31, 3, 4, 1, 219),
  (45, .aload_n 0, 1, 0, 0, 0), (46, .invokevirtual 35, 3, 68, 0, 214), (49, .return_, 1, 0, 0, 0)]
def mm67 : MT := (yX4_init, cX4_init, 3, none, 2, 2, 1, 20, 4, cd67)
def cd68 : List AE := [
  (0, .aload_n 0, 1, 0, 0, 0), (1, .bipush 21, 2, 0, 0, 0), (3, .putfield 38, 3, 4, 7, 225), (6, .return_, 1, 0, 0, 0)]
def mm68 : MT := (yX4_forget, cX4_forget, 1, none, 0, 1, 0, 0, 4, cd68)
def cd69 : List AE := [
  (0, .aload_n 0, 1, 0, 0, 0), (1, .aload_n 0, 1, 0, 0, 0), (2, .getfield 38, 3, 4, 7, 225), (5, .iload_n 1, 1, 0, 0, 0),
  (6, .iconst 1, 1, 0, 0, 0), (7, .iadd, 1, 0, 0, 0), (8, .invokestatic 42, 3, 1002, 0, 291), (11, .putfield 38, 3, 4, 7, 225),
  (14, .return_, 1, 0, 0, 0)]
def mm69 : MT := (yX4_forgetUpTo, cX4_forgetUpTo, 2, none, 1, 1, 1, 48, 4, cd69)
def cd70 : List AE := [
  (0, .aload_n 0, 1, 0, 0, 0), (1, .iconst 0, 1, 0, 0, 0), (2, .iconst 0, 1, 0, 0, 0), (3, .iload_n 1, 1, 0, 0, 0),
  (4, .iconst (-1), 1, 0, 0, 0), (5, .if_icmp .ne 7, 3, 12, 0, 0), (8, .iconst 1, 1, 0, 0, 0), (9, .goto 4, 3, 13, 0, 0),
  (12, .iconst 0, 1, 0, 0, 0), (13, .iload_n 1, 1, 0, 0, 0), (14, .invokevirtual 48, 3, 79, 0, 494), (17, .lreturn, 1, 0, 0, 0)]
def mm70 : MT := (yX4_fillings, cX4_fillings, 2, (some .long), 1, 1, 2, 51, 4, cd70)
def cd71 : List AE := [
  (0, .aload_n 0, 1, 0, 0, 0), (1, .getfield 38, 3, 4, 7, 225), (4, .aload_n 0, 1, 0, 0, 0), (5, .getfield 27, 3, 4, 0, 218),
  (8, .invokevirtual 52, 3, 6, 0, 314), (11, .if_icmp .le 14, 3, 25, 0, 0), (14, .aload_n 0, 1, 0, 0, 0), (15, .getfield 31, 3, 4, 1, 219),
  (18, .invokevirtual 58, 3, 40, 0, 315), (21, .aload_n 0, 1, 0, 0, 0), (22, .invokevirtual 63, 3, 72, 0, 434), (25, .aload_n 0, 1, 0, 0, 0),
  (26, .getfield 38, 3, 4, 7, 225), (29, .bipush 20, 2, 0, 0, 0), (31, .invokestatic 66, 3, 1003, 0, 439), (34, .iconst 1, 1, 0, 0, 0),
  (35, .isub, 1, 0, 0, 0), (36, .istore_n 1, 1, 0, 0, 0), (37, .iload_n 1, 1, 0, 0, 0), (38, .ifCond .lt 14, 3, 52, 0, 0),
  (41, .aload_n 0, 1, 0, 0, 0), (42, .iload_n 1, 1, 0, 0, 0), (43, .invokevirtual 69, 3, 73, 0, 448), (46, .iinc 1 (-1), 3, 0, 0, 0),
  (49, .goto (-12), 3, 37, 0, 0), (52, .aload_n 0, 1, 0, 0, 0), (53, .iconst 0, 1, 0, 0, 0), (54, .putfield 38, 3, 4, 7, 225),
  (57, .return_, 1, 0, 0, 0)]
def mm71 : MT := (yX4_solve, cX4_solve, 2, none, 0, 1, 6, 144, 4, cd71)
def cd72 : List AE := [
  (0, .aload_n 0, 1, 0, 0, 0), (1, .aload_n 0, 1, 0, 0, 0), (2, .getfield 27, 3, 4, 0, 218), (5, .getfield 73, 3, 0, 2, 105),
  (8, .ifCond .eq 15, 3, 23, 0, 0), (11, .aload_n 0, 1, 0, 0, 0), (12, .getfield 27, 3, 4, 0, 218), (15, .getfield 77, 3, 0, 0, 99),
  (18, .iconst 2, 1, 0, 0, 0), (19, .iadd, 1, 0, 0, 0), (20, .goto 12, 3, 32, 0, 0), (23, .aload_n 0, 1, 0, 0, 0),
  (24, .getfield 27, 3, 4, 0, 218), (27, .getfield 77, 3, 0, 0, 99), (30, .iconst 1, 1, 0, 0, 0), (31, .iadd, 1, 0, 0, 0),
  (32, .invokestatic 80, 3, 20, 0, 438), (35, .putfield 84, 3, 4, 6, 224), (38, .aload_n 0, 1, 0, 0, 0), (39, .getfield 27, 3, 4, 0, 218),
  (42, .invokevirtual 52, 3, 6, 0, 314), (45, .bipush 20, 2, 0, 0, 0), (47, .invokestatic 66, 3, 1003, 0, 439), (50, .istore_n 1, 1, 0, 0, 0),
  (51, .aload_n 0, 1, 0, 0, 0), (52, .iload_n 1, 1, 0, 0, 0), (53, .iconst 1, 1, 0, 0, 0), (54, .iadd, 1, 0, 0, 0),
  (55, .iconst 0, 1, 0, 0, 0), (56, .iconst 0, 1, 0, 0, 0), (57, .invokevirtual 87, 3, 76, 0, 440), (60, .istore_n 2, 1, 0, 0, 0),
  (61, .aload_n 0, 1, 0, 0, 0), (62, .getfield 15, 3, 4, 3, 221), (65, .arraylength, 1, 0, 0, 0), (66, .iload_n 2, 1, 0, 0, 0),
  (67, .if_icmp .ge 10, 3, 77, 0, 0), (70, .aload_n 0, 1, 0, 0, 0), (71, .iload_n 2, 1, 0, 0, 0), (72, .newarray .long, 2, 0, 0, 0),
  (74, .putfield 15, 3, 4, 3, 221), (77, .aload_n 0, 1, 0, 0, 0), (78, .iload_n 1, 1, 0, 0, 0), (79, .invokevirtual 91, 3, 75, 0, 444),
  (82, .aload_n 0, 1, 0, 0, 0), (83, .getfield 11, 3, 4, 2, 220), (86, .iload_n 1, 1, 0, 0, 0), (87, .iconst 0, 1, 0, 0, 0),
  (88, .iastore, 1, 0, 0, 0), (89, .aload_n 0, 1, 0, 0, 0), (90, .iload_n 1, 1, 0, 0, 0), (91, .iconst 0, 1, 0, 0, 0),
  (92, .iconst 0, 1, 0, 0, 0), (93, .invokevirtual 87, 3, 76, 0, 440), (96, .istore_n 3, 1, 0, 0, 0), (97, .iload_n 3, 1, 0, 0, 0),
  (98, .ifCond .lt 19, 3, 117, 0, 0), (101, .iload_n 3, 1, 0, 0, 0), (102, .aload_n 0, 1, 0, 0, 0), (103, .getfield 15, 3, 4, 3, 221),
  (106, .arraylength, 1, 0, 0, 0), (107, .if_icmp .ge 10, 3, 117, 0, 0), (110, .aload_n 0, 1, 0, 0, 0), (111, .getfield 15, 3, 4, 3, 221),
  (114, .iload_n 3, 1, 0, 0, 0), (115, .lconst 1, 1, 0, 0, 0), (116, .lastore, 1, 0, 0, 0), (117, .aload_n 0, 1, 0, 0, 0),
  (118, .iload_n 1, 1, 0, 0, 0), (119, .putfield 38, 3, 4, 7, 225), (122, .return_, 1, 0, 0, 0)]
def mm72 : MT := (yX4_solveEnd, cX4_solveEnd, 4, none, 0, 1, 2, 71, 4, cd72)
def cd73 : List AE := [
  (0, .aload_n 0, 1, 0, 0, 0), (1, .iload_n 1, 1, 0, 0, 0), (2, .invokevirtual 91, 3, 75, 0, 444), (5, .iconst 0, 1, 0, 0, 0),
  (6, .istore_n 2, 1, 0, 0, 0), (7, .aload_n 0, 1, 0, 0, 0), (8, .getfield 31, 3, 4, 1, 219), (11, .iload_n 1, 1, 0, 0, 0),
  (12, .iconst 1, 1, 0, 0, 0), (13, .iadd, 1, 0, 0, 0), (14, .invokevirtual 94, 3, 45, 0, 452), (17, .istore_n 3, 1, 0, 0, 0),
  (18, .aload_n 0, 1, 0, 0, 0), (19, .getfield 31, 3, 4, 1, 219), (22, .iload_n 1, 1, 0, 0, 0), (23, .invokevirtual 94, 3, 45, 0, 452),
  (26, .istore 4, 2, 0, 0, 0), (28, .iload 4, 2, 0, 0, 0), (30, .iload_n 3, 1, 0, 0, 0), (31, .if_icmp .ge 50, 3, 81, 0, 0),
  (34, .aload_n 0, 1, 0, 0, 0), (35, .getfield 27, 3, 4, 0, 218), (38, .iload_n 1, 1, 0, 0, 0), (39, .aload_n 0, 1, 0, 0, 0),
  (40, .getfield 31, 3, 4, 1, 219), (43, .iload 4, 2, 0, 0, 0), (45, .invokevirtual 97, 3, 49, 0, 456), (48, .invokevirtual 100, 3, 16, 0, 464),
  (51, .ifCond .eq 24, 3, 75, 0, 0), (54, .iload_n 2, 1, 0, 0, 0), (55, .aload_n 0, 1, 0, 0, 0), (56, .getfield 31, 3, 4, 1, 219),
  (59, .iload 4, 2, 0, 0, 0), (61, .invokevirtual 104, 3, 50, 0, 470), (64, .invokestatic 42, 3, 1002, 0, 291), (67, .istore_n 2, 1, 0, 0, 0),
  (68, .aload_n 0, 1, 0, 0, 0), (69, .iload_n 1, 1, 0, 0, 0), (70, .iload 4, 2, 0, 0, 0), (72, .invokevirtual 107, 3, 74, 0, 474),
  (75, .iinc 4 1, 3, 0, 0, 0), (78, .goto (-50), 3, 28, 0, 0), (81, .aload_n 0, 1, 0, 0, 0), (82, .getfield 11, 3, 4, 2, 220),
  (85, .iload_n 1, 1, 0, 0, 0), (86, .bipush 12, 2, 0, 0, 0), (88, .aload_n 0, 1, 0, 0, 0), (89, .iload_n 1, 1, 0, 0, 0),
  (90, .iconst 1, 1, 0, 0, 0), (91, .iadd, 1, 0, 0, 0), (92, .invokevirtual 111, 3, 77, 0, 486), (95, .iload_n 2, 1, 0, 0, 0),
  (96, .iadd, 1, 0, 0, 0), (97, .invokestatic 66, 3, 1003, 0, 439), (100, .iastore, 1, 0, 0, 0), (101, .return_, 1, 0, 0, 0)]
def mm73 : MT := (yX4_solveCell, cX4_solveCell, 5, none, 1, 1, 3, 75, 4, cd73)
def cd74 : List AE := [
  (0, .aload_n 0, 1, 0, 0, 0), (1, .getfield 31, 3, 4, 1, 219), (4, .iload_n 2, 1, 0, 0, 0), (5, .invokevirtual 104, 3, 50, 0, 470),
  (8, .istore_n 3, 1, 0, 0, 0), (9, .aload_n 0, 1, 0, 0, 0), (10, .iload_n 1, 1, 0, 0, 0), (11, .aload_n 0, 1, 0, 0, 0),
  (12, .getfield 31, 3, 4, 1, 219), (15, .iload_n 2, 1, 0, 0, 0), (16, .invokevirtual 114, 3, 47, 0, 478), (19, .iload_n 3, 1, 0, 0, 0),
  (20, .invokevirtual 87, 3, 76, 0, 440), (23, .istore 4, 2, 0, 0, 0), (25, .aload_n 0, 1, 0, 0, 0), (26, .iload_n 1, 1, 0, 0, 0),
  (27, .iconst 1, 1, 0, 0, 0), (28, .iadd, 1, 0, 0, 0), (29, .aload_n 0, 1, 0, 0, 0), (30, .getfield 31, 3, 4, 1, 219),
  (33, .iload_n 2, 1, 0, 0, 0), (34, .invokevirtual 117, 3, 48, 0, 482), (37, .iconst 0, 1, 0, 0, 0), (38, .invokevirtual 87, 3, 76, 0, 440),
  (41, .istore 5, 2, 0, 0, 0), (43, .aload_n 0, 1, 0, 0, 0), (44, .iload_n 1, 1, 0, 0, 0), (45, .iconst 1, 1, 0, 0, 0),
  (46, .iadd, 1, 0, 0, 0), (47, .invokevirtual 111, 3, 77, 0, 486), (50, .bipush 12, 2, 0, 0, 0), (52, .iload_n 3, 1, 0, 0, 0),
  (53, .isub, 1, 0, 0, 0), (54, .invokestatic 66, 3, 1003, 0, 439), (57, .istore 6, 2, 0, 0, 0), (59, .iload 4, 2, 0, 0, 0),
  (61, .ifCond .lt 34, 3, 95, 0, 0), (64, .iload 4, 2, 0, 0, 0), (66, .iload 6, 2, 0, 0, 0), (68, .iadd, 1, 0, 0, 0),
  (69, .aload_n 0, 1, 0, 0, 0), (70, .getfield 15, 3, 4, 3, 221), (73, .arraylength, 1, 0, 0, 0), (74, .if_icmp .ge 21, 3, 95, 0, 0),
  (77, .iload 5, 2, 0, 0, 0), (79, .ifCond .lt 16, 3, 95, 0, 0), (82, .iload 5, 2, 0, 0, 0), (84, .iload 6, 2, 0, 0, 0),
  (86, .iadd, 1, 0, 0, 0), (87, .aload_n 0, 1, 0, 0, 0), (88, .getfield 15, 3, 4, 3, 221), (91, .arraylength, 1, 0, 0, 0),
  (92, .if_icmp .lt 4, 3, 96, 0, 0), (95, .return_, 1, 0, 0, 0), (96, .iconst 0, 1, 0, 0, 0), (97, .istore 7, 2, 0, 0, 0),
  (99, .iload 7, 2, 0, 0, 0), (101, .iload 6, 2, 0, 0, 0), (103, .if_icmp .gt 32, 3, 135, 0, 0), (106, .aload_n 0, 1, 0, 0, 0),
  (107, .getfield 15, 3, 4, 3, 221), (110, .iload 4, 2, 0, 0, 0), (112, .iload 7, 2, 0, 0, 0), (114, .iadd, 1, 0, 0, 0),
  (115, .dup2, 1, 0, 0, 0), (116, .laload, 1, 0, 0, 0), (117, .aload_n 0, 1, 0, 0, 0), (118, .getfield 15, 3, 4, 3, 221),
  (121, .iload 5, 2, 0, 0, 0), (123, .iload 7, 2, 0, 0, 0), (125, .iadd, 1, 0, 0, 0), (126, .laload, 1, 0, 0, 0),
  (127, .ladd, 1, 0, 0, 0), (128, .lastore, 1, 0, 0, 0), (129, .iinc 7 1, 3, 0, 0, 0), (132, .goto (-33), 3, 99, 0, 0),
  (135, .return_, 1, 0, 0, 0)]
def mm74 : MT := (yX4_addWays, cX4_addWays, 8, none, 2, 1, 2, 48, 4, cd74)
def cd75 : List AE := [
  (0, .aload_n 0, 1, 0, 0, 0), (1, .iload_n 1, 1, 0, 0, 0), (2, .iconst 1, 1, 0, 0, 0), (3, .iadd, 1, 0, 0, 0),
  (4, .iconst 0, 1, 0, 0, 0), (5, .iconst 0, 1, 0, 0, 0), (6, .invokevirtual 87, 3, 76, 0, 440), (9, .aload_n 0, 1, 0, 0, 0),
  (10, .getfield 15, 3, 4, 3, 221), (13, .arraylength, 1, 0, 0, 0), (14, .invokestatic 66, 3, 1003, 0, 439), (17, .istore_n 2, 1, 0, 0, 0),
  (18, .aload_n 0, 1, 0, 0, 0), (19, .iload_n 1, 1, 0, 0, 0), (20, .iconst 0, 1, 0, 0, 0), (21, .iconst 0, 1, 0, 0, 0),
  (22, .invokevirtual 87, 3, 76, 0, 440), (25, .iconst 0, 1, 0, 0, 0), (26, .invokestatic 42, 3, 1002, 0, 291), (29, .istore_n 3, 1, 0, 0, 0),
  (30, .iload_n 3, 1, 0, 0, 0), (31, .iload_n 2, 1, 0, 0, 0), (32, .if_icmp .ge 16, 3, 48, 0, 0), (35, .aload_n 0, 1, 0, 0, 0),
  (36, .getfield 15, 3, 4, 3, 221), (39, .iload_n 3, 1, 0, 0, 0), (40, .lconst 0, 1, 0, 0, 0), (41, .lastore, 1, 0, 0, 0),
  (42, .iinc 3 1, 3, 0, 0, 0), (45, .goto (-15), 3, 30, 0, 0), (48, .return_, 1, 0, 0, 0)]
def mm75 : MT := (yX4_clear, cX4_clear, 4, none, 1, 1, 1, 48, 4, cd75)
def cd76 : List AE := [
  (0, .iload_n 1, 1, 0, 0, 0), (1, .aload_n 0, 1, 0, 0, 0), (2, .getfield 84, 3, 4, 6, 224), (5, .imul, 1, 0, 0, 0),
  (6, .iload_n 2, 1, 0, 0, 0), (7, .iadd, 1, 0, 0, 0), (8, .bipush 13, 2, 0, 0, 0), (10, .imul, 1, 0, 0, 0),
  (11, .iload_n 3, 1, 0, 0, 0), (12, .iadd, 1, 0, 0, 0), (13, .ireturn, 1, 0, 0, 0)]
def mm76 : MT := (yX4_index, cX4_index, 4, (some .int), 3, 1, 0, 0, 4, cd76)
def cd77 : List AE := [
  (0, .iload_n 1, 1, 0, 0, 0), (1, .ifCond .lt 9, 3, 10, 0, 0), (4, .iload_n 1, 1, 0, 0, 0), (5, .bipush 20, 2, 0, 0, 0),
  (7, .if_icmp .le 7, 3, 14, 0, 0), (10, .iconst 0, 1, 0, 0, 0), (11, .goto 9, 3, 20, 0, 0), (14, .aload_n 0, 1, 0, 0, 0),
  (15, .getfield 11, 3, 4, 2, 220), (18, .iload_n 1, 1, 0, 0, 0), (19, .iaload, 1, 0, 0, 0), (20, .ireturn, 1, 0, 0, 0)]
def mm77 : MT := (yX4_top, cX4_top, 2, (some .int), 1, 1, 0, 0, 4, cd77)
def cd78 : List AE := [
  (0, .iload_n 1, 1, 0, 0, 0), (1, .ifCond .lt 12, 3, 13, 0, 0), (4, .iload_n 1, 1, 0, 0, 0), (5, .aload_n 0, 1, 0, 0, 0),
  (6, .getfield 15, 3, 4, 3, 221), (9, .arraylength, 1, 0, 0, 0), (10, .if_icmp .lt 7, 3, 17, 0, 0), (13, .lconst 0, 1, 0, 0, 0),
  (14, .goto 9, 3, 23, 0, 0), (17, .aload_n 0, 1, 0, 0, 0), (18, .getfield 15, 3, 4, 3, 221), (21, .iload_n 1, 1, 0, 0, 0),
  (22, .laload, 1, 0, 0, 0), (23, .lreturn, 1, 0, 0, 0)]
def mm78 : MT := (yX4_wayAt, cX4_wayAt, 2, (some .long), 1, 1, 0, 0, 4, cd78)
def cd79 : List AE := [
  (0, .aload_n 0, 1, 0, 0, 0), (1, .iload_n 1, 1, 0, 0, 0), (2, .invokevirtual 111, 3, 77, 0, 486), (5, .istore 5, 2, 0, 0, 0),
  (7, .iload_n 3, 1, 0, 0, 0), (8, .ifCond .ne 32, 3, 40, 0, 0), (11, .iload 4, 2, 0, 0, 0), (13, .ifCond .lt 10, 3, 23, 0, 0),
  (16, .iload 4, 2, 0, 0, 0), (18, .iload 5, 2, 0, 0, 0), (20, .if_icmp .le 7, 3, 27, 0, 0), (23, .lconst 0, 1, 0, 0, 0),
  (24, .goto 15, 3, 39, 0, 0), (27, .aload_n 0, 1, 0, 0, 0), (28, .aload_n 0, 1, 0, 0, 0), (29, .iload_n 1, 1, 0, 0, 0),
  (30, .iload_n 2, 1, 0, 0, 0), (31, .iload 4, 2, 0, 0, 0), (33, .invokevirtual 87, 3, 76, 0, 440), (36, .invokevirtual 120, 3, 78, 0, 498),
  (39, .lreturn, 1, 0, 0, 0), (40, .lconst 0, 1, 0, 0, 0), (41, .lstore 6, 2, 0, 0, 0), (43, .iconst 0, 1, 0, 0, 0),
  (44, .istore 8, 2, 0, 0, 0), (46, .iload 8, 2, 0, 0, 0), (48, .iload 5, 2, 0, 0, 0), (50, .if_icmp .gt 26, 3, 76, 0, 0),
  (53, .lload 6, 2, 0, 0, 0), (55, .aload_n 0, 1, 0, 0, 0), (56, .aload_n 0, 1, 0, 0, 0), (57, .iload_n 1, 1, 0, 0, 0),
  (58, .iload_n 2, 1, 0, 0, 0), (59, .iload 8, 2, 0, 0, 0), (61, .invokevirtual 87, 3, 76, 0, 440), (64, .invokevirtual 120, 3, 78, 0, 498),
  (67, .ladd, 1, 0, 0, 0), (68, .lstore 6, 2, 0, 0, 0), (70, .iinc 8 1, 3, 0, 0, 0), (73, .goto (-27), 3, 46, 0, 0),
  (76, .lload 6, 2, 0, 0, 0), (78, .lreturn, 1, 0, 0, 0)]
def mm79 : MT := (yX4_waysFrom, cX4_waysFrom, 9, (some .long), 4, 1, 1, 23, 4, cd79)
def cd80 : List AE := [
  (0, .aload_n 0, 1, 0, 0, 0), (1, .getfield 27, 3, 4, 0, 218), (4, .iload_n 1, 1, 0, 0, 0), (5, .iload_n 2, 1, 0, 0, 0),
  (6, .invokevirtual 100, 3, 16, 0, 464), (9, .ifCond .ne 5, 3, 14, 0, 0), (12, .lconst 0, 1, 0, 0, 0), (13, .lreturn, 1, 0, 0, 0),
  (14, .aload_n 0, 1, 0, 0, 0), (15, .iload_n 1, 1, 0, 0, 0), (16, .invokevirtual 124, 3, 81, 0, 520), (19, .lconst 0, 1, 0, 0, 0),
  (20, .lstore_n 3, 1, 0, 0, 0), (21, .aload_n 0, 1, 0, 0, 0), (22, .getfield 31, 3, 4, 1, 219), (25, .iload_n 1, 1, 0, 0, 0),
  (26, .iconst 1, 1, 0, 0, 0), (27, .iadd, 1, 0, 0, 0), (28, .invokevirtual 94, 3, 45, 0, 452), (31, .istore 5, 2, 0, 0, 0),
  (33, .aload_n 0, 1, 0, 0, 0), (34, .getfield 31, 3, 4, 1, 219), (37, .iload_n 1, 1, 0, 0, 0), (38, .invokevirtual 94, 3, 45, 0, 452),
  (41, .istore 6, 2, 0, 0, 0), (43, .iload 6, 2, 0, 0, 0), (45, .iload 5, 2, 0, 0, 0), (47, .if_icmp .ge 69, 3, 116, 0, 0),
  (50, .aload_n 0, 1, 0, 0, 0), (51, .getfield 31, 3, 4, 1, 219), (54, .iload 6, 2, 0, 0, 0), (56, .invokevirtual 114, 3, 47, 0, 478),
  (59, .istore 7, 2, 0, 0, 0), (61, .aload_n 0, 1, 0, 0, 0), (62, .getfield 31, 3, 4, 1, 219), (65, .iload 6, 2, 0, 0, 0),
  (67, .invokevirtual 97, 3, 49, 0, 456), (70, .iload_n 2, 1, 0, 0, 0), (71, .if_icmp .ne 39, 3, 110, 0, 0), (74, .iload 7, 2, 0, 0, 0),
  (76, .bipush 76, 2, 0, 0, 0), (78, .if_icmp .ge 32, 3, 110, 0, 0), (81, .lload_n 3, 1, 0, 0, 0), (82, .aload_n 0, 1, 0, 0, 0),
  (83, .getfield 21, 3, 4, 4, 222), (86, .iload 7, 2, 0, 0, 0), (88, .laload, 1, 0, 0, 0), (89, .aload_n 0, 1, 0, 0, 0),
  (90, .iload_n 1, 1, 0, 0, 0), (91, .iconst 1, 1, 0, 0, 0), (92, .iadd, 1, 0, 0, 0), (93, .aload_n 0, 1, 0, 0, 0),
  (94, .getfield 31, 3, 4, 1, 219), (97, .iload 6, 2, 0, 0, 0), (99, .invokevirtual 117, 3, 48, 0, 482), (102, .iconst 1, 1, 0, 0, 0),
  (103, .iconst (-1), 1, 0, 0, 0), (104, .invokevirtual 48, 3, 79, 0, 494), (107, .lmul, 1, 0, 0, 0), (108, .ladd, 1, 0, 0, 0),
  (109, .lstore_n 3, 1, 0, 0, 0), (110, .iinc 6 1, 3, 0, 0, 0), (113, .goto (-70), 3, 43, 0, 0), (116, .lload_n 3, 1, 0, 0, 0),
  (117, .lreturn, 1, 0, 0, 0)]
def mm80 : MT := (yX4_fillingsThrough, cX4_fillingsThrough, 8, (some .long), 2, 1, 4, 90, 4, cd80)
def cd81 : List AE := [
  (0, .aload_n 0, 1, 0, 0, 0), (1, .getfield 21, 3, 4, 4, 222), (4, .invokestatic 127, 3, 82, 0, 524), (7, .aload_n 0, 1, 0, 0, 0),
  (8, .getfield 21, 3, 4, 4, 222), (11, .iconst 0, 1, 0, 0, 0), (12, .lconst 1, 1, 0, 0, 0), (13, .lastore, 1, 0, 0, 0),
  (14, .iconst 0, 1, 0, 0, 0), (15, .istore_n 2, 1, 0, 0, 0), (16, .iload_n 2, 1, 0, 0, 0), (17, .iload_n 1, 1, 0, 0, 0),
  (18, .if_icmp .ge 142, 3, 160, 0, 0), (21, .aload_n 0, 1, 0, 0, 0), (22, .getfield 24, 3, 4, 5, 223), (25, .invokestatic 127, 3, 82, 0, 524),
  (28, .aload_n 0, 1, 0, 0, 0), (29, .getfield 31, 3, 4, 1, 219), (32, .iload_n 2, 1, 0, 0, 0), (33, .iconst 1, 1, 0, 0, 0),
  (34, .iadd, 1, 0, 0, 0), (35, .invokevirtual 94, 3, 45, 0, 452), (38, .istore_n 3, 1, 0, 0, 0), (39, .aload_n 0, 1, 0, 0, 0),
  (40, .getfield 31, 3, 4, 1, 219), (43, .iload_n 2, 1, 0, 0, 0), (44, .invokevirtual 94, 3, 45, 0, 452), (47, .istore 4, 2, 0, 0, 0),
  (49, .iload 4, 2, 0, 0, 0), (51, .iload_n 3, 1, 0, 0, 0), (52, .if_icmp .ge 82, 3, 134, 0, 0), (55, .aload_n 0, 1, 0, 0, 0),
  (56, .getfield 31, 3, 4, 1, 219), (59, .iload 4, 2, 0, 0, 0), (61, .invokevirtual 114, 3, 47, 0, 478), (64, .istore 5, 2, 0, 0, 0),
  (66, .aload_n 0, 1, 0, 0, 0), (67, .getfield 31, 3, 4, 1, 219), (70, .iload 4, 2, 0, 0, 0), (72, .invokevirtual 117, 3, 48, 0, 482),
  (75, .istore 6, 2, 0, 0, 0), (77, .iload 5, 2, 0, 0, 0), (79, .bipush 76, 2, 0, 0, 0), (81, .if_icmp .ge 47, 3, 128, 0, 0),
  (84, .iload 6, 2, 0, 0, 0), (86, .bipush 76, 2, 0, 0, 0), (88, .if_icmp .ge 40, 3, 128, 0, 0), (91, .aload_n 0, 1, 0, 0, 0),
  (92, .getfield 27, 3, 4, 0, 218), (95, .iload_n 2, 1, 0, 0, 0), (96, .aload_n 0, 1, 0, 0, 0), (97, .getfield 31, 3, 4, 1, 219),
  (100, .iload 4, 2, 0, 0, 0), (102, .invokevirtual 97, 3, 49, 0, 456), (105, .invokevirtual 100, 3, 16, 0, 464), (108, .ifCond .eq 20, 3, 128, 0, 0),
  (111, .aload_n 0, 1, 0, 0, 0), (112, .getfield 24, 3, 4, 5, 223), (115, .iload 6, 2, 0, 0, 0), (117, .dup2, 1, 0, 0, 0),
  (118, .laload, 1, 0, 0, 0), (119, .aload_n 0, 1, 0, 0, 0), (120, .getfield 21, 3, 4, 4, 222), (123, .iload 5, 2, 0, 0, 0),
  (125, .laload, 1, 0, 0, 0), (126, .ladd, 1, 0, 0, 0), (127, .lastore, 1, 0, 0, 0), (128, .iinc 4 1, 3, 0, 0, 0),
  (131, .goto (-82), 3, 49, 0, 0), (134, .aload_n 0, 1, 0, 0, 0), (135, .getfield 21, 3, 4, 4, 222), (138, .astore 4, 2, 0, 0, 0),
  (140, .aload_n 0, 1, 0, 0, 0), (141, .aload_n 0, 1, 0, 0, 0), (142, .getfield 24, 3, 4, 5, 223), (145, .putfield 21, 3, 4, 4, 222),
  (148, .aload_n 0, 1, 0, 0, 0), (149, .aload 4, 2, 0, 0, 0), (151, .putfield 24, 3, 4, 5, 223), (154, .iinc 2 1, 3, 0, 0, 0),
  (157, .goto (-141), 3, 16, 0, 0), (160, .return_, 1, 0, 0, 0)]
def mm81 : MT := (yX4_reach, cX4_reach, 7, none, 1, 1, 3, 64, 4, cd81)
def cd82 : List AE := [
  (0, .iconst 0, 1, 0, 0, 0), (1, .istore_n 1, 1, 0, 0, 0), (2, .iload_n 1, 1, 0, 0, 0), (3, .aload_n 0, 1, 0, 0, 0),
  (4, .arraylength, 1, 0, 0, 0), (5, .if_icmp .ge 13, 3, 18, 0, 0), (8, .aload_n 0, 1, 0, 0, 0), (9, .iload_n 1, 1, 0, 0, 0),
  (10, .lconst 0, 1, 0, 0, 0), (11, .lastore, 1, 0, 0, 0), (12, .iinc 1 1, 3, 0, 0, 0), (15, .goto (-13), 3, 2, 0, 0),
  (18, .return_, 1, 0, 0, 0)]
def mm82 : MT := (yX4_unreach, cX4_unreach, 2, none, 1, 0, 0, 0, 4, cd82)
def cd83 : List AE := [
  (0, .aload_n 0, 1, 0, 0, 0), (1, .getfield 27, 3, 4, 0, 218), (4, .invokevirtual 52, 3, 6, 0, 314), (7, .istore 5, 2, 0, 0, 0),
  (9, .iload_n 2, 1, 0, 0, 0), (10, .iconst (-1), 1, 0, 0, 0), (11, .if_icmp .ne 7, 3, 18, 0, 0), (14, .iconst 1, 1, 0, 0, 0),
  (15, .goto 4, 3, 19, 0, 0), (18, .iconst 0, 1, 0, 0, 0), (19, .istore 6, 2, 0, 0, 0), (21, .lload_n 3, 1, 0, 0, 0),
  (22, .lstore 7, 2, 0, 0, 0), (24, .iload_n 2, 1, 0, 0, 0), (25, .istore 9, 2, 0, 0, 0), (27, .iconst 0, 1, 0, 0, 0),
  (28, .istore 10, 2, 0, 0, 0), (30, .iconst 0, 1, 0, 0, 0), (31, .istore 11, 2, 0, 0, 0), (33, .iload 11, 2, 0, 0, 0),
  (35, .iload 5, 2, 0, 0, 0), (37, .if_icmp .ge 169, 3, 206, 0, 0), (40, .aload_n 0, 1, 0, 0, 0), (41, .getfield 31, 3, 4, 1, 219),
  (44, .iload 11, 2, 0, 0, 0), (46, .iconst 1, 1, 0, 0, 0), (47, .iadd, 1, 0, 0, 0), (48, .invokevirtual 94, 3, 45, 0, 452),
  (51, .istore 12, 2, 0, 0, 0), (53, .aload_n 0, 1, 0, 0, 0), (54, .getfield 31, 3, 4, 1, 219), (57, .iload 11, 2, 0, 0, 0),
  (59, .invokevirtual 94, 3, 45, 0, 452), (62, .istore 13, 2, 0, 0, 0), (64, .iload 13, 2, 0, 0, 0), (66, .iload 12, 2, 0, 0, 0),
  (68, .if_icmp .ge 132, 3, 200, 0, 0), (71, .aload_n 0, 1, 0, 0, 0), (72, .getfield 31, 3, 4, 1, 219), (75, .iload 13, 2, 0, 0, 0),
  (77, .invokevirtual 114, 3, 47, 0, 478), (80, .iload 10, 2, 0, 0, 0), (82, .if_icmp .ne 112, 3, 194, 0, 0), (85, .aload_n 0, 1, 0, 0, 0),
  (86, .getfield 27, 3, 4, 0, 218), (89, .iload 11, 2, 0, 0, 0), (91, .aload_n 0, 1, 0, 0, 0), (92, .getfield 31, 3, 4, 1, 219),
  (95, .iload 13, 2, 0, 0, 0), (97, .invokevirtual 97, 3, 49, 0, 456), (100, .invokevirtual 100, 3, 16, 0, 464), (103, .ifCond .ne 6, 3, 109, 0, 0),
  (106, .goto 88, 3, 194, 0, 0), (109, .iload 9, 2, 0, 0, 0), (111, .aload_n 0, 1, 0, 0, 0), (112, .getfield 31, 3, 4, 1, 219),
  (115, .iload 13, 2, 0, 0, 0), (117, .invokevirtual 104, 3, 50, 0, 470), (120, .isub, 1, 0, 0, 0), (121, .istore 14, 2, 0, 0, 0),
  (123, .aload_n 0, 1, 0, 0, 0), (124, .iload 11, 2, 0, 0, 0), (126, .iconst 1, 1, 0, 0, 0), (127, .iadd, 1, 0, 0, 0),
  (128, .aload_n 0, 1, 0, 0, 0), (129, .getfield 31, 3, 4, 1, 219), (132, .iload 13, 2, 0, 0, 0), (134, .invokevirtual 117, 3, 48, 0, 482),
  (137, .iload 6, 2, 0, 0, 0), (139, .iload 14, 2, 0, 0, 0), (141, .invokevirtual 48, 3, 79, 0, 494), (144, .lstore 15, 2, 0, 0, 0),
  (146, .lload 7, 2, 0, 0, 0), (148, .lload 15, 2, 0, 0, 0), (150, .lcmp, 1, 0, 0, 0), (151, .ifCond .ge 36, 3, 187, 0, 0),
  (154, .aload_n 1, 1, 0, 0, 0), (155, .iload 11, 2, 0, 0, 0), (157, .aload_n 0, 1, 0, 0, 0), (158, .getfield 31, 3, 4, 1, 219),
  (161, .iload 13, 2, 0, 0, 0), (163, .invokevirtual 97, 3, 49, 0, 456), (166, .invokevirtual 131, 3, 54, 0, 585), (169, .aload_n 0, 1, 0, 0, 0),
  (170, .getfield 31, 3, 4, 1, 219), (173, .iload 13, 2, 0, 0, 0), (175, .invokevirtual 117, 3, 48, 0, 482), (178, .istore 10, 2, 0, 0, 0),
  (180, .iload 14, 2, 0, 0, 0), (182, .istore 9, 2, 0, 0, 0), (184, .goto 16, 3, 200, 0, 0), (187, .lload 7, 2, 0, 0, 0),
  (189, .lload 15, 2, 0, 0, 0), (191, .lsub, 1, 0, 0, 0), (192, .lstore 7, 2, 0, 0, 0), (194, .iinc 13 1, 3, 0, 0, 0),
  (197, .goto (-133), 3, 64, 0, 0), (200, .iinc 11 1, 3, 0, 0, 0), (203, .goto (-170), 3, 33, 0, 0), (206, .return_, 1, 0, 0, 0)]
def mm83 : MT := (yX4_choose, cX4_choose, 17, none, 3, 1, 3, 64, 4, cd83)
def cd84 : List AE := [
  (0, .aload_n 0, 1, 0, 0, 0), (1, .getfield 27, 3, 4, 0, 218), (4, .invokevirtual 52, 3, 6, 0, 314), (7, .istore_n 3, 1, 0, 0, 0),
  (8, .iload_n 2, 1, 0, 0, 0), (9, .iconst (-1), 1, 0, 0, 0), (10, .if_icmp .ne 7, 3, 17, 0, 0), (13, .iconst 1, 1, 0, 0, 0),
  (14, .goto 4, 3, 18, 0, 0), (17, .iconst 0, 1, 0, 0, 0), (18, .istore 4, 2, 0, 0, 0), (20, .lconst 0, 1, 0, 0, 0),
  (21, .lstore 5, 2, 0, 0, 0), (23, .iload_n 2, 1, 0, 0, 0), (24, .istore 7, 2, 0, 0, 0), (26, .iconst 0, 1, 0, 0, 0),
  (27, .istore 8, 2, 0, 0, 0), (29, .iconst 0, 1, 0, 0, 0), (30, .istore 9, 2, 0, 0, 0), (32, .iload 9, 2, 0, 0, 0),
  (34, .iload_n 3, 1, 0, 0, 0), (35, .if_icmp .ge 168, 3, 203, 0, 0), (38, .aload_n 1, 1, 0, 0, 0), (39, .iload 9, 2, 0, 0, 0),
  (41, .invokevirtual 136, 3, 53, 0, 594), (44, .istore 10, 2, 0, 0, 0), (46, .aload_n 0, 1, 0, 0, 0), (47, .getfield 31, 3, 4, 1, 219),
  (50, .iload 9, 2, 0, 0, 0), (52, .iconst 1, 1, 0, 0, 0), (53, .iadd, 1, 0, 0, 0), (54, .invokevirtual 94, 3, 45, 0, 452),
  (57, .istore 11, 2, 0, 0, 0), (59, .aload_n 0, 1, 0, 0, 0), (60, .getfield 31, 3, 4, 1, 219), (63, .iload 9, 2, 0, 0, 0),
  (65, .invokevirtual 94, 3, 45, 0, 452), (68, .istore 12, 2, 0, 0, 0), (70, .iload 12, 2, 0, 0, 0), (72, .iload 11, 2, 0, 0, 0),
  (74, .if_icmp .ge 123, 3, 197, 0, 0), (77, .aload_n 0, 1, 0, 0, 0), (78, .getfield 31, 3, 4, 1, 219), (81, .iload 12, 2, 0, 0, 0),
  (83, .invokevirtual 97, 3, 49, 0, 456), (86, .istore 13, 2, 0, 0, 0), (88, .aload_n 0, 1, 0, 0, 0), (89, .getfield 31, 3, 4, 1, 219),
  (92, .iload 12, 2, 0, 0, 0), (94, .invokevirtual 114, 3, 47, 0, 478), (97, .iload 8, 2, 0, 0, 0), (99, .if_icmp .ne 92, 3, 191, 0, 0),
  (102, .iload 13, 2, 0, 0, 0), (104, .iload 10, 2, 0, 0, 0), (106, .if_icmp .gt 85, 3, 191, 0, 0), (109, .aload_n 0, 1, 0, 0, 0),
  (110, .getfield 27, 3, 4, 0, 218), (113, .iload 9, 2, 0, 0, 0), (115, .iload 13, 2, 0, 0, 0), (117, .invokevirtual 100, 3, 16, 0, 464),
  (120, .ifCond .ne 6, 3, 126, 0, 0), (123, .goto 68, 3, 191, 0, 0), (126, .iload 7, 2, 0, 0, 0), (128, .aload_n 0, 1, 0, 0, 0),
  (129, .getfield 31, 3, 4, 1, 219), (132, .iload 12, 2, 0, 0, 0), (134, .invokevirtual 104, 3, 50, 0, 470), (137, .isub, 1, 0, 0, 0),
  (138, .istore 14, 2, 0, 0, 0), (140, .iload 13, 2, 0, 0, 0), (142, .iload 10, 2, 0, 0, 0), (144, .if_icmp .ne 21, 3, 165, 0, 0),
  (147, .aload_n 0, 1, 0, 0, 0), (148, .getfield 31, 3, 4, 1, 219), (151, .iload 12, 2, 0, 0, 0), (153, .invokevirtual 117, 3, 48, 0, 482),
  (156, .istore 8, 2, 0, 0, 0), (158, .iload 14, 2, 0, 0, 0), (160, .istore 7, 2, 0, 0, 0), (162, .goto 35, 3, 197, 0, 0),
  (165, .lload 5, 2, 0, 0, 0), (167, .aload_n 0, 1, 0, 0, 0), (168, .iload 9, 2, 0, 0, 0), (170, .iconst 1, 1, 0, 0, 0),
  (171, .iadd, 1, 0, 0, 0), (172, .aload_n 0, 1, 0, 0, 0), (173, .getfield 31, 3, 4, 1, 219), (176, .iload 12, 2, 0, 0, 0),
  (178, .invokevirtual 117, 3, 48, 0, 482), (181, .iload 4, 2, 0, 0, 0), (183, .iload 14, 2, 0, 0, 0), (185, .invokevirtual 48, 3, 79, 0, 494),
  (188, .ladd, 1, 0, 0, 0), (189, .lstore 5, 2, 0, 0, 0), (191, .iinc 12 1, 3, 0, 0, 0), (194, .goto (-124), 3, 70, 0, 0),
  (197, .iinc 9 1, 3, 0, 0, 0), (200, .goto (-168), 3, 32, 0, 0), (203, .lload 5, 2, 0, 0, 0), (205, .lreturn, 1, 0, 0, 0)]
def mm84 : MT := (yX4_ahead, cX4_ahead, 15, (some .long), 2, 1, 3, 64, 4, cd84)
def cd85 : List AE := [
  (0, .aload_n 0, 1, 0, 0, 0), (1, .invokespecial 3, 3, 1000, 0, 66), (4, .new 9, 3, 0, 0, 69), (7, .dup, 1, 0, 0, 0),
  (8, .invokespecial 11, 3, 0, 0, 71), (11, .astore_n 1, 1, 0, 0, 0), (12, .new 12, 3, 1, 0, 124), (15, .dup, 1, 0, 0, 0),
  (16, .aload_n 1, 1, 0, 0, 0), (17, .invokespecial 14, 3, 19, 0, 126), (20, .astore_n 2, 1, 0, 0, 0), (21, .aload_n 0, 1, 0, 0, 0),
  (22, .aload_n 1, 1, 0, 0, 0), (23, .putfield 17, 3, 5, 0, 244), (26, .aload_n 0, 1, 0, 0, 0), (27, .new 21, 3, 3, 0, 145),
  (30, .dup, 1, 0, 0, 0), (31, .aload_n 1, 1, 0, 0, 0), (32, .aload_n 2, 1, 0, 0, 0), (33, .invokespecial 23, 3, 51, 0, 147),
  (36, .putfield 26, 3, 5, 1, 245), (39, .aload_n 0, 1, 0, 0, 0), (40, .new 30, 3, 4, 0, 168), (43, .dup, 1, 0, 0, 0),
  (44, .aload_n 1, 1, 0, 0, 0), (45, .new 32, 3, 2, 0, 170), (48, .dup, 1, 0, 0, 0), (49, .aload_n 1, 1, 0, 0, 0),
  (50, .aload_n 2, 1, 0, 0, 0), (51, .invokespecial 34, 3, 39, 0, 172), (54, .invokespecial 35, 3, 67, 0, 210), (57, .putfield 38, 3, 5, 2, 246),
  (60, .return_, 1, 0, 0, 0)]
def mm85 : MT := (yX5_init, cX5_init, 3, none, 0, 2, 4, 85, 5, cd85)
def cd86 : List AE := [
  (0, .iload_n 1, 1, 0, 0, 0), (1, .iload_n 2, 1, 0, 0, 0), (2, .iload_n 3, 1, 0, 0, 0), (3, .invokestatic 42, 3, 1, 0, 258),
  (6, .ifCond .ne 5, 3, 11, 0, 0), (9, .iconst 0, 1, 0, 0, 0), (10, .ireturn, 1, 0, 0, 0), (11, .aload_n 0, 1, 0, 0, 0),
  (12, .getfield 17, 3, 5, 0, 244), (15, .iload_n 1, 1, 0, 0, 0), (16, .iload_n 2, 1, 0, 0, 0), (17, .iload_n 3, 1, 0, 0, 0),
  (18, .invokevirtual 46, 3, 3, 0, 261), (21, .aload_n 0, 1, 0, 0, 0), (22, .getfield 26, 3, 5, 1, 245), (25, .invokevirtual 50, 3, 52, 0, 262),
  (28, .aload_n 0, 1, 0, 0, 0), (29, .getfield 38, 3, 5, 2, 246), (32, .invokevirtual 53, 3, 68, 0, 266), (35, .iconst 1, 1, 0, 0, 0),
  (36, .ireturn, 1, 0, 0, 0)]
def mm86 : MT := (yX5_board, cX5_board, 4, (some .boolean), 3, 1, 3, 65, 5, cd86)
def cd87 : List AE := [
  (0, .iload_n 1, 1, 0, 0, 0), (1, .iconst (-1), 1, 0, 0, 0), (2, .if_icmp .ne 37, 3, 39, 0, 0), (5, .aload_n 0, 1, 0, 0, 0),
  (6, .getfield 17, 3, 5, 0, 244), (9, .invokevirtual 56, 3, 6, 0, 271), (12, .istore 4, 2, 0, 0, 0), (14, .iconst 0, 1, 0, 0, 0),
  (15, .istore 5, 2, 0, 0, 0), (17, .iload 5, 2, 0, 0, 0), (19, .iload 4, 2, 0, 0, 0), (21, .if_icmp .ge 16, 3, 37, 0, 0),
  (24, .aload_n 0, 1, 0, 0, 0), (25, .iload 5, 2, 0, 0, 0), (27, .iload_n 3, 1, 0, 0, 0), (28, .invokevirtual 60, 3, 88, 0, 275),
  (31, .iinc 5 1, 3, 0, 0, 0), (34, .goto (-17), 3, 17, 0, 0), (37, .iconst 1, 1, 0, 0, 0), (38, .ireturn, 1, 0, 0, 0),
  (39, .aload_n 0, 1, 0, 0, 0), (40, .getfield 17, 3, 5, 0, 244), (43, .iload_n 1, 1, 0, 0, 0), (44, .iload_n 2, 1, 0, 0, 0),
  (45, .invokevirtual 64, 3, 11, 0, 294), (48, .istore 4, 2, 0, 0, 0), (50, .iload 4, 2, 0, 0, 0), (52, .iconst (-1), 1, 0, 0, 0),
  (53, .if_icmp .ne 5, 3, 58, 0, 0), (56, .iconst 0, 1, 0, 0, 0), (57, .ireturn, 1, 0, 0, 0), (58, .aload_n 0, 1, 0, 0, 0),
  (59, .iload 4, 2, 0, 0, 0), (61, .iload_n 3, 1, 0, 0, 0), (62, .invokevirtual 60, 3, 88, 0, 275), (65, .iconst 1, 1, 0, 0, 0),
  (66, .ireturn, 1, 0, 0, 0)]
def mm87 : MT := (yX5_allow, cX5_allow, 6, (some .boolean), 3, 1, 3, 91, 5, cd87)
def cd88 : List AE := [
  (0, .aload_n 0, 1, 0, 0, 0), (1, .getfield 17, 3, 5, 0, 244), (4, .iload_n 1, 1, 0, 0, 0), (5, .iload_n 2, 1, 0, 0, 0),
  (6, .invokevirtual 68, 3, 14, 0, 279), (9, .ifCond .eq 11, 3, 20, 0, 0), (12, .aload_n 0, 1, 0, 0, 0), (13, .getfield 38, 3, 5, 2, 246),
  (16, .iload_n 1, 1, 0, 0, 0), (17, .invokevirtual 71, 3, 69, 0, 287), (20, .return_, 1, 0, 0, 0)]
def mm88 : MT := (yX5_permit, cX5_permit, 3, none, 2, 1, 2, 69, 5, cd88)
def cd89 : List AE := [
  (0, .aload_n 0, 1, 0, 0, 0), (1, .getfield 17, 3, 5, 0, 244), (4, .iload_n 1, 1, 0, 0, 0), (5, .iload_n 2, 1, 0, 0, 0),
  (6, .invokevirtual 64, 3, 11, 0, 294), (9, .istore_n 3, 1, 0, 0, 0), (10, .iload_n 3, 1, 0, 0, 0), (11, .iconst (-1), 1, 0, 0, 0),
  (12, .if_icmp .ne 7, 3, 19, 0, 0), (15, .iconst (-1), 1, 0, 0, 0), (16, .goto 11, 3, 27, 0, 0), (19, .aload_n 0, 1, 0, 0, 0),
  (20, .getfield 17, 3, 5, 0, 244), (23, .iload_n 3, 1, 0, 0, 0), (24, .invokevirtual 75, 3, 15, 0, 302), (27, .ireturn, 1, 0, 0, 0)]
def mm89 : MT := (yX5_allowed, cX5_allowed, 4, (some .int), 2, 1, 2, 42, 5, cd89)
def cd90 : List AE := [
  (0, .aload_n 0, 1, 0, 0, 0), (1, .getfield 38, 3, 5, 2, 246), (4, .invokevirtual 79, 3, 71, 0, 310), (7, .aload_n 0, 1, 0, 0, 0),
  (8, .getfield 38, 3, 5, 2, 246), (11, .iload_n 1, 1, 0, 0, 0), (12, .invokevirtual 82, 3, 70, 0, 490), (15, .lreturn, 1, 0, 0, 0)]
def mm90 : MT := (yX5_count, cX5_count, 2, (some .long), 1, 1, 7, 165, 5, cd90)
def cd91 : List AE := [
  (0, .aload_n 0, 1, 0, 0, 0), (1, .getfield 38, 3, 5, 2, 246), (4, .invokevirtual 79, 3, 71, 0, 310), (7, .lconst 0, 1, 0, 0, 0),
  (8, .lstore_n 2, 1, 0, 0, 0), (9, .lconst 1, 1, 0, 0, 0), (10, .lstore 4, 2, 0, 0, 0), (12, .iconst 0, 1, 0, 0, 0),
  (13, .istore 6, 2, 0, 0, 0), (15, .iload 6, 2, 0, 0, 0), (17, .bipush 12, 2, 0, 0, 0), (19, .if_icmp .gt 31, 3, 50, 0, 0),
  (22, .lload_n 2, 1, 0, 0, 0), (23, .lload 4, 2, 0, 0, 0), (25, .aload_n 0, 1, 0, 0, 0), (26, .getfield 38, 3, 5, 2, 246),
  (29, .iload 6, 2, 0, 0, 0), (31, .invokevirtual 82, 3, 70, 0, 490), (34, .lmul, 1, 0, 0, 0), (35, .ladd, 1, 0, 0, 0),
  (36, .lstore_n 2, 1, 0, 0, 0), (37, .lload 4, 2, 0, 0, 0), (39, .iload_n 1, 1, 0, 0, 0), (40, .i2l, 1, 0, 0, 0),
  (41, .lmul, 1, 0, 0, 0), (42, .lstore 4, 2, 0, 0, 0), (44, .iinc 6 1, 3, 0, 0, 0), (47, .goto (-32), 3, 15, 0, 0),
  (50, .lload_n 2, 1, 0, 0, 0), (51, .lreturn, 1, 0, 0, 0)]
def mm91 : MT := (yX5_weigh, cX5_weigh, 7, (some .long), 1, 1, 7, 165, 5, cd91)
def cd92 : List AE := [
  (0, .iload_n 1, 1, 0, 0, 0), (1, .ifCond .eq 10, 3, 11, 0, 0), (4, .iload_n 1, 1, 0, 0, 0), (5, .iconst 1, 1, 0, 0, 0),
  (6, .if_icmp .eq 5, 3, 11, 0, 0), (9, .iconst (-1), 1, 0, 0, 0), (10, .ireturn, 1, 0, 0, 0), (11, .aload_n 0, 1, 0, 0, 0),
  (12, .getfield 38, 3, 5, 2, 246), (15, .invokevirtual 79, 3, 71, 0, 310), (18, .iconst (-1), 1, 0, 0, 0), (19, .istore_n 2, 1, 0, 0, 0),
  (20, .iconst 0, 1, 0, 0, 0), (21, .istore_n 3, 1, 0, 0, 0), (22, .iload_n 3, 1, 0, 0, 0), (23, .bipush 12, 2, 0, 0, 0),
  (25, .if_icmp .gt 46, 3, 71, 0, 0), (28, .iload_n 1, 1, 0, 0, 0), (29, .iconst 1, 1, 0, 0, 0), (30, .if_icmp .eq 8, 3, 38, 0, 0),
  (33, .iload_n 2, 1, 0, 0, 0), (34, .iconst (-1), 1, 0, 0, 0), (35, .if_icmp .ne 7, 3, 42, 0, 0), (38, .iconst 1, 1, 0, 0, 0),
  (39, .goto 4, 3, 43, 0, 0), (42, .iconst 0, 1, 0, 0, 0), (43, .istore 4, 2, 0, 0, 0), (45, .iload 4, 2, 0, 0, 0),
  (47, .ifCond .eq 18, 3, 65, 0, 0), (50, .aload_n 0, 1, 0, 0, 0), (51, .getfield 38, 3, 5, 2, 246), (54, .iload_n 3, 1, 0, 0, 0),
  (55, .invokevirtual 82, 3, 70, 0, 490), (58, .lconst 0, 1, 0, 0, 0), (59, .lcmp, 1, 0, 0, 0), (60, .ifCond .le 5, 3, 65, 0, 0),
  (63, .iload_n 3, 1, 0, 0, 0), (64, .istore_n 2, 1, 0, 0, 0), (65, .iinc 3 1, 3, 0, 0, 0), (68, .goto (-46), 3, 22, 0, 0),
  (71, .iload_n 2, 1, 0, 0, 0), (72, .ireturn, 1, 0, 0, 0)]
def mm92 : MT := (yX5_loopsOf, cX5_loopsOf, 5, (some .int), 1, 1, 7, 165, 5, cd92)
def cd93 : List AE := [
  (0, .aload_n 0, 1, 0, 0, 0), (1, .getfield 17, 3, 5, 0, 244), (4, .iload_n 1, 1, 0, 0, 0), (5, .iload_n 2, 1, 0, 0, 0),
  (6, .invokevirtual 64, 3, 11, 0, 294), (9, .istore 4, 2, 0, 0, 0), (11, .iload 4, 2, 0, 0, 0), (13, .iconst (-1), 1, 0, 0, 0),
  (14, .if_icmp .eq 10, 3, 24, 0, 0), (17, .iload_n 3, 1, 0, 0, 0), (18, .invokestatic 86, 3, 103, 0, 514), (21, .ifCond .ne 7, 3, 28, 0, 0),
  (24, .ldc2_w 90, 3, 18446744073709551615, 0, 515), (27, .lreturn, 1, 0, 0, 0), (28, .aload_n 0, 1, 0, 0, 0), (29, .getfield 38, 3, 5, 2, 246),
  (32, .invokevirtual 79, 3, 71, 0, 310), (35, .aload_n 0, 1, 0, 0, 0), (36, .getfield 38, 3, 5, 2, 246), (39, .iload 4, 2, 0, 0, 0),
  (41, .iload_n 3, 1, 0, 0, 0), (42, .invokevirtual 92, 3, 80, 0, 516), (45, .lreturn, 1, 0, 0, 0)]
def mm93 : MT := (yX5_having, cX5_having, 5, (some .long), 3, 1, 7, 165, 5, cd93)
def cd94 : List AE := [
  (0, .aload_n 0, 1, 0, 0, 0), (1, .getfield 17, 3, 5, 0, 244), (4, .iload_n 1, 1, 0, 0, 0), (5, .iload_n 2, 1, 0, 0, 0),
  (6, .invokevirtual 64, 3, 11, 0, 294), (9, .istore 4, 2, 0, 0, 0), (11, .iload 4, 2, 0, 0, 0), (13, .iconst (-1), 1, 0, 0, 0),
  (14, .if_icmp .eq 10, 3, 24, 0, 0), (17, .iload_n 3, 1, 0, 0, 0), (18, .invokestatic 86, 3, 103, 0, 514), (21, .ifCond .ne 5, 3, 26, 0, 0),
  (24, .iconst (-1), 1, 0, 0, 0), (25, .ireturn, 1, 0, 0, 0), (26, .aload_n 0, 1, 0, 0, 0), (27, .getfield 26, 3, 5, 1, 245),
  (30, .iload 4, 2, 0, 0, 0), (32, .invokevirtual 96, 3, 53, 0, 531), (35, .istore 5, 2, 0, 0, 0), (37, .aload_n 0, 1, 0, 0, 0),
  (38, .getfield 26, 3, 5, 1, 245), (41, .iload 4, 2, 0, 0, 0), (43, .iload_n 3, 1, 0, 0, 0), (44, .invokevirtual 99, 3, 54, 0, 536),
  (47, .iload 5, 2, 0, 0, 0), (49, .ireturn, 1, 0, 0, 0)]
def mm94 : MT := (yX5_put, cX5_put, 6, (some .int), 3, 1, 2, 43, 5, cd94)
def cd95 : List AE := [
  (0, .aload_n 0, 1, 0, 0, 0), (1, .getfield 17, 3, 5, 0, 244), (4, .iload_n 1, 1, 0, 0, 0), (5, .iload_n 2, 1, 0, 0, 0),
  (6, .invokevirtual 64, 3, 11, 0, 294), (9, .istore_n 3, 1, 0, 0, 0), (10, .iload_n 3, 1, 0, 0, 0), (11, .iconst (-1), 1, 0, 0, 0),
  (12, .if_icmp .ne 7, 3, 19, 0, 0), (15, .iconst (-1), 1, 0, 0, 0), (16, .goto 11, 3, 27, 0, 0), (19, .aload_n 0, 1, 0, 0, 0),
  (20, .getfield 26, 3, 5, 1, 245), (23, .iload_n 3, 1, 0, 0, 0), (24, .invokevirtual 96, 3, 53, 0, 531), (27, .ireturn, 1, 0, 0, 0)]
def mm95 : MT := (yX5_tile, cX5_tile, 4, (some .int), 2, 1, 2, 42, 5, cd95)
def cd96 : List AE := [
  (0, .aload_n 0, 1, 0, 0, 0), (1, .getfield 26, 3, 5, 1, 245), (4, .invokevirtual 102, 3, 56, 0, 549), (7, .ifCond .eq 13, 3, 20, 0, 0),
  (10, .aload_n 0, 1, 0, 0, 0), (11, .getfield 26, 3, 5, 1, 245), (14, .invokevirtual 106, 3, 57, 0, 568), (17, .goto 4, 3, 21, 0, 0),
  (20, .iconst (-1), 1, 0, 0, 0), (21, .ireturn, 1, 0, 0, 0)]
def mm96 : MT := (yX5_loops, cX5_loops, 1, (some .int), 0, 1, 6, 138, 5, cd96)
def cd97 : List AE := [
  (0, .aload_n 0, 1, 0, 0, 0), (1, .getfield 26, 3, 5, 1, 245), (4, .invokevirtual 109, 3, 55, 0, 576), (7, .ireturn, 1, 0, 0, 0)]
def mm97 : MT := (yX5_wrong, cX5_wrong, 1, (some .int), 0, 1, 5, 118, 5, cd97)
def cd98 : List AE := [
  (0, .aload_n 0, 1, 0, 0, 0), (1, .getfield 38, 3, 5, 2, 246), (4, .invokevirtual 79, 3, 71, 0, 310), (7, .lload_n 2, 1, 0, 0, 0),
  (8, .lconst 0, 1, 0, 0, 0), (9, .lcmp, 1, 0, 0, 0), (10, .ifCond .lt 16, 3, 26, 0, 0), (13, .lload_n 2, 1, 0, 0, 0),
  (14, .aload_n 0, 1, 0, 0, 0), (15, .getfield 38, 3, 5, 2, 246), (18, .iload_n 1, 1, 0, 0, 0), (19, .invokevirtual 82, 3, 70, 0, 490),
  (22, .lcmp, 1, 0, 0, 0), (23, .ifCond .lt 5, 3, 28, 0, 0), (26, .iconst 0, 1, 0, 0, 0), (27, .ireturn, 1, 0, 0, 0),
  (28, .aload_n 0, 1, 0, 0, 0), (29, .getfield 38, 3, 5, 2, 246), (32, .aload_n 0, 1, 0, 0, 0), (33, .getfield 26, 3, 5, 1, 245),
  (36, .iload_n 1, 1, 0, 0, 0), (37, .lload_n 2, 1, 0, 0, 0), (38, .invokevirtual 112, 3, 83, 0, 581), (41, .iconst 1, 1, 0, 0, 0),
  (42, .ireturn, 1, 0, 0, 0)]
def mm98 : MT := (yX5_find, cX5_find, 4, (some .boolean), 2, 1, 7, 165, 5, cd98)
def cd99 : List AE := [
  (0, .aload_n 0, 1, 0, 0, 0), (1, .getfield 26, 3, 5, 1, 245), (4, .invokevirtual 102, 3, 56, 0, 549), (7, .ifCond .ne 7, 3, 14, 0, 0),
  (10, .ldc2_w 90, 3, 18446744073709551615, 0, 515), (13, .lreturn, 1, 0, 0, 0), (14, .aload_n 0, 1, 0, 0, 0), (15, .getfield 38, 3, 5, 2, 246),
  (18, .invokevirtual 79, 3, 71, 0, 310), (21, .aload_n 0, 1, 0, 0, 0), (22, .getfield 38, 3, 5, 2, 246), (25, .aload_n 0, 1, 0, 0, 0),
  (26, .getfield 26, 3, 5, 1, 245), (29, .iload_n 1, 1, 0, 0, 0), (30, .ifCond .eq 13, 3, 43, 0, 0), (33, .aload_n 0, 1, 0, 0, 0),
  (34, .getfield 26, 3, 5, 1, 245), (37, .invokevirtual 106, 3, 57, 0, 568), (40, .goto 4, 3, 44, 0, 0), (43, .iconst (-1), 1, 0, 0, 0),
  (44, .invokevirtual 116, 3, 84, 0, 590), (47, .lreturn, 1, 0, 0, 0)]
def mm99 : MT := (yX5_rank, cX5_rank, 2, (some .long), 1, 1, 7, 165, 5, cd99)
def cd100 : List AE := [
  (0, .aload_n 0, 1, 0, 0, 0), (1, .getfield 17, 3, 5, 0, 244), (4, .iload_n 1, 1, 0, 0, 0), (5, .iload_n 2, 1, 0, 0, 0),
  (6, .invokevirtual 64, 3, 11, 0, 294), (9, .istore 4, 2, 0, 0, 0), (11, .iload 4, 2, 0, 0, 0), (13, .iconst (-1), 1, 0, 0, 0),
  (14, .if_icmp .eq 22, 3, 36, 0, 0), (17, .iload_n 3, 1, 0, 0, 0), (18, .ifCond .lt 18, 3, 36, 0, 0), (21, .iload_n 3, 1, 0, 0, 0),
  (22, .iconst 1, 1, 0, 0, 0), (23, .if_icmp .gt 13, 3, 36, 0, 0), (26, .aload_n 0, 1, 0, 0, 0), (27, .getfield 26, 3, 5, 1, 245),
  (30, .invokevirtual 102, 3, 56, 0, 549), (33, .ifCond .ne 5, 3, 38, 0, 0), (36, .iconst (-1), 1, 0, 0, 0), (37, .ireturn, 1, 0, 0, 0),
  (38, .aload_n 0, 1, 0, 0, 0), (39, .getfield 26, 3, 5, 1, 245), (42, .iload 4, 2, 0, 0, 0), (44, .iload_n 3, 1, 0, 0, 0),
  (45, .invokevirtual 120, 3, 58, 0, 599), (48, .istore 5, 2, 0, 0, 0), (50, .iload 5, 2, 0, 0, 0), (52, .iconst (-1), 1, 0, 0, 0),
  (53, .if_icmp .ne 7, 3, 60, 0, 0), (56, .iconst 0, 1, 0, 0, 0), (57, .goto 12, 3, 69, 0, 0), (60, .aload_n 0, 1, 0, 0, 0),
  (61, .getfield 26, 3, 5, 1, 245), (64, .iload 5, 2, 0, 0, 0), (66, .invokevirtual 123, 3, 61, 0, 605), (69, .ireturn, 1, 0, 0, 0)]
def mm100 : MT := (yX5_length, cX5_length, 6, (some .int), 3, 1, 6, 138, 5, cd100)
def cd101 : List AE := [
  (0, .aload_n 0, 1, 0, 0, 0), (1, .getfield 26, 3, 5, 1, 245), (4, .invokevirtual 102, 3, 56, 0, 549), (7, .ifCond .eq 13, 3, 20, 0, 0),
  (10, .aload_n 0, 1, 0, 0, 0), (11, .getfield 26, 3, 5, 1, 245), (14, .invokevirtual 126, 3, 66, 0, 641), (17, .goto 4, 3, 21, 0, 0),
  (20, .iconst (-1), 1, 0, 0, 0), (21, .ireturn, 1, 0, 0, 0)]
def mm101 : MT := (yX5_longest, cX5_longest, 1, (some .int), 0, 1, 6, 142, 5, cd101)
def cd102 : List AE := [
  (0, .aload_n 0, 1, 0, 0, 0), (1, .getfield 26, 3, 5, 1, 245), (4, .aload_n 0, 1, 0, 0, 0), (5, .getfield 17, 3, 5, 0, 244),
  (8, .iload_n 1, 1, 0, 0, 0), (9, .iload_n 2, 1, 0, 0, 0), (10, .invokevirtual 64, 3, 11, 0, 294), (13, .iload_n 3, 1, 0, 0, 0),
  (14, .invokevirtual 120, 3, 58, 0, 599), (17, .istore 7, 2, 0, 0, 0), (19, .aload_n 0, 1, 0, 0, 0), (20, .getfield 26, 3, 5, 1, 245),
  (23, .aload_n 0, 1, 0, 0, 0), (24, .getfield 17, 3, 5, 0, 244), (27, .iload 4, 2, 0, 0, 0), (29, .iload 5, 2, 0, 0, 0),
  (31, .invokevirtual 64, 3, 11, 0, 294), (34, .iload 6, 2, 0, 0, 0), (36, .invokevirtual 120, 3, 58, 0, 599), (39, .istore 8, 2, 0, 0, 0),
  (41, .iload 7, 2, 0, 0, 0), (43, .iconst (-1), 1, 0, 0, 0), (44, .if_icmp .eq 19, 3, 63, 0, 0), (47, .iload 8, 2, 0, 0, 0),
  (49, .iconst (-1), 1, 0, 0, 0), (50, .if_icmp .eq 13, 3, 63, 0, 0), (53, .aload_n 0, 1, 0, 0, 0), (54, .getfield 26, 3, 5, 1, 245),
  (57, .invokevirtual 102, 3, 56, 0, 549), (60, .ifCond .ne 5, 3, 65, 0, 0), (63, .iconst (-1), 1, 0, 0, 0), (64, .ireturn, 1, 0, 0, 0),
  (65, .aload_n 0, 1, 0, 0, 0), (66, .getfield 26, 3, 5, 1, 245), (69, .invokevirtual 129, 3, 59, 0, 660), (72, .aload_n 0, 1, 0, 0, 0),
  (73, .getfield 26, 3, 5, 1, 245), (76, .iload 7, 2, 0, 0, 0), (78, .invokevirtual 123, 3, 61, 0, 605), (81, .pop, 1, 0, 0, 0),
  (82, .aload_n 0, 1, 0, 0, 0), (83, .getfield 26, 3, 5, 1, 245), (86, .iload 8, 2, 0, 0, 0), (88, .invokevirtual 132, 3, 60, 0, 661),
  (91, .ifCond .eq 7, 3, 98, 0, 0), (94, .iconst 1, 1, 0, 0, 0), (95, .goto 4, 3, 99, 0, 0), (98, .iconst 0, 1, 0, 0, 0),
  (99, .ireturn, 1, 0, 0, 0)]
def mm102 : MT := (yX5_same, cX5_same, 9, (some .int), 6, 1, 6, 138, 5, cd102)
def cd103 : List AE := [
  (0, .iload_n 0, 1, 0, 0, 0), (1, .ifCond .lt 13, 3, 14, 0, 0), (4, .iload_n 0, 1, 0, 0, 0), (5, .bipush 10, 2, 0, 0, 0),
  (7, .if_icmp .ge 7, 3, 14, 0, 0), (10, .iconst 1, 1, 0, 0, 0), (11, .goto 4, 3, 15, 0, 0), (14, .iconst 0, 1, 0, 0, 0),
  (15, .ireturn, 1, 0, 0, 0)]
def mm103 : MT := (yX5_isTile, cX5_isTile, 1, (some .boolean), 1, 0, 0, 0, 5, cd103)
def cd104 : List AE := [
  (0, .aload_n 0, 1, 0, 0, 0), (1, .invokespecial 1, 3, 1000, 0, 667), (4, .aload_n 0, 1, 0, 0, 0), (5, .iconst 1, 1, 0, 0, 0),
  (6, .putfield 7, 3, 6, 0, 670), (9, .aload_n 0, 1, 0, 0, 0), (10, .iconst 1, 1, 0, 0, 0), (11, .putfield 13, 3, 6, 1, 671),
  (14, .aload_n 0, 1, 0, 0, 0), (15, .bipush 20, 2, 0, 0, 0), (17, .newarray .int, 2, 0, 0, 0), (19, .putfield 16, 3, 6, 3, 673),
  (22, .aload_n 0, 1, 0, 0, 0), (23, .bipush 20, 2, 0, 0, 0), (25, .newarray .int, 2, 0, 0, 0), (27, .putfield 20, 3, 6, 4, 674),
  (30, .aload_n 0, 1, 0, 0, 0), (31, .bipush 10, 2, 0, 0, 0), (33, .newarray .int, 2, 0, 0, 0), (35, .dup, 1, 0, 0, 0),
  (36, .iconst 0, 1, 0, 0, 0), (37, .iconst 0, 1, 0, 0, 0), (38, .iastore, 1, 0, 0, 0), (39, .dup, 1, 0, 0, 0),
  (40, .iconst 1, 1, 0, 0, 0), (41, .iconst 1, 1, 0, 0, 0), (42, .iastore, 1, 0, 0, 0), (43, .dup, 1, 0, 0, 0),
  (44, .iconst 2, 1, 0, 0, 0), (45, .iconst 1, 1, 0, 0, 0), (46, .iastore, 1, 0, 0, 0), (47, .dup, 1, 0, 0, 0),
  (48, .iconst 3, 1, 0, 0, 0), (49, .iconst 1, 1, 0, 0, 0), (50, .iastore, 1, 0, 0, 0), (51, .dup, 1, 0, 0, 0),
  (52, .iconst 4, 1, 0, 0, 0), (53, .iconst 1, 1, 0, 0, 0), (54, .iastore, 1, 0, 0, 0), (55, .dup, 1, 0, 0, 0),
  (56, .iconst 5, 1, 0, 0, 0), (57, .iconst 1, 1, 0, 0, 0), (58, .iastore, 1, 0, 0, 0), (59, .dup, 1, 0, 0, 0),
  (60, .bipush 6, 2, 0, 0, 0), (62, .iconst 1, 1, 0, 0, 0), (63, .iastore, 1, 0, 0, 0), (64, .dup, 1, 0, 0, 0),
  (65, .bipush 7, 2, 0, 0, 0), (67, .iconst 2, 1, 0, 0, 0), (68, .iastore, 1, 0, 0, 0), (69, .dup, 1, 0, 0, 0),
  (70, .bipush 8, 2, 0, 0, 0), (72, .iconst 2, 1, 0, 0, 0), (73, .iastore, 1, 0, 0, 0), (74, .dup, 1, 0, 0, 0),
  (75, .bipush 9, 2, 0, 0, 0), (77, .iconst 2, 1, 0, 0, 0), (78, .iastore, 1, 0, 0, 0), (79, .putfield 23, 3, 6, 6, 676),
  (82, .aload_n 0, 1, 0, 0, 0), (83, .bipush 20, 2, 0, 0, 0), (85, .newarray .int, 2, 0, 0, 0), (87, .dup, 1, 0, 0, 0),
  (88, .iconst 0, 1, 0, 0, 0), (89, .iconst (-1), 1, 0, 0, 0), (90, .iastore, 1, 0, 0, 0), (91, .dup, 1, 0, 0, 0),
  (92, .iconst 1, 1, 0, 0, 0), (93, .iconst (-1), 1, 0, 0, 0), (94, .iastore, 1, 0, 0, 0), (95, .dup, 1, 0, 0, 0),
  (96, .iconst 2, 1, 0, 0, 0), (97, .iconst 0, 1, 0, 0, 0), (98, .iastore, 1, 0, 0, 0), (99, .dup, 1, 0, 0, 0),
  (100, .iconst 3, 1, 0, 0, 0), (101, .iconst (-1), 1, 0, 0, 0), (102, .iastore, 1, 0, 0, 0), (103, .dup, 1, 0, 0, 0),
  (104, .iconst 4, 1, 0, 0, 0), (105, .iconst 3, 1, 0, 0, 0), (106, .iastore, 1, 0, 0, 0), (107, .dup, 1, 0, 0, 0),
  (108, .iconst 5, 1, 0, 0, 0), (109, .iconst (-1), 1, 0, 0, 0), (110, .iastore, 1, 0, 0, 0), (111, .dup, 1, 0, 0, 0),
  (112, .bipush 6, 2, 0, 0, 0), (114, .iconst 0, 1, 0, 0, 0), (115, .iastore, 1, 0, 0, 0), (116, .dup, 1, 0, 0, 0),
  (117, .bipush 7, 2, 0, 0, 0), (119, .iconst (-1), 1, 0, 0, 0), (120, .iastore, 1, 0, 0, 0), (121, .dup, 1, 0, 0, 0),
  (122, .bipush 8, 2, 0, 0, 0), (124, .iconst 1, 1, 0, 0, 0), (125, .iastore, 1, 0, 0, 0), (126, .dup, 1, 0, 0, 0),
  (127, .bipush 9, 2, 0, 0, 0), (129, .iconst (-1), 1, 0, 0, 0), (130, .iastore, 1, 0, 0, 0), (131, .dup, 1, 0, 0, 0),
  (132, .bipush 10, 2, 0, 0, 0), (134, .iconst 2, 1, 0, 0, 0), (135, .iastore, 1, 0, 0, 0), (136, .dup, 1, 0, 0, 0),
  (137, .bipush 11, 2, 0, 0, 0), (139, .iconst (-1), 1, 0, 0, 0), (140, .iastore, 1, 0, 0, 0), (141, .dup, 1, 0, 0, 0),
  (142, .bipush 12, 2, 0, 0, 0), (144, .iconst 3, 1, 0, 0, 0), (145, .iastore, 1, 0, 0, 0), (146, .dup, 1, 0, 0, 0),
  (147, .bipush 13, 2, 0, 0, 0), (149, .iconst (-1), 1, 0, 0, 0), (150, .iastore, 1, 0, 0, 0), (151, .dup, 1, 0, 0, 0),
  (152, .bipush 14, 2, 0, 0, 0), (154, .iconst 0, 1, 0, 0, 0), (155, .iastore, 1, 0, 0, 0), (156, .dup, 1, 0, 0, 0),
  (157, .bipush 15, 2, 0, 0, 0), (159, .iconst 2, 1, 0, 0, 0), (160, .iastore, 1, 0, 0, 0), (161, .dup, 1, 0, 0, 0),
  (162, .bipush 16, 2, 0, 0, 0), (164, .iconst 0, 1, 0, 0, 0), (165, .iastore, 1, 0, 0, 0), (166, .dup, 1, 0, 0, 0),
  (167, .bipush 17, 2, 0, 0, 0), (169, .iconst 2, 1, 0, 0, 0), (170, .iastore, 1, 0, 0, 0), (171, .dup, 1, 0, 0, 0),
  (172, .bipush 18, 2, 0, 0, 0), (174, .iconst 0, 1, 0, 0, 0), (175, .iastore, 1, 0, 0, 0), (176, .dup, 1, 0, 0, 0),
  (177, .bipush 19, 2, 0, 0, 0), (179, .iconst 3, 1, 0, 0, 0), (180, .iastore, 1, 0, 0, 0), (181, .putfield 26, 3, 6, 7, 677),
  (184, .aload_n 0, 1, 0, 0, 0), (185, .bipush 20, 2, 0, 0, 0), (187, .newarray .int, 2, 0, 0, 0), (189, .dup, 1, 0, 0, 0),
  (190, .iconst 0, 1, 0, 0, 0), (191, .iconst (-1), 1, 0, 0, 0), (192, .iastore, 1, 0, 0, 0), (193, .dup, 1, 0, 0, 0),
  (194, .iconst 1, 1, 0, 0, 0), (195, .iconst (-1), 1, 0, 0, 0), (196, .iastore, 1, 0, 0, 0), (197, .dup, 1, 0, 0, 0),
  (198, .iconst 2, 1, 0, 0, 0), (199, .iconst 2, 1, 0, 0, 0), (200, .iastore, 1, 0, 0, 0), (201, .dup, 1, 0, 0, 0),
  (202, .iconst 3, 1, 0, 0, 0), (203, .iconst (-1), 1, 0, 0, 0), (204, .iastore, 1, 0, 0, 0), (205, .dup, 1, 0, 0, 0),
  (206, .iconst 4, 1, 0, 0, 0), (207, .iconst 1, 1, 0, 0, 0), (208, .iastore, 1, 0, 0, 0), (209, .dup, 1, 0, 0, 0),
  (210, .iconst 5, 1, 0, 0, 0), (211, .iconst (-1), 1, 0, 0, 0), (212, .iastore, 1, 0, 0, 0), (213, .dup, 1, 0, 0, 0),
  (214, .bipush 6, 2, 0, 0, 0), (216, .iconst 1, 1, 0, 0, 0), (217, .iastore, 1, 0, 0, 0), (218, .dup, 1, 0, 0, 0),
  (219, .bipush 7, 2, 0, 0, 0), (221, .iconst (-1), 1, 0, 0, 0), (222, .iastore, 1, 0, 0, 0), (223, .dup, 1, 0, 0, 0),
  (224, .bipush 8, 2, 0, 0, 0), (226, .iconst 2, 1, 0, 0, 0), (227, .iastore, 1, 0, 0, 0), (228, .dup, 1, 0, 0, 0),
  (229, .bipush 9, 2, 0, 0, 0), (231, .iconst (-1), 1, 0, 0, 0), (232, .iastore, 1, 0, 0, 0), (233, .dup, 1, 0, 0, 0),
  (234, .bipush 10, 2, 0, 0, 0), (236, .iconst 3, 1, 0, 0, 0), (237, .iastore, 1, 0, 0, 0), (238, .dup, 1, 0, 0, 0),
  (239, .bipush 11, 2, 0, 0, 0), (241, .iconst (-1), 1, 0, 0, 0), (242, .iastore, 1, 0, 0, 0), (243, .dup, 1, 0, 0, 0),
  (244, .bipush 12, 2, 0, 0, 0), (246, .iconst 0, 1, 0, 0, 0), (247, .iastore, 1, 0, 0, 0), (248, .dup, 1, 0, 0, 0),
  (249, .bipush 13, 2, 0, 0, 0), (251, .iconst (-1), 1, 0, 0, 0), (252, .iastore, 1, 0, 0, 0), (253, .dup, 1, 0, 0, 0),
  (254, .bipush 14, 2, 0, 0, 0), (256, .iconst 3, 1, 0, 0, 0), (257, .iastore, 1, 0, 0, 0), (258, .dup, 1, 0, 0, 0),
  (259, .bipush 15, 2, 0, 0, 0), (261, .iconst 1, 1, 0, 0, 0), (262, .iastore, 1, 0, 0, 0), (263, .dup, 1, 0, 0, 0),
  (264, .bipush 16, 2, 0, 0, 0), (266, .iconst 1, 1, 0, 0, 0), (267, .iastore, 1, 0, 0, 0), (268, .dup, 1, 0, 0, 0),
  (269, .bipush 17, 2, 0, 0, 0), (271, .iconst 3, 1, 0, 0, 0), (272, .iastore, 1, 0, 0, 0), (273, .dup, 1, 0, 0, 0),
  (274, .bipush 18, 2, 0, 0, 0), (276, .iconst 2, 1, 0, 0, 0), (277, .iastore, 1, 0, 0, 0), (278, .dup, 1, 0, 0, 0),
  (279, .bipush 19, 2, 0, 0, 0), (281, .iconst 1, 1, 0, 0, 0), (282, .iastore, 1, 0, 0, 0), (283, .putfield 29, 3, 6, 8, 678),
  (286, .aload_n 0, 1, 0, 0, 0), (287, .bipush 10, 2, 0, 0, 0), (289, .newarray .int, 2, 0, 0, 0), (291, .putfield 32, 3, 6, 9, 679),
  (294, .aload_n 0, 1, 0, 0, 0), (295, .bipush 21, 2, 0, 0, 0), (297, .newarray .int, 2, 0, 0, 0), (299, .putfield 35, 3, 6, 11, 681),
  (302, .aload_n 0, 1, 0, 0, 0), (303, .sipush 16800, 3, 0, 0, 0), (306, .newarray .int, 2, 0, 0, 0), (308, .putfield 38, 3, 6, 12, 682),
  (311, .aload_n 0, 1, 0, 0, 0), (312, .sipush 2048, 3, 0, 0, 0), (315, .newarray .int, 2, 0, 0, 0), (317, .putfield 41, 3, 6, 13, 683),
  (320, .aload_n 0, 1, 0, 0, 0), (321, .ldc 44, 2, 168000, 0, 668), (323, .newarray .int, 2, 0, 0, 0), (325, .putfield 45, 3, 6, 14, 684),
  (328, .aload_n 0, 1, 0, 0, 0), (329, .ldc 44, 2, 168000, 0, 668), (331, .newarray .int, 2, 0, 0, 0), (333, .putfield 48, 3, 6, 15, 685),
  (336, .aload_n 0, 1, 0, 0, 0), (337, .ldc 51, 2, 403200, 0, 669), (339, .newarray .long, 2, 0, 0, 0), (341, .putfield 52, 3, 6, 16, 686),
  (344, .aload_n 0, 1, 0, 0, 0), (345, .sipush 16800, 3, 0, 0, 0), (348, .newarray .long, 2, 0, 0, 0), (350, .putfield 56, 3, 6, 17, 687),
  (353, .aload_n 0, 1, 0, 0, 0), (354, .bipush 20, 2, 0, 0, 0), (356, .newarray .int, 2, 0, 0, 0), (358, .putfield 59, 3, 6, 19, 689),
  (361, .aload_n 0, 1, 0, 0, 0), (362, .bipush 40, 2, 0, 0, 0), (364, .newarray .int, 2, 0, 0, 0), (366, .putfield 62, 3, 6, 20, 690),
  (369, .aload_n 0, 1, 0, 0, 0), (370, .getfield 16, 3, 6, 3, 673), (373, .iconst 0, 1, 0, 0, 0), (374, .sipush 1023, 3, 0, 0, 0),
  (377, .iastore, 1, 0, 0, 0), (378, .return_, 1, 0, 0, 0)]
def mm104 : MT := (yX6_init, cX6_init, 1, none, 0, 2, 1, 20, 6, cd104)
def cd105 : List AE := [
  (0, .iload_n 1, 1, 0, 0, 0), (1, .iconst 1, 1, 0, 0, 0), (2, .if_icmp .lt 44, 3, 46, 0, 0), (5, .iload_n 1, 1, 0, 0, 0),
  (6, .iconst 5, 1, 0, 0, 0), (7, .if_icmp .gt 39, 3, 46, 0, 0), (10, .iload_n 2, 1, 0, 0, 0), (11, .iconst 1, 1, 0, 0, 0),
  (12, .if_icmp .lt 34, 3, 46, 0, 0), (15, .iload_n 2, 1, 0, 0, 0), (16, .iconst 5, 1, 0, 0, 0), (17, .if_icmp .gt 29, 3, 46, 0, 0),
  (20, .iload_n 1, 1, 0, 0, 0), (21, .iload_n 2, 1, 0, 0, 0), (22, .imul, 1, 0, 0, 0), (23, .bipush 20, 2, 0, 0, 0),
  (25, .if_icmp .gt 21, 3, 46, 0, 0), (28, .iload_n 3, 1, 0, 0, 0), (29, .ifCond .eq 19, 3, 48, 0, 0), (32, .iload_n 1, 1, 0, 0, 0),
  (33, .iconst 2, 1, 0, 0, 0), (34, .irem, 1, 0, 0, 0), (35, .iconst 1, 1, 0, 0, 0), (36, .if_icmp .eq 10, 3, 46, 0, 0),
  (39, .iload_n 2, 1, 0, 0, 0), (40, .iconst 2, 1, 0, 0, 0), (41, .irem, 1, 0, 0, 0), (42, .iconst 1, 1, 0, 0, 0),
  (43, .if_icmp .ne 5, 3, 48, 0, 0), (46, .iconst 0, 1, 0, 0, 0), (47, .ireturn, 1, 0, 0, 0), (48, .aload_n 0, 1, 0, 0, 0),
  (49, .iload_n 1, 1, 0, 0, 0), (50, .putfield 7, 3, 6, 0, 670), (53, .aload_n 0, 1, 0, 0, 0), (54, .iload_n 2, 1, 0, 0, 0),
  (55, .putfield 13, 3, 6, 1, 671), (58, .aload_n 0, 1, 0, 0, 0), (59, .iload_n 3, 1, 0, 0, 0), (60, .putfield 65, 3, 6, 2, 672),
  (63, .iconst 0, 1, 0, 0, 0), (64, .istore 4, 2, 0, 0, 0), (66, .iload 4, 2, 0, 0, 0), (68, .bipush 20, 2, 0, 0, 0),
  (70, .if_icmp .ge 27, 3, 97, 0, 0), (73, .aload_n 0, 1, 0, 0, 0), (74, .getfield 16, 3, 6, 3, 673), (77, .iload 4, 2, 0, 0, 0),
  (79, .sipush 1023, 3, 0, 0, 0), (82, .iastore, 1, 0, 0, 0), (83, .aload_n 0, 1, 0, 0, 0), (84, .getfield 20, 3, 6, 4, 674),
  (87, .iload 4, 2, 0, 0, 0), (89, .iconst 0, 1, 0, 0, 0), (90, .iastore, 1, 0, 0, 0), (91, .iinc 4 1, 3, 0, 0, 0),
  (94, .goto (-28), 3, 66, 0, 0), (97, .aload_n 0, 1, 0, 0, 0), (98, .iconst 0, 1, 0, 0, 0), (99, .putfield 69, 3, 6, 5, 675),
  (102, .iconst 1, 1, 0, 0, 0), (103, .ireturn, 1, 0, 0, 0)]
def mm105 : MT := (yX6_board, cX6_board, 5, (some .boolean), 3, 1, 0, 0, 6, cd105)
def cd106 : List AE := [
  (0, .aload_n 0, 1, 0, 0, 0), (1, .getfield 7, 3, 6, 0, 670), (4, .aload_n 0, 1, 0, 0, 0), (5, .getfield 13, 3, 6, 1, 671),
  (8, .imul, 1, 0, 0, 0), (9, .ireturn, 1, 0, 0, 0)]
def mm106 : MT := (yX6_cells, cX6_cells, 1, (some .int), 0, 1, 0, 0, 6, cd106)
def cd107 : List AE := [
  (0, .iload_n 1, 1, 0, 0, 0), (1, .ifCond .lt 27, 3, 28, 0, 0), (4, .iload_n 1, 1, 0, 0, 0), (5, .aload_n 0, 1, 0, 0, 0),
  (6, .getfield 7, 3, 6, 0, 670), (9, .if_icmp .ge 19, 3, 28, 0, 0), (12, .iload_n 2, 1, 0, 0, 0), (13, .ifCond .lt 15, 3, 28, 0, 0),
  (16, .iload_n 2, 1, 0, 0, 0), (17, .aload_n 0, 1, 0, 0, 0), (18, .getfield 13, 3, 6, 1, 671), (21, .if_icmp .ge 7, 3, 28, 0, 0),
  (24, .iconst 1, 1, 0, 0, 0), (25, .goto 4, 3, 29, 0, 0), (28, .iconst 0, 1, 0, 0, 0), (29, .ireturn, 1, 0, 0, 0)]
def mm107 : MT := (yX6_isCell, cX6_isCell, 3, (some .boolean), 2, 1, 0, 0, 6, cd107)
def cd108 : List AE := [
  (0, .iload_n 1, 1, 0, 0, 0), (1, .iconst (-1), 1, 0, 0, 0), (2, .if_icmp .eq 14, 3, 16, 0, 0), (5, .aload_n 0, 1, 0, 0, 0),
  (6, .iload_n 1, 1, 0, 0, 0), (7, .iload_n 2, 1, 0, 0, 0), (8, .invokevirtual 72, 3, 107, 0, 742), (11, .ifCond .ne 5, 3, 16, 0, 0),
  (14, .iconst 0, 1, 0, 0, 0), (15, .ireturn, 1, 0, 0, 0), (16, .iconst 0, 1, 0, 0, 0), (17, .istore 4, 2, 0, 0, 0),
  (19, .iload 4, 2, 0, 0, 0), (21, .aload_n 0, 1, 0, 0, 0), (22, .invokevirtual 76, 3, 106, 0, 746), (25, .if_icmp .ge 39, 3, 64, 0, 0),
  (28, .iload_n 1, 1, 0, 0, 0), (29, .iconst (-1), 1, 0, 0, 0), (30, .if_icmp .eq 16, 3, 46, 0, 0), (33, .iload 4, 2, 0, 0, 0),
  (35, .iload_n 2, 1, 0, 0, 0), (36, .aload_n 0, 1, 0, 0, 0), (37, .getfield 7, 3, 6, 0, 670), (40, .imul, 1, 0, 0, 0),
  (41, .iload_n 1, 1, 0, 0, 0), (42, .iadd, 1, 0, 0, 0), (43, .if_icmp .ne 15, 3, 58, 0, 0), (46, .aload_n 0, 1, 0, 0, 0),
  (47, .getfield 16, 3, 6, 3, 673), (50, .iload 4, 2, 0, 0, 0), (52, .iload_n 3, 1, 0, 0, 0), (53, .sipush 1023, 3, 0, 0, 0),
  (56, .iand, 1, 0, 0, 0), (57, .iastore, 1, 0, 0, 0), (58, .iinc 4 1, 3, 0, 0, 0), (61, .goto (-42), 3, 19, 0, 0),
  (64, .aload_n 0, 1, 0, 0, 0), (65, .iconst 0, 1, 0, 0, 0), (66, .putfield 69, 3, 6, 5, 675), (69, .iconst 1, 1, 0, 0, 0),
  (70, .ireturn, 1, 0, 0, 0)]
def mm108 : MT := (yX6_allow, cX6_allow, 5, (some .boolean), 3, 1, 1, 22, 6, cd108)
def cd109 : List AE := [
  (0, .aload_n 0, 1, 0, 0, 0), (1, .iload_n 1, 1, 0, 0, 0), (2, .iload_n 2, 1, 0, 0, 0), (3, .invokevirtual 72, 3, 107, 0, 742),
  (6, .ifCond .eq 19, 3, 25, 0, 0), (9, .aload_n 0, 1, 0, 0, 0), (10, .getfield 16, 3, 6, 3, 673), (13, .iload_n 2, 1, 0, 0, 0),
  (14, .aload_n 0, 1, 0, 0, 0), (15, .getfield 7, 3, 6, 0, 670), (18, .imul, 1, 0, 0, 0), (19, .iload_n 1, 1, 0, 0, 0),
  (20, .iadd, 1, 0, 0, 0), (21, .iaload, 1, 0, 0, 0), (22, .goto 4, 3, 26, 0, 0), (25, .iconst (-1), 1, 0, 0, 0),
  (26, .ireturn, 1, 0, 0, 0)]
def mm109 : MT := (yX6_allowed, cX6_allowed, 3, (some .int), 2, 1, 1, 22, 6, cd109)
def cd110 : List AE := [
  (0, .iconst 0, 1, 0, 0, 0), (1, .istore_n 3, 1, 0, 0, 0), (2, .iload_n 3, 1, 0, 0, 0), (3, .aload_n 0, 1, 0, 0, 0),
  (4, .getfield 23, 3, 6, 6, 676), (7, .iload_n 1, 1, 0, 0, 0), (8, .iaload, 1, 0, 0, 0), (9, .if_icmp .ge 39, 3, 48, 0, 0),
  (12, .aload_n 0, 1, 0, 0, 0), (13, .getfield 26, 3, 6, 7, 677), (16, .iconst 2, 1, 0, 0, 0), (17, .iload_n 1, 1, 0, 0, 0),
  (18, .imul, 1, 0, 0, 0), (19, .iload_n 3, 1, 0, 0, 0), (20, .iadd, 1, 0, 0, 0), (21, .iaload, 1, 0, 0, 0),
  (22, .iload_n 2, 1, 0, 0, 0), (23, .if_icmp .eq 17, 3, 40, 0, 0), (26, .aload_n 0, 1, 0, 0, 0), (27, .getfield 29, 3, 6, 8, 678),
  (30, .iconst 2, 1, 0, 0, 0), (31, .iload_n 1, 1, 0, 0, 0), (32, .imul, 1, 0, 0, 0), (33, .iload_n 3, 1, 0, 0, 0),
  (34, .iadd, 1, 0, 0, 0), (35, .iaload, 1, 0, 0, 0), (36, .iload_n 2, 1, 0, 0, 0), (37, .if_icmp .ne 5, 3, 42, 0, 0),
  (40, .iconst 1, 1, 0, 0, 0), (41, .ireturn, 1, 0, 0, 0), (42, .iinc 3 1, 3, 0, 0, 0), (45, .goto (-43), 3, 2, 0, 0),
  (48, .iconst 0, 1, 0, 0, 0), (49, .ireturn, 1, 0, 0, 0)]
def mm110 : MT := (yX6_hasSide, cX6_hasSide, 4, (some .boolean), 2, 1, 0, 0, 6, cd110)
def cd111 : List AE := [
  (0, .iconst 0, 1, 0, 0, 0), (1, .istore_n 1, 1, 0, 0, 0), (2, .iconst 0, 1, 0, 0, 0), (3, .istore_n 2, 1, 0, 0, 0),
  (4, .iload_n 2, 1, 0, 0, 0), (5, .bipush 8, 2, 0, 0, 0), (7, .if_icmp .ge 24, 3, 31, 0, 0), (10, .iload_n 1, 1, 0, 0, 0),
  (11, .aload_n 0, 1, 0, 0, 0), (12, .getfield 32, 3, 6, 9, 679), (15, .iload_n 2, 1, 0, 0, 0), (16, .iaload, 1, 0, 0, 0),
  (17, .iconst 1, 1, 0, 0, 0), (18, .iadd, 1, 0, 0, 0), (19, .iconst 4, 1, 0, 0, 0), (20, .iload_n 2, 1, 0, 0, 0),
  (21, .imul, 1, 0, 0, 0), (22, .ishl, 1, 0, 0, 0), (23, .ior, 1, 0, 0, 0), (24, .istore_n 1, 1, 0, 0, 0),
  (25, .iinc 2 1, 3, 0, 0, 0), (28, .goto (-24), 3, 4, 0, 0), (31, .iload_n 1, 1, 0, 0, 0), (32, .ireturn, 1, 0, 0, 0)]
def mm111 : MT := (yX6_code, cX6_code, 3, (some .int), 0, 1, 0, 0, 6, cd111)
def cd112 : List AE := [
  (0, .iconst 0, 1, 0, 0, 0), (1, .istore_n 2, 1, 0, 0, 0), (2, .iload_n 2, 1, 0, 0, 0), (3, .bipush 8, 2, 0, 0, 0),
  (5, .if_icmp .ge 25, 3, 30, 0, 0), (8, .aload_n 0, 1, 0, 0, 0), (9, .getfield 32, 3, 6, 9, 679), (12, .iload_n 2, 1, 0, 0, 0),
  (13, .iload_n 1, 1, 0, 0, 0), (14, .iconst 4, 1, 0, 0, 0), (15, .iload_n 2, 1, 0, 0, 0), (16, .imul, 1, 0, 0, 0),
  (17, .ishr, 1, 0, 0, 0), (18, .bipush 15, 2, 0, 0, 0), (20, .iand, 1, 0, 0, 0), (21, .iconst 1, 1, 0, 0, 0),
  (22, .isub, 1, 0, 0, 0), (23, .iastore, 1, 0, 0, 0), (24, .iinc 2 1, 3, 0, 0, 0), (27, .goto (-25), 3, 2, 0, 0),
  (30, .aload_n 0, 1, 0, 0, 0), (31, .getfield 32, 3, 6, 9, 679), (34, .bipush 8, 2, 0, 0, 0), (36, .iconst (-1), 1, 0, 0, 0),
  (37, .iastore, 1, 0, 0, 0), (38, .aload_n 0, 1, 0, 0, 0), (39, .getfield 32, 3, 6, 9, 679), (42, .bipush 9, 2, 0, 0, 0),
  (44, .iconst (-1), 1, 0, 0, 0), (45, .iastore, 1, 0, 0, 0), (46, .return_, 1, 0, 0, 0)]
def mm112 : MT := (yX6_opens, cX6_opens, 3, none, 1, 1, 0, 0, 6, cd112)
def cd113 : List AE := [
  (0, .aload_n 0, 1, 0, 0, 0), (1, .getfield 32, 3, 6, 9, 679), (4, .iload_n 1, 1, 0, 0, 0), (5, .iaload, 1, 0, 0, 0),
  (6, .istore_n 3, 1, 0, 0, 0), (7, .aload_n 0, 1, 0, 0, 0), (8, .getfield 32, 3, 6, 9, 679), (11, .iload_n 2, 1, 0, 0, 0),
  (12, .iaload, 1, 0, 0, 0), (13, .istore 4, 2, 0, 0, 0), (15, .aload_n 0, 1, 0, 0, 0), (16, .getfield 32, 3, 6, 9, 679),
  (19, .iload_n 1, 1, 0, 0, 0), (20, .iconst (-1), 1, 0, 0, 0), (21, .iastore, 1, 0, 0, 0), (22, .aload_n 0, 1, 0, 0, 0),
  (23, .getfield 32, 3, 6, 9, 679), (26, .iload_n 2, 1, 0, 0, 0), (27, .iconst (-1), 1, 0, 0, 0), (28, .iastore, 1, 0, 0, 0),
  (29, .iload_n 3, 1, 0, 0, 0), (30, .iload_n 2, 1, 0, 0, 0), (31, .if_icmp .ne 14, 3, 45, 0, 0), (34, .aload_n 0, 1, 0, 0, 0),
  (35, .dup, 1, 0, 0, 0), (36, .getfield 80, 3, 6, 10, 680), (39, .iconst 1, 1, 0, 0, 0), (40, .iadd, 1, 0, 0, 0),
  (41, .putfield 80, 3, 6, 10, 680), (44, .return_, 1, 0, 0, 0), (45, .aload_n 0, 1, 0, 0, 0), (46, .getfield 32, 3, 6, 9, 679),
  (49, .iload_n 3, 1, 0, 0, 0), (50, .iload 4, 2, 0, 0, 0), (52, .iastore, 1, 0, 0, 0), (53, .aload_n 0, 1, 0, 0, 0),
  (54, .getfield 32, 3, 6, 9, 679), (57, .iload 4, 2, 0, 0, 0), (59, .iload_n 3, 1, 0, 0, 0), (60, .iastore, 1, 0, 0, 0),
  (61, .return_, 1, 0, 0, 0)]
def mm113 : MT := (yX6_joins, cX6_joins, 5, none, 2, 1, 0, 0, 6, cd113)
def cd114 : List AE := [
  (0, .aload_n 0, 1, 0, 0, 0), (1, .getfield 32, 3, 6, 9, 679), (4, .iload_n 1, 1, 0, 0, 0), (5, .iaload, 1, 0, 0, 0),
  (6, .istore_n 3, 1, 0, 0, 0), (7, .aload_n 0, 1, 0, 0, 0), (8, .getfield 32, 3, 6, 9, 679), (11, .iload_n 1, 1, 0, 0, 0),
  (12, .iconst (-1), 1, 0, 0, 0), (13, .iastore, 1, 0, 0, 0), (14, .aload_n 0, 1, 0, 0, 0), (15, .getfield 32, 3, 6, 9, 679),
  (18, .iload_n 2, 1, 0, 0, 0), (19, .iload_n 3, 1, 0, 0, 0), (20, .iastore, 1, 0, 0, 0), (21, .aload_n 0, 1, 0, 0, 0),
  (22, .getfield 32, 3, 6, 9, 679), (25, .iload_n 3, 1, 0, 0, 0), (26, .iload_n 2, 1, 0, 0, 0), (27, .iastore, 1, 0, 0, 0),
  (28, .return_, 1, 0, 0, 0)]
def mm114 : MT := (yX6_moves, cX6_moves, 4, none, 2, 1, 0, 0, 6, cd114)
def cd115 : List AE := [
  (0, .aload_n 0, 1, 0, 0, 0), (1, .getfield 32, 3, 6, 9, 679), (4, .iload_n 1, 1, 0, 0, 0), (5, .iload_n 2, 1, 0, 0, 0),
  (6, .iastore, 1, 0, 0, 0), (7, .aload_n 0, 1, 0, 0, 0), (8, .getfield 32, 3, 6, 9, 679), (11, .iload_n 2, 1, 0, 0, 0),
  (12, .iload_n 1, 1, 0, 0, 0), (13, .iastore, 1, 0, 0, 0), (14, .return_, 1, 0, 0, 0)]
def mm115 : MT := (yX6_pairs, cX6_pairs, 3, none, 2, 1, 0, 0, 6, cd115)
def cd116 : List AE := [
  (0, .iload_n 1, 1, 0, 0, 0), (1, .aload_n 0, 1, 0, 0, 0), (2, .getfield 32, 3, 6, 9, 679), (5, .iload_n 2, 1, 0, 0, 0),
  (6, .iaload, 1, 0, 0, 0), (7, .iconst (-1), 1, 0, 0, 0), (8, .if_icmp .eq 7, 3, 15, 0, 0), (11, .iconst 1, 1, 0, 0, 0),
  (12, .goto 4, 3, 16, 0, 0), (15, .iconst 0, 1, 0, 0, 0), (16, .if_icmp .ne 7, 3, 23, 0, 0), (19, .iconst 1, 1, 0, 0, 0),
  (20, .goto 4, 3, 24, 0, 0), (23, .iconst 0, 1, 0, 0, 0), (24, .ireturn, 1, 0, 0, 0)]
def mm116 : MT := (yX6_agrees, cX6_agrees, 3, (some .boolean), 2, 1, 0, 0, 6, cd116)
def cd117 : List AE := [
  (0, .iload_n 1, 1, 0, 0, 0), (1, .aload_n 0, 1, 0, 0, 0), (2, .getfield 7, 3, 6, 0, 670), (5, .irem, 1, 0, 0, 0),
  (6, .istore_n 3, 1, 0, 0, 0), (7, .iload_n 1, 1, 0, 0, 0), (8, .aload_n 0, 1, 0, 0, 0), (9, .getfield 7, 3, 6, 0, 670),
  (12, .idiv, 1, 0, 0, 0), (13, .istore 4, 2, 0, 0, 0), (15, .aload_n 0, 1, 0, 0, 0), (16, .getfield 7, 3, 6, 0, 670),
  (19, .istore 5, 2, 0, 0, 0), (21, .aload_n 0, 1, 0, 0, 0), (22, .getfield 7, 3, 6, 0, 670), (25, .iconst 1, 1, 0, 0, 0),
  (26, .iadd, 1, 0, 0, 0), (27, .istore 6, 2, 0, 0, 0), (29, .aload_n 0, 1, 0, 0, 0), (30, .getfield 7, 3, 6, 0, 670),
  (33, .iconst 2, 1, 0, 0, 0), (34, .iadd, 1, 0, 0, 0), (35, .istore 7, 2, 0, 0, 0), (37, .aload_n 0, 1, 0, 0, 0),
  (38, .iconst 0, 1, 0, 0, 0), (39, .putfield 80, 3, 6, 10, 680), (42, .aload_n 0, 1, 0, 0, 0), (43, .getfield 16, 3, 6, 3, 673),
  (46, .iload_n 1, 1, 0, 0, 0), (47, .iaload, 1, 0, 0, 0), (48, .iload_n 2, 1, 0, 0, 0), (49, .ishr, 1, 0, 0, 0),
  (50, .iconst 1, 1, 0, 0, 0), (51, .iand, 1, 0, 0, 0), (52, .ifCond .ne 5, 3, 57, 0, 0), (55, .iconst 0, 1, 0, 0, 0),
  (56, .ireturn, 1, 0, 0, 0), (57, .aload_n 0, 1, 0, 0, 0), (58, .iload_n 2, 1, 0, 0, 0), (59, .iconst 0, 1, 0, 0, 0),
  (60, .invokevirtual 83, 3, 110, 0, 770), (63, .istore 8, 2, 0, 0, 0), (65, .aload_n 0, 1, 0, 0, 0), (66, .iload_n 2, 1, 0, 0, 0),
  (67, .iconst 1, 1, 0, 0, 0), (68, .invokevirtual 83, 3, 110, 0, 770), (71, .istore 9, 2, 0, 0, 0), (73, .aload_n 0, 1, 0, 0, 0),
  (74, .iload_n 2, 1, 0, 0, 0), (75, .iconst 2, 1, 0, 0, 0), (76, .invokevirtual 83, 3, 110, 0, 770), (79, .istore 10, 2, 0, 0, 0),
  (81, .aload_n 0, 1, 0, 0, 0), (82, .iload_n 2, 1, 0, 0, 0), (83, .iconst 3, 1, 0, 0, 0), (84, .invokevirtual 83, 3, 110, 0, 770),
  (87, .istore 11, 2, 0, 0, 0), (89, .aload_n 0, 1, 0, 0, 0), (90, .getfield 65, 3, 6, 2, 672), (93, .ifCond .eq 27, 3, 120, 0, 0),
  (96, .iload 4, 2, 0, 0, 0), (98, .ifCond .ne 22, 3, 120, 0, 0), (101, .iload_n 3, 1, 0, 0, 0), (102, .iconst 2, 1, 0, 0, 0),
  (103, .irem, 1, 0, 0, 0), (104, .ifCond .ne 16, 3, 120, 0, 0), (107, .iload 8, 2, 0, 0, 0), (109, .ifCond .eq 11, 3, 120, 0, 0),
  (112, .aload_n 0, 1, 0, 0, 0), (113, .iload_n 3, 1, 0, 0, 0), (114, .iload_n 3, 1, 0, 0, 0), (115, .iconst 1, 1, 0, 0, 0),
  (116, .iadd, 1, 0, 0, 0), (117, .invokevirtual 86, 3, 115, 0, 774), (120, .aload_n 0, 1, 0, 0, 0), (121, .getfield 65, 3, 6, 2, 672),
  (124, .ifCond .eq 27, 3, 151, 0, 0), (127, .iload_n 3, 1, 0, 0, 0), (128, .ifCond .ne 23, 3, 151, 0, 0), (131, .iload 4, 2, 0, 0, 0),
  (133, .iconst 2, 1, 0, 0, 0), (134, .irem, 1, 0, 0, 0), (135, .ifCond .ne 16, 3, 151, 0, 0), (138, .iload 11, 2, 0, 0, 0),
  (140, .ifCond .eq 11, 3, 151, 0, 0), (143, .aload_n 0, 1, 0, 0, 0), (144, .iload 5, 2, 0, 0, 0), (146, .iload 6, 2, 0, 0, 0),
  (148, .invokevirtual 86, 3, 115, 0, 774), (151, .aload_n 0, 1, 0, 0, 0), (152, .getfield 65, 3, 6, 2, 672), (155, .ifCond .eq 34, 3, 189, 0, 0),
  (158, .iload_n 3, 1, 0, 0, 0), (159, .ifCond .ne 30, 3, 189, 0, 0), (162, .iload 4, 2, 0, 0, 0), (164, .iconst 2, 1, 0, 0, 0),
  (165, .irem, 1, 0, 0, 0), (166, .iconst 1, 1, 0, 0, 0), (167, .if_icmp .ne 22, 3, 189, 0, 0), (170, .aload_n 0, 1, 0, 0, 0),
  (171, .getfield 32, 3, 6, 9, 679), (174, .iload 6, 2, 0, 0, 0), (176, .iaload, 1, 0, 0, 0), (177, .iconst (-1), 1, 0, 0, 0),
  (178, .if_icmp .eq 11, 3, 189, 0, 0), (181, .aload_n 0, 1, 0, 0, 0), (182, .iload 6, 2, 0, 0, 0), (184, .iload 5, 2, 0, 0, 0),
  (186, .invokevirtual 90, 3, 114, 0, 778), (189, .aload_n 0, 1, 0, 0, 0), (190, .iload 8, 2, 0, 0, 0), (192, .iload_n 3, 1, 0, 0, 0),
  (193, .invokevirtual 93, 3, 116, 0, 782), (196, .ifCond .eq 14, 3, 210, 0, 0), (199, .aload_n 0, 1, 0, 0, 0), (200, .iload 11, 2, 0, 0, 0),
  (202, .iload 5, 2, 0, 0, 0), (204, .invokevirtual 93, 3, 116, 0, 782), (207, .ifCond .ne 5, 3, 212, 0, 0), (210, .iconst 0, 1, 0, 0, 0),
  (211, .ireturn, 1, 0, 0, 0), (212, .iconst 0, 1, 0, 0, 0), (213, .istore 12, 2, 0, 0, 0), (215, .iload 12, 2, 0, 0, 0),
  (217, .aload_n 0, 1, 0, 0, 0), (218, .getfield 23, 3, 6, 6, 676), (221, .iload_n 2, 1, 0, 0, 0), (222, .iaload, 1, 0, 0, 0),
  (223, .if_icmp .ge 38, 3, 261, 0, 0), (226, .aload_n 0, 1, 0, 0, 0), (227, .iload_n 3, 1, 0, 0, 0), (228, .iload 5, 2, 0, 0, 0),
  (230, .aload_n 0, 1, 0, 0, 0), (231, .getfield 26, 3, 6, 7, 677), (234, .iconst 2, 1, 0, 0, 0), (235, .iload_n 2, 1, 0, 0, 0),
  (236, .imul, 1, 0, 0, 0), (237, .iload 12, 2, 0, 0, 0), (239, .iadd, 1, 0, 0, 0), (240, .iaload, 1, 0, 0, 0),
  (241, .aload_n 0, 1, 0, 0, 0), (242, .getfield 29, 3, 6, 8, 678), (245, .iconst 2, 1, 0, 0, 0), (246, .iload_n 2, 1, 0, 0, 0),
  (247, .imul, 1, 0, 0, 0), (248, .iload 12, 2, 0, 0, 0), (250, .iadd, 1, 0, 0, 0), (251, .iaload, 1, 0, 0, 0),
  (252, .invokevirtual 97, 3, 118, 0, 786), (255, .iinc 12 1, 3, 0, 0, 0), (258, .goto (-43), 3, 215, 0, 0), (261, .iload_n 3, 1, 0, 0, 0),
  (262, .aload_n 0, 1, 0, 0, 0), (263, .getfield 7, 3, 6, 0, 670), (266, .iconst 1, 1, 0, 0, 0), (267, .isub, 1, 0, 0, 0),
  (268, .if_icmp .ne 15, 3, 283, 0, 0), (271, .iload 9, 2, 0, 0, 0), (273, .ifCond .eq 10, 3, 283, 0, 0), (276, .aload_n 0, 1, 0, 0, 0),
  (277, .getfield 65, 3, 6, 2, 672), (280, .ifCond .eq 26, 3, 306, 0, 0), (283, .iload 4, 2, 0, 0, 0), (285, .aload_n 0, 1, 0, 0, 0),
  (286, .getfield 13, 3, 6, 1, 671), (289, .iconst 1, 1, 0, 0, 0), (290, .isub, 1, 0, 0, 0), (291, .if_icmp .ne 17, 3, 308, 0, 0),
  (294, .iload 10, 2, 0, 0, 0), (296, .ifCond .eq 12, 3, 308, 0, 0), (299, .aload_n 0, 1, 0, 0, 0), (300, .getfield 65, 3, 6, 2, 672),
  (303, .ifCond .ne 5, 3, 308, 0, 0), (306, .iconst 0, 1, 0, 0, 0), (307, .ireturn, 1, 0, 0, 0), (308, .iload_n 3, 1, 0, 0, 0),
  (309, .aload_n 0, 1, 0, 0, 0), (310, .getfield 7, 3, 6, 0, 670), (313, .iconst 1, 1, 0, 0, 0), (314, .isub, 1, 0, 0, 0),
  (315, .if_icmp .ne 41, 3, 356, 0, 0), (318, .aload_n 0, 1, 0, 0, 0), (319, .getfield 65, 3, 6, 2, 672), (322, .ifCond .eq 34, 3, 356, 0, 0),
  (325, .iload 4, 2, 0, 0, 0), (327, .iconst 2, 1, 0, 0, 0), (328, .irem, 1, 0, 0, 0), (329, .iconst 1, 1, 0, 0, 0),
  (330, .if_icmp .ne 26, 3, 356, 0, 0), (333, .iload 9, 2, 0, 0, 0), (335, .aload_n 0, 1, 0, 0, 0), (336, .getfield 32, 3, 6, 9, 679),
  (339, .iload 7, 2, 0, 0, 0), (341, .iaload, 1, 0, 0, 0), (342, .iconst (-1), 1, 0, 0, 0), (343, .if_icmp .eq 7, 3, 350, 0, 0),
  (346, .iconst 1, 1, 0, 0, 0), (347, .goto 4, 3, 351, 0, 0), (350, .iconst 0, 1, 0, 0, 0), (351, .if_icmp .eq 5, 3, 356, 0, 0),
  (354, .iconst 0, 1, 0, 0, 0), (355, .ireturn, 1, 0, 0, 0), (356, .iload 4, 2, 0, 0, 0), (358, .aload_n 0, 1, 0, 0, 0),
  (359, .getfield 13, 3, 6, 1, 671), (362, .iconst 1, 1, 0, 0, 0), (363, .isub, 1, 0, 0, 0), (364, .if_icmp .ne 41, 3, 405, 0, 0),
  (367, .aload_n 0, 1, 0, 0, 0), (368, .getfield 65, 3, 6, 2, 672), (371, .ifCond .eq 34, 3, 405, 0, 0), (374, .iload_n 3, 1, 0, 0, 0),
  (375, .iconst 2, 1, 0, 0, 0), (376, .irem, 1, 0, 0, 0), (377, .iconst 1, 1, 0, 0, 0), (378, .if_icmp .ne 27, 3, 405, 0, 0),
  (381, .iload 10, 2, 0, 0, 0), (383, .aload_n 0, 1, 0, 0, 0), (384, .getfield 32, 3, 6, 9, 679), (387, .iload_n 3, 1, 0, 0, 0),
  (388, .iconst 1, 1, 0, 0, 0), (389, .isub, 1, 0, 0, 0), (390, .iaload, 1, 0, 0, 0), (391, .iconst (-1), 1, 0, 0, 0),
  (392, .if_icmp .eq 7, 3, 399, 0, 0), (395, .iconst 1, 1, 0, 0, 0), (396, .goto 4, 3, 400, 0, 0), (399, .iconst 0, 1, 0, 0, 0),
  (400, .if_icmp .eq 5, 3, 405, 0, 0), (403, .iconst 0, 1, 0, 0, 0), (404, .ireturn, 1, 0, 0, 0), (405, .iload 9, 2, 0, 0, 0),
  (407, .ifCond .eq 42, 3, 449, 0, 0), (410, .iload_n 3, 1, 0, 0, 0), (411, .aload_n 0, 1, 0, 0, 0), (412, .getfield 7, 3, 6, 0, 670),
  (415, .iconst 1, 1, 0, 0, 0), (416, .isub, 1, 0, 0, 0), (417, .if_icmp .ne 32, 3, 449, 0, 0), (420, .iload 4, 2, 0, 0, 0),
  (422, .iconst 2, 1, 0, 0, 0), (423, .irem, 1, 0, 0, 0), (424, .ifCond .ne 14, 3, 438, 0, 0), (427, .aload_n 0, 1, 0, 0, 0),
  (428, .bipush 9, 2, 0, 0, 0), (430, .iload 7, 2, 0, 0, 0), (432, .invokevirtual 90, 3, 114, 0, 778), (435, .goto 27, 3, 462, 0, 0),
  (438, .aload_n 0, 1, 0, 0, 0), (439, .bipush 9, 2, 0, 0, 0), (441, .iload 7, 2, 0, 0, 0), (443, .invokevirtual 101, 3, 113, 0, 790),
  (446, .goto 16, 3, 462, 0, 0), (449, .iload 9, 2, 0, 0, 0), (451, .ifCond .eq 11, 3, 462, 0, 0), (454, .aload_n 0, 1, 0, 0, 0),
  (455, .bipush 9, 2, 0, 0, 0), (457, .iload 5, 2, 0, 0, 0), (459, .invokevirtual 90, 3, 114, 0, 778), (462, .iload 10, 2, 0, 0, 0),
  (464, .ifCond .eq 33, 3, 497, 0, 0), (467, .iload 4, 2, 0, 0, 0), (469, .aload_n 0, 1, 0, 0, 0), (470, .getfield 13, 3, 6, 1, 671),
  (473, .iconst 1, 1, 0, 0, 0), (474, .isub, 1, 0, 0, 0), (475, .if_icmp .ne 22, 3, 497, 0, 0), (478, .iload_n 3, 1, 0, 0, 0),
  (479, .iconst 2, 1, 0, 0, 0), (480, .irem, 1, 0, 0, 0), (481, .iconst 1, 1, 0, 0, 0), (482, .if_icmp .ne 15, 3, 497, 0, 0),
  (485, .aload_n 0, 1, 0, 0, 0), (486, .bipush 8, 2, 0, 0, 0), (488, .iload_n 3, 1, 0, 0, 0), (489, .iconst 1, 1, 0, 0, 0),
  (490, .isub, 1, 0, 0, 0), (491, .invokevirtual 101, 3, 113, 0, 790), (494, .goto 15, 3, 509, 0, 0), (497, .iload 10, 2, 0, 0, 0),
  (499, .ifCond .eq 10, 3, 509, 0, 0), (502, .aload_n 0, 1, 0, 0, 0), (503, .bipush 8, 2, 0, 0, 0), (505, .iload_n 3, 1, 0, 0, 0),
  (506, .invokevirtual 90, 3, 114, 0, 778), (509, .iconst 1, 1, 0, 0, 0), (510, .ireturn, 1, 0, 0, 0)]
def mm117 : MT := (yX6_comes, cX6_comes, 13, (some .boolean), 2, 1, 2, 50, 6, cd117)
def cd118 : List AE := [
  (0, .iload_n 3, 1, 0, 0, 0), (1, .ifCond .ne 7, 3, 8, 0, 0), (4, .iload_n 1, 1, 0, 0, 0), (5, .goto 24, 3, 29, 0, 0),
  (8, .iload_n 3, 1, 0, 0, 0), (9, .iconst 3, 1, 0, 0, 0), (10, .if_icmp .ne 7, 3, 17, 0, 0), (13, .iload_n 2, 1, 0, 0, 0),
  (14, .goto 15, 3, 29, 0, 0), (17, .iload_n 3, 1, 0, 0, 0), (18, .iconst 2, 1, 0, 0, 0), (19, .if_icmp .ne 8, 3, 27, 0, 0),
  (22, .bipush 8, 2, 0, 0, 0), (24, .goto 5, 3, 29, 0, 0), (27, .bipush 9, 2, 0, 0, 0), (29, .istore 5, 2, 0, 0, 0),
  (31, .iload 4, 2, 0, 0, 0), (33, .ifCond .ne 7, 3, 40, 0, 0), (36, .iload_n 1, 1, 0, 0, 0), (37, .goto 26, 3, 63, 0, 0),
  (40, .iload 4, 2, 0, 0, 0), (42, .iconst 3, 1, 0, 0, 0), (43, .if_icmp .ne 7, 3, 50, 0, 0), (46, .iload_n 2, 1, 0, 0, 0),
  (47, .goto 16, 3, 63, 0, 0), (50, .iload 4, 2, 0, 0, 0), (52, .iconst 2, 1, 0, 0, 0), (53, .if_icmp .ne 8, 3, 61, 0, 0),
  (56, .bipush 8, 2, 0, 0, 0), (58, .goto 5, 3, 63, 0, 0), (61, .bipush 9, 2, 0, 0, 0), (63, .istore 6, 2, 0, 0, 0),
  (65, .iload 5, 2, 0, 0, 0), (67, .bipush 8, 2, 0, 0, 0), (69, .if_icmp .ge 21, 3, 90, 0, 0), (72, .iload 6, 2, 0, 0, 0),
  (74, .bipush 8, 2, 0, 0, 0), (76, .if_icmp .ge 14, 3, 90, 0, 0), (79, .aload_n 0, 1, 0, 0, 0), (80, .iload 5, 2, 0, 0, 0),
  (82, .iload 6, 2, 0, 0, 0), (84, .invokevirtual 101, 3, 113, 0, 790), (87, .goto 47, 3, 134, 0, 0), (90, .iload 5, 2, 0, 0, 0),
  (92, .bipush 8, 2, 0, 0, 0), (94, .if_icmp .ge 14, 3, 108, 0, 0), (97, .aload_n 0, 1, 0, 0, 0), (98, .iload 5, 2, 0, 0, 0),
  (100, .iload 6, 2, 0, 0, 0), (102, .invokevirtual 90, 3, 114, 0, 778), (105, .goto 29, 3, 134, 0, 0), (108, .iload 6, 2, 0, 0, 0),
  (110, .bipush 8, 2, 0, 0, 0), (112, .if_icmp .ge 14, 3, 126, 0, 0), (115, .aload_n 0, 1, 0, 0, 0), (116, .iload 6, 2, 0, 0, 0),
  (118, .iload 5, 2, 0, 0, 0), (120, .invokevirtual 90, 3, 114, 0, 778), (123, .goto 11, 3, 134, 0, 0), (126, .aload_n 0, 1, 0, 0, 0),
  (127, .iload 5, 2, 0, 0, 0), (129, .iload 6, 2, 0, 0, 0), (131, .invokevirtual 86, 3, 115, 0, 774), (134, .return_, 1, 0, 0, 0)]
def mm118 : MT := (yX6_piece, cX6_piece, 7, none, 4, 1, 1, 24, 6, cd118)
def cd119 : List AE := [
  (0, .iload_n 2, 1, 0, 0, 0), (1, .ldc 104, 2, 2654435761, 0, 802), (3, .imul, 1, 0, 0, 0), (4, .bipush 21, 2, 0, 0, 0),
  (6, .iushr, 1, 0, 0, 0), (7, .sipush 2047, 3, 0, 0, 0), (10, .iand, 1, 0, 0, 0), (11, .istore_n 3, 1, 0, 0, 0),
  (12, .aload_n 0, 1, 0, 0, 0), (13, .getfield 41, 3, 6, 13, 683), (16, .iload_n 3, 1, 0, 0, 0), (17, .iaload, 1, 0, 0, 0),
  (18, .iconst (-1), 1, 0, 0, 0), (19, .if_icmp .eq 42, 3, 61, 0, 0), (22, .aload_n 0, 1, 0, 0, 0), (23, .getfield 38, 3, 6, 12, 682),
  (26, .sipush 800, 3, 0, 0, 0), (29, .iload_n 1, 1, 0, 0, 0), (30, .imul, 1, 0, 0, 0), (31, .aload_n 0, 1, 0, 0, 0),
  (32, .getfield 41, 3, 6, 13, 683), (35, .iload_n 3, 1, 0, 0, 0), (36, .iaload, 1, 0, 0, 0), (37, .iadd, 1, 0, 0, 0),
  (38, .iaload, 1, 0, 0, 0), (39, .iload_n 2, 1, 0, 0, 0), (40, .if_icmp .ne 10, 3, 50, 0, 0), (43, .aload_n 0, 1, 0, 0, 0),
  (44, .getfield 41, 3, 6, 13, 683), (47, .iload_n 3, 1, 0, 0, 0), (48, .iaload, 1, 0, 0, 0), (49, .ireturn, 1, 0, 0, 0),
  (50, .iload_n 3, 1, 0, 0, 0), (51, .iconst 1, 1, 0, 0, 0), (52, .iadd, 1, 0, 0, 0), (53, .sipush 2047, 3, 0, 0, 0),
  (56, .iand, 1, 0, 0, 0), (57, .istore_n 3, 1, 0, 0, 0), (58, .goto (-46), 3, 12, 0, 0), (61, .aload_n 0, 1, 0, 0, 0),
  (62, .getfield 41, 3, 6, 13, 683), (65, .iload_n 3, 1, 0, 0, 0), (66, .aload_n 0, 1, 0, 0, 0), (67, .getfield 35, 3, 6, 11, 681),
  (70, .iload_n 1, 1, 0, 0, 0), (71, .iaload, 1, 0, 0, 0), (72, .iastore, 1, 0, 0, 0), (73, .aload_n 0, 1, 0, 0, 0),
  (74, .getfield 38, 3, 6, 12, 682), (77, .sipush 800, 3, 0, 0, 0), (80, .iload_n 1, 1, 0, 0, 0), (81, .imul, 1, 0, 0, 0),
  (82, .aload_n 0, 1, 0, 0, 0), (83, .getfield 35, 3, 6, 11, 681), (86, .iload_n 1, 1, 0, 0, 0), (87, .iaload, 1, 0, 0, 0),
  (88, .iadd, 1, 0, 0, 0), (89, .iload_n 2, 1, 0, 0, 0), (90, .iastore, 1, 0, 0, 0), (91, .aload_n 0, 1, 0, 0, 0),
  (92, .getfield 56, 3, 6, 17, 687), (95, .sipush 800, 3, 0, 0, 0), (98, .iload_n 1, 1, 0, 0, 0), (99, .imul, 1, 0, 0, 0),
  (100, .aload_n 0, 1, 0, 0, 0), (101, .getfield 35, 3, 6, 11, 681), (104, .iload_n 1, 1, 0, 0, 0), (105, .iaload, 1, 0, 0, 0),
  (106, .iadd, 1, 0, 0, 0), (107, .lconst 0, 1, 0, 0, 0), (108, .lastore, 1, 0, 0, 0), (109, .aload_n 0, 1, 0, 0, 0),
  (110, .getfield 35, 3, 6, 11, 681), (113, .iload_n 1, 1, 0, 0, 0), (114, .dup2, 1, 0, 0, 0), (115, .iaload, 1, 0, 0, 0),
  (116, .iconst 1, 1, 0, 0, 0), (117, .iadd, 1, 0, 0, 0), (118, .iastore, 1, 0, 0, 0), (119, .aload_n 0, 1, 0, 0, 0),
  (120, .getfield 35, 3, 6, 11, 681), (123, .iload_n 1, 1, 0, 0, 0), (124, .iaload, 1, 0, 0, 0), (125, .iconst 1, 1, 0, 0, 0),
  (126, .isub, 1, 0, 0, 0), (127, .ireturn, 1, 0, 0, 0)]
def mm119 : MT := (yX6_stateOf, cX6_stateOf, 4, (some .int), 2, 1, 0, 0, 6, cd119)
def cd120 : List AE := [
  (0, .aload_n 0, 1, 0, 0, 0), (1, .getfield 69, 3, 6, 5, 675), (4, .ifCond .eq 4, 3, 8, 0, 0), (7, .return_, 1, 0, 0, 0),
  (8, .aload_n 0, 1, 0, 0, 0), (9, .iconst 1, 1, 0, 0, 0), (10, .putfield 69, 3, 6, 5, 675), (13, .aload_n 0, 1, 0, 0, 0),
  (14, .invokevirtual 76, 3, 106, 0, 746), (17, .istore_n 1, 1, 0, 0, 0), (18, .aload_n 0, 1, 0, 0, 0), (19, .getfield 35, 3, 6, 11, 681),
  (22, .iconst 0, 1, 0, 0, 0), (23, .iconst 1, 1, 0, 0, 0), (24, .iastore, 1, 0, 0, 0), (25, .aload_n 0, 1, 0, 0, 0),
  (26, .getfield 38, 3, 6, 12, 682), (29, .iconst 0, 1, 0, 0, 0), (30, .iconst 0, 1, 0, 0, 0), (31, .iastore, 1, 0, 0, 0),
  (32, .aload_n 0, 1, 0, 0, 0), (33, .getfield 56, 3, 6, 17, 687), (36, .iconst 0, 1, 0, 0, 0), (37, .lconst 1, 1, 0, 0, 0),
  (38, .lastore, 1, 0, 0, 0), (39, .iconst 0, 1, 0, 0, 0), (40, .istore_n 2, 1, 0, 0, 0), (41, .iload_n 2, 1, 0, 0, 0),
  (42, .iload_n 1, 1, 0, 0, 0), (43, .if_icmp .ge 190, 3, 233, 0, 0), (46, .iconst 0, 1, 0, 0, 0), (47, .istore_n 3, 1, 0, 0, 0),
  (48, .iload_n 3, 1, 0, 0, 0), (49, .sipush 2048, 3, 0, 0, 0), (52, .if_icmp .ge 16, 3, 68, 0, 0), (55, .aload_n 0, 1, 0, 0, 0),
  (56, .getfield 41, 3, 6, 13, 683), (59, .iload_n 3, 1, 0, 0, 0), (60, .iconst (-1), 1, 0, 0, 0), (61, .iastore, 1, 0, 0, 0),
  (62, .iinc 3 1, 3, 0, 0, 0), (65, .goto (-17), 3, 48, 0, 0), (68, .aload_n 0, 1, 0, 0, 0), (69, .getfield 35, 3, 6, 11, 681),
  (72, .iload_n 2, 1, 0, 0, 0), (73, .iconst 1, 1, 0, 0, 0), (74, .iadd, 1, 0, 0, 0), (75, .iconst 0, 1, 0, 0, 0),
  (76, .iastore, 1, 0, 0, 0), (77, .iconst 0, 1, 0, 0, 0), (78, .istore_n 3, 1, 0, 0, 0), (79, .iload_n 3, 1, 0, 0, 0),
  (80, .aload_n 0, 1, 0, 0, 0), (81, .getfield 35, 3, 6, 11, 681), (84, .iload_n 2, 1, 0, 0, 0), (85, .iaload, 1, 0, 0, 0),
  (86, .if_icmp .ge 141, 3, 227, 0, 0), (89, .iconst 0, 1, 0, 0, 0), (90, .istore 4, 2, 0, 0, 0), (92, .iload 4, 2, 0, 0, 0),
  (94, .bipush 10, 2, 0, 0, 0), (96, .if_icmp .ge 125, 3, 221, 0, 0), (99, .sipush 800, 3, 0, 0, 0), (102, .iload_n 2, 1, 0, 0, 0),
  (103, .imul, 1, 0, 0, 0), (104, .iload_n 3, 1, 0, 0, 0), (105, .iadd, 1, 0, 0, 0), (106, .bipush 10, 2, 0, 0, 0),
  (108, .imul, 1, 0, 0, 0), (109, .iload 4, 2, 0, 0, 0), (111, .iadd, 1, 0, 0, 0), (112, .istore 5, 2, 0, 0, 0),
  (114, .aload_n 0, 1, 0, 0, 0), (115, .aload_n 0, 1, 0, 0, 0), (116, .getfield 38, 3, 6, 12, 682), (119, .sipush 800, 3, 0, 0, 0),
  (122, .iload_n 2, 1, 0, 0, 0), (123, .imul, 1, 0, 0, 0), (124, .iload_n 3, 1, 0, 0, 0), (125, .iadd, 1, 0, 0, 0),
  (126, .iaload, 1, 0, 0, 0), (127, .invokevirtual 105, 3, 112, 0, 762), (130, .aload_n 0, 1, 0, 0, 0), (131, .getfield 45, 3, 6, 14, 684),
  (134, .iload 5, 2, 0, 0, 0), (136, .iconst (-1), 1, 0, 0, 0), (137, .iastore, 1, 0, 0, 0), (138, .aload_n 0, 1, 0, 0, 0),
  (139, .iload_n 2, 1, 0, 0, 0), (140, .iload 4, 2, 0, 0, 0), (142, .invokevirtual 109, 3, 117, 0, 766), (145, .ifCond .ne 6, 3, 151, 0, 0),
  (148, .goto 67, 3, 215, 0, 0), (151, .aload_n 0, 1, 0, 0, 0), (152, .getfield 48, 3, 6, 15, 685), (155, .iload 5, 2, 0, 0, 0),
  (157, .aload_n 0, 1, 0, 0, 0), (158, .getfield 80, 3, 6, 10, 680), (161, .iastore, 1, 0, 0, 0), (162, .aload_n 0, 1, 0, 0, 0),
  (163, .getfield 45, 3, 6, 14, 684), (166, .iload 5, 2, 0, 0, 0), (168, .aload_n 0, 1, 0, 0, 0), (169, .iload_n 2, 1, 0, 0, 0),
  (170, .iconst 1, 1, 0, 0, 0), (171, .iadd, 1, 0, 0, 0), (172, .aload_n 0, 1, 0, 0, 0), (173, .invokevirtual 112, 3, 111, 0, 794),
  (176, .invokevirtual 115, 3, 119, 0, 798), (179, .iastore, 1, 0, 0, 0), (180, .aload_n 0, 1, 0, 0, 0), (181, .getfield 56, 3, 6, 17, 687),
  (184, .sipush 800, 3, 0, 0, 0), (187, .iload_n 2, 1, 0, 0, 0), (188, .iconst 1, 1, 0, 0, 0), (189, .iadd, 1, 0, 0, 0),
  (190, .imul, 1, 0, 0, 0), (191, .aload_n 0, 1, 0, 0, 0), (192, .getfield 45, 3, 6, 14, 684), (195, .iload 5, 2, 0, 0, 0),
  (197, .iaload, 1, 0, 0, 0), (198, .iadd, 1, 0, 0, 0), (199, .dup2, 1, 0, 0, 0), (200, .laload, 1, 0, 0, 0),
  (201, .aload_n 0, 1, 0, 0, 0), (202, .getfield 56, 3, 6, 17, 687), (205, .sipush 800, 3, 0, 0, 0), (208, .iload_n 2, 1, 0, 0, 0),
  (209, .imul, 1, 0, 0, 0), (210, .iload_n 3, 1, 0, 0, 0), (211, .iadd, 1, 0, 0, 0), (212, .laload, 1, 0, 0, 0),
  (213, .ladd, 1, 0, 0, 0), (214, .lastore, 1, 0, 0, 0), (215, .iinc 4 1, 3, 0, 0, 0), (218, .goto (-126), 3, 92, 0, 0),
  (221, .iinc 3 1, 3, 0, 0, 0), (224, .goto (-145), 3, 79, 0, 0), (227, .iinc 2 1, 3, 0, 0, 0), (230, .goto (-189), 3, 41, 0, 0),
  (233, .iconst 0, 1, 0, 0, 0), (234, .istore_n 2, 1, 0, 0, 0), (235, .iload_n 2, 1, 0, 0, 0), (236, .aload_n 0, 1, 0, 0, 0),
  (237, .getfield 35, 3, 6, 11, 681), (240, .iload_n 1, 1, 0, 0, 0), (241, .iaload, 1, 0, 0, 0), (242, .if_icmp .ge 64, 3, 306, 0, 0),
  (245, .iconst 0, 1, 0, 0, 0), (246, .istore_n 3, 1, 0, 0, 0), (247, .iload_n 3, 1, 0, 0, 0), (248, .bipush 24, 2, 0, 0, 0),
  (250, .if_icmp .ge 50, 3, 300, 0, 0), (253, .aload_n 0, 1, 0, 0, 0), (254, .getfield 52, 3, 6, 16, 686), (257, .sipush 800, 3, 0, 0, 0),
  (260, .iload_n 1, 1, 0, 0, 0), (261, .imul, 1, 0, 0, 0), (262, .iload_n 2, 1, 0, 0, 0), (263, .iadd, 1, 0, 0, 0),
  (264, .bipush 24, 2, 0, 0, 0), (266, .imul, 1, 0, 0, 0), (267, .iload_n 3, 1, 0, 0, 0), (268, .iadd, 1, 0, 0, 0),
  (269, .iload_n 3, 1, 0, 0, 0), (270, .ifCond .ne 22, 3, 292, 0, 0), (273, .aload_n 0, 1, 0, 0, 0), (274, .getfield 38, 3, 6, 12, 682),
  (277, .sipush 800, 3, 0, 0, 0), (280, .iload_n 1, 1, 0, 0, 0), (281, .imul, 1, 0, 0, 0), (282, .iload_n 2, 1, 0, 0, 0),
  (283, .iadd, 1, 0, 0, 0), (284, .iaload, 1, 0, 0, 0), (285, .ifCond .ne 7, 3, 292, 0, 0), (288, .lconst 1, 1, 0, 0, 0),
  (289, .goto 4, 3, 293, 0, 0), (292, .lconst 0, 1, 0, 0, 0), (293, .lastore, 1, 0, 0, 0), (294, .iinc 3 1, 3, 0, 0, 0),
  (297, .goto (-50), 3, 247, 0, 0), (300, .iinc 2 1, 3, 0, 0, 0), (303, .goto (-68), 3, 235, 0, 0), (306, .iload_n 1, 1, 0, 0, 0),
  (307, .iconst 1, 1, 0, 0, 0), (308, .isub, 1, 0, 0, 0), (309, .istore_n 2, 1, 0, 0, 0), (310, .iload_n 2, 1, 0, 0, 0),
  (311, .ifCond .lt 86, 3, 397, 0, 0), (314, .iconst 0, 1, 0, 0, 0), (315, .istore_n 3, 1, 0, 0, 0), (316, .iload_n 3, 1, 0, 0, 0),
  (317, .aload_n 0, 1, 0, 0, 0), (318, .getfield 35, 3, 6, 11, 681), (321, .iload_n 2, 1, 0, 0, 0), (322, .iaload, 1, 0, 0, 0),
  (323, .if_icmp .ge 68, 3, 391, 0, 0), (326, .iconst 0, 1, 0, 0, 0), (327, .istore 4, 2, 0, 0, 0), (329, .iload 4, 2, 0, 0, 0),
  (331, .bipush 24, 2, 0, 0, 0), (333, .if_icmp .ge 28, 3, 361, 0, 0), (336, .aload_n 0, 1, 0, 0, 0), (337, .getfield 52, 3, 6, 16, 686),
  (340, .sipush 800, 3, 0, 0, 0), (343, .iload_n 2, 1, 0, 0, 0), (344, .imul, 1, 0, 0, 0), (345, .iload_n 3, 1, 0, 0, 0),
  (346, .iadd, 1, 0, 0, 0), (347, .bipush 24, 2, 0, 0, 0), (349, .imul, 1, 0, 0, 0), (350, .iload 4, 2, 0, 0, 0),
  (352, .iadd, 1, 0, 0, 0), (353, .lconst 0, 1, 0, 0, 0), (354, .lastore, 1, 0, 0, 0), (355, .iinc 4 1, 3, 0, 0, 0),
  (358, .goto (-29), 3, 329, 0, 0), (361, .iconst 0, 1, 0, 0, 0), (362, .istore 4, 2, 0, 0, 0), (364, .iload 4, 2, 0, 0, 0),
  (366, .bipush 10, 2, 0, 0, 0), (368, .if_icmp .ge 17, 3, 385, 0, 0), (371, .aload_n 0, 1, 0, 0, 0), (372, .iload_n 2, 1, 0, 0, 0),
  (373, .iload_n 3, 1, 0, 0, 0), (374, .iload 4, 2, 0, 0, 0), (376, .invokevirtual 119, 3, 121, 0, 803), (379, .iinc 4 1, 3, 0, 0, 0),
  (382, .goto (-18), 3, 364, 0, 0), (385, .iinc 3 1, 3, 0, 0, 0), (388, .goto (-72), 3, 316, 0, 0), (391, .iinc 2 (-1), 3, 0, 0, 0),
  (394, .goto (-84), 3, 310, 0, 0), (397, .return_, 1, 0, 0, 0)]
def mm120 : MT := (yX6_notes, cX6_notes, 6, none, 0, 1, 3, 82, 6, cd120)
def cd121 : List AE := [
  (0, .sipush 800, 3, 0, 0, 0), (3, .iload_n 1, 1, 0, 0, 0), (4, .imul, 1, 0, 0, 0), (5, .iload_n 2, 1, 0, 0, 0),
  (6, .iadd, 1, 0, 0, 0), (7, .bipush 10, 2, 0, 0, 0), (9, .imul, 1, 0, 0, 0), (10, .iload_n 3, 1, 0, 0, 0),
  (11, .iadd, 1, 0, 0, 0), (12, .istore 4, 2, 0, 0, 0), (14, .aload_n 0, 1, 0, 0, 0), (15, .getfield 45, 3, 6, 14, 684),
  (18, .iload 4, 2, 0, 0, 0), (20, .iaload, 1, 0, 0, 0), (21, .iconst (-1), 1, 0, 0, 0), (22, .if_icmp .ne 4, 3, 26, 0, 0),
  (25, .return_, 1, 0, 0, 0), (26, .sipush 800, 3, 0, 0, 0), (29, .iload_n 1, 1, 0, 0, 0), (30, .iconst 1, 1, 0, 0, 0),
  (31, .iadd, 1, 0, 0, 0), (32, .imul, 1, 0, 0, 0), (33, .aload_n 0, 1, 0, 0, 0), (34, .getfield 45, 3, 6, 14, 684),
  (37, .iload 4, 2, 0, 0, 0), (39, .iaload, 1, 0, 0, 0), (40, .iadd, 1, 0, 0, 0), (41, .bipush 24, 2, 0, 0, 0),
  (43, .imul, 1, 0, 0, 0), (44, .istore 5, 2, 0, 0, 0), (46, .sipush 800, 3, 0, 0, 0), (49, .iload_n 1, 1, 0, 0, 0),
  (50, .imul, 1, 0, 0, 0), (51, .iload_n 2, 1, 0, 0, 0), (52, .iadd, 1, 0, 0, 0), (53, .bipush 24, 2, 0, 0, 0),
  (55, .imul, 1, 0, 0, 0), (56, .istore 6, 2, 0, 0, 0), (58, .aload_n 0, 1, 0, 0, 0), (59, .getfield 48, 3, 6, 15, 685),
  (62, .iload 4, 2, 0, 0, 0), (64, .iaload, 1, 0, 0, 0), (65, .istore 7, 2, 0, 0, 0), (67, .iload 7, 2, 0, 0, 0),
  (69, .bipush 24, 2, 0, 0, 0), (71, .if_icmp .ge 40, 3, 111, 0, 0), (74, .aload_n 0, 1, 0, 0, 0), (75, .getfield 52, 3, 6, 16, 686),
  (78, .iload 6, 2, 0, 0, 0), (80, .iload 7, 2, 0, 0, 0), (82, .iadd, 1, 0, 0, 0), (83, .dup2, 1, 0, 0, 0),
  (84, .laload, 1, 0, 0, 0), (85, .aload_n 0, 1, 0, 0, 0), (86, .getfield 52, 3, 6, 16, 686), (89, .iload 5, 2, 0, 0, 0),
  (91, .iload 7, 2, 0, 0, 0), (93, .iadd, 1, 0, 0, 0), (94, .aload_n 0, 1, 0, 0, 0), (95, .getfield 48, 3, 6, 15, 685),
  (98, .iload 4, 2, 0, 0, 0), (100, .iaload, 1, 0, 0, 0), (101, .isub, 1, 0, 0, 0), (102, .laload, 1, 0, 0, 0),
  (103, .ladd, 1, 0, 0, 0), (104, .lastore, 1, 0, 0, 0), (105, .iinc 7 1, 3, 0, 0, 0), (108, .goto (-41), 3, 67, 0, 0),
  (111, .return_, 1, 0, 0, 0)]
def mm121 : MT := (yX6_adds, cX6_adds, 8, none, 3, 1, 0, 0, 6, cd121)
def cd122 : List AE := [
  (0, .sipush 800, 3, 0, 0, 0), (3, .iload_n 1, 1, 0, 0, 0), (4, .imul, 1, 0, 0, 0), (5, .iload_n 2, 1, 0, 0, 0),
  (6, .iadd, 1, 0, 0, 0), (7, .bipush 24, 2, 0, 0, 0), (9, .imul, 1, 0, 0, 0), (10, .istore 4, 2, 0, 0, 0),
  (12, .iload_n 3, 1, 0, 0, 0), (13, .iconst (-1), 1, 0, 0, 0), (14, .if_icmp .eq 27, 3, 41, 0, 0), (17, .iload_n 3, 1, 0, 0, 0),
  (18, .ifCond .lt 9, 3, 27, 0, 0), (21, .iload_n 3, 1, 0, 0, 0), (22, .bipush 24, 2, 0, 0, 0), (24, .if_icmp .lt 7, 3, 31, 0, 0),
  (27, .lconst 0, 1, 0, 0, 0), (28, .goto 12, 3, 40, 0, 0), (31, .aload_n 0, 1, 0, 0, 0), (32, .getfield 52, 3, 6, 16, 686),
  (35, .iload 4, 2, 0, 0, 0), (37, .iload_n 3, 1, 0, 0, 0), (38, .iadd, 1, 0, 0, 0), (39, .laload, 1, 0, 0, 0),
  (40, .lreturn, 1, 0, 0, 0), (41, .lconst 0, 1, 0, 0, 0), (42, .lstore 5, 2, 0, 0, 0), (44, .iconst 0, 1, 0, 0, 0),
  (45, .istore 7, 2, 0, 0, 0), (47, .iload 7, 2, 0, 0, 0), (49, .bipush 24, 2, 0, 0, 0), (51, .if_icmp .ge 24, 3, 75, 0, 0),
  (54, .lload 5, 2, 0, 0, 0), (56, .aload_n 0, 1, 0, 0, 0), (57, .getfield 52, 3, 6, 16, 686), (60, .iload 4, 2, 0, 0, 0),
  (62, .iload 7, 2, 0, 0, 0), (64, .iadd, 1, 0, 0, 0), (65, .laload, 1, 0, 0, 0), (66, .ladd, 1, 0, 0, 0),
  (67, .lstore 5, 2, 0, 0, 0), (69, .iinc 7 1, 3, 0, 0, 0), (72, .goto (-25), 3, 47, 0, 0), (75, .lload 5, 2, 0, 0, 0),
  (77, .lreturn, 1, 0, 0, 0)]
def mm122 : MT := (yX6_on, cX6_on, 8, (some .long), 3, 1, 0, 0, 6, cd122)
def cd123 : List AE := [
  (0, .aload_n 0, 1, 0, 0, 0), (1, .invokevirtual 123, 3, 120, 0, 758), (4, .aload_n 0, 1, 0, 0, 0), (5, .iconst 0, 1, 0, 0, 0),
  (6, .iconst 0, 1, 0, 0, 0), (7, .iload_n 1, 1, 0, 0, 0), (8, .invokevirtual 126, 3, 122, 0, 807), (11, .lreturn, 1, 0, 0, 0)]
def mm123 : MT := (yX6_count, cX6_count, 2, (some .long), 1, 1, 4, 107, 6, cd123)
def cd124 : List AE := [
  (0, .aload_n 0, 1, 0, 0, 0), (1, .invokevirtual 123, 3, 120, 0, 758), (4, .lconst 0, 1, 0, 0, 0), (5, .lstore_n 2, 1, 0, 0, 0),
  (6, .lconst 1, 1, 0, 0, 0), (7, .lstore 4, 2, 0, 0, 0), (9, .iconst 0, 1, 0, 0, 0), (10, .istore 6, 2, 0, 0, 0),
  (12, .iload 6, 2, 0, 0, 0), (14, .bipush 24, 2, 0, 0, 0), (16, .if_icmp .ge 30, 3, 46, 0, 0), (19, .lload_n 2, 1, 0, 0, 0),
  (20, .lload 4, 2, 0, 0, 0), (22, .aload_n 0, 1, 0, 0, 0), (23, .iconst 0, 1, 0, 0, 0), (24, .iconst 0, 1, 0, 0, 0),
  (25, .iload 6, 2, 0, 0, 0), (27, .invokevirtual 126, 3, 122, 0, 807), (30, .lmul, 1, 0, 0, 0), (31, .ladd, 1, 0, 0, 0),
  (32, .lstore_n 2, 1, 0, 0, 0), (33, .lload 4, 2, 0, 0, 0), (35, .iload_n 1, 1, 0, 0, 0), (36, .i2l, 1, 0, 0, 0),
  (37, .lmul, 1, 0, 0, 0), (38, .lstore 4, 2, 0, 0, 0), (40, .iinc 6 1, 3, 0, 0, 0), (43, .goto (-31), 3, 12, 0, 0),
  (46, .lload_n 2, 1, 0, 0, 0), (47, .lreturn, 1, 0, 0, 0)]
def mm124 : MT := (yX6_weigh, cX6_weigh, 7, (some .long), 1, 1, 4, 107, 6, cd124)
def cd125 : List AE := [
  (0, .iload_n 1, 1, 0, 0, 0), (1, .ifCond .eq 10, 3, 11, 0, 0), (4, .iload_n 1, 1, 0, 0, 0), (5, .iconst 1, 1, 0, 0, 0),
  (6, .if_icmp .eq 5, 3, 11, 0, 0), (9, .iconst (-1), 1, 0, 0, 0), (10, .ireturn, 1, 0, 0, 0), (11, .aload_n 0, 1, 0, 0, 0),
  (12, .invokevirtual 123, 3, 120, 0, 758), (15, .iconst (-1), 1, 0, 0, 0), (16, .istore_n 2, 1, 0, 0, 0), (17, .iconst 0, 1, 0, 0, 0),
  (18, .istore_n 3, 1, 0, 0, 0), (19, .iload_n 3, 1, 0, 0, 0), (20, .bipush 24, 2, 0, 0, 0), (22, .if_icmp .ge 33, 3, 55, 0, 0),
  (25, .aload_n 0, 1, 0, 0, 0), (26, .iconst 0, 1, 0, 0, 0), (27, .iconst 0, 1, 0, 0, 0), (28, .iload_n 3, 1, 0, 0, 0),
  (29, .invokevirtual 126, 3, 122, 0, 807), (32, .lconst 0, 1, 0, 0, 0), (33, .lcmp, 1, 0, 0, 0), (34, .ifCond .eq 15, 3, 49, 0, 0),
  (37, .iload_n 1, 1, 0, 0, 0), (38, .iconst 1, 1, 0, 0, 0), (39, .if_icmp .eq 8, 3, 47, 0, 0), (42, .iload_n 2, 1, 0, 0, 0),
  (43, .iconst (-1), 1, 0, 0, 0), (44, .if_icmp .ne 5, 3, 49, 0, 0), (47, .iload_n 3, 1, 0, 0, 0), (48, .istore_n 2, 1, 0, 0, 0),
  (49, .iinc 3 1, 3, 0, 0, 0), (52, .goto (-33), 3, 19, 0, 0), (55, .iload_n 2, 1, 0, 0, 0), (56, .ireturn, 1, 0, 0, 0)]
def mm125 : MT := (yX6_loopsOf, cX6_loopsOf, 4, (some .int), 1, 1, 4, 107, 6, cd125)
def cd126 : List AE := [
  (0, .aload_n 0, 1, 0, 0, 0), (1, .iload_n 1, 1, 0, 0, 0), (2, .iload_n 2, 1, 0, 0, 0), (3, .invokevirtual 72, 3, 107, 0, 742),
  (6, .ifCond .eq 13, 3, 19, 0, 0), (9, .iload_n 3, 1, 0, 0, 0), (10, .ifCond .lt 9, 3, 19, 0, 0), (13, .iload_n 3, 1, 0, 0, 0),
  (14, .bipush 10, 2, 0, 0, 0), (16, .if_icmp .lt 7, 3, 23, 0, 0), (19, .ldc2_w 130, 3, 18446744073709551615, 0, 823), (22, .lreturn, 1, 0, 0, 0),
  (23, .aload_n 0, 1, 0, 0, 0), (24, .invokevirtual 123, 3, 120, 0, 758), (27, .iload_n 2, 1, 0, 0, 0), (28, .aload_n 0, 1, 0, 0, 0),
  (29, .getfield 7, 3, 6, 0, 670), (32, .imul, 1, 0, 0, 0), (33, .iload_n 1, 1, 0, 0, 0), (34, .iadd, 1, 0, 0, 0),
  (35, .istore 4, 2, 0, 0, 0), (37, .lconst 0, 1, 0, 0, 0), (38, .lstore 5, 2, 0, 0, 0), (40, .iconst 0, 1, 0, 0, 0),
  (41, .istore 7, 2, 0, 0, 0), (43, .iload 7, 2, 0, 0, 0), (45, .aload_n 0, 1, 0, 0, 0), (46, .getfield 35, 3, 6, 11, 681),
  (49, .iload 4, 2, 0, 0, 0), (51, .iaload, 1, 0, 0, 0), (52, .if_icmp .ge 67, 3, 119, 0, 0), (55, .aload_n 0, 1, 0, 0, 0),
  (56, .getfield 45, 3, 6, 14, 684), (59, .sipush 800, 3, 0, 0, 0), (62, .iload 4, 2, 0, 0, 0), (64, .imul, 1, 0, 0, 0),
  (65, .iload 7, 2, 0, 0, 0), (67, .iadd, 1, 0, 0, 0), (68, .bipush 10, 2, 0, 0, 0), (70, .imul, 1, 0, 0, 0),
  (71, .iload_n 3, 1, 0, 0, 0), (72, .iadd, 1, 0, 0, 0), (73, .iaload, 1, 0, 0, 0), (74, .istore 8, 2, 0, 0, 0),
  (76, .iload 8, 2, 0, 0, 0), (78, .iconst (-1), 1, 0, 0, 0), (79, .if_icmp .eq 34, 3, 113, 0, 0), (82, .lload 5, 2, 0, 0, 0),
  (84, .aload_n 0, 1, 0, 0, 0), (85, .getfield 56, 3, 6, 17, 687), (88, .sipush 800, 3, 0, 0, 0), (91, .iload 4, 2, 0, 0, 0),
  (93, .imul, 1, 0, 0, 0), (94, .iload 7, 2, 0, 0, 0), (96, .iadd, 1, 0, 0, 0), (97, .laload, 1, 0, 0, 0),
  (98, .aload_n 0, 1, 0, 0, 0), (99, .iload 4, 2, 0, 0, 0), (101, .iconst 1, 1, 0, 0, 0), (102, .iadd, 1, 0, 0, 0),
  (103, .iload 8, 2, 0, 0, 0), (105, .iconst (-1), 1, 0, 0, 0), (106, .invokevirtual 126, 3, 122, 0, 807), (109, .lmul, 1, 0, 0, 0),
  (110, .ladd, 1, 0, 0, 0), (111, .lstore 5, 2, 0, 0, 0), (113, .iinc 7 1, 3, 0, 0, 0), (116, .goto (-73), 3, 43, 0, 0),
  (119, .lload 5, 2, 0, 0, 0), (121, .lreturn, 1, 0, 0, 0)]
def mm126 : MT := (yX6_having, cX6_having, 9, (some .long), 3, 1, 4, 107, 6, cd126)
def cd127 : List AE := [
  (0, .aload_n 0, 1, 0, 0, 0), (1, .iload_n 1, 1, 0, 0, 0), (2, .iload_n 2, 1, 0, 0, 0), (3, .invokevirtual 72, 3, 107, 0, 742),
  (6, .ifCond .eq 13, 3, 19, 0, 0), (9, .iload_n 3, 1, 0, 0, 0), (10, .ifCond .lt 9, 3, 19, 0, 0), (13, .iload_n 3, 1, 0, 0, 0),
  (14, .bipush 10, 2, 0, 0, 0), (16, .if_icmp .lt 5, 3, 21, 0, 0), (19, .iconst (-1), 1, 0, 0, 0), (20, .ireturn, 1, 0, 0, 0),
  (21, .aload_n 0, 1, 0, 0, 0), (22, .getfield 20, 3, 6, 4, 674), (25, .iload_n 2, 1, 0, 0, 0), (26, .aload_n 0, 1, 0, 0, 0),
  (27, .getfield 7, 3, 6, 0, 670), (30, .imul, 1, 0, 0, 0), (31, .iload_n 1, 1, 0, 0, 0), (32, .iadd, 1, 0, 0, 0),
  (33, .iaload, 1, 0, 0, 0), (34, .istore 4, 2, 0, 0, 0), (36, .aload_n 0, 1, 0, 0, 0), (37, .getfield 20, 3, 6, 4, 674),
  (40, .iload_n 2, 1, 0, 0, 0), (41, .aload_n 0, 1, 0, 0, 0), (42, .getfield 7, 3, 6, 0, 670), (45, .imul, 1, 0, 0, 0),
  (46, .iload_n 1, 1, 0, 0, 0), (47, .iadd, 1, 0, 0, 0), (48, .iload_n 3, 1, 0, 0, 0), (49, .iastore, 1, 0, 0, 0),
  (50, .iload 4, 2, 0, 0, 0), (52, .ireturn, 1, 0, 0, 0)]
def mm127 : MT := (yX6_put, cX6_put, 5, (some .int), 3, 1, 1, 22, 6, cd127)
def cd128 : List AE := [
  (0, .aload_n 0, 1, 0, 0, 0), (1, .iload_n 1, 1, 0, 0, 0), (2, .iload_n 2, 1, 0, 0, 0), (3, .invokevirtual 72, 3, 107, 0, 742),
  (6, .ifCond .eq 19, 3, 25, 0, 0), (9, .aload_n 0, 1, 0, 0, 0), (10, .getfield 20, 3, 6, 4, 674), (13, .iload_n 2, 1, 0, 0, 0),
  (14, .aload_n 0, 1, 0, 0, 0), (15, .getfield 7, 3, 6, 0, 670), (18, .imul, 1, 0, 0, 0), (19, .iload_n 1, 1, 0, 0, 0),
  (20, .iadd, 1, 0, 0, 0), (21, .iaload, 1, 0, 0, 0), (22, .goto 4, 3, 26, 0, 0), (25, .iconst (-1), 1, 0, 0, 0),
  (26, .ireturn, 1, 0, 0, 0)]
def mm128 : MT := (yX6_tile, cX6_tile, 3, (some .int), 2, 1, 1, 22, 6, cd128)
def cd129 : List AE := [
  (0, .aload_n 0, 1, 0, 0, 0), (1, .iconst 0, 1, 0, 0, 0), (2, .invokevirtual 105, 3, 112, 0, 762), (5, .aload_n 0, 1, 0, 0, 0),
  (6, .iconst 0, 1, 0, 0, 0), (7, .putfield 132, 3, 6, 18, 688), (10, .iconst 0, 1, 0, 0, 0), (11, .istore_n 1, 1, 0, 0, 0),
  (12, .iload_n 1, 1, 0, 0, 0), (13, .aload_n 0, 1, 0, 0, 0), (14, .invokevirtual 76, 3, 106, 0, 746), (17, .if_icmp .ge 54, 3, 71, 0, 0),
  (20, .aload_n 0, 1, 0, 0, 0), (21, .iload_n 1, 1, 0, 0, 0), (22, .aload_n 0, 1, 0, 0, 0), (23, .getfield 20, 3, 6, 4, 674),
  (26, .iload_n 1, 1, 0, 0, 0), (27, .iaload, 1, 0, 0, 0), (28, .invokevirtual 109, 3, 117, 0, 766), (31, .ifCond .ne 5, 3, 36, 0, 0),
  (34, .iload_n 1, 1, 0, 0, 0), (35, .ireturn, 1, 0, 0, 0), (36, .aload_n 0, 1, 0, 0, 0), (37, .dup, 1, 0, 0, 0),
  (38, .getfield 132, 3, 6, 18, 688), (41, .aload_n 0, 1, 0, 0, 0), (42, .getfield 80, 3, 6, 10, 680), (45, .iadd, 1, 0, 0, 0),
  (46, .putfield 132, 3, 6, 18, 688), (49, .aload_n 0, 1, 0, 0, 0), (50, .getfield 32, 3, 6, 9, 679), (53, .bipush 8, 2, 0, 0, 0),
  (55, .iconst (-1), 1, 0, 0, 0), (56, .iastore, 1, 0, 0, 0), (57, .aload_n 0, 1, 0, 0, 0), (58, .getfield 32, 3, 6, 9, 679),
  (61, .bipush 9, 2, 0, 0, 0), (63, .iconst (-1), 1, 0, 0, 0), (64, .iastore, 1, 0, 0, 0), (65, .iinc 1 1, 3, 0, 0, 0),
  (68, .goto (-56), 3, 12, 0, 0), (71, .aload_n 0, 1, 0, 0, 0), (72, .invokevirtual 76, 3, 106, 0, 746), (75, .ireturn, 1, 0, 0, 0)]
def mm129 : MT := (yX6_wrong, cX6_wrong, 2, (some .int), 0, 1, 3, 82, 6, cd129)
def cd130 : List AE := [
  (0, .aload_n 0, 1, 0, 0, 0), (1, .invokevirtual 135, 3, 129, 0, 844), (4, .aload_n 0, 1, 0, 0, 0), (5, .invokevirtual 76, 3, 106, 0, 746),
  (8, .if_icmp .ne 7, 3, 15, 0, 0), (11, .iconst 1, 1, 0, 0, 0), (12, .goto 4, 3, 16, 0, 0), (15, .iconst 0, 1, 0, 0, 0),
  (16, .ireturn, 1, 0, 0, 0)]
def mm130 : MT := (yX6_isFilling, cX6_isFilling, 1, (some .boolean), 0, 1, 4, 103, 6, cd130)
def cd131 : List AE := [
  (0, .aload_n 0, 1, 0, 0, 0), (1, .invokevirtual 138, 3, 130, 0, 840), (4, .ifCond .eq 10, 3, 14, 0, 0), (7, .aload_n 0, 1, 0, 0, 0),
  (8, .getfield 132, 3, 6, 18, 688), (11, .goto 4, 3, 15, 0, 0), (14, .iconst (-1), 1, 0, 0, 0), (15, .ireturn, 1, 0, 0, 0)]
def mm131 : MT := (yX6_loops, cX6_loops, 1, (some .int), 0, 1, 5, 123, 6, cd131)
def cd132 : List AE := [
  (0, .aload_n 0, 1, 0, 0, 0), (1, .invokevirtual 123, 3, 120, 0, 758), (4, .iload_n 1, 1, 0, 0, 0), (5, .iconst (-1), 1, 0, 0, 0),
  (6, .if_icmp .lt 21, 3, 27, 0, 0), (9, .lload_n 2, 1, 0, 0, 0), (10, .lconst 0, 1, 0, 0, 0), (11, .lcmp, 1, 0, 0, 0),
  (12, .ifCond .lt 15, 3, 27, 0, 0), (15, .lload_n 2, 1, 0, 0, 0), (16, .aload_n 0, 1, 0, 0, 0), (17, .iconst 0, 1, 0, 0, 0),
  (18, .iconst 0, 1, 0, 0, 0), (19, .iload_n 1, 1, 0, 0, 0), (20, .invokevirtual 126, 3, 122, 0, 807), (23, .lcmp, 1, 0, 0, 0),
  (24, .ifCond .lt 5, 3, 29, 0, 0), (27, .iconst 0, 1, 0, 0, 0), (28, .ireturn, 1, 0, 0, 0), (29, .lload_n 2, 1, 0, 0, 0),
  (30, .lstore 4, 2, 0, 0, 0), (32, .iconst 0, 1, 0, 0, 0), (33, .istore 6, 2, 0, 0, 0), (35, .iload_n 1, 1, 0, 0, 0),
  (36, .istore 7, 2, 0, 0, 0), (38, .iconst 0, 1, 0, 0, 0), (39, .istore 8, 2, 0, 0, 0), (41, .iload 8, 2, 0, 0, 0),
  (43, .aload_n 0, 1, 0, 0, 0), (44, .invokevirtual 76, 3, 106, 0, 746), (47, .if_icmp .ge 103, 3, 150, 0, 0), (50, .iconst 0, 1, 0, 0, 0),
  (51, .istore 9, 2, 0, 0, 0), (53, .aload_n 0, 1, 0, 0, 0), (54, .iload 8, 2, 0, 0, 0), (56, .iload 6, 2, 0, 0, 0),
  (58, .iload 9, 2, 0, 0, 0), (60, .iload 7, 2, 0, 0, 0), (62, .invokevirtual 142, 3, 133, 0, 849), (65, .lstore 10, 2, 0, 0, 0),
  (67, .lload 4, 2, 0, 0, 0), (69, .lload 10, 2, 0, 0, 0), (71, .lcmp, 1, 0, 0, 0), (72, .ifCond .ge 6, 3, 78, 0, 0),
  (75, .goto 16, 3, 91, 0, 0), (78, .lload 4, 2, 0, 0, 0), (80, .lload 10, 2, 0, 0, 0), (82, .lsub, 1, 0, 0, 0),
  (83, .lstore 4, 2, 0, 0, 0), (85, .iinc 9 1, 3, 0, 0, 0), (88, .goto (-35), 3, 53, 0, 0), (91, .sipush 800, 3, 0, 0, 0),
  (94, .iload 8, 2, 0, 0, 0), (96, .imul, 1, 0, 0, 0), (97, .iload 6, 2, 0, 0, 0), (99, .iadd, 1, 0, 0, 0),
  (100, .bipush 10, 2, 0, 0, 0), (102, .imul, 1, 0, 0, 0), (103, .iload 9, 2, 0, 0, 0), (105, .iadd, 1, 0, 0, 0),
  (106, .istore 10, 2, 0, 0, 0), (108, .aload_n 0, 1, 0, 0, 0), (109, .getfield 59, 3, 6, 19, 689), (112, .iload 8, 2, 0, 0, 0),
  (114, .iload 9, 2, 0, 0, 0), (116, .iastore, 1, 0, 0, 0), (117, .iload 7, 2, 0, 0, 0), (119, .iconst (-1), 1, 0, 0, 0),
  (120, .if_icmp .eq 15, 3, 135, 0, 0), (123, .iload 7, 2, 0, 0, 0), (125, .aload_n 0, 1, 0, 0, 0), (126, .getfield 48, 3, 6, 15, 685),
  (129, .iload 10, 2, 0, 0, 0), (131, .iaload, 1, 0, 0, 0), (132, .isub, 1, 0, 0, 0), (133, .istore 7, 2, 0, 0, 0),
  (135, .aload_n 0, 1, 0, 0, 0), (136, .getfield 45, 3, 6, 14, 684), (139, .iload 10, 2, 0, 0, 0), (141, .iaload, 1, 0, 0, 0),
  (142, .istore 6, 2, 0, 0, 0), (144, .iinc 8 1, 3, 0, 0, 0), (147, .goto (-106), 3, 41, 0, 0), (150, .iconst 0, 1, 0, 0, 0),
  (151, .istore 8, 2, 0, 0, 0), (153, .iload 8, 2, 0, 0, 0), (155, .aload_n 0, 1, 0, 0, 0), (156, .invokevirtual 76, 3, 106, 0, 746),
  (159, .if_icmp .ge 23, 3, 182, 0, 0), (162, .aload_n 0, 1, 0, 0, 0), (163, .getfield 20, 3, 6, 4, 674), (166, .iload 8, 2, 0, 0, 0),
  (168, .aload_n 0, 1, 0, 0, 0), (169, .getfield 59, 3, 6, 19, 689), (172, .iload 8, 2, 0, 0, 0), (174, .iaload, 1, 0, 0, 0),
  (175, .iastore, 1, 0, 0, 0), (176, .iinc 8 1, 3, 0, 0, 0), (179, .goto (-26), 3, 153, 0, 0), (182, .iconst 1, 1, 0, 0, 0),
  (183, .ireturn, 1, 0, 0, 0)]
def mm132 : MT := (yX6_find, cX6_find, 12, (some .boolean), 2, 1, 4, 107, 6, cd132)
def cd133 : List AE := [
  (0, .sipush 800, 3, 0, 0, 0), (3, .iload_n 1, 1, 0, 0, 0), (4, .imul, 1, 0, 0, 0), (5, .iload_n 2, 1, 0, 0, 0),
  (6, .iadd, 1, 0, 0, 0), (7, .bipush 10, 2, 0, 0, 0), (9, .imul, 1, 0, 0, 0), (10, .iload_n 3, 1, 0, 0, 0),
  (11, .iadd, 1, 0, 0, 0), (12, .istore 5, 2, 0, 0, 0), (14, .aload_n 0, 1, 0, 0, 0), (15, .getfield 45, 3, 6, 14, 684),
  (18, .iload 5, 2, 0, 0, 0), (20, .iaload, 1, 0, 0, 0), (21, .iconst (-1), 1, 0, 0, 0), (22, .if_icmp .eq 21, 3, 43, 0, 0),
  (25, .iload 4, 2, 0, 0, 0), (27, .iconst (-1), 1, 0, 0, 0), (28, .if_icmp .eq 17, 3, 45, 0, 0), (31, .iload 4, 2, 0, 0, 0),
  (33, .aload_n 0, 1, 0, 0, 0), (34, .getfield 48, 3, 6, 15, 685), (37, .iload 5, 2, 0, 0, 0), (39, .iaload, 1, 0, 0, 0),
  (40, .if_icmp .ge 5, 3, 45, 0, 0), (43, .lconst 0, 1, 0, 0, 0), (44, .lreturn, 1, 0, 0, 0), (45, .aload_n 0, 1, 0, 0, 0),
  (46, .iload_n 1, 1, 0, 0, 0), (47, .iconst 1, 1, 0, 0, 0), (48, .iadd, 1, 0, 0, 0), (49, .aload_n 0, 1, 0, 0, 0),
  (50, .getfield 45, 3, 6, 14, 684), (53, .iload 5, 2, 0, 0, 0), (55, .iaload, 1, 0, 0, 0), (56, .iload 4, 2, 0, 0, 0),
  (58, .iconst (-1), 1, 0, 0, 0), (59, .if_icmp .ne 7, 3, 66, 0, 0), (62, .iconst (-1), 1, 0, 0, 0), (63, .goto 13, 3, 76, 0, 0),
  (66, .iload 4, 2, 0, 0, 0), (68, .aload_n 0, 1, 0, 0, 0), (69, .getfield 48, 3, 6, 15, 685), (72, .iload 5, 2, 0, 0, 0),
  (74, .iaload, 1, 0, 0, 0), (75, .isub, 1, 0, 0, 0), (76, .invokevirtual 126, 3, 122, 0, 807), (79, .lreturn, 1, 0, 0, 0)]
def mm133 : MT := (yX6_through, cX6_through, 6, (some .long), 4, 1, 1, 27, 6, cd133)
def cd134 : List AE := [
  (0, .aload_n 0, 1, 0, 0, 0), (1, .invokevirtual 138, 3, 130, 0, 840), (4, .ifCond .ne 7, 3, 11, 0, 0), (7, .ldc2_w 130, 3, 18446744073709551615, 0, 823),
  (10, .lreturn, 1, 0, 0, 0), (11, .iload_n 1, 1, 0, 0, 0), (12, .ifCond .eq 10, 3, 22, 0, 0), (15, .aload_n 0, 1, 0, 0, 0),
  (16, .getfield 132, 3, 6, 18, 688), (19, .goto 4, 3, 23, 0, 0), (22, .iconst (-1), 1, 0, 0, 0), (23, .istore_n 2, 1, 0, 0, 0),
  (24, .aload_n 0, 1, 0, 0, 0), (25, .invokevirtual 123, 3, 120, 0, 758), (28, .lconst 0, 1, 0, 0, 0), (29, .lstore_n 3, 1, 0, 0, 0),
  (30, .iconst 0, 1, 0, 0, 0), (31, .istore 5, 2, 0, 0, 0), (33, .iconst 0, 1, 0, 0, 0), (34, .istore 6, 2, 0, 0, 0),
  (36, .iload 6, 2, 0, 0, 0), (38, .aload_n 0, 1, 0, 0, 0), (39, .invokevirtual 76, 3, 106, 0, 746), (42, .if_icmp .ge 90, 3, 132, 0, 0),
  (45, .iconst 0, 1, 0, 0, 0), (46, .istore 7, 2, 0, 0, 0), (48, .iload 7, 2, 0, 0, 0), (50, .aload_n 0, 1, 0, 0, 0),
  (51, .getfield 20, 3, 6, 4, 674), (54, .iload 6, 2, 0, 0, 0), (56, .iaload, 1, 0, 0, 0), (57, .if_icmp .ge 23, 3, 80, 0, 0),
  (60, .lload_n 3, 1, 0, 0, 0), (61, .aload_n 0, 1, 0, 0, 0), (62, .iload 6, 2, 0, 0, 0), (64, .iload 5, 2, 0, 0, 0),
  (66, .iload 7, 2, 0, 0, 0), (68, .iload_n 2, 1, 0, 0, 0), (69, .invokevirtual 142, 3, 133, 0, 849), (72, .ladd, 1, 0, 0, 0),
  (73, .lstore_n 3, 1, 0, 0, 0), (74, .iinc 7 1, 3, 0, 0, 0), (77, .goto (-29), 3, 48, 0, 0), (80, .sipush 800, 3, 0, 0, 0),
  (83, .iload 6, 2, 0, 0, 0), (85, .imul, 1, 0, 0, 0), (86, .iload 5, 2, 0, 0, 0), (88, .iadd, 1, 0, 0, 0),
  (89, .bipush 10, 2, 0, 0, 0), (91, .imul, 1, 0, 0, 0), (92, .aload_n 0, 1, 0, 0, 0), (93, .getfield 20, 3, 6, 4, 674),
  (96, .iload 6, 2, 0, 0, 0), (98, .iaload, 1, 0, 0, 0), (99, .iadd, 1, 0, 0, 0), (100, .istore 7, 2, 0, 0, 0),
  (102, .iload_n 2, 1, 0, 0, 0), (103, .iconst (-1), 1, 0, 0, 0), (104, .if_icmp .eq 13, 3, 117, 0, 0), (107, .iload_n 2, 1, 0, 0, 0),
  (108, .aload_n 0, 1, 0, 0, 0), (109, .getfield 48, 3, 6, 15, 685), (112, .iload 7, 2, 0, 0, 0), (114, .iaload, 1, 0, 0, 0),
  (115, .isub, 1, 0, 0, 0), (116, .istore_n 2, 1, 0, 0, 0), (117, .aload_n 0, 1, 0, 0, 0), (118, .getfield 45, 3, 6, 14, 684),
  (121, .iload 7, 2, 0, 0, 0), (123, .iaload, 1, 0, 0, 0), (124, .istore 5, 2, 0, 0, 0), (126, .iinc 6 1, 3, 0, 0, 0),
  (129, .goto (-93), 3, 36, 0, 0), (132, .lload_n 3, 1, 0, 0, 0), (133, .lreturn, 1, 0, 0, 0)]
def mm134 : MT := (yX6_rank, cX6_rank, 8, (some .long), 1, 1, 5, 123, 6, cd134)
def cd135 : List AE := [
  (0, .aload_n 0, 1, 0, 0, 0), (1, .getfield 20, 3, 6, 4, 674), (4, .iload_n 1, 1, 0, 0, 0), (5, .iaload, 1, 0, 0, 0),
  (6, .istore_n 3, 1, 0, 0, 0), (7, .iconst 0, 1, 0, 0, 0), (8, .istore 4, 2, 0, 0, 0), (10, .iload 4, 2, 0, 0, 0),
  (12, .aload_n 0, 1, 0, 0, 0), (13, .getfield 23, 3, 6, 6, 676), (16, .iload_n 3, 1, 0, 0, 0), (17, .iaload, 1, 0, 0, 0),
  (18, .if_icmp .ge 46, 3, 64, 0, 0), (21, .aload_n 0, 1, 0, 0, 0), (22, .getfield 26, 3, 6, 7, 677), (25, .iconst 2, 1, 0, 0, 0),
  (26, .iload_n 3, 1, 0, 0, 0), (27, .imul, 1, 0, 0, 0), (28, .iload 4, 2, 0, 0, 0), (30, .iadd, 1, 0, 0, 0),
  (31, .iaload, 1, 0, 0, 0), (32, .iload_n 2, 1, 0, 0, 0), (33, .if_icmp .eq 18, 3, 51, 0, 0), (36, .aload_n 0, 1, 0, 0, 0),
  (37, .getfield 29, 3, 6, 8, 678), (40, .iconst 2, 1, 0, 0, 0), (41, .iload_n 3, 1, 0, 0, 0), (42, .imul, 1, 0, 0, 0),
  (43, .iload 4, 2, 0, 0, 0), (45, .iadd, 1, 0, 0, 0), (46, .iaload, 1, 0, 0, 0), (47, .iload_n 2, 1, 0, 0, 0),
  (48, .if_icmp .ne 10, 3, 58, 0, 0), (51, .iconst 2, 1, 0, 0, 0), (52, .iload_n 1, 1, 0, 0, 0), (53, .imul, 1, 0, 0, 0),
  (54, .iload 4, 2, 0, 0, 0), (56, .iadd, 1, 0, 0, 0), (57, .ireturn, 1, 0, 0, 0), (58, .iinc 4 1, 3, 0, 0, 0),
  (61, .goto (-51), 3, 10, 0, 0), (64, .iconst (-1), 1, 0, 0, 0), (65, .ireturn, 1, 0, 0, 0)]
def mm135 : MT := (yX6_pieceAt, cX6_pieceAt, 5, (some .int), 2, 1, 0, 0, 6, cd135)
def cd136 : List AE := [
  (0, .iload_n 1, 1, 0, 0, 0), (1, .iconst (-1), 1, 0, 0, 0), (2, .if_icmp .eq 8, 3, 10, 0, 0), (5, .iload_n 2, 1, 0, 0, 0),
  (6, .iconst (-1), 1, 0, 0, 0), (7, .if_icmp .ne 4, 3, 11, 0, 0), (10, .return_, 1, 0, 0, 0), (11, .aload_n 0, 1, 0, 0, 0),
  (12, .getfield 62, 3, 6, 20, 690), (15, .iload_n 1, 1, 0, 0, 0), (16, .iaload, 1, 0, 0, 0), (17, .istore_n 3, 1, 0, 0, 0),
  (18, .aload_n 0, 1, 0, 0, 0), (19, .getfield 62, 3, 6, 20, 690), (22, .iload_n 2, 1, 0, 0, 0), (23, .iaload, 1, 0, 0, 0),
  (24, .istore 4, 2, 0, 0, 0), (26, .iconst 0, 1, 0, 0, 0), (27, .istore 5, 2, 0, 0, 0), (29, .iload 5, 2, 0, 0, 0),
  (31, .bipush 40, 2, 0, 0, 0), (33, .if_icmp .ge 29, 3, 62, 0, 0), (36, .aload_n 0, 1, 0, 0, 0), (37, .getfield 62, 3, 6, 20, 690),
  (40, .iload 5, 2, 0, 0, 0), (42, .iaload, 1, 0, 0, 0), (43, .iload_n 3, 1, 0, 0, 0), (44, .if_icmp .ne 12, 3, 56, 0, 0),
  (47, .aload_n 0, 1, 0, 0, 0), (48, .getfield 62, 3, 6, 20, 690), (51, .iload 5, 2, 0, 0, 0), (53, .iload 4, 2, 0, 0, 0),
  (55, .iastore, 1, 0, 0, 0), (56, .iinc 5 1, 3, 0, 0, 0), (59, .goto (-30), 3, 29, 0, 0), (62, .return_, 1, 0, 0, 0)]
def mm136 : MT := (yX6_hangs, cX6_hangs, 6, none, 2, 1, 0, 0, 6, cd136)
def cd137 : List AE := [
  (0, .iconst 0, 1, 0, 0, 0), (1, .istore_n 1, 1, 0, 0, 0), (2, .iload_n 1, 1, 0, 0, 0), (3, .bipush 40, 2, 0, 0, 0),
  (5, .if_icmp .ge 16, 3, 21, 0, 0), (8, .aload_n 0, 1, 0, 0, 0), (9, .getfield 62, 3, 6, 20, 690), (12, .iload_n 1, 1, 0, 0, 0),
  (13, .iload_n 1, 1, 0, 0, 0), (14, .iastore, 1, 0, 0, 0), (15, .iinc 1 1, 3, 0, 0, 0), (18, .goto (-16), 3, 2, 0, 0),
  (21, .iconst 0, 1, 0, 0, 0), (22, .istore_n 1, 1, 0, 0, 0), (23, .iload_n 1, 1, 0, 0, 0), (24, .aload_n 0, 1, 0, 0, 0),
  (25, .invokevirtual 76, 3, 106, 0, 746), (28, .if_icmp .ge 222, 3, 250, 0, 0), (31, .iload_n 1, 1, 0, 0, 0), (32, .aload_n 0, 1, 0, 0, 0),
  (33, .getfield 7, 3, 6, 0, 670), (36, .irem, 1, 0, 0, 0), (37, .istore_n 2, 1, 0, 0, 0), (38, .iload_n 1, 1, 0, 0, 0),
  (39, .aload_n 0, 1, 0, 0, 0), (40, .getfield 7, 3, 6, 0, 670), (43, .idiv, 1, 0, 0, 0), (44, .istore_n 3, 1, 0, 0, 0),
  (45, .iload_n 2, 1, 0, 0, 0), (46, .iconst 1, 1, 0, 0, 0), (47, .iadd, 1, 0, 0, 0), (48, .aload_n 0, 1, 0, 0, 0),
  (49, .getfield 7, 3, 6, 0, 670), (52, .if_icmp .ge 21, 3, 73, 0, 0), (55, .aload_n 0, 1, 0, 0, 0), (56, .aload_n 0, 1, 0, 0, 0),
  (57, .iload_n 1, 1, 0, 0, 0), (58, .iconst 1, 1, 0, 0, 0), (59, .invokevirtual 146, 3, 135, 0, 869), (62, .aload_n 0, 1, 0, 0, 0),
  (63, .iload_n 1, 1, 0, 0, 0), (64, .iconst 1, 1, 0, 0, 0), (65, .iadd, 1, 0, 0, 0), (66, .iconst 3, 1, 0, 0, 0),
  (67, .invokevirtual 146, 3, 135, 0, 869), (70, .invokevirtual 149, 3, 136, 0, 873), (73, .iload_n 3, 1, 0, 0, 0), (74, .iconst 1, 1, 0, 0, 0),
  (75, .iadd, 1, 0, 0, 0), (76, .aload_n 0, 1, 0, 0, 0), (77, .getfield 13, 3, 6, 1, 671), (80, .if_icmp .ge 24, 3, 104, 0, 0),
  (83, .aload_n 0, 1, 0, 0, 0), (84, .aload_n 0, 1, 0, 0, 0), (85, .iload_n 1, 1, 0, 0, 0), (86, .iconst 2, 1, 0, 0, 0),
  (87, .invokevirtual 146, 3, 135, 0, 869), (90, .aload_n 0, 1, 0, 0, 0), (91, .iload_n 1, 1, 0, 0, 0), (92, .aload_n 0, 1, 0, 0, 0),
  (93, .getfield 7, 3, 6, 0, 670), (96, .iadd, 1, 0, 0, 0), (97, .iconst 0, 1, 0, 0, 0), (98, .invokevirtual 146, 3, 135, 0, 869),
  (101, .invokevirtual 149, 3, 136, 0, 873), (104, .aload_n 0, 1, 0, 0, 0), (105, .getfield 65, 3, 6, 2, 672), (108, .ifCond .ne 6, 3, 114, 0, 0),
  (111, .goto 133, 3, 244, 0, 0), (114, .iload_n 3, 1, 0, 0, 0), (115, .ifCond .ne 27, 3, 142, 0, 0), (118, .iload_n 2, 1, 0, 0, 0),
  (119, .iconst 2, 1, 0, 0, 0), (120, .irem, 1, 0, 0, 0), (121, .ifCond .ne 21, 3, 142, 0, 0), (124, .aload_n 0, 1, 0, 0, 0),
  (125, .aload_n 0, 1, 0, 0, 0), (126, .iload_n 1, 1, 0, 0, 0), (127, .iconst 0, 1, 0, 0, 0), (128, .invokevirtual 146, 3, 135, 0, 869),
  (131, .aload_n 0, 1, 0, 0, 0), (132, .iload_n 1, 1, 0, 0, 0), (133, .iconst 1, 1, 0, 0, 0), (134, .iadd, 1, 0, 0, 0),
  (135, .iconst 0, 1, 0, 0, 0), (136, .invokevirtual 146, 3, 135, 0, 869), (139, .invokevirtual 149, 3, 136, 0, 873), (142, .iload_n 3, 1, 0, 0, 0),
  (143, .aload_n 0, 1, 0, 0, 0), (144, .getfield 13, 3, 6, 1, 671), (147, .iconst 1, 1, 0, 0, 0), (148, .isub, 1, 0, 0, 0),
  (149, .if_icmp .ne 27, 3, 176, 0, 0), (152, .iload_n 2, 1, 0, 0, 0), (153, .iconst 2, 1, 0, 0, 0), (154, .irem, 1, 0, 0, 0),
  (155, .ifCond .ne 21, 3, 176, 0, 0), (158, .aload_n 0, 1, 0, 0, 0), (159, .aload_n 0, 1, 0, 0, 0), (160, .iload_n 1, 1, 0, 0, 0),
  (161, .iconst 2, 1, 0, 0, 0), (162, .invokevirtual 146, 3, 135, 0, 869), (165, .aload_n 0, 1, 0, 0, 0), (166, .iload_n 1, 1, 0, 0, 0),
  (167, .iconst 1, 1, 0, 0, 0), (168, .iadd, 1, 0, 0, 0), (169, .iconst 2, 1, 0, 0, 0), (170, .invokevirtual 146, 3, 135, 0, 869),
  (173, .invokevirtual 149, 3, 136, 0, 873), (176, .iload_n 2, 1, 0, 0, 0), (177, .ifCond .ne 30, 3, 207, 0, 0), (180, .iload_n 3, 1, 0, 0, 0),
  (181, .iconst 2, 1, 0, 0, 0), (182, .irem, 1, 0, 0, 0), (183, .ifCond .ne 24, 3, 207, 0, 0), (186, .aload_n 0, 1, 0, 0, 0),
  (187, .aload_n 0, 1, 0, 0, 0), (188, .iload_n 1, 1, 0, 0, 0), (189, .iconst 3, 1, 0, 0, 0), (190, .invokevirtual 146, 3, 135, 0, 869),
  (193, .aload_n 0, 1, 0, 0, 0), (194, .iload_n 1, 1, 0, 0, 0), (195, .aload_n 0, 1, 0, 0, 0), (196, .getfield 7, 3, 6, 0, 670),
  (199, .iadd, 1, 0, 0, 0), (200, .iconst 3, 1, 0, 0, 0), (201, .invokevirtual 146, 3, 135, 0, 869), (204, .invokevirtual 149, 3, 136, 0, 873),
  (207, .iload_n 2, 1, 0, 0, 0), (208, .aload_n 0, 1, 0, 0, 0), (209, .getfield 7, 3, 6, 0, 670), (212, .iconst 1, 1, 0, 0, 0),
  (213, .isub, 1, 0, 0, 0), (214, .if_icmp .ne 30, 3, 244, 0, 0), (217, .iload_n 3, 1, 0, 0, 0), (218, .iconst 2, 1, 0, 0, 0),
  (219, .irem, 1, 0, 0, 0), (220, .ifCond .ne 24, 3, 244, 0, 0), (223, .aload_n 0, 1, 0, 0, 0), (224, .aload_n 0, 1, 0, 0, 0),
  (225, .iload_n 1, 1, 0, 0, 0), (226, .iconst 1, 1, 0, 0, 0), (227, .invokevirtual 146, 3, 135, 0, 869), (230, .aload_n 0, 1, 0, 0, 0),
  (231, .iload_n 1, 1, 0, 0, 0), (232, .aload_n 0, 1, 0, 0, 0), (233, .getfield 7, 3, 6, 0, 670), (236, .iadd, 1, 0, 0, 0),
  (237, .iconst 1, 1, 0, 0, 0), (238, .invokevirtual 146, 3, 135, 0, 869), (241, .invokevirtual 149, 3, 136, 0, 873), (244, .iinc 1 1, 3, 0, 0, 0),
  (247, .goto (-224), 3, 23, 0, 0), (250, .return_, 1, 0, 0, 0)]
def mm137 : MT := (yX6_heaps, cX6_heaps, 4, none, 0, 1, 1, 25, 6, cd137)
def cd138 : List AE := [
  (0, .iload_n 2, 1, 0, 0, 0), (1, .ifCond .lt 22, 3, 23, 0, 0), (4, .iload_n 2, 1, 0, 0, 0), (5, .aload_n 0, 1, 0, 0, 0),
  (6, .getfield 23, 3, 6, 6, 676), (9, .aload_n 0, 1, 0, 0, 0), (10, .getfield 20, 3, 6, 4, 674), (13, .iload_n 1, 1, 0, 0, 0),
  (14, .iaload, 1, 0, 0, 0), (15, .iaload, 1, 0, 0, 0), (16, .if_icmp .ge 7, 3, 23, 0, 0), (19, .iconst 1, 1, 0, 0, 0),
  (20, .goto 4, 3, 24, 0, 0), (23, .iconst 0, 1, 0, 0, 0), (24, .ireturn, 1, 0, 0, 0)]
def mm138 : MT := (yX6_isPiece, cX6_isPiece, 3, (some .boolean), 2, 1, 0, 0, 6, cd138)
def cd139 : List AE := [
  (0, .iconst 0, 1, 0, 0, 0), (1, .istore_n 2, 1, 0, 0, 0), (2, .iconst 0, 1, 0, 0, 0), (3, .istore_n 3, 1, 0, 0, 0),
  (4, .iload_n 3, 1, 0, 0, 0), (5, .aload_n 0, 1, 0, 0, 0), (6, .invokevirtual 76, 3, 106, 0, 746), (9, .if_icmp .ge 52, 3, 61, 0, 0),
  (12, .iconst 0, 1, 0, 0, 0), (13, .istore 4, 2, 0, 0, 0), (15, .iload 4, 2, 0, 0, 0), (17, .aload_n 0, 1, 0, 0, 0),
  (18, .getfield 23, 3, 6, 6, 676), (21, .aload_n 0, 1, 0, 0, 0), (22, .getfield 20, 3, 6, 4, 674), (25, .iload_n 3, 1, 0, 0, 0),
  (26, .iaload, 1, 0, 0, 0), (27, .iaload, 1, 0, 0, 0), (28, .if_icmp .ge 27, 3, 55, 0, 0), (31, .aload_n 0, 1, 0, 0, 0),
  (32, .getfield 62, 3, 6, 20, 690), (35, .iconst 2, 1, 0, 0, 0), (36, .iload_n 3, 1, 0, 0, 0), (37, .imul, 1, 0, 0, 0),
  (38, .iload 4, 2, 0, 0, 0), (40, .iadd, 1, 0, 0, 0), (41, .iaload, 1, 0, 0, 0), (42, .iload_n 1, 1, 0, 0, 0),
  (43, .if_icmp .ne 6, 3, 49, 0, 0), (46, .iinc 2 1, 3, 0, 0, 0), (49, .iinc 4 1, 3, 0, 0, 0), (52, .goto (-37), 3, 15, 0, 0),
  (55, .iinc 3 1, 3, 0, 0, 0), (58, .goto (-54), 3, 4, 0, 0), (61, .iload_n 2, 1, 0, 0, 0), (62, .ireturn, 1, 0, 0, 0)]
def mm139 : MT := (yX6_sizeOf, cX6_sizeOf, 5, (some .int), 1, 1, 1, 20, 6, cd139)
def cd140 : List AE := [
  (0, .aload_n 0, 1, 0, 0, 0), (1, .iload_n 1, 1, 0, 0, 0), (2, .iload_n 2, 1, 0, 0, 0), (3, .invokevirtual 72, 3, 107, 0, 742),
  (6, .ifCond .eq 19, 3, 25, 0, 0), (9, .iload_n 3, 1, 0, 0, 0), (10, .ifCond .eq 8, 3, 18, 0, 0), (13, .iload_n 3, 1, 0, 0, 0),
  (14, .iconst 1, 1, 0, 0, 0), (15, .if_icmp .ne 10, 3, 25, 0, 0), (18, .aload_n 0, 1, 0, 0, 0), (19, .invokevirtual 138, 3, 130, 0, 840),
  (22, .ifCond .ne 5, 3, 27, 0, 0), (25, .iconst (-1), 1, 0, 0, 0), (26, .ireturn, 1, 0, 0, 0), (27, .iload_n 2, 1, 0, 0, 0),
  (28, .aload_n 0, 1, 0, 0, 0), (29, .getfield 7, 3, 6, 0, 670), (32, .imul, 1, 0, 0, 0), (33, .iload_n 1, 1, 0, 0, 0),
  (34, .iadd, 1, 0, 0, 0), (35, .istore 4, 2, 0, 0, 0), (37, .aload_n 0, 1, 0, 0, 0), (38, .iload 4, 2, 0, 0, 0),
  (40, .iload_n 3, 1, 0, 0, 0), (41, .invokevirtual 152, 3, 138, 0, 861), (44, .ifCond .ne 5, 3, 49, 0, 0), (47, .iconst 0, 1, 0, 0, 0),
  (48, .ireturn, 1, 0, 0, 0), (49, .aload_n 0, 1, 0, 0, 0), (50, .invokevirtual 155, 3, 137, 0, 865), (53, .aload_n 0, 1, 0, 0, 0),
  (54, .aload_n 0, 1, 0, 0, 0), (55, .getfield 62, 3, 6, 20, 690), (58, .iconst 2, 1, 0, 0, 0), (59, .iload 4, 2, 0, 0, 0),
  (61, .imul, 1, 0, 0, 0), (62, .iload_n 3, 1, 0, 0, 0), (63, .iadd, 1, 0, 0, 0), (64, .iaload, 1, 0, 0, 0),
  (65, .invokevirtual 158, 3, 139, 0, 877), (68, .ireturn, 1, 0, 0, 0)]
def mm140 : MT := (yX6_length, cX6_length, 5, (some .int), 3, 1, 5, 123, 6, cd140)
def cd141 : List AE := [
  (0, .aload_n 0, 1, 0, 0, 0), (1, .invokevirtual 138, 3, 130, 0, 840), (4, .ifCond .ne 5, 3, 9, 0, 0), (7, .iconst (-1), 1, 0, 0, 0),
  (8, .ireturn, 1, 0, 0, 0), (9, .aload_n 0, 1, 0, 0, 0), (10, .invokevirtual 155, 3, 137, 0, 865), (13, .iconst 0, 1, 0, 0, 0),
  (14, .istore_n 1, 1, 0, 0, 0), (15, .iconst 0, 1, 0, 0, 0), (16, .istore_n 2, 1, 0, 0, 0), (17, .iload_n 2, 1, 0, 0, 0),
  (18, .bipush 40, 2, 0, 0, 0), (20, .if_icmp .ge 24, 3, 44, 0, 0), (23, .aload_n 0, 1, 0, 0, 0), (24, .iload_n 2, 1, 0, 0, 0),
  (25, .invokevirtual 158, 3, 139, 0, 877), (28, .iload_n 1, 1, 0, 0, 0), (29, .if_icmp .le 9, 3, 38, 0, 0), (32, .aload_n 0, 1, 0, 0, 0),
  (33, .iload_n 2, 1, 0, 0, 0), (34, .invokevirtual 158, 3, 139, 0, 877), (37, .istore_n 1, 1, 0, 0, 0), (38, .iinc 2 1, 3, 0, 0, 0),
  (41, .goto (-24), 3, 17, 0, 0), (44, .iload_n 1, 1, 0, 0, 0), (45, .ireturn, 1, 0, 0, 0)]
def mm141 : MT := (yX6_longest, cX6_longest, 3, (some .int), 0, 1, 5, 123, 6, cd141)
def cd142 : List AE := [
  (0, .aload_n 0, 1, 0, 0, 0), (1, .iload_n 1, 1, 0, 0, 0), (2, .iload_n 2, 1, 0, 0, 0), (3, .invokevirtual 72, 3, 107, 0, 742),
  (6, .ifCond .eq 21, 3, 27, 0, 0), (9, .aload_n 0, 1, 0, 0, 0), (10, .iload 4, 2, 0, 0, 0), (12, .iload 5, 2, 0, 0, 0),
  (14, .invokevirtual 72, 3, 107, 0, 742), (17, .ifCond .eq 10, 3, 27, 0, 0), (20, .aload_n 0, 1, 0, 0, 0), (21, .invokevirtual 138, 3, 130, 0, 840),
  (24, .ifCond .ne 5, 3, 29, 0, 0), (27, .iconst (-1), 1, 0, 0, 0), (28, .ireturn, 1, 0, 0, 0), (29, .iload_n 2, 1, 0, 0, 0),
  (30, .aload_n 0, 1, 0, 0, 0), (31, .getfield 7, 3, 6, 0, 670), (34, .imul, 1, 0, 0, 0), (35, .iload_n 1, 1, 0, 0, 0),
  (36, .iadd, 1, 0, 0, 0), (37, .istore 7, 2, 0, 0, 0), (39, .iload 5, 2, 0, 0, 0), (41, .aload_n 0, 1, 0, 0, 0),
  (42, .getfield 7, 3, 6, 0, 670), (45, .imul, 1, 0, 0, 0), (46, .iload 4, 2, 0, 0, 0), (48, .iadd, 1, 0, 0, 0),
  (49, .istore 8, 2, 0, 0, 0), (51, .aload_n 0, 1, 0, 0, 0), (52, .iload 7, 2, 0, 0, 0), (54, .iload_n 3, 1, 0, 0, 0),
  (55, .invokevirtual 152, 3, 138, 0, 861), (58, .ifCond .eq 14, 3, 72, 0, 0), (61, .aload_n 0, 1, 0, 0, 0), (62, .iload 8, 2, 0, 0, 0),
  (64, .iload 6, 2, 0, 0, 0), (66, .invokevirtual 152, 3, 138, 0, 861), (69, .ifCond .ne 5, 3, 74, 0, 0), (72, .iconst (-1), 1, 0, 0, 0),
  (73, .ireturn, 1, 0, 0, 0), (74, .aload_n 0, 1, 0, 0, 0), (75, .invokevirtual 155, 3, 137, 0, 865), (78, .aload_n 0, 1, 0, 0, 0),
  (79, .getfield 62, 3, 6, 20, 690), (82, .iconst 2, 1, 0, 0, 0), (83, .iload 7, 2, 0, 0, 0), (85, .imul, 1, 0, 0, 0),
  (86, .iload_n 3, 1, 0, 0, 0), (87, .iadd, 1, 0, 0, 0), (88, .iaload, 1, 0, 0, 0), (89, .aload_n 0, 1, 0, 0, 0),
  (90, .getfield 62, 3, 6, 20, 690), (93, .iconst 2, 1, 0, 0, 0), (94, .iload 8, 2, 0, 0, 0), (96, .imul, 1, 0, 0, 0),
  (97, .iload 6, 2, 0, 0, 0), (99, .iadd, 1, 0, 0, 0), (100, .iaload, 1, 0, 0, 0), (101, .if_icmp .ne 7, 3, 108, 0, 0),
  (104, .iconst 1, 1, 0, 0, 0), (105, .goto 4, 3, 109, 0, 0), (108, .iconst 0, 1, 0, 0, 0), (109, .ireturn, 1, 0, 0, 0)]
def mm142 : MT := (yX6_same, cX6_same, 9, (some .int), 6, 1, 5, 123, 6, cd142)
def cd143 : List AE := [
  (0, .iload_n 0, 1, 0, 0, 0), (1, .iload_n 0, 1, 0, 0, 0), (2, .iconst 1, 1, 0, 0, 0), (3, .iushr, 1, 0, 0, 0),
  (4, .ldc_w 265, 3, 1431655765, 0, 411), (7, .iand, 1, 0, 0, 0), (8, .isub, 1, 0, 0, 0), (9, .istore_n 0, 1, 0, 0, 0),
  (10, .iload_n 0, 1, 0, 0, 0), (11, .ldc_w 266, 3, 858993459, 0, 412), (14, .iand, 1, 0, 0, 0), (15, .iload_n 0, 1, 0, 0, 0),
  (16, .iconst 2, 1, 0, 0, 0), (17, .iushr, 1, 0, 0, 0), (18, .ldc_w 266, 3, 858993459, 0, 412), (21, .iand, 1, 0, 0, 0),
  (22, .iadd, 1, 0, 0, 0), (23, .istore_n 0, 1, 0, 0, 0), (24, .iload_n 0, 1, 0, 0, 0), (25, .iload_n 0, 1, 0, 0, 0),
  (26, .iconst 4, 1, 0, 0, 0), (27, .iushr, 1, 0, 0, 0), (28, .iadd, 1, 0, 0, 0), (29, .ldc_w 267, 3, 252645135, 0, 413),
  (32, .iand, 1, 0, 0, 0), (33, .istore_n 0, 1, 0, 0, 0), (34, .iload_n 0, 1, 0, 0, 0), (35, .iload_n 0, 1, 0, 0, 0),
  (36, .bipush 8, 2, 0, 0, 0), (38, .iushr, 1, 0, 0, 0), (39, .iadd, 1, 0, 0, 0), (40, .istore_n 0, 1, 0, 0, 0),
  (41, .iload_n 0, 1, 0, 0, 0), (42, .iload_n 0, 1, 0, 0, 0), (43, .bipush 16, 2, 0, 0, 0), (45, .iushr, 1, 0, 0, 0),
  (46, .iadd, 1, 0, 0, 0), (47, .istore_n 0, 1, 0, 0, 0), (48, .iload_n 0, 1, 0, 0, 0), (49, .bipush 63, 2, 0, 0, 0),
  (51, .iand, 1, 0, 0, 0), (52, .ireturn, 1, 0, 0, 0)]
def mm143 : MT := (yJ6_bitCount_0f7a4, cJ6_bitCount_0f7a4, 1, (some .int), 1, 0, 0, 0, 99, cd143)
def cd144 : List AE := [
  (0, .new 7, 3, 5, 0, 61), (3, .dup, 1, 0, 0, 0), (4, .invokespecial 9, 3, 85, 0, 63), (7, .astore_n 1, 1, 0, 0, 0),
  (8, .new 10, 3, 6, 0, 662), (11, .dup, 1, 0, 0, 0), (12, .invokespecial 12, 3, 104, 0, 664), (15, .astore_n 2, 1, 0, 0, 0),
  (16, .iconst 0, 1, 0, 0, 0), (17, .istore_n 3, 1, 0, 0, 0), (18, .iload_n 3, 1, 0, 0, 0), (19, .aload_n 0, 1, 0, 0, 0),
  (20, .arraylength, 1, 0, 0, 0), (21, .bipush 7, 2, 0, 0, 0), (23, .isub, 1, 0, 0, 0), (24, .if_icmp .gt 680, 3, 704, 0, 0),
  (27, .aload_n 0, 1, 0, 0, 0), (28, .iload_n 3, 1, 0, 0, 0), (29, .iaload, 1, 0, 0, 0), (30, .bipush 15, 2, 0, 0, 0),
  (32, .iand, 1, 0, 0, 0), (33, .tableswitch 665 0 15 #[79, 138, 181, 214, 238, 262, 285, 329, 372, 405, 418, 431, 494, 534, 577, 590], 79, 0, 0, 0), (112, .aload_n 1, 1, 0, 0, 0), (113, .aload_n 0, 1, 0, 0, 0),
  (114, .iload_n 3, 1, 0, 0, 0), (115, .iconst 1, 1, 0, 0, 0), (116, .iadd, 1, 0, 0, 0), (117, .iaload, 1, 0, 0, 0),
  (118, .aload_n 0, 1, 0, 0, 0), (119, .iload_n 3, 1, 0, 0, 0), (120, .iconst 2, 1, 0, 0, 0), (121, .iadd, 1, 0, 0, 0),
  (122, .iaload, 1, 0, 0, 0), (123, .aload_n 0, 1, 0, 0, 0), (124, .iload_n 3, 1, 0, 0, 0), (125, .iconst 3, 1, 0, 0, 0),
  (126, .iadd, 1, 0, 0, 0), (127, .iaload, 1, 0, 0, 0), (128, .ifCond .eq 7, 3, 135, 0, 0), (131, .iconst 1, 1, 0, 0, 0),
  (132, .goto 4, 3, 136, 0, 0), (135, .iconst 0, 1, 0, 0, 0), (136, .invokevirtual 13, 3, 86, 0, 254), (139, .aload_n 2, 1, 0, 0, 0),
  (140, .aload_n 0, 1, 0, 0, 0), (141, .iload_n 3, 1, 0, 0, 0), (142, .iconst 1, 1, 0, 0, 0), (143, .iadd, 1, 0, 0, 0),
  (144, .iaload, 1, 0, 0, 0), (145, .aload_n 0, 1, 0, 0, 0), (146, .iload_n 3, 1, 0, 0, 0), (147, .iconst 2, 1, 0, 0, 0),
  (148, .iadd, 1, 0, 0, 0), (149, .iaload, 1, 0, 0, 0), (150, .aload_n 0, 1, 0, 0, 0), (151, .iload_n 3, 1, 0, 0, 0),
  (152, .iconst 3, 1, 0, 0, 0), (153, .iadd, 1, 0, 0, 0), (154, .iaload, 1, 0, 0, 0), (155, .ifCond .eq 7, 3, 162, 0, 0),
  (158, .iconst 1, 1, 0, 0, 0), (159, .goto 4, 3, 163, 0, 0), (162, .iconst 0, 1, 0, 0, 0), (163, .invokevirtual 17, 3, 105, 0, 734),
  (166, .if_icmp .eq 532, 3, 698, 0, 0), (169, .iconst 0, 1, 0, 0, 0), (170, .ireturn, 1, 0, 0, 0), (171, .aload_n 1, 1, 0, 0, 0),
  (172, .aload_n 0, 1, 0, 0, 0), (173, .iload_n 3, 1, 0, 0, 0), (174, .iconst 1, 1, 0, 0, 0), (175, .iadd, 1, 0, 0, 0),
  (176, .iaload, 1, 0, 0, 0), (177, .aload_n 0, 1, 0, 0, 0), (178, .iload_n 3, 1, 0, 0, 0), (179, .iconst 2, 1, 0, 0, 0),
  (180, .iadd, 1, 0, 0, 0), (181, .iaload, 1, 0, 0, 0), (182, .aload_n 0, 1, 0, 0, 0), (183, .iload_n 3, 1, 0, 0, 0),
  (184, .iconst 3, 1, 0, 0, 0), (185, .iadd, 1, 0, 0, 0), (186, .iaload, 1, 0, 0, 0), (187, .invokevirtual 18, 3, 87, 0, 267),
  (190, .aload_n 2, 1, 0, 0, 0), (191, .aload_n 0, 1, 0, 0, 0), (192, .iload_n 3, 1, 0, 0, 0), (193, .iconst 1, 1, 0, 0, 0),
  (194, .iadd, 1, 0, 0, 0), (195, .iaload, 1, 0, 0, 0), (196, .aload_n 0, 1, 0, 0, 0), (197, .iload_n 3, 1, 0, 0, 0),
  (198, .iconst 2, 1, 0, 0, 0), (199, .iadd, 1, 0, 0, 0), (200, .iaload, 1, 0, 0, 0), (201, .aload_n 0, 1, 0, 0, 0),
  (202, .iload_n 3, 1, 0, 0, 0), (203, .iconst 3, 1, 0, 0, 0), (204, .iadd, 1, 0, 0, 0), (205, .iaload, 1, 0, 0, 0),
  (206, .invokevirtual 22, 3, 108, 0, 738), (209, .if_icmp .eq 489, 3, 698, 0, 0), (212, .iconst 0, 1, 0, 0, 0), (213, .ireturn, 1, 0, 0, 0),
  (214, .aload_n 1, 1, 0, 0, 0), (215, .aload_n 0, 1, 0, 0, 0), (216, .iload_n 3, 1, 0, 0, 0), (217, .iconst 1, 1, 0, 0, 0),
  (218, .iadd, 1, 0, 0, 0), (219, .iaload, 1, 0, 0, 0), (220, .aload_n 0, 1, 0, 0, 0), (221, .iload_n 3, 1, 0, 0, 0),
  (222, .iconst 2, 1, 0, 0, 0), (223, .iadd, 1, 0, 0, 0), (224, .iaload, 1, 0, 0, 0), (225, .invokevirtual 23, 3, 89, 0, 298),
  (228, .aload_n 2, 1, 0, 0, 0), (229, .aload_n 0, 1, 0, 0, 0), (230, .iload_n 3, 1, 0, 0, 0), (231, .iconst 1, 1, 0, 0, 0),
  (232, .iadd, 1, 0, 0, 0), (233, .iaload, 1, 0, 0, 0), (234, .aload_n 0, 1, 0, 0, 0), (235, .iload_n 3, 1, 0, 0, 0),
  (236, .iconst 2, 1, 0, 0, 0), (237, .iadd, 1, 0, 0, 0), (238, .iaload, 1, 0, 0, 0), (239, .invokevirtual 27, 3, 109, 0, 750),
  (242, .if_icmp .eq 456, 3, 698, 0, 0), (245, .iconst 0, 1, 0, 0, 0), (246, .ireturn, 1, 0, 0, 0), (247, .aload_n 1, 1, 0, 0, 0),
  (248, .aload_n 0, 1, 0, 0, 0), (249, .iload_n 3, 1, 0, 0, 0), (250, .iconst 1, 1, 0, 0, 0), (251, .iadd, 1, 0, 0, 0),
  (252, .iaload, 1, 0, 0, 0), (253, .invokevirtual 28, 3, 90, 0, 306), (256, .aload_n 2, 1, 0, 0, 0), (257, .aload_n 0, 1, 0, 0, 0),
  (258, .iload_n 3, 1, 0, 0, 0), (259, .iconst 1, 1, 0, 0, 0), (260, .iadd, 1, 0, 0, 0), (261, .iaload, 1, 0, 0, 0),
  (262, .invokevirtual 32, 3, 123, 0, 754), (265, .lcmp, 1, 0, 0, 0), (266, .ifCond .eq 432, 3, 698, 0, 0), (269, .iconst 0, 1, 0, 0, 0),
  (270, .ireturn, 1, 0, 0, 0), (271, .aload_n 1, 1, 0, 0, 0), (272, .aload_n 0, 1, 0, 0, 0), (273, .iload_n 3, 1, 0, 0, 0),
  (274, .iconst 1, 1, 0, 0, 0), (275, .iadd, 1, 0, 0, 0), (276, .iaload, 1, 0, 0, 0), (277, .invokevirtual 33, 3, 91, 0, 502),
  (280, .aload_n 2, 1, 0, 0, 0), (281, .aload_n 0, 1, 0, 0, 0), (282, .iload_n 3, 1, 0, 0, 0), (283, .iconst 1, 1, 0, 0, 0),
  (284, .iadd, 1, 0, 0, 0), (285, .iaload, 1, 0, 0, 0), (286, .invokevirtual 36, 3, 124, 0, 811), (289, .lcmp, 1, 0, 0, 0),
  (290, .ifCond .eq 408, 3, 698, 0, 0), (293, .iconst 0, 1, 0, 0, 0), (294, .ireturn, 1, 0, 0, 0), (295, .aload_n 1, 1, 0, 0, 0),
  (296, .aload_n 0, 1, 0, 0, 0), (297, .iload_n 3, 1, 0, 0, 0), (298, .iconst 1, 1, 0, 0, 0), (299, .iadd, 1, 0, 0, 0),
  (300, .iaload, 1, 0, 0, 0), (301, .invokevirtual 37, 3, 92, 0, 506), (304, .aload_n 2, 1, 0, 0, 0), (305, .aload_n 0, 1, 0, 0, 0),
  (306, .iload_n 3, 1, 0, 0, 0), (307, .iconst 1, 1, 0, 0, 0), (308, .iadd, 1, 0, 0, 0), (309, .iaload, 1, 0, 0, 0),
  (310, .invokevirtual 41, 3, 125, 0, 815), (313, .if_icmp .eq 385, 3, 698, 0, 0), (316, .iconst 0, 1, 0, 0, 0), (317, .ireturn, 1, 0, 0, 0),
  (318, .aload_n 1, 1, 0, 0, 0), (319, .aload_n 0, 1, 0, 0, 0), (320, .iload_n 3, 1, 0, 0, 0), (321, .iconst 1, 1, 0, 0, 0),
  (322, .iadd, 1, 0, 0, 0), (323, .iaload, 1, 0, 0, 0), (324, .aload_n 0, 1, 0, 0, 0), (325, .iload_n 3, 1, 0, 0, 0),
  (326, .iconst 2, 1, 0, 0, 0), (327, .iadd, 1, 0, 0, 0), (328, .iaload, 1, 0, 0, 0), (329, .aload_n 0, 1, 0, 0, 0),
  (330, .iload_n 3, 1, 0, 0, 0), (331, .iconst 3, 1, 0, 0, 0), (332, .iadd, 1, 0, 0, 0), (333, .iaload, 1, 0, 0, 0),
  (334, .invokevirtual 42, 3, 93, 0, 510), (337, .aload_n 2, 1, 0, 0, 0), (338, .aload_n 0, 1, 0, 0, 0), (339, .iload_n 3, 1, 0, 0, 0),
  (340, .iconst 1, 1, 0, 0, 0), (341, .iadd, 1, 0, 0, 0), (342, .iaload, 1, 0, 0, 0), (343, .aload_n 0, 1, 0, 0, 0),
  (344, .iload_n 3, 1, 0, 0, 0), (345, .iconst 2, 1, 0, 0, 0), (346, .iadd, 1, 0, 0, 0), (347, .iaload, 1, 0, 0, 0),
  (348, .aload_n 0, 1, 0, 0, 0), (349, .iload_n 3, 1, 0, 0, 0), (350, .iconst 3, 1, 0, 0, 0), (351, .iadd, 1, 0, 0, 0),
  (352, .iaload, 1, 0, 0, 0), (353, .invokevirtual 46, 3, 126, 0, 819), (356, .lcmp, 1, 0, 0, 0), (357, .ifCond .eq 341, 3, 698, 0, 0),
  (360, .iconst 0, 1, 0, 0, 0), (361, .ireturn, 1, 0, 0, 0), (362, .aload_n 1, 1, 0, 0, 0), (363, .aload_n 0, 1, 0, 0, 0),
  (364, .iload_n 3, 1, 0, 0, 0), (365, .iconst 1, 1, 0, 0, 0), (366, .iadd, 1, 0, 0, 0), (367, .iaload, 1, 0, 0, 0),
  (368, .aload_n 0, 1, 0, 0, 0), (369, .iload_n 3, 1, 0, 0, 0), (370, .iconst 2, 1, 0, 0, 0), (371, .iadd, 1, 0, 0, 0),
  (372, .iaload, 1, 0, 0, 0), (373, .aload_n 0, 1, 0, 0, 0), (374, .iload_n 3, 1, 0, 0, 0), (375, .iconst 3, 1, 0, 0, 0),
  (376, .iadd, 1, 0, 0, 0), (377, .iaload, 1, 0, 0, 0), (378, .invokevirtual 47, 3, 94, 0, 527), (381, .aload_n 2, 1, 0, 0, 0),
  (382, .aload_n 0, 1, 0, 0, 0), (383, .iload_n 3, 1, 0, 0, 0), (384, .iconst 1, 1, 0, 0, 0), (385, .iadd, 1, 0, 0, 0),
  (386, .iaload, 1, 0, 0, 0), (387, .aload_n 0, 1, 0, 0, 0), (388, .iload_n 3, 1, 0, 0, 0), (389, .iconst 2, 1, 0, 0, 0),
  (390, .iadd, 1, 0, 0, 0), (391, .iaload, 1, 0, 0, 0), (392, .aload_n 0, 1, 0, 0, 0), (393, .iload_n 3, 1, 0, 0, 0),
  (394, .iconst 3, 1, 0, 0, 0), (395, .iadd, 1, 0, 0, 0), (396, .iaload, 1, 0, 0, 0), (397, .invokevirtual 51, 3, 127, 0, 824),
  (400, .if_icmp .eq 298, 3, 698, 0, 0), (403, .iconst 0, 1, 0, 0, 0), (404, .ireturn, 1, 0, 0, 0), (405, .aload_n 1, 1, 0, 0, 0),
  (406, .aload_n 0, 1, 0, 0, 0), (407, .iload_n 3, 1, 0, 0, 0), (408, .iconst 1, 1, 0, 0, 0), (409, .iadd, 1, 0, 0, 0),
  (410, .iaload, 1, 0, 0, 0), (411, .aload_n 0, 1, 0, 0, 0), (412, .iload_n 3, 1, 0, 0, 0), (413, .iconst 2, 1, 0, 0, 0),
  (414, .iadd, 1, 0, 0, 0), (415, .iaload, 1, 0, 0, 0), (416, .invokevirtual 52, 3, 95, 0, 541), (419, .aload_n 2, 1, 0, 0, 0),
  (420, .aload_n 0, 1, 0, 0, 0), (421, .iload_n 3, 1, 0, 0, 0), (422, .iconst 1, 1, 0, 0, 0), (423, .iadd, 1, 0, 0, 0),
  (424, .iaload, 1, 0, 0, 0), (425, .aload_n 0, 1, 0, 0, 0), (426, .iload_n 3, 1, 0, 0, 0), (427, .iconst 2, 1, 0, 0, 0),
  (428, .iadd, 1, 0, 0, 0), (429, .iaload, 1, 0, 0, 0), (430, .invokevirtual 55, 3, 128, 0, 828), (433, .if_icmp .eq 265, 3, 698, 0, 0),
  (436, .iconst 0, 1, 0, 0, 0), (437, .ireturn, 1, 0, 0, 0), (438, .aload_n 1, 1, 0, 0, 0), (439, .invokevirtual 56, 3, 96, 0, 545),
  (442, .aload_n 2, 1, 0, 0, 0), (443, .invokevirtual 60, 3, 131, 0, 836), (446, .if_icmp .eq 252, 3, 698, 0, 0), (449, .iconst 0, 1, 0, 0, 0),
  (450, .ireturn, 1, 0, 0, 0), (451, .aload_n 1, 1, 0, 0, 0), (452, .invokevirtual 61, 3, 97, 0, 572), (455, .aload_n 2, 1, 0, 0, 0),
  (456, .invokevirtual 64, 3, 129, 0, 832), (459, .if_icmp .eq 239, 3, 698, 0, 0), (462, .iconst 0, 1, 0, 0, 0), (463, .ireturn, 1, 0, 0, 0),
  (464, .aload_n 1, 1, 0, 0, 0), (465, .aload_n 0, 1, 0, 0, 0), (466, .iload_n 3, 1, 0, 0, 0), (467, .iconst 1, 1, 0, 0, 0),
  (468, .iadd, 1, 0, 0, 0), (469, .iaload, 1, 0, 0, 0), (470, .aload_n 0, 1, 0, 0, 0), (471, .iload_n 3, 1, 0, 0, 0),
  (472, .iconst 2, 1, 0, 0, 0), (473, .iadd, 1, 0, 0, 0), (474, .iaload, 1, 0, 0, 0), (475, .i2l, 1, 0, 0, 0),
  (476, .bipush 32, 2, 0, 0, 0), (478, .lshl, 1, 0, 0, 0), (479, .aload_n 0, 1, 0, 0, 0), (480, .iload_n 3, 1, 0, 0, 0),
  (481, .iconst 3, 1, 0, 0, 0), (482, .iadd, 1, 0, 0, 0), (483, .iaload, 1, 0, 0, 0), (484, .i2l, 1, 0, 0, 0),
  (485, .ldc2_w 65, 3, 4294967295, 0, 889), (488, .land, 1, 0, 0, 0), (489, .lor, 1, 0, 0, 0), (490, .invokevirtual 67, 3, 98, 0, 577),
  (493, .aload_n 2, 1, 0, 0, 0), (494, .aload_n 0, 1, 0, 0, 0), (495, .iload_n 3, 1, 0, 0, 0), (496, .iconst 1, 1, 0, 0, 0),
  (497, .iadd, 1, 0, 0, 0), (498, .iaload, 1, 0, 0, 0), (499, .aload_n 0, 1, 0, 0, 0), (500, .iload_n 3, 1, 0, 0, 0),
  (501, .iconst 2, 1, 0, 0, 0), (502, .iadd, 1, 0, 0, 0), (503, .iaload, 1, 0, 0, 0), (504, .i2l, 1, 0, 0, 0),
  (505, .bipush 32, 2, 0, 0, 0), (507, .lshl, 1, 0, 0, 0), (508, .aload_n 0, 1, 0, 0, 0), (509, .iload_n 3, 1, 0, 0, 0),
  (510, .iconst 3, 1, 0, 0, 0), (511, .iadd, 1, 0, 0, 0), (512, .iaload, 1, 0, 0, 0), (513, .i2l, 1, 0, 0, 0),
  (514, .ldc2_w 65, 3, 4294967295, 0, 889), (517, .land, 1, 0, 0, 0), (518, .lor, 1, 0, 0, 0), (519, .invokevirtual 71, 3, 132, 0, 845),
  (522, .if_icmp .eq 176, 3, 698, 0, 0), (525, .iconst 0, 1, 0, 0, 0), (526, .ireturn, 1, 0, 0, 0), (527, .aload_n 1, 1, 0, 0, 0),
  (528, .aload_n 0, 1, 0, 0, 0), (529, .iload_n 3, 1, 0, 0, 0), (530, .iconst 1, 1, 0, 0, 0), (531, .iadd, 1, 0, 0, 0),
  (532, .iaload, 1, 0, 0, 0), (533, .ifCond .eq 7, 3, 540, 0, 0), (536, .iconst 1, 1, 0, 0, 0), (537, .goto 4, 3, 541, 0, 0),
  (540, .iconst 0, 1, 0, 0, 0), (541, .invokevirtual 72, 3, 99, 0, 586), (544, .aload_n 2, 1, 0, 0, 0), (545, .aload_n 0, 1, 0, 0, 0),
  (546, .iload_n 3, 1, 0, 0, 0), (547, .iconst 1, 1, 0, 0, 0), (548, .iadd, 1, 0, 0, 0), (549, .iaload, 1, 0, 0, 0),
  (550, .ifCond .eq 7, 3, 557, 0, 0), (553, .iconst 1, 1, 0, 0, 0), (554, .goto 4, 3, 558, 0, 0), (557, .iconst 0, 1, 0, 0, 0),
  (558, .invokevirtual 76, 3, 134, 0, 853), (561, .lcmp, 1, 0, 0, 0), (562, .ifCond .eq 136, 3, 698, 0, 0), (565, .iconst 0, 1, 0, 0, 0),
  (566, .ireturn, 1, 0, 0, 0), (567, .aload_n 1, 1, 0, 0, 0), (568, .aload_n 0, 1, 0, 0, 0), (569, .iload_n 3, 1, 0, 0, 0),
  (570, .iconst 1, 1, 0, 0, 0), (571, .iadd, 1, 0, 0, 0), (572, .iaload, 1, 0, 0, 0), (573, .aload_n 0, 1, 0, 0, 0),
  (574, .iload_n 3, 1, 0, 0, 0), (575, .iconst 2, 1, 0, 0, 0), (576, .iadd, 1, 0, 0, 0), (577, .iaload, 1, 0, 0, 0),
  (578, .aload_n 0, 1, 0, 0, 0), (579, .iload_n 3, 1, 0, 0, 0), (580, .iconst 3, 1, 0, 0, 0), (581, .iadd, 1, 0, 0, 0),
  (582, .iaload, 1, 0, 0, 0), (583, .invokevirtual 77, 3, 100, 0, 595), (586, .aload_n 2, 1, 0, 0, 0), (587, .aload_n 0, 1, 0, 0, 0),
  (588, .iload_n 3, 1, 0, 0, 0), (589, .iconst 1, 1, 0, 0, 0), (590, .iadd, 1, 0, 0, 0), (591, .iaload, 1, 0, 0, 0),
  (592, .aload_n 0, 1, 0, 0, 0), (593, .iload_n 3, 1, 0, 0, 0), (594, .iconst 2, 1, 0, 0, 0), (595, .iadd, 1, 0, 0, 0),
  (596, .iaload, 1, 0, 0, 0), (597, .aload_n 0, 1, 0, 0, 0), (598, .iload_n 3, 1, 0, 0, 0), (599, .iconst 3, 1, 0, 0, 0),
  (600, .iadd, 1, 0, 0, 0), (601, .iaload, 1, 0, 0, 0), (602, .invokevirtual 80, 3, 140, 0, 857), (605, .if_icmp .eq 93, 3, 698, 0, 0),
  (608, .iconst 0, 1, 0, 0, 0), (609, .ireturn, 1, 0, 0, 0), (610, .aload_n 1, 1, 0, 0, 0), (611, .invokevirtual 81, 3, 101, 0, 637),
  (614, .aload_n 2, 1, 0, 0, 0), (615, .invokevirtual 84, 3, 141, 0, 881), (618, .if_icmp .eq 80, 3, 698, 0, 0), (621, .iconst 0, 1, 0, 0, 0),
  (622, .ireturn, 1, 0, 0, 0), (623, .aload_n 1, 1, 0, 0, 0), (624, .aload_n 0, 1, 0, 0, 0), (625, .iload_n 3, 1, 0, 0, 0),
  (626, .iconst 1, 1, 0, 0, 0), (627, .iadd, 1, 0, 0, 0), (628, .iaload, 1, 0, 0, 0), (629, .aload_n 0, 1, 0, 0, 0),
  (630, .iload_n 3, 1, 0, 0, 0), (631, .iconst 2, 1, 0, 0, 0), (632, .iadd, 1, 0, 0, 0), (633, .iaload, 1, 0, 0, 0),
  (634, .aload_n 0, 1, 0, 0, 0), (635, .iload_n 3, 1, 0, 0, 0), (636, .iconst 3, 1, 0, 0, 0), (637, .iadd, 1, 0, 0, 0),
  (638, .iaload, 1, 0, 0, 0), (639, .aload_n 0, 1, 0, 0, 0), (640, .iload_n 3, 1, 0, 0, 0), (641, .iconst 4, 1, 0, 0, 0),
  (642, .iadd, 1, 0, 0, 0), (643, .iaload, 1, 0, 0, 0), (644, .aload_n 0, 1, 0, 0, 0), (645, .iload_n 3, 1, 0, 0, 0),
  (646, .iconst 5, 1, 0, 0, 0), (647, .iadd, 1, 0, 0, 0), (648, .iaload, 1, 0, 0, 0), (649, .aload_n 0, 1, 0, 0, 0),
  (650, .iload_n 3, 1, 0, 0, 0), (651, .bipush 6, 2, 0, 0, 0), (653, .iadd, 1, 0, 0, 0), (654, .iaload, 1, 0, 0, 0),
  (655, .invokevirtual 85, 3, 102, 0, 656), (658, .aload_n 2, 1, 0, 0, 0), (659, .aload_n 0, 1, 0, 0, 0), (660, .iload_n 3, 1, 0, 0, 0),
  (661, .iconst 1, 1, 0, 0, 0), (662, .iadd, 1, 0, 0, 0), (663, .iaload, 1, 0, 0, 0), (664, .aload_n 0, 1, 0, 0, 0),
  (665, .iload_n 3, 1, 0, 0, 0), (666, .iconst 2, 1, 0, 0, 0), (667, .iadd, 1, 0, 0, 0), (668, .iaload, 1, 0, 0, 0),
  (669, .aload_n 0, 1, 0, 0, 0), (670, .iload_n 3, 1, 0, 0, 0), (671, .iconst 3, 1, 0, 0, 0), (672, .iadd, 1, 0, 0, 0),
  (673, .iaload, 1, 0, 0, 0), (674, .aload_n 0, 1, 0, 0, 0), (675, .iload_n 3, 1, 0, 0, 0), (676, .iconst 4, 1, 0, 0, 0),
  (677, .iadd, 1, 0, 0, 0), (678, .iaload, 1, 0, 0, 0), (679, .aload_n 0, 1, 0, 0, 0), (680, .iload_n 3, 1, 0, 0, 0),
  (681, .iconst 5, 1, 0, 0, 0), (682, .iadd, 1, 0, 0, 0), (683, .iaload, 1, 0, 0, 0), (684, .aload_n 0, 1, 0, 0, 0),
  (685, .iload_n 3, 1, 0, 0, 0), (686, .bipush 6, 2, 0, 0, 0), (688, .iadd, 1, 0, 0, 0), (689, .iaload, 1, 0, 0, 0),
  (690, .invokevirtual 89, 3, 142, 0, 885), (693, .if_icmp .eq 5, 3, 698, 0, 0), (696, .iconst 0, 1, 0, 0, 0), (697, .ireturn, 1, 0, 0, 0),
  (698, .iinc 3 7, 3, 0, 0, 0), (701, .goto (-683), 3, 18, 0, 0), (704, .iconst 1, 1, 0, 0, 0), (705, .ireturn, 1, 0, 0, 0)]
def mm144 : MT := (yL_law, cL_law, 4, (some .boolean), 1, 0, 8, 191, 99, cd144)
def mtab : List MT := [mm0, mm1, mm2, mm3, mm4, mm5, mm6, mm7, mm8, mm9, mm10, mm11, mm12, mm13, mm14, mm15, mm16, mm17, mm18, mm19, mm20, mm21, mm22, mm23, mm24, mm25, mm26, mm27, mm28, mm29, mm30, mm31, mm32, mm33, mm34, mm35, mm36, mm37, mm38, mm39, mm40, mm41, mm42, mm43, mm44, mm45, mm46, mm47, mm48, mm49, mm50, mm51, mm52, mm53, mm54, mm55, mm56, mm57, mm58, mm59, mm60, mm61, mm62, mm63, mm64, mm65, mm66, mm67, mm68, mm69, mm70, mm71, mm72, mm73, mm74, mm75, mm76, mm77, mm78, mm79, mm80, mm81, mm82, mm83, mm84, mm85, mm86, mm87, mm88, mm89, mm90, mm91, mm92, mm93, mm94, mm95, mm96, mm97, mm98, mm99, mm100, mm101, mm102, mm103, mm104, mm105, mm106, mm107, mm108, mm109, mm110, mm111, mm112, mm113, mm114, mm115, mm116, mm117, mm118, mm119, mm120, mm121, mm122, mm123, mm124, mm125, mm126, mm127, mm128, mm129, mm130, mm131, mm132, mm133, mm134, mm135, mm136, mm137, mm138, mm139, mm140, mm141, mm142, mm143, mm144]
