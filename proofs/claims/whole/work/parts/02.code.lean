abbrev NN : Instr := .nop
def kX0_power : List (List Instr) := [[.lconst 1, .lstore_n 2, .iconst 0, .istore 4, NN, .iload 4, NN, .iload_n 1, .if_icmp .ge 22, NN, NN, .lload_n 2, .iload_n 0, .i2l, .lmul, .lstore_n 2, .iinc 4 1, NN, NN, .goto 5, NN, NN, .lload_n 2, .lreturn]]
def kX0_fixedByGoingRound : List (List Instr) := [[.lconst 0, .lstore_n 2, .iconst 1, .istore 4, NN, .iload 4, NN, .iload_n 0, .if_icmp .gt 30, NN, NN, .lload_n 2, .iload_n 1, .iload 4, NN, .iload_n 0, .invokestatic 274, NN, NN, .invokestatic 50, NN, NN, .ladd, .lstore_n 2, .iinc 4 1, NN, NN, .goto 5, NN, NN, .lload_n 2, .lreturn]]
def kX0_commonPart : List (List Instr) := [[.iconst 1, .istore_n 2, .iconst 2, .istore_n 3, .iload_n 3, .iload_n 1, .if_icmp .gt 29, NN, NN, .iload_n 0, .iload_n 3, .irem, .ifCond .ne 23, NN, NN, .iload_n 1, .iload_n 3, .irem, .ifCond .ne 23, NN, NN, .iload_n 3, .istore_n 2, .iinc 3 1, NN, NN, .goto 4, NN, NN, .iload_n 2, .ireturn]]
def kX0_fixedByGoingOver : List (List Instr) := [[.iload_n 0, .iconst 2, .irem, .iconst 1, .if_icmp .ne 20, NN, NN, .iload_n 0, .i2l, .iload_n 1, .iload_n 0, .iconst 1, .iadd, .iconst 2, .idiv, .invokestatic 50, NN, NN, .lmul, .lreturn, .iload_n 0, .iconst 2, .idiv, .i2l, .iload_n 1, .iload_n 0, .iconst 2, .idiv, .iconst 1, .iadd, .invokestatic 50, NN],
  [NN, .iload_n 1, .iload_n 0, .iconst 2, .idiv, .invokestatic 50, NN, NN, .ladd, .lmul, .lreturn]]
def kX1_isLook : List (List Instr) := [[.iload_n 0, .iconst 2, .if_icmp .lt 9, NN, NN, .iconst 1, .goto 10, NN, NN, .iconst 0, .ireturn]]
def kX1_isHope : List (List Instr) := [[.iload_n 0, .iconst 2, .irem, .iconst 1, .if_icmp .ne 11, NN, NN, .iconst 1, .goto 12, NN, NN, .iconst 0, .ireturn]]
def kX1_ofEye : List (List Instr) := [[.iload_n 1, .ifCond .eq 16, NN, NN, .iload_n 2, .ifCond .eq 12, NN, NN, .iconst 3, .goto 15, NN, NN, .iconst 1, .iload_n 0, .isub, .ireturn, .iload_n 2, .ifCond .eq 24, NN, NN, .iconst 0, .goto 25, NN, NN, .iconst 1, .ireturn]]
def kX1_ofStreet : List (List Instr) := [[.iload_n 2, .ifCond .eq 16, NN, NN, .iload_n 1, .ifCond .eq 12, NN, NN, .iconst 3, .goto 15, NN, NN, .iconst 2, .iload_n 0, .isub, .ireturn, .iconst 1, .ireturn]]
def kX1_isRest : List (List Instr) := [[.iload_n 1, .invokestatic 545, NN, NN, .istore_n 2, .iload_n 1, .invokestatic 673, NN, NN, .istore_n 3, .iload_n 0, .iload_n 2, .iload_n 3, .invokestatic 787, NN, NN, .iload_n 0, .iload_n 2, .ifCond .ne 25, NN, NN, .iconst 1, .goto 26, NN, NN, .iconst 0, .iload_n 3, .invokestatic 787, NN, NN, .if_icmp .lt 60, NN],
  [NN, .iload_n 0, .iload_n 2, .iload_n 3, .invokestatic 915, NN, NN, .iload_n 0, .iload_n 2, .iload_n 3, .ifCond .ne 49, NN, NN, .iconst 1, .goto 50, NN, NN, .iconst 0, .invokestatic 915, NN, NN, .if_icmp .lt 60, NN, NN, .iconst 1, .goto 61, NN, NN, .iconst 0, .ireturn]]
def kX2_endsBeside : List (List Instr) := [[.iload_n 3, .ifCond .gt 10, NN, NN, .iload_n 1, .iload_n 2, .invokestatic 9250, NN, NN, .ireturn, .aload_n 0, .iload_n 1, .iload_n 2, .iload_n 3, .iconst 1, .isub, .iload 4, NN, .ifCond .ne 25, NN, NN, .iconst 1, .goto 26, NN, NN, .iconst 0, .invokestatic 1189, NN, NN, .iload 4, NN, .if_icmp .ne 37],
  [NN, NN, .iload 4, NN, .ireturn, .iconst 0, .istore 5, NN, .iload 5, NN, .aload_n 0, .getfield 61696, NN, NN, .if_icmp .ge 101, NN, NN, .aload_n 0, .getfield 61956, NN, NN, .iload 5, NN, .iaload, .istore 6, NN, .aload_n 0, .iload 6, NN, .iload_n 1, .invokestatic 8978, NN],
  [NN, .iload 6, NN, .iload_n 2, .invokestatic 8978, NN, NN, .iload_n 3, .iconst 1, .isub, .iload 4, NN, .ifCond .ne 83, NN, NN, .iconst 1, .goto 84, NN, NN, .iconst 0, .invokestatic 1189, NN, NN, .iload 4, NN, .if_icmp .ne 95, NN, NN, .iload 4, NN, .ireturn, .iinc 5 1],
  [NN, NN, .goto 40, NN, NN, .iload 4, NN, .ifCond .ne 110, NN, NN, .iconst 1, .goto 111, NN, NN, .iconst 0, .ireturn]]
def kX2_firstTurn : List (List Instr) := [[.aload_n 0, .iload_n 1, .iload_n 2, .iload_n 3, .iconst 1, .isub, .iconst 0, .invokestatic 1189, NN, NN, .ifCond .eq 16, NN, NN, .bipush (-2), NN, .ireturn, .iconst 0, .istore 4, NN, .iload 4, NN, .aload_n 0, .getfield 61696, NN, NN, .if_icmp .ge 69, NN, NN, .aload_n 0, .getfield 61956, NN, NN],
  [.iload 4, NN, .iaload, .istore 5, NN, .aload_n 0, .iload 5, NN, .iload_n 1, .invokestatic 8978, NN, NN, .iload 5, NN, .iload_n 2, .invokestatic 8978, NN, NN, .iload_n 3, .iconst 1, .isub, .iconst 0, .invokestatic 1189, NN, NN, .ifCond .eq 63, NN, NN, .iload 4, NN, .ireturn, .iinc 4 1],
  [NN, NN, .goto 19, NN, NN, .bipush (-2), NN, .ireturn]]
def kX3_init : List (List Instr) := [[.aload_n 0, .invokespecial 128385, NN, NN, .aload_n 0, .iconst 0, .putfield 41152, NN, NN, .aload_n 0, .iload_n 1, .newarray .int, NN, .putfield 40964, NN, NN, .aload_n 0, .iload_n 1, .newarray .int, NN, .putfield 41028, NN, NN, .aload_n 0, .iload_n 1, .newarray .boolean, NN, .putfield 41095, NN, NN, .return_]]
def kX3_isFull : List (List Instr) := [[.aload_n 0, .getfield 41152, NN, NN, .aload_n 0, .getfield 40964, NN, NN, .arraylength, .if_icmp .lt 16, NN, NN, .iconst 1, .goto 17, NN, NN, .iconst 0, .ireturn]]
def kX3_add : List (List Instr) := [[.aload_n 0, .invokevirtual 1569, NN, NN, .ifCond .ne 47, NN, NN, .aload_n 0, .getfield 40964, NN, NN, .aload_n 0, .getfield 41152, NN, NN, .iload_n 1, .iastore, .aload_n 0, .getfield 41028, NN, NN, .aload_n 0, .getfield 41152, NN, NN, .iload_n 2, .iastore, .aload_n 0, .getfield 41095, NN, NN, .aload_n 0],
  [.getfield 41152, NN, NN, .iload_n 3, .bastore, .aload_n 0, .dup, .getfield 41152, NN, NN, .iconst 1, .iadd, .putfield 41152, NN, NN, .return_]]
def kX3_partners : List (List Instr) := [[.iconst 0, .istore_n 2, .iconst 0, .istore_n 3, .iload_n 3, .aload_n 0, .getfield 41152, NN, NN, .if_icmp .ge 63, NN, NN, .aload_n 0, .getfield 40964, NN, NN, .iload_n 3, .iaload, .iload_n 1, .if_icmp .ne 36, NN, NN, .iload_n 2, .iconst 1, .aload_n 0, .getfield 41028, NN, NN, .iload_n 3, .iaload, .ishl, .ior],
  [.istore_n 2, .goto 57, NN, NN, .aload_n 0, .getfield 41028, NN, NN, .iload_n 3, .iaload, .iload_n 1, .if_icmp .ne 57, NN, NN, .iload_n 2, .iconst 1, .aload_n 0, .getfield 40964, NN, NN, .iload_n 3, .iaload, .ishl, .ior, .istore_n 2, .iinc 3 1, NN, NN, .goto 4, NN, NN, .iload_n 2],
  [.ireturn]]
def kX3_all : List (List Instr) := [[.iconst 1, .aload_n 0, .getfield 41152, NN, NN, .ishl, .iconst 1, .isub, .ireturn]]
def kX3_holding : List (List Instr) := [[.iconst 0, .istore_n 2, .iconst 0, .istore_n 3, .iload_n 3, .aload_n 0, .getfield 41152, NN, NN, .if_icmp .ge 56, NN, NN, .iload_n 1, .aload_n 0, .getfield 40964, NN, NN, .iload_n 3, .iaload, .invokestatic 8978, NN, NN, .iload_n 1, .aload_n 0, .getfield 41028, NN, NN, .iload_n 3, .iaload, .invokestatic 8978, NN, NN],
  [.invokestatic 9250, NN, NN, .aload_n 0, .getfield 41095, NN, NN, .iload_n 3, .baload, .if_icmp .ne 50, NN, NN, .iload_n 2, .iconst 1, .iload_n 3, .ishl, .ior, .istore_n 2, .iinc 3 1, NN, NN, .goto 4, NN, NN, .iload_n 2, .ireturn]]
def kX3_firstBroken : List (List Instr) := [[.aload_n 0, .iload_n 1, .invokevirtual 2066, NN, NN, .istore_n 2, .iconst 0, .istore_n 3, .iload_n 3, .aload_n 0, .getfield 41152, NN, NN, .if_icmp .ge 32, NN, NN, .iload_n 2, .iload_n 3, .ishr, .iconst 1, .iand, .ifCond .ne 26, NN, NN, .iload_n 3, .ireturn, .iinc 3 1, NN, NN, .goto 8, NN, NN],
  [.bipush (-2), NN, .ireturn]]
def kX4_init : List (List Instr) := [[.aload_n 0, .invokespecial 128385, NN, NN, .aload_n 0, .iconst 0, .putfield 45058, NN, NN, .aload_n 0, .iconst 0, .putfield 45120, NN, NN, .aload_n 0, .iconst 0, .putfield 45184, NN, NN, .aload_n 0, .sipush 720, NN, NN, .newarray .int, NN, .putfield 45252, NN, NN, .aload_n 0, .sipush 720, NN, NN],
  [.newarray .int, NN, .putfield 45316, NN, NN, .aload_n 0, .sipush 720, NN, NN, .newarray .int, NN, .putfield 45380, NN, NN, .aload_n 0, .sipush 720, NN, NN, .newarray .int, NN, .putfield 45444, NN, NN, .aload_n 0, .sipush 720, NN, NN, .newarray .int, NN, .putfield 45508, NN, NN],
  [.aload_n 0, .bipush 7, NN, .newarray .int, NN, .putfield 45572, NN, NN, .return_]]
def kX4_explore : List (List Instr) := [[.aload_n 0, .aload_n 1, .getfield 61504, NN, NN, .putfield 45120, NN, NN, .aload_n 0, .iconst 0, .putfield 45184, NN, NN, .iconst 0, .istore_n 3, .iload_n 3, .sipush 720, NN, NN, .if_icmp .ge 35, NN, NN, .aload_n 0, .getfield 45508, NN, NN, .iload_n 3, .iconst (-1), .iastore, .iinc 3 1, NN, NN],
  [.goto 15, NN, NN, .iconst 0, .istore_n 3, .iload_n 3, .bipush 6, NN, .if_icmp .gt 56, NN, NN, .aload_n 0, .getfield 45572, NN, NN, .iload_n 3, .iconst 0, .iastore, .iinc 3 1, NN, NN, .goto 37, NN, NN, .aload_n 0, .aload_n 0, .getfield 45120, NN, NN, .invokestatic 9361, NN, NN],
  [.iconst (-1), .iconst (-1), .invokevirtual 2564, NN, NN, .aload_n 0, .getfield 45120, NN, NN, .invokestatic 9489, NN, NN, .istore_n 3, .iconst 0, .istore 4, NN, .iload 4, NN, .aload_n 0, .getfield 45184, NN, NN, .if_icmp .ge 179, NN, NN, .iload 4, NN, .sipush 720, NN, NN, .if_icmp .ge 179, NN],
  [NN, .iconst 0, .istore 5, NN, .iload 5, NN, .aload_n 1, .getfield 61696, NN, NN, .if_icmp .ge 144, NN, NN, .aload_n 0, .aload_n 0, .getfield 45252, NN, NN, .iload 4, NN, .iaload, .aload_n 1, .getfield 61956, NN, NN, .iload 5, NN, .iaload, .aload_n 0, .getfield 45120, NN, NN],
  [.invokestatic 9619, NN, NN, .iload 4, NN, .iload 5, NN, .invokevirtual 2564, NN, NN, .iinc 5 1, NN, NN, .goto 100, NN, NN, .iload_n 2, .ifCond .eq 173, NN, NN, .aload_n 0, .aload_n 0, .getfield 45252, NN, NN, .iload 4, NN, .iaload, .iload_n 3, .aload_n 0, .getfield 45120, NN],
  [NN, .invokestatic 9619, NN, NN, .iload 4, NN, .aload_n 1, .getfield 61696, NN, NN, .invokevirtual 2564, NN, NN, .iinc 4 1, NN, NN, .goto 80, NN, NN, .aload_n 0, .iconst 1, .putfield 45058, NN, NN, .return_]]
def kX4_find : List (List Instr) := [[.iload_n 1, .aload_n 0, .getfield 45120, NN, NN, .invokestatic 10514, NN, NN, .istore 4, NN, .iload 4, NN, .ifCond .lt 44, NN, NN, .iload 4, NN, .sipush 720, NN, NN, .if_icmp .ge 44, NN, NN, .aload_n 0, .getfield 45508, NN, NN, .iload 4, NN, .iaload, .iconst (-1), .if_icmp .ne 44],
  [NN, NN, .aload_n 0, .getfield 45184, NN, NN, .sipush 720, NN, NN, .if_icmp .lt 45, NN, NN, .return_, .aload_n 0, .getfield 45508, NN, NN, .iload 4, NN, .aload_n 0, .getfield 45184, NN, NN, .iastore, .aload_n 0, .getfield 45252, NN, NN, .aload_n 0, .getfield 45184, NN, NN],
  [.iload_n 1, .iastore, .aload_n 0, .getfield 45316, NN, NN, .aload_n 0, .getfield 45184, NN, NN, .iload_n 2, .iconst (-1), .if_icmp .ne 83, NN, NN, .iconst 0, .goto 91, NN, NN, .aload_n 0, .getfield 45316, NN, NN, .iload_n 2, .iaload, .iconst 1, .iadd, .iastore, .aload_n 0, .getfield 45380, NN, NN],
  [.aload_n 0, .getfield 45184, NN, NN, .iload_n 2, .iastore, .aload_n 0, .getfield 45444, NN, NN, .aload_n 0, .getfield 45184, NN, NN, .iload_n 3, .iastore, .aload_n 0, .getfield 45572, NN, NN, .iload_n 1, .aload_n 0, .getfield 45120, NN, NN, .invokestatic 10130, NN, NN, .dup2, .iaload, .iconst 1, .iadd],
  [.iastore, .aload_n 0, .dup, .getfield 45184, NN, NN, .iconst 1, .iadd, .putfield 45184, NN, NN, .return_]]
def kX4_depthOf : List (List Instr) := [[.iload_n 1, .aload_n 0, .getfield 45120, NN, NN, .invokestatic 10514, NN, NN, .istore_n 2, .iload_n 2, .ifCond .lt 20, NN, NN, .iload_n 2, .sipush 720, NN, NN, .if_icmp .lt 24, NN, NN, .iconst (-1), .goto 30, NN, NN, .aload_n 0, .getfield 45508, NN, NN, .iload_n 2, .iaload, .istore_n 3, .iload_n 3],
  [.iconst (-1), .if_icmp .ne 40, NN, NN, .iconst (-1), .goto 46, NN, NN, .aload_n 0, .getfield 45316, NN, NN, .iload_n 3, .iaload, .ireturn]]
def kX4_most : List (List Instr) := [[.aload_n 0, .getfield 45184, NN, NN, .ifCond .ne 11, NN, NN, .iconst 0, .goto 22, NN, NN, .aload_n 0, .getfield 45316, NN, NN, .aload_n 0, .getfield 45184, NN, NN, .iconst 1, .isub, .iaload, .ireturn]]
def kX4_evenCount : List (List Instr) := [[.iconst 0, .istore_n 1, .iconst 0, .istore_n 2, .iload_n 2, .aload_n 0, .getfield 45120, NN, NN, .if_icmp .gt 42, NN, NN, .iload_n 1, .iload_n 2, .aload_n 0, .getfield 45120, NN, NN, .invokestatic 10274, NN, NN, .ifCond .eq 33, NN, NN, .aload_n 0, .getfield 45572, NN, NN, .iload_n 2, .iaload, .goto 34, NN],
  [NN, .iconst 0, .iadd, .istore_n 1, .iinc 2 1, NN, NN, .goto 4, NN, NN, .iload_n 1, .ireturn]]
def kX4_comesInto : List (List Instr) := [[.iconst 0, .istore_n 2, .iconst 0, .istore_n 3, .iload_n 3, .aload_n 0, .getfield 45184, NN, NN, .if_icmp .ge 33, NN, NN, .iload_n 2, .iconst 1, .aload_n 0, .getfield 45252, NN, NN, .iload_n 3, .iaload, .iload_n 1, .invokestatic 8978, NN, NN, .ishl, .ior, .istore_n 2, .iinc 3 1, NN, NN, .goto 4, NN],
  [NN, .iload_n 2, .ireturn]]
def kX4_leaving : List (List Instr) := [[.iconst 0, .istore_n 2, .iconst 0, .istore_n 3, .iload_n 3, .aload_n 0, .getfield 45184, NN, NN, .if_icmp .ge 40, NN, NN, .iload_n 2, .aload_n 0, .getfield 45252, NN, NN, .iload_n 3, .iaload, .iload_n 1, .invokestatic 8978, NN, NN, .iload_n 1, .if_icmp .ne 31, NN, NN, .iconst 1, .goto 32, NN, NN, .iconst 0],
  [.iadd, .istore_n 2, .iinc 3 1, NN, NN, .goto 4, NN, NN, .iload_n 2, .ireturn]]
def kX4_pairSets : List (List Instr) := [[.lconst 0, .lstore_n 1, .iconst 0, .istore_n 3, .iconst 1, .istore 4, NN, .iload 4, NN, .aload_n 0, .getfield 45120, NN, NN, .if_icmp .ge 69, NN, NN, .iconst 0, .istore 5, NN, .iload 5, NN, .iload 4, NN, .if_icmp .ge 63, NN, NN, .lload_n 1, .bipush 8, NN, .iload 5, NN, .imul],
  [.iload 4, NN, .iadd, .lshr, .lconst 1, .land, .lconst 0, .lcmp, .ifCond .ne 57, NN, NN, .iinc 3 1, NN, NN, .lload_n 1, .aload_n 0, .iload 5, NN, .iload 4, NN, .invokevirtual 3507, NN, NN, .lor, .lstore_n 1, .iinc 5 1, NN, NN, .goto 19, NN, NN, .iinc 4 1],
  [NN, NN, .goto 7, NN, NN, .iload_n 3, .ireturn]]
def kX4_pairsFrom : List (List Instr) := [[.lconst 0, .lstore_n 3, .iconst 0, .istore 5, NN, .iload 5, NN, .aload_n 0, .getfield 45184, NN, NN, .if_icmp .ge 69, NN, NN, .aload_n 0, .getfield 45252, NN, NN, .iload 5, NN, .iaload, .iload_n 1, .invokestatic 8978, NN, NN, .istore 6, NN, .aload_n 0, .getfield 45252, NN, NN, .iload 5],
  [NN, .iaload, .iload_n 2, .invokestatic 8978, NN, NN, .istore 7, NN, .lload_n 3, .lconst 1, .bipush 8, NN, .iload 6, NN, .iload 7, NN, .invokestatic 46738, NN, NN, .imul, .iload 6, NN, .iload 7, NN, .invokestatic 46610, NN, NN, .iadd, .lshl, .lor, .lstore_n 3, .iinc 5 1],
  [NN, NN, .goto 5, NN, NN, .lload_n 3, .lreturn]]
def kX4_central : List (List Instr) := [[.iconst 0, .istore_n 2, .iconst 0, .istore_n 3, .iload_n 3, .aload_n 0, .getfield 45184, NN, NN, .if_icmp .ge 79, NN, NN, .iconst 1, .istore 4, NN, .iconst 0, .istore 5, NN, .iload 5, NN, .aload_n 1, .getfield 61696, NN, NN, .if_icmp .ge 60, NN, NN, .iload 4, NN, .ifCond .eq 60, NN, NN],
  [.aload_n 0, .getfield 45252, NN, NN, .iload_n 3, .iaload, .aload_n 1, .getfield 61956, NN, NN, .iload 5, NN, .iaload, .aload_n 0, .getfield 45120, NN, NN, .invokestatic 9891, NN, NN, .istore 4, NN, .iinc 5 1, NN, NN, .goto 18, NN, NN, .iload_n 2, .iload 4, NN, .ifCond .eq 70],
  [NN, NN, .iconst 1, .goto 71, NN, NN, .iconst 0, .iadd, .istore_n 2, .iinc 3 1, NN, NN, .goto 4, NN, NN, .iload_n 2, .ireturn]]
def kX4_standBehind : List (List Instr) := [[.iload_n 2, .aload_n 0, .getfield 45252, NN, NN, .iload_n 1, .iaload, .iload_n 3, .invokestatic 9619, NN, NN, .ireturn]]
def kX4_firstHolding : List (List Instr) := [[.iconst 0, .istore 5, NN, .iload 5, NN, .aload_n 0, .getfield 45184, NN, NN, .if_icmp .ge 38, NN, NN, .aload_n 1, .aload_n 0, .iload 5, NN, .iload_n 3, .iload 4, NN, .invokevirtual 3732, NN, NN, .invokevirtual 2066, NN, NN, .iload_n 2, .if_icmp .ne 32, NN, NN, .iload 5, NN, .ireturn],
  [.iinc 5 1, NN, NN, .goto 3, NN, NN, .iconst (-1), .ireturn]]
def kX4_firstBringing : List (List Instr) := [[.iconst 0, .istore_n 3, .iload_n 3, .aload_n 0, .getfield 45184, NN, NN, .if_icmp .ge 32, NN, NN, .aload_n 0, .getfield 45252, NN, NN, .iload_n 3, .iaload, .iload_n 1, .invokestatic 8978, NN, NN, .iload_n 2, .if_icmp .ne 26, NN, NN, .iload_n 3, .ireturn, .iinc 3 1, NN, NN, .goto 2, NN, NN],
  [.iconst (-1), .ireturn]]
def kX4_turnAt : List (List Instr) := [[.iload_n 1, .istore_n 3, .aload_n 0, .getfield 45316, NN, NN, .iload_n 1, .iaload, .istore 4, NN, .iload 4, NN, .iload_n 2, .iconst 1, .iadd, .if_icmp .le 41, NN, NN, .aload_n 0, .getfield 45380, NN, NN, .iload_n 3, .iaload, .iconst (-1), .if_icmp .eq 41, NN, NN, .aload_n 0, .getfield 45380, NN, NN],
  [.iload_n 3, .iaload, .istore_n 3, .iinc 4 (-1), NN, NN, .goto 10, NN, NN, .aload_n 0, .getfield 45444, NN, NN, .iload_n 3, .iaload, .ireturn]]
def kX4_colourCount : List (List Instr) := [[.lconst 0, .lstore_n 2, .lconst 1, .lstore 4, NN, .iconst 1, .istore 6, NN, .iload 6, NN, .aload_n 0, .getfield 45120, NN, NN, .if_icmp .gt 44, NN, NN, .lload 4, NN, .iload_n 1, .i2l, .lmul, .lstore 4, NN, .lload_n 2, .aload_n 0, .getfield 45572, NN, NN, .iload 6, NN, .iaload],
  [.i2l, .lload 4, NN, .lmul, .ladd, .lstore_n 2, .iinc 6 1, NN, NN, .goto 8, NN, NN, .aload_n 0, .getfield 45184, NN, NN, .ifCond .ne 55, NN, NN, .lconst 0, .goto 62, NN, NN, .lload_n 2, .aload_n 0, .getfield 45184, NN, NN, .i2l, .ldiv, .lreturn]]
def kX5_init : List (List Instr) := [[.aload_n 0, .invokespecial 128385, NN, NN, .aload_n 0, .bipush 8, NN, .newarray .long, NN, .dup, .iconst 0, .instanceof 0, NN, .invokestatic 5297, NN, NN, .lastore, .dup, .iconst 1, .instanceof 1, NN, .invokestatic 5297, NN, NN, .lastore, .dup, .iconst 2, .instanceof 2, NN, .invokestatic 5297, NN, NN],
  [.lastore, .dup, .iconst 3, .instanceof 3, NN, .invokestatic 5297, NN, NN, .lastore, .dup, .iconst 4, .instanceof 4, NN, .invokestatic 5297, NN, NN, .lastore, .dup, .iconst 5, .instanceof 5, NN, .invokestatic 5297, NN, NN, .lastore, .dup, .bipush 6, NN, .instanceof 6, NN, .invokestatic 5297, NN],
  [NN, .lastore, .dup, .bipush 7, NN, .instanceof 7, NN, .invokestatic 5297, NN, NN, .lastore, .putfield 49157, NN, NN, .aload_n 0, .sipush 700, NN, NN, .newarray .byte, NN, .putfield 49222, NN, NN, .aload_n 0, .iconst 0, .putfield 49280, NN, NN, .aload_n 0, .iconst 0, .putfield 49344, NN],
  [NN, .aload_n 0, .iconst 0, .putfield 49408, NN, NN, .aload_n 0, .iconst 0, .putfield 49472, NN, NN, .aload_n 0, .iconst 0, .putfield 49536, NN, NN, .aload_n 0, .lconst 0, .putfield 49601, NN, NN, .aload_n 0, .bipush 9, NN, .newarray .long, NN, .putfield 49669, NN, NN, .aload_n 0, .bipush 9, NN],
  [.newarray .int, NN, .putfield 49732, NN, NN, .aload_n 0, .iconst 0, .putfield 49792, NN, NN, .aload_n 0, .new 15, NN, NN, .dup, .invokespecial 11393, NN, NN, .putfield 49871, NN, NN, .aload_n 0, .iconst 0, .putfield 49920, NN, NN, .aload_n 0, .iconst 0, .putfield 49984, NN, NN, .return_]]
def kX5_put : List (List Instr) := [[.bipush 24, NN, .istore_n 2, .iload_n 2, .ifCond .lt 46, NN, NN, .aload_n 0, .getfield 49280, NN, NN, .sipush 700, NN, NN, .if_icmp .ge 46, NN, NN, .aload_n 0, .getfield 49222, NN, NN, .aload_n 0, .getfield 49280, NN, NN, .iload_n 1, .iload_n 2, .ishr, .i2b, .bastore, .aload_n 0, .dup],
  [.getfield 49280, NN, NN, .iconst 1, .iadd, .putfield 49280, NN, NN, .iinc 2 (-8), NN, NN, .goto 3, NN, NN, .return_]]
def kX5_read : List (List Instr) := [[.aload_n 0, .iload_n 1, .aload_n 0, .getfield 49280, NN, NN, .invokestatic 46738, NN, NN, .putfield 49344, NN, NN, .aload_n 0, .iconst 0, .putfield 49280, NN, NN, .aload_n 0, .iconst 0, .putfield 49408, NN, NN, .aload_n 0, .iconst 0, .putfield 49792, NN, NN, .aload_n 0, .iconst 0, .putfield 49920, NN, NN],
  [.aload_n 0, .iconst 0, .putfield 49984, NN, NN, .aload_n 0, .getfield 49871, NN, NN, .invokevirtual 11521, NN, NN, .aload_n 0, .invokevirtual 4865, NN, NN, .iconst 1, .istore_n 2, .iconst 0, .istore_n 3, .iload_n 2, .ifCond .eq 90, NN, NN, .iload_n 3, .aload_n 0, .getfield 49344, NN, NN, .if_icmp .gt 90, NN, NN],
  [.aload_n 0, .invokevirtual 5665, NN, NN, .ifCond .eq 82, NN, NN, .aload_n 0, .invokevirtual 5921, NN, NN, .ifCond .eq 82, NN, NN, .iconst 1, .goto 83, NN, NN, .iconst 0, .istore_n 2, .iinc 3 1, NN, NN, .goto 52, NN, NN, .aload_n 0, .getfield 49920, NN, NN, .ifCond .ne 101, NN],
  [NN, .iconst 1, .goto 102, NN, NN, .iconst 0, .ireturn]]
def kX5_failHere : List (List Instr) := [[.aload_n 0, .iload_n 1, .putfield 49920, NN, NN, .aload_n 0, .aload_n 0, .getfield 49536, NN, NN, .putfield 49984, NN, NN, .iconst 0, .ireturn]]
def kX5_step : List (List Instr) := [[.aload_n 0, .getfield 49408, NN, NN, .aload_n 0, .getfield 49344, NN, NN, .if_icmp .ge 38, NN, NN, .aload_n 0, .getfield 49222, NN, NN, .aload_n 0, .getfield 49408, NN, NN, .baload, .bipush 32, NN, .if_icmp .ne 38, NN, NN, .aload_n 0, .dup, .getfield 49408, NN, NN, .iconst 1, .iadd],
  [.putfield 49408, NN, NN, .goto 0, NN, NN, .aload_n 0, .aload_n 0, .getfield 49408, NN, NN, .putfield 49536, NN, NN, .aload_n 0, .getfield 49408, NN, NN, .aload_n 0, .getfield 49344, NN, NN, .if_icmp .lt 65, NN, NN, .aload_n 0, .iconst 0, .putfield 49472, NN, NN, .goto 172, NN],
  [NN, .aload_n 0, .getfield 49222, NN, NN, .aload_n 0, .getfield 49408, NN, NN, .baload, .bipush 59, NN, .if_icmp .ne 97, NN, NN, .aload_n 0, .iconst 3, .putfield 49472, NN, NN, .aload_n 0, .dup, .getfield 49408, NN, NN, .iconst 1, .iadd, .putfield 49408, NN, NN, .goto 172, NN],
  [NN, .aload_n 0, .getfield 49222, NN, NN, .aload_n 0, .getfield 49408, NN, NN, .baload, .bipush 97, NN, .if_icmp .lt 132, NN, NN, .aload_n 0, .getfield 49222, NN, NN, .aload_n 0, .getfield 49408, NN, NN, .baload, .bipush 122, NN, .if_icmp .gt 132, NN, NN, .aload_n 0, .invokevirtual 4993, NN],
  [NN, .goto 172, NN, NN, .aload_n 0, .getfield 49222, NN, NN, .aload_n 0, .getfield 49408, NN, NN, .baload, .bipush 48, NN, .if_icmp .lt 167, NN, NN, .aload_n 0, .getfield 49222, NN, NN, .aload_n 0, .getfield 49408, NN, NN, .baload, .bipush 57, NN, .if_icmp .gt 167, NN, NN],
  [.aload_n 0, .invokevirtual 5121, NN, NN, .goto 172, NN, NN, .aload_n 0, .iconst 4, .putfield 49472, NN, NN, .return_]]
def kX5_takeWord : List (List Instr) := [[.aload_n 0, .lconst 0, .putfield 49601, NN, NN, .aload_n 0, .getfield 49408, NN, NN, .aload_n 0, .getfield 49344, NN, NN, .if_icmp .ge 86, NN, NN, .aload_n 0, .getfield 49222, NN, NN, .aload_n 0, .getfield 49408, NN, NN, .baload, .bipush 97, NN, .if_icmp .lt 86, NN, NN, .aload_n 0, .getfield 49222],
  [NN, NN, .aload_n 0, .getfield 49408, NN, NN, .baload, .bipush 122, NN, .if_icmp .gt 86, NN, NN, .aload_n 0, .aload_n 0, .getfield 49601, NN, NN, .ldc2_w 27, NN, NN, .lmul, .aload_n 0, .getfield 49222, NN, NN, .aload_n 0, .getfield 49408, NN, NN, .baload, .i2l, .ladd],
  [.ldc2_w 97, NN, NN, .lsub, .lconst 1, .ladd, .putfield 49601, NN, NN, .aload_n 0, .dup, .getfield 49408, NN, NN, .iconst 1, .iadd, .putfield 49408, NN, NN, .goto 5, NN, NN, .aload_n 0, .aload_n 0, .getfield 49408, NN, NN, .aload_n 0, .getfield 49536, NN, NN, .isub],
  [.bipush 8, NN, .if_icmp .gt 105, NN, NN, .iconst 1, .goto 106, NN, NN, .iconst 4, .putfield 49472, NN, NN, .return_]]
def kX5_takeWhole : List (List Instr) := [[.aload_n 0, .lconst 0, .putfield 49601, NN, NN, .aload_n 0, .getfield 49408, NN, NN, .aload_n 0, .getfield 49344, NN, NN, .if_icmp .ge 84, NN, NN, .aload_n 0, .getfield 49222, NN, NN, .aload_n 0, .getfield 49408, NN, NN, .baload, .bipush 48, NN, .if_icmp .lt 84, NN, NN, .aload_n 0, .getfield 49222],
  [NN, NN, .aload_n 0, .getfield 49408, NN, NN, .baload, .bipush 57, NN, .if_icmp .gt 84, NN, NN, .aload_n 0, .aload_n 0, .getfield 49601, NN, NN, .ldc2_w 10, NN, NN, .lmul, .aload_n 0, .getfield 49222, NN, NN, .aload_n 0, .getfield 49408, NN, NN, .baload, .i2l, .ladd],
  [.ldc2_w 48, NN, NN, .lsub, .putfield 49601, NN, NN, .aload_n 0, .dup, .getfield 49408, NN, NN, .iconst 1, .iadd, .putfield 49408, NN, NN, .goto 5, NN, NN, .aload_n 0, .aload_n 0, .getfield 49408, NN, NN, .aload_n 0, .getfield 49536, NN, NN, .isub, .iconst 3, .if_icmp .gt 102],
  [NN, NN, .iconst 2, .goto 103, NN, NN, .iconst 4, .putfield 49472, NN, NN, .return_]]
def kX5_coded : List (List Instr) := [[.lconst 0, .lstore_n 1, .iconst 0, .istore_n 3, .iload_n 3, .aload_n 0, .invokevirtual 128529, NN, NN, .if_icmp .ge 37, NN, NN, .lload_n 1, .ldc2_w 27, NN, NN, .lmul, .aload_n 0, .iload_n 3, .invokevirtual 128658, NN, NN, .i2l, .ladd, .ldc2_w 97, NN, NN, .lsub, .lconst 1, .ladd, .lstore_n 1, .iinc 3 1],
  [NN, NN, .goto 4, NN, NN, .lload_n 1, .lreturn]]
def kX5_isWord : List (List Instr) := [[.aload_n 0, .getfield 49472, NN, NN, .iconst 1, .if_icmp .ne 24, NN, NN, .aload_n 0, .getfield 49601, NN, NN, .aload_n 1, .invokestatic 5297, NN, NN, .lcmp, .ifCond .ne 24, NN, NN, .iconst 1, .goto 25, NN, NN, .iconst 0, .ireturn]]
def kX5_lineSort : List (List Instr) := [[.aload_n 0, .getfield 49472, NN, NN, .iconst 1, .if_icmp .eq 10, NN, NN, .iconst (-1), .ireturn, .iconst 0, .istore_n 1, .iload_n 1, .aload_n 0, .getfield 49157, NN, NN, .arraylength, .if_icmp .ge 43, NN, NN, .aload_n 0, .getfield 49157, NN, NN, .iload_n 1, .laload, .aload_n 0, .getfield 49601, NN, NN, .lcmp],
  [.ifCond .ne 37, NN, NN, .iload_n 1, .ireturn, .iinc 1 1, NN, NN, .goto 12, NN, NN, .iconst (-1), .ireturn]]
def kX5_takeLine : List (List Instr) := [[.aload_n 0, .invokevirtual 5521, NN, NN, .istore_n 1, .iload_n 1, .iconst (-1), .if_icmp .ne 16, NN, NN, .aload_n 0, .iconst 1, .invokevirtual 4770, NN, NN, .ireturn, .iload_n 1, .ifCond .ne 36, NN, NN, .aload_n 0, .getfield 49871, NN, NN, .getfield 61504, NN, NN, .ifCond .le 36, NN, NN, .aload_n 0, .iconst 3],
  [.invokevirtual 4770, NN, NN, .ireturn, .iload_n 1, .ifCond .eq 57, NN, NN, .aload_n 0, .getfield 49871, NN, NN, .getfield 61504, NN, NN, .ifCond .ne 57, NN, NN, .aload_n 0, .bipush 6, NN, .invokevirtual 4770, NN, NN, .ireturn, .aload_n 0, .iload_n 1, .invokevirtual 5794, NN, NN, .ifCond .eq 71, NN],
  [NN, .aload_n 0, .iconst 5, .invokevirtual 4770, NN, NN, .ireturn, .aload_n 0, .invokevirtual 4865, NN, NN, .iload_n 1, .tableswitch 154 0 7 #[124, 129, 134, 139, 154, 154, 144, 149], NN, NN, NN, NN, NN, NN, NN, NN, NN, NN, NN, NN, NN, NN, NN, NN, NN, NN, NN],
  [NN, NN, NN, NN, NN, NN, NN, NN, NN, NN, NN, NN, NN, NN, NN, NN, NN, NN, NN, NN, NN, NN, NN, NN, NN, NN, NN, NN, .aload_n 0, .invokevirtual 6049, NN, NN],
  [.ireturn, .aload_n 0, .invokevirtual 6177, NN, NN, .ireturn, .aload_n 0, .invokevirtual 6305, NN, NN, .ireturn, .aload_n 0, .invokevirtual 6433, NN, NN, .ireturn, .aload_n 0, .invokevirtual 6689, NN, NN, .ireturn, .aload_n 0, .invokevirtual 6817, NN, NN, .ireturn, .aload_n 0, .iload_n 1, .iconst 4, .if_icmp .ne 164, NN, NN],
  [.iconst 1, .goto 165, NN, NN, .iconst 0, .invokevirtual 6562, NN, NN, .ireturn]]
def kX5_isFull : List (List Instr) := [[.iload_n 1, .tableswitch 129 1 7 #[44, 62, 79, 90, 90, 101, 118], NN, NN, NN, NN, NN, NN, NN, NN, NN, NN, NN, NN, NN, NN, NN, NN, NN, NN, NN, NN, NN, NN, NN, NN, NN, NN, NN, NN, NN, NN],
  [NN, NN, NN, NN, NN, NN, NN, NN, NN, NN, NN, NN, .aload_n 0, .getfield 49871, NN, NN, .getfield 61632, NN, NN, .bipush 6, NN, .if_icmp .lt 60, NN, NN, .iconst 1, .goto 61, NN, NN, .iconst 0, .ireturn, .aload_n 0, .getfield 49871],
  [NN, NN, .getfield 61696, NN, NN, .iconst 3, .if_icmp .lt 77, NN, NN, .iconst 1, .goto 78, NN, NN, .iconst 0, .ireturn, .aload_n 0, .getfield 49871, NN, NN, .getfield 62154, NN, NN, .invokevirtual 1569, NN, NN, .ireturn, .aload_n 0, .getfield 49871, NN, NN, .getfield 62218, NN],
  [NN, .invokevirtual 1569, NN, NN, .ireturn, .aload_n 0, .getfield 49871, NN, NN, .getfield 61760, NN, NN, .iconst 3, .if_icmp .lt 116, NN, NN, .iconst 1, .goto 117, NN, NN, .iconst 0, .ireturn, .aload_n 0, .getfield 49871, NN, NN, .getfield 62282, NN, NN, .invokevirtual 1569, NN, NN],
  [.ireturn, .iconst 0, .ireturn]]
def kX5_goesOn : List (List Instr) := [[.aload_n 0, .getfield 49472, NN, NN, .iconst 3, .if_icmp .ne 14, NN, NN, .aload_n 0, .invokevirtual 4865, NN, NN, .iconst 1, .ireturn, .aload_n 0, .getfield 49472, NN, NN, .ifCond .eq 27, NN, NN, .aload_n 0, .iconst 1, .invokevirtual 4770, NN, NN, .ireturn, .aload_n 0, .getfield 49871, NN, NN, .getfield 61632],
  [NN, NN, .ifCond .eq 47, NN, NN, .aload_n 0, .getfield 49871, NN, NN, .getfield 61696, NN, NN, .ifCond .ne 54, NN, NN, .aload_n 0, .bipush 6, NN, .invokevirtual 4770, NN, NN, .pop, .iconst 0, .ireturn]]
def kX5_takeTube : List (List Instr) := [[.aload_n 0, .instanceof 8, NN, .invokevirtual 6946, NN, NN, .ifCond .ne 11, NN, NN, .iconst 0, .ireturn, .aload_n 0, .iconst 2, .bipush 9, NN, .invokevirtual 7187, NN, NN, .istore_n 1, .iload_n 1, .iconst (-1), .if_icmp .eq 33, NN, NN, .aload_n 0, .instanceof 9, NN, .invokevirtual 6946, NN, NN, .ifCond .ne 35, NN],
  [NN, .iconst 0, .ireturn, .aload_n 0, .iconst 2, .bipush 6, NN, .invokevirtual 7187, NN, NN, .istore_n 2, .iload_n 2, .iconst (-1), .if_icmp .eq 57, NN, NN, .aload_n 0, .instanceof 10, NN, .invokevirtual 6946, NN, NN, .ifCond .ne 59, NN, NN, .iconst 0, .ireturn, .aload_n 0, .iconst 0, .bipush 100, NN, .invokevirtual 7187],
  [NN, NN, .istore_n 3, .iload_n 3, .iconst (-1), .if_icmp .ne 74, NN, NN, .iconst 0, .ireturn, .aload_n 0, .getfield 49871, NN, NN, .iload_n 1, .putfield 61440, NN, NN, .aload_n 0, .getfield 49871, NN, NN, .iload_n 2, .putfield 61504, NN, NN, .aload_n 0, .getfield 49871, NN, NN, .iload_n 3, .putfield 61568],
  [NN, NN, .iconst 1, .ireturn]]
def kX5_takePerson : List (List Instr) := [[.aload_n 0, .aload_n 0, .getfield 49871, NN, NN, .getfield 61632, NN, NN, .invokevirtual 7458, NN, NN, .ifCond .ne 16, NN, NN, .iconst 0, .ireturn, .aload_n 0, .instanceof 11, NN, .invokevirtual 5410, NN, NN, .ifCond .eq 29, NN, NN, .iconst 0, .goto 56, NN, NN, .aload_n 0, .instanceof 12, NN],
  [.invokevirtual 5410, NN, NN, .ifCond .eq 42, NN, NN, .iconst 1, .goto 56, NN, NN, .aload_n 0, .instanceof 13, NN, .invokevirtual 5410, NN, NN, .ifCond .eq 55, NN, NN, .iconst 2, .goto 56, NN, NN, .iconst (-1), .istore_n 1, .iload_n 1, .iconst (-1), .if_icmp .ne 68, NN, NN, .aload_n 0, .iconst 1],
  [.invokevirtual 4770, NN, NN, .ireturn, .aload_n 0, .invokevirtual 4865, NN, NN, .aload_n 0, .instanceof 14, NN, .invokevirtual 6946, NN, NN, .ifCond .eq 98, NN, NN, .aload_n 0, .iconst 0, .aload_n 0, .getfield 49871, NN, NN, .getfield 61504, NN, NN, .iconst 1, .isub, .invokevirtual 7075, NN, NN, .ifCond .ne 100],
  [NN, NN, .iconst 0, .ireturn, .aload_n 0, .getfield 49871, NN, NN, .aload_n 0, .getfield 49601, NN, NN, .l2i, .invokevirtual 11682, NN, NN, .ifCond .eq 121, NN, NN, .aload_n 0, .iconst 3, .invokevirtual 4770, NN, NN, .ireturn, .aload_n 0, .getfield 49871, NN, NN, .iload_n 1, .aload_n 0, .getfield 49601],
  [NN, NN, .l2i, .invokevirtual 46083, NN, NN, .aload_n 0, .invokevirtual 4865, NN, NN, .iconst 1, .ireturn]]
def kX5_takeTurn : List (List Instr) := [[.aload_n 0, .iconst (-1), .invokevirtual 7458, NN, NN, .ifCond .ne 10, NN, NN, .iconst 0, .ireturn, .iconst 0, .istore_n 1, .iconst 0, .istore_n 2, .iconst 0, .istore_n 3, .iload_n 3, .aload_n 0, .getfield 49871, NN, NN, .getfield 61504, NN, NN, .if_icmp .ge 94, NN, NN, .aload_n 0, .iconst 0, .aload_n 0, .getfield 49871, NN],
  [NN, .getfield 61504, NN, NN, .iconst 1, .isub, .invokevirtual 7075, NN, NN, .ifCond .ne 46, NN, NN, .iconst 0, .ireturn, .aload_n 0, .getfield 49601, NN, NN, .l2i, .istore 4, NN, .iload_n 2, .iload 4, NN, .ishr, .iconst 1, .iand, .iconst 1, .if_icmp .ne 69, NN, NN, .aload_n 0],
  [.iconst 3, .invokevirtual 4770, NN, NN, .ireturn, .iload_n 2, .iconst 1, .iload 4, NN, .ishl, .ior, .istore_n 2, .iload_n 1, .iload_n 3, .iload 4, NN, .invokestatic 9107, NN, NN, .istore_n 1, .aload_n 0, .invokevirtual 4865, NN, NN, .iinc 3 1, NN, NN, .goto 16, NN, NN, .aload_n 0, .getfield 49871],
  [NN, NN, .iload_n 1, .invokevirtual 46210, NN, NN, .iconst 1, .ireturn]]
def kX5_takeQuarrel : List (List Instr) := [[.aload_n 0, .invokevirtual 7697, NN, NN, .istore_n 1, .iload_n 1, .iconst (-1), .if_icmp .ne 12, NN, NN, .iconst 0, .ireturn, .aload_n 0, .invokevirtual 7569, NN, NN, .istore_n 2, .iload_n 2, .iconst (-1), .if_icmp .ne 24, NN, NN, .iconst 0, .ireturn, .iload_n 2, .iload_n 1, .if_icmp .eq 48, NN, NN, .aload_n 0, .getfield 49871, NN],
  [NN, .getfield 62154, NN, NN, .iload_n 1, .invokevirtual 1810, NN, NN, .iload_n 2, .ishr, .iconst 1, .iand, .iconst 1, .if_icmp .ne 54, NN, NN, .aload_n 0, .iconst 3, .invokevirtual 4770, NN, NN, .ireturn, .aload_n 0, .getfield 49871, NN, NN, .getfield 62154, NN, NN, .iload_n 1, .iload_n 2, .iconst 1],
  [.invokevirtual 1668, NN, NN, .aload_n 0, .invokevirtual 4865, NN, NN, .iconst 1, .ireturn]]
def kX5_takeWish : List (List Instr) := [[.aload_n 0, .invokevirtual 7697, NN, NN, .istore_n 2, .iload_n 2, .iconst (-1), .if_icmp .ne 14, NN, NN, .iconst (-1), .goto 19, NN, NN, .aload_n 0, .iload_n 2, .invokevirtual 7826, NN, NN, .istore_n 3, .iload_n 3, .iconst (-1), .if_icmp .ne 27, NN, NN, .iconst 0, .ireturn, .aload_n 0, .getfield 49871, NN, NN, .getfield 62218],
  [NN, NN, .iload_n 2, .iload_n 3, .iload_n 1, .invokevirtual 1668, NN, NN, .iconst 1, .ireturn]]
def kX5_takeUnsure : List (List Instr) := [[.aload_n 0, .invokevirtual 7569, NN, NN, .istore_n 1, .iload_n 1, .iconst (-1), .if_icmp .ne 12, NN, NN, .iconst 0, .ireturn, .aload_n 0, .getfield 49871, NN, NN, .iload_n 1, .invokevirtual 11810, NN, NN, .ifCond .eq 29, NN, NN, .aload_n 0, .iconst 3, .invokevirtual 4770, NN, NN, .ireturn, .aload_n 0, .invokevirtual 4865, NN],
  [NN, .aload_n 0, .iconst 0, .aload_n 0, .getfield 49871, NN, NN, .getfield 61504, NN, NN, .iconst 1, .isub, .invokevirtual 7187, NN, NN, .istore_n 2, .iload_n 2, .iconst (-1), .if_icmp .ne 55, NN, NN, .iconst 0, .ireturn, .aload_n 0, .getfield 49871, NN, NN, .iload_n 1, .iload_n 2, .invokevirtual 46339, NN, NN],
  [.iconst 1, .ireturn]]
def kX5_takeSeen : List (List Instr) := [[.aload_n 0, .invokevirtual 7697, NN, NN, .istore_n 1, .iload_n 1, .iconst (-1), .if_icmp .ne 14, NN, NN, .iconst (-1), .goto 19, NN, NN, .aload_n 0, .iload_n 1, .invokevirtual 7826, NN, NN, .istore_n 2, .iload_n 2, .iconst (-1), .if_icmp .ne 27, NN, NN, .iconst 0, .ireturn, .aload_n 0, .instanceof 15, NN, .invokevirtual 5410, NN],
  [NN, .istore_n 3, .iload_n 3, .ifCond .ne 54, NN, NN, .aload_n 0, .checkcast 16, NN, NN, .invokevirtual 5410, NN, NN, .ifCond .ne 54, NN, NN, .aload_n 0, .iconst 1, .invokevirtual 4770, NN, NN, .ireturn, .aload_n 0, .getfield 49871, NN, NN, .getfield 62282, NN, NN, .iload_n 1, .iload_n 2, .iload_n 3],
  [.invokevirtual 1668, NN, NN, .aload_n 0, .invokevirtual 4865, NN, NN, .iconst 1, .ireturn]]
def kX5_takeThis : List (List Instr) := [[.aload_n 0, .aload_n 1, .invokevirtual 5410, NN, NN, .ifCond .ne 14, NN, NN, .aload_n 0, .iconst 1, .invokevirtual 4770, NN, NN, .ireturn, .aload_n 0, .invokevirtual 4865, NN, NN, .iconst 1, .ireturn]]
def kX5_isBetween : List (List Instr) := [[.aload_n 0, .getfield 49472, NN, NN, .iconst 2, .if_icmp .eq 14, NN, NN, .aload_n 0, .iconst 1, .invokevirtual 4770, NN, NN, .ireturn, .aload_n 0, .getfield 49601, NN, NN, .iload_n 1, .i2l, .lcmp, .ifCond .lt 34, NN, NN, .aload_n 0, .getfield 49601, NN, NN, .iload_n 2, .i2l, .lcmp, .ifCond .le 40],
  [NN, NN, .aload_n 0, .iconst 4, .invokevirtual 4770, NN, NN, .ireturn, .iconst 1, .ireturn]]
def kX5_takeBetween : List (List Instr) := [[.aload_n 0, .iload_n 1, .iload_n 2, .invokevirtual 7075, NN, NN, .ifCond .ne 11, NN, NN, .iconst (-1), .ireturn, .aload_n 0, .getfield 49601, NN, NN, .l2i, .istore_n 3, .aload_n 0, .invokevirtual 4865, NN, NN, .iload_n 3, .ireturn]]
def kX5_nameHere : List (List Instr) := [[.iconst 0, .istore_n 1, .iload_n 1, .aload_n 0, .getfield 49792, NN, NN, .if_icmp .ge 32, NN, NN, .aload_n 0, .getfield 49669, NN, NN, .iload_n 1, .laload, .aload_n 0, .getfield 49601, NN, NN, .lcmp, .ifCond .ne 26, NN, NN, .iload_n 1, .ireturn, .iinc 1 1, NN, NN, .goto 2, NN, NN],
  [.iconst (-1), .ireturn]]
def kX5_takeNewName : List (List Instr) := [[.aload_n 0, .getfield 49472, NN, NN, .iconst 1, .if_icmp .ne 16, NN, NN, .aload_n 0, .invokevirtual 5521, NN, NN, .iconst (-1), .if_icmp .eq 22, NN, NN, .aload_n 0, .iconst 1, .invokevirtual 4770, NN, NN, .ireturn, .aload_n 0, .invokevirtual 7313, NN, NN, .iconst (-1), .if_icmp .eq 36, NN, NN, .aload_n 0, .iconst 3],
  [.invokevirtual 4770, NN, NN, .ireturn, .aload_n 0, .getfield 49792, NN, NN, .bipush 9, NN, .if_icmp .ge 78, NN, NN, .aload_n 0, .getfield 49669, NN, NN, .aload_n 0, .getfield 49792, NN, NN, .aload_n 0, .getfield 49601, NN, NN, .lastore, .aload_n 0, .getfield 49732, NN, NN, .aload_n 0, .getfield 49792],
  [NN, NN, .iload_n 1, .iastore, .aload_n 0, .dup, .getfield 49792, NN, NN, .iconst 1, .iadd, .putfield 49792, NN, NN, .aload_n 0, .invokevirtual 4865, NN, NN, .iconst 1, .ireturn]]
def kX5_personHere : List (List Instr) := [[.aload_n 0, .getfield 49472, NN, NN, .iconst 1, .if_icmp .ne 16, NN, NN, .aload_n 0, .invokevirtual 5521, NN, NN, .iconst (-1), .if_icmp .eq 24, NN, NN, .aload_n 0, .iconst 1, .invokevirtual 4770, NN, NN, .pop, .iconst (-1), .ireturn, .aload_n 0, .invokevirtual 7313, NN, NN, .istore_n 1, .iload_n 1, .iconst (-1), .if_icmp .ne 38],
  [NN, NN, .iconst (-1), .goto 44, NN, NN, .aload_n 0, .getfield 49732, NN, NN, .iload_n 1, .iaload, .istore_n 2, .iload_n 2, .iconst (-1), .if_icmp .ne 56, NN, NN, .aload_n 0, .iconst 2, .invokevirtual 4770, NN, NN, .pop, .iload_n 2, .ireturn]]
def kX5_takePersonsName : List (List Instr) := [[.aload_n 0, .invokevirtual 7569, NN, NN, .istore_n 1, .iload_n 1, .iconst (-1), .if_icmp .eq 14, NN, NN, .aload_n 0, .invokevirtual 4865, NN, NN, .iload_n 1, .ireturn]]
def kX5_takeAnother : List (List Instr) := [[.aload_n 0, .invokevirtual 7569, NN, NN, .istore_n 2, .iload_n 2, .iconst (-1), .if_icmp .ne 12, NN, NN, .iconst (-1), .ireturn, .iload_n 2, .iload_n 1, .if_icmp .ne 25, NN, NN, .aload_n 0, .iconst 3, .invokevirtual 4770, NN, NN, .pop, .iconst (-1), .ireturn, .aload_n 0, .invokevirtual 4865, NN, NN, .iload_n 2, .ireturn]]
def kX6_init : List (List Instr) := [[.aload_n 0, .invokespecial 128385, NN, NN, .aload_n 0, .bipush 64, NN, .newarray .long, NN, .putfield 53253, NN, NN, .aload_n 0, .bipush 64, NN, .newarray .long, NN, .putfield 53317, NN, NN, .aload_n 0, .iconst 0, .putfield 53376, NN, NN, .aload_n 0, .iconst 0, .putfield 53440, NN, NN, .return_]]
def kX6_spread : List (List Instr) := [[.aload_n 0, .aload_n 1, .getfield 61504, NN, NN, .putfield 53376, NN, NN, .iconst 0, .istore 5, NN, .iload 5, NN, .bipush 64, NN, .if_icmp .ge 32, NN, NN, .aload_n 0, .getfield 53253, NN, NN, .iload 5, NN, .lconst 0, .lastore, .iinc 5 1, NN, NN, .goto 11, NN, NN],
  [.aload_n 0, .getfield 53253, NN, NN, .iload_n 2, .iload_n 3, .invokestatic 8210, NN, NN, .lconst 1, .lastore, .iconst 0, .istore 5, NN, .iload 5, NN, .iload 4, NN, .if_icmp .ge 64, NN, NN, .aload_n 0, .aload_n 1, .invokevirtual 8322, NN, NN, .iinc 5 1, NN, NN, .goto 46, NN, NN],
  [.return_]]
def kX6_state : List (List Instr) := [[.iload_n 0, .bipush 7, NN, .iand, .iconst 3, .ishl, .iload_n 1, .bipush 7, NN, .iand, .ior, .ireturn]]
def kX6_shakeOnce : List (List Instr) := [[.bipush 100, NN, .aload_n 1, .getfield 61568, NN, NN, .isub, .aload_n 1, .getfield 61696, NN, NN, .imul, .i2l, .lstore_n 2, .iconst 0, .istore 4, NN, .iload 4, NN, .bipush 64, NN, .if_icmp .ge 46, NN, NN, .aload_n 0, .getfield 53317, NN, NN, .iload 4, NN, .aload_n 0, .getfield 53253],
  [NN, NN, .iload 4, NN, .laload, .lload_n 2, .lmul, .lastore, .iinc 4 1, NN, NN, .goto 17, NN, NN, .iconst 0, .istore 4, NN, .iload 4, NN, .bipush 64, NN, .if_icmp .ge 148, NN, NN, .aload_n 0, .getfield 53253, NN, NN, .iload 4, NN, .laload, .lconst 0],
  [.lcmp, .ifCond .eq 142, NN, NN, .iconst 0, .istore 5, NN, .iload 5, NN, .aload_n 1, .getfield 61696, NN, NN, .if_icmp .ge 142, NN, NN, .aload_n 1, .getfield 61956, NN, NN, .iload 5, NN, .iaload, .istore 6, NN, .iload 6, NN, .iload 4, NN, .iconst 3, .ishr, .invokestatic 8978],
  [NN, NN, .iload 6, NN, .iload 4, NN, .bipush 7, NN, .iand, .invokestatic 8978, NN, NN, .invokestatic 8210, NN, NN, .istore 7, NN, .aload_n 0, .getfield 53317, NN, NN, .iload 7, NN, .dup2, .laload, .aload_n 0, .getfield 53253, NN, NN, .iload 4, NN, .laload],
  [.aload_n 1, .getfield 61568, NN, NN, .i2l, .lmul, .ladd, .lastore, .iinc 5 1, NN, NN, .goto 71, NN, NN, .iinc 4 1, NN, NN, .goto 49, NN, NN, .aload_n 0, .getfield 53317, NN, NN, .iconst 0, .aload_n 0, .getfield 53253, NN, NN, .iconst 0, .bipush 64, NN],
  [.invokestatic 128261, NN, NN, .return_]]
def kX6_besideWeight : List (List Instr) := [[.lconst 0, .lstore_n 1, .iconst 0, .istore_n 3, .iload_n 3, .iconst 1, .iadd, .aload_n 0, .getfield 53376, NN, NN, .if_icmp .ge 48, NN, NN, .lload_n 1, .aload_n 0, .getfield 53253, NN, NN, .iload_n 3, .iload_n 3, .iconst 1, .iadd, .invokestatic 8210, NN, NN, .laload, .aload_n 0, .getfield 53253, NN, NN, .iload_n 3],
  [.iconst 1, .iadd, .iload_n 3, .invokestatic 8210, NN, NN, .laload, .ladd, .ladd, .lstore_n 1, .iinc 3 1, NN, NN, .goto 4, NN, NN, .lload_n 1, .lreturn]]
def kX6_weightIn : List (List Instr) := [[.aload_n 0, .getfield 53253, NN, NN, .iload_n 1, .iload_n 1, .invokestatic 8210, NN, NN, .laload, .lreturn]]
def kX6_draw : List (List Instr) := [[.aload_n 0, .bipush 75, NN, .aload_n 0, .getfield 53440, NN, NN, .imul, .bipush 74, NN, .iadd, .ldc 65537, NN, .irem, .putfield 53440, NN, NN, .aload_n 0, .getfield 53440, NN, NN, .ireturn]]
def kX6_drawnShake : List (List Instr) := [[.aload_n 1, .getfield 61696, NN, NN, .ifCond .eq 21, NN, NN, .aload_n 0, .invokevirtual 8721, NN, NN, .bipush 100, NN, .irem, .aload_n 1, .getfield 61568, NN, NN, .if_icmp .lt 23, NN, NN, .iload_n 2, .ireturn, .iload_n 2, .aload_n 1, .getfield 61956, NN, NN, .aload_n 0, .invokevirtual 8721, NN, NN],
  [.aload_n 1, .getfield 61696, NN, NN, .irem, .iaload, .aload_n 1, .getfield 61632, NN, NN, .invokestatic 9619, NN, NN, .ireturn]]
def kX7_at : List (List Instr) := [[.iload_n 0, .iconst 3, .iload_n 1, .imul, .ishr, .bipush 7, NN, .iand, .ireturn]]
def kX7_with : List (List Instr) := [[.iload_n 0, .bipush 7, NN, .iconst 3, .iload_n 1, .imul, .ishl, .iconst (-1), .ixor, .iand, .iload_n 2, .iconst 3, .iload_n 1, .imul, .ishl, .ior, .ireturn]]
def kX7_areBeside : List (List Instr) := [[.iload_n 0, .iload_n 1, .isub, .iconst 1, .if_icmp .eq 14, NN, NN, .iload_n 1, .iload_n 0, .isub, .iconst 1, .if_icmp .ne 18, NN, NN, .iconst 1, .goto 19, NN, NN, .iconst 0, .ireturn]]
def kX7_same : List (List Instr) := [[.ldc 181896, NN, .iconst 1, .iconst 3, .iload_n 0, .imul, .ishl, .iconst 1, .isub, .iand, .ireturn]]
def kX7_otherWayRound : List (List Instr) := [[.iconst 0, .istore_n 1, .iconst 0, .istore_n 2, .iload_n 2, .iload_n 0, .if_icmp .ge 27, NN, NN, .iload_n 1, .iload_n 0, .iconst 1, .isub, .iload_n 2, .isub, .iconst 3, .iload_n 2, .imul, .ishl, .ior, .istore_n 1, .iinc 2 1, NN, NN, .goto 4, NN, NN, .iload_n 1, .ireturn]]
def kX7_through : List (List Instr) := [[.iconst 0, .istore_n 3, .iconst 0, .istore 4, NN, .iload 4, NN, .iload_n 2, .if_icmp .ge 35, NN, NN, .iload_n 3, .iload_n 1, .iload_n 0, .iload 4, NN, .invokestatic 8978, NN, NN, .invokestatic 8978, NN, NN, .iconst 3, .iload 4, NN, .imul, .ishl, .ior, .istore_n 3, .iinc 4 1, NN, NN],
  [.goto 5, NN, NN, .iload_n 3, .ireturn]]
def kX7_inverse : List (List Instr) := [[.iconst 0, .istore_n 2, .iconst 0, .istore_n 3, .iload_n 3, .iload_n 1, .if_icmp .ge 27, NN, NN, .iload_n 2, .iload_n 3, .iconst 3, .iload_n 0, .iload_n 3, .invokestatic 8978, NN, NN, .imul, .ishl, .ior, .istore_n 2, .iinc 3 1, NN, NN, .goto 4, NN, NN, .iload_n 2, .ireturn]]
def kX7_commuting : List (List Instr) := [[.iload_n 0, .iload_n 1, .iload_n 2, .invokestatic 9619, NN, NN, .iload_n 1, .iload_n 0, .iload_n 2, .invokestatic 9619, NN, NN, .if_icmp .ne 19, NN, NN, .iconst 1, .goto 20, NN, NN, .iconst 0, .ireturn]]
def kX7_fixed : List (List Instr) := [[.iconst 0, .istore_n 2, .iconst 0, .istore_n 3, .iload_n 3, .iload_n 1, .if_icmp .ge 32, NN, NN, .iload_n 2, .iload_n 0, .iload_n 3, .invokestatic 8978, NN, NN, .iload_n 3, .if_icmp .ne 23, NN, NN, .iconst 1, .goto 24, NN, NN, .iconst 0, .iadd, .istore_n 2, .iinc 3 1, NN, NN, .goto 4, NN, NN],
  [.iload_n 2, .ireturn]]
def kX7_cycles : List (List Instr) := [[.iconst 0, .istore_n 2, .iconst 0, .istore_n 3, .iconst 0, .istore 4, NN, .iload 4, NN, .iload_n 1, .if_icmp .ge 74, NN, NN, .iload_n 2, .iload 4, NN, .ishr, .iconst 1, .iand, .ifCond .ne 25, NN, NN, .iinc 3 1, NN, NN, .iload 4, NN, .istore 5, NN, .iconst 0, .istore 6, NN],
  [.iload 6, NN, .iload_n 1, .if_icmp .ge 68, NN, NN, .iload_n 2, .iload 5, NN, .ishr, .iconst 1, .iand, .ifCond .ne 68, NN, NN, .iload_n 2, .iconst 1, .iload 5, NN, .ishl, .ior, .istore_n 2, .iload_n 0, .iload 5, NN, .invokestatic 8978, NN, NN, .istore 5, NN, .iinc 6 1, NN],
  [NN, .goto 32, NN, NN, .iinc 4 1, NN, NN, .goto 7, NN, NN, .iload_n 3, .ireturn]]
def kX7_isEven : List (List Instr) := [[.iload_n 1, .iload_n 0, .isub, .iconst 2, .irem, .ifCond .ne 12, NN, NN, .iconst 1, .goto 13, NN, NN, .iconst 0, .ireturn]]
def kX7_order : List (List Instr) := [[.iload_n 0, .istore_n 2, .iconst 1, .istore_n 3, .iconst 0, .istore 4, NN, .iload 4, NN, .sipush 720, NN, NN, .if_icmp .ge 39, NN, NN, .iload_n 2, .iload_n 1, .invokestatic 9361, NN, NN, .if_icmp .eq 39, NN, NN, .iload_n 2, .iload_n 0, .iload_n 1, .invokestatic 9619, NN, NN, .istore_n 2, .iinc 3 1, NN],
  [NN, .iinc 4 1, NN, NN, .goto 7, NN, NN, .iload_n 3, .ireturn]]
def kX7_rank : List (List Instr) := [[.iconst 0, .istore_n 2, .iconst 0, .istore_n 3, .iconst 0, .istore 4, NN, .iload 4, NN, .iload_n 1, .if_icmp .ge 60, NN, NN, .iload_n 0, .iload 4, NN, .invokestatic 8978, NN, NN, .istore 5, NN, .iload_n 3, .iconst 1, .iload 5, NN, .ishl, .iconst 1, .isub, .iand, .invokestatic 45841, NN, NN],
  [.istore 6, NN, .iload_n 2, .iload_n 1, .iload 4, NN, .isub, .imul, .iload 5, NN, .iadd, .iload 6, NN, .isub, .istore_n 2, .iload_n 3, .iconst 1, .iload 5, NN, .ishl, .ior, .istore_n 3, .iinc 4 1, NN, NN, .goto 7, NN, NN, .iload_n 2, .ireturn]]
def kX8_init : List (List Instr) := [[.aload_n 0, .invokespecial 128385, NN, NN, .aload_n 0, .iconst 0, .putfield 57344, NN, NN, .aload_n 0, .bipush 16, NN, .newarray .int, NN, .putfield 57412, NN, NN, .aload_n 0, .iconst 0, .putfield 57472, NN, NN, .aload_n 0, .iconst 3, .newarray .int, NN, .putfield 57540, NN, NN, .aload_n 0, .iconst 0, .putfield 57600],
  [NN, NN, .return_]]
def kX8_begin : List (List Instr) := [[.aload_n 0, .iload_n 1, .putfield 57344, NN, NN, .aload_n 0, .iconst 0, .putfield 57472, NN, NN, .aload_n 0, .iconst 0, .putfield 57600, NN, NN, .return_]]
def kX8_act : List (List Instr) := [[.aload_n 0, .getfield 57472, NN, NN, .bipush 16, NN, .if_icmp .ne 34, NN, NN, .aload_n 0, .getfield 57412, NN, NN, .iconst 1, .aload_n 0, .getfield 57412, NN, NN, .iconst 0, .bipush 15, NN, .invokestatic 128261, NN, NN, .aload_n 0, .dup, .getfield 57472, NN, NN, .iconst 1, .isub, .putfield 57472],
  [NN, NN, .aload_n 0, .getfield 57412, NN, NN, .aload_n 0, .getfield 57472, NN, NN, .aload_n 0, .getfield 57344, NN, NN, .iastore, .aload_n 0, .dup, .getfield 57472, NN, NN, .iconst 1, .iadd, .putfield 57472, NN, NN, .aload_n 0, .iload_n 1, .putfield 57344, NN, NN, .return_]]
def kX8_takeBack : List (List Instr) := [[.aload_n 0, .getfield 57472, NN, NN, .ifCond .le 30, NN, NN, .aload_n 0, .dup, .getfield 57472, NN, NN, .iconst 1, .isub, .putfield 57472, NN, NN, .aload_n 0, .aload_n 0, .getfield 57412, NN, NN, .aload_n 0, .getfield 57472, NN, NN, .iaload, .putfield 57344, NN, NN, .return_]]
def kX8_keepImage : List (List Instr) := [[.aload_n 0, .getfield 57600, NN, NN, .iconst 3, .if_icmp .lt 10, NN, NN, .iconst (-1), .ireturn, .aload_n 0, .getfield 57540, NN, NN, .aload_n 0, .getfield 57600, NN, NN, .aload_n 0, .getfield 57344, NN, NN, .iastore, .aload_n 0, .dup, .getfield 57600, NN, NN, .iconst 1, .iadd, .putfield 57600, NN],
  [NN, .aload_n 0, .getfield 57600, NN, NN, .iconst 1, .isub, .ireturn]]
def kX8_goBack : List (List Instr) := [[.iload_n 1, .ifCond .lt 27, NN, NN, .iload_n 1, .aload_n 0, .getfield 57600, NN, NN, .if_icmp .ge 27, NN, NN, .aload_n 0, .aload_n 0, .getfield 57540, NN, NN, .iload_n 1, .iaload, .putfield 57344, NN, NN, .aload_n 0, .iconst 0, .putfield 57472, NN, NN, .return_]]
def kX9_init : List (List Instr) := [[.aload_n 0, .invokespecial 128385, NN, NN, .aload_n 0, .iconst 0, .putfield 61440, NN, NN, .aload_n 0, .iconst 0, .putfield 61504, NN, NN, .aload_n 0, .iconst 0, .putfield 61568, NN, NN, .aload_n 0, .iconst 0, .putfield 61632, NN, NN, .aload_n 0, .iconst 0, .putfield 61696, NN, NN, .aload_n 0, .iconst 0, .putfield 61760],
  [NN, NN, .aload_n 0, .bipush 6, NN, .newarray .int, NN, .putfield 61828, NN, NN, .aload_n 0, .bipush 6, NN, .newarray .int, NN, .putfield 61892, NN, NN, .aload_n 0, .iconst 3, .newarray .int, NN, .putfield 61956, NN, NN, .aload_n 0, .iconst 3, .newarray .int, NN, .putfield 62020, NN, NN],
  [.aload_n 0, .iconst 3, .newarray .int, NN, .putfield 62084, NN, NN, .aload_n 0, .new 10, NN, NN, .dup, .bipush 6, NN, .invokespecial 1410, NN, NN, .putfield 62154, NN, NN, .aload_n 0, .new 10, NN, NN, .dup, .iconst 4, .invokespecial 1410, NN, NN, .putfield 62218, NN, NN],
  [.aload_n 0, .new 10, NN, NN, .dup, .iconst 5, .invokespecial 1410, NN, NN, .putfield 62282, NN, NN, .return_]]
def kX9_clear : List (List Instr) := [[.aload_n 0, .iconst 0, .putfield 61440, NN, NN, .aload_n 0, .iconst 0, .putfield 61504, NN, NN, .aload_n 0, .iconst 0, .putfield 61568, NN, NN, .aload_n 0, .iconst 0, .putfield 61632, NN, NN, .aload_n 0, .iconst 0, .putfield 61696, NN, NN, .aload_n 0, .iconst 0, .putfield 61760, NN, NN, .aload_n 0, .getfield 62154],
  [NN, NN, .iconst 0, .putfield 41152, NN, NN, .aload_n 0, .getfield 62218, NN, NN, .iconst 0, .putfield 41152, NN, NN, .aload_n 0, .getfield 62282, NN, NN, .iconst 0, .putfield 41152, NN, NN, .return_]]
def kX9_isHome : List (List Instr) := [[.iconst 0, .istore_n 2, .iload_n 2, .aload_n 0, .getfield 61632, NN, NN, .if_icmp .ge 28, NN, NN, .aload_n 0, .getfield 61892, NN, NN, .iload_n 2, .iaload, .iload_n 1, .if_icmp .ne 22, NN, NN, .iconst 1, .ireturn, .iinc 2 1, NN, NN, .goto 2, NN, NN, .iconst 0, .ireturn]]
def kX9_isUnsure : List (List Instr) := [[.iconst 0, .istore_n 2, .iload_n 2, .aload_n 0, .getfield 61760, NN, NN, .if_icmp .ge 28, NN, NN, .aload_n 0, .getfield 62020, NN, NN, .iload_n 2, .iaload, .iload_n 1, .if_icmp .ne 22, NN, NN, .iconst 1, .ireturn, .iinc 2 1, NN, NN, .goto 2, NN, NN, .iconst 0, .ireturn]]
def kX9_homeStand : List (List Instr) := [[.iconst 0, .istore_n 1, .iconst 0, .istore_n 2, .iload_n 2, .aload_n 0, .getfield 61632, NN, NN, .if_icmp .ge 31, NN, NN, .iload_n 1, .aload_n 0, .getfield 61892, NN, NN, .iload_n 2, .iaload, .iconst 3, .iload_n 2, .imul, .ishl, .ior, .istore_n 1, .iinc 2 1, NN, NN, .goto 4, NN, NN, .iload_n 1],
  [.ireturn]]
def kX9_changeBy : List (List Instr) := [[.iload_n 2, .ifCond .lt 14, NN, NN, .iload_n 2, .bipush 6, NN, .if_icmp .gt 14, NN, NN, .iload_n 1, .ifCond .ge 16, NN, NN, .iconst (-1), .ireturn, .aload_n 0, .getfield 61504, NN, NN, .invokestatic 9361, NN, NN, .istore_n 3, .iload_n 1, .istore 4, NN, .iconst 0, .istore 5, NN, .iload 5, NN],
  [.iload_n 2, .if_icmp .ge 91, NN, NN, .iload 4, NN, .bipush 10, NN, .irem, .istore 6, NN, .iload 6, NN, .iconst 1, .if_icmp .lt 58, NN, NN, .iload 6, NN, .aload_n 0, .getfield 61696, NN, NN, .if_icmp .le 60, NN, NN, .iconst (-1), .ireturn, .aload_n 0, .getfield 61956, NN, NN],
  [.iload 6, NN, .iconst 1, .isub, .iaload, .iload_n 3, .aload_n 0, .getfield 61504, NN, NN, .invokestatic 9619, NN, NN, .istore_n 3, .iload 4, NN, .bipush 10, NN, .idiv, .istore 4, NN, .iinc 5 1, NN, NN, .goto 30, NN, NN, .iload 4, NN, .ifCond .ne 100, NN, NN],
  [.iload_n 3, .goto 101, NN, NN, .iconst (-1), .ireturn]]
def kX9_unsureSets : List (List Instr) := [[.iconst 1, .aload_n 0, .getfield 61760, NN, NN, .ishl, .ireturn]]
def kX9_fitting : List (List Instr) := [[.iconst 0, .istore_n 1, .iconst 0, .istore_n 2, .iload_n 2, .aload_n 0, .invokevirtual 12177, NN, NN, .if_icmp .ge 56, NN, NN, .aload_n 0, .iload_n 2, .invokevirtual 12434, NN, NN, .istore_n 3, .aload_n 0, .iload_n 3, .invokevirtual 12578, NN, NN, .ifCond .eq 50, NN, NN, .aload_n 0, .getfield 62282, NN, NN, .iload_n 3, .invokevirtual 2066],
  [NN, NN, .aload_n 0, .getfield 62282, NN, NN, .invokevirtual 1937, NN, NN, .if_icmp .ne 50, NN, NN, .iload_n 1, .iconst 1, .iload_n 2, .ishl, .ior, .istore_n 1, .iinc 2 1, NN, NN, .goto 4, NN, NN, .iload_n 1, .ireturn]]
def kX9_standBy : List (List Instr) := [[.aload_n 0, .invokevirtual 11921, NN, NN, .istore_n 2, .iconst 0, .istore_n 3, .iload_n 3, .aload_n 0, .getfield 61760, NN, NN, .if_icmp .ge 47, NN, NN, .iload_n 1, .iload_n 3, .ishr, .iconst 1, .iand, .iconst 1, .if_icmp .ne 41, NN, NN, .iload_n 2, .aload_n 0, .getfield 62020, NN, NN, .iload_n 3, .iaload, .aload_n 0],
  [.getfield 62084, NN, NN, .iload_n 3, .iaload, .invokestatic 9107, NN, NN, .istore_n 2, .iinc 3 1, NN, NN, .goto 7, NN, NN, .iload_n 2, .ireturn]]
def kX9_areUnlike : List (List Instr) := [[.iconst 0, .istore_n 2, .iconst 0, .istore_n 3, .iload_n 3, .aload_n 0, .getfield 61632, NN, NN, .if_icmp .ge 28, NN, NN, .iload_n 2, .iconst 1, .iload_n 1, .iload_n 3, .invokestatic 8978, NN, NN, .ishl, .ior, .istore_n 2, .iinc 3 1, NN, NN, .goto 4, NN, NN, .iload_n 2, .invokestatic 45841, NN, NN],
  [.aload_n 0, .getfield 61632, NN, NN, .if_icmp .ne 43, NN, NN, .iconst 1, .goto 44, NN, NN, .iconst 0, .ireturn]]
def kX9_leftAtMost : List (List Instr) := [[.iconst 0, .istore_n 3, .iconst 0, .istore 4, NN, .iload 4, NN, .aload_n 0, .invokevirtual 12177, NN, NN, .if_icmp .ge 36, NN, NN, .iload_n 3, .iload_n 1, .iload 4, NN, .ishr, .iconst 1, .iand, .iload 4, NN, .iload_n 2, .ishr, .iconst 1, .iand, .iand, .iadd, .istore_n 3, .iinc 4 1, NN],
  [NN, .goto 5, NN, NN, .iload_n 3, .iload_n 1, .invokestatic 45841, NN, NN, .iload_n 3, .isub, .invokestatic 46610, NN, NN, .ireturn]]
def kX9_shakeWeight : List (List Instr) := [[.lconst 1, .lstore_n 2, .iconst 0, .istore 4, NN, .iload 4, NN, .iload_n 1, .if_icmp .ge 28, NN, NN, .lload_n 2, .bipush 100, NN, .aload_n 0, .getfield 61696, NN, NN, .imul, .i2l, .lmul, .lstore_n 2, .iinc 4 1, NN, NN, .goto 5, NN, NN, .lload_n 2, .lreturn]]
def kX10_init : List (List Instr) := [[.aload_n 0, .invokespecial 128385, NN, NN, .aload_n 0, .new 15, NN, NN, .dup, .invokespecial 11393, NN, NN, .putfield 65551, NN, NN, .aload_n 0, .new 12, NN, NN, .dup, .invokespecial 4353, NN, NN, .putfield 65612, NN, NN, .aload_n 0, .new 14, NN, NN, .dup, .invokespecial 10625],
  [NN, NN, .putfield 65678, NN, NN, .aload_n 0, .new 11, NN, NN, .dup, .invokespecial 2305, NN, NN, .putfield 65739, NN, NN, .aload_n 0, .new 11, NN, NN, .dup, .invokespecial 2305, NN, NN, .putfield 65803, NN, NN, .aload_n 0, .new 13, NN, NN, .dup],
  [.invokespecial 7937, NN, NN, .putfield 65869, NN, NN, .aload_n 0, .iconst 0, .putfield 65920, NN, NN, .return_]]
def kX10_feed : List (List Instr) := [[.aload_n 0, .getfield 65612, NN, NN, .getfield 49280, NN, NN, .bipush 20, NN, .iadd, .sipush 700, NN, NN, .if_icmp .le 18, NN, NN, .iconst (-1), .ireturn, .aload_n 0, .getfield 65612, NN, NN, .iload_n 1, .invokevirtual 4482, NN, NN, .aload_n 0, .getfield 65612, NN, NN, .iload_n 2, .invokevirtual 4482],
  [NN, NN, .aload_n 0, .getfield 65612, NN, NN, .iload_n 3, .invokevirtual 4482, NN, NN, .aload_n 0, .getfield 65612, NN, NN, .iload 4, NN, .invokevirtual 4482, NN, NN, .aload_n 0, .getfield 65612, NN, NN, .iload 5, NN, .invokevirtual 4482, NN, NN, .aload_n 0, .getfield 65612, NN, NN],
  [.getfield 49280, NN, NN, .ireturn]]
def kX10_tube : List (List Instr) := [[.iload_n 1, .ifCond .lt 15, NN, NN, .iload_n 1, .aload_n 0, .getfield 65612, NN, NN, .getfield 49280, NN, NN, .if_icmp .le 21, NN, NN, .aload_n 0, .iconst 2, .invokevirtual 21266, NN, NN, .ireturn, .aload_n 0, .getfield 65612, NN, NN, .iload_n 1, .invokevirtual 4642, NN, NN, .ifCond .ne 38, NN, NN],
  [.aload_n 0, .iconst 4, .invokevirtual 21266, NN, NN, .ireturn, .aload_n 0, .aload_n 0, .getfield 65612, NN, NN, .aload_n 0, .getfield 65551, NN, NN, .invokevirtual 46034, NN, NN, .putfield 65551, NN, NN, .aload_n 0, .getfield 65739, NN, NN, .iconst 0, .putfield 45058, NN, NN, .aload_n 0, .getfield 65803, NN],
  [NN, .iconst 0, .putfield 45058, NN, NN, .aload_n 0, .getfield 65678, NN, NN, .aload_n 0, .getfield 65551, NN, NN, .invokevirtual 11921, NN, NN, .invokevirtual 10754, NN, NN, .aload_n 0, .aload_n 0, .getfield 65551, NN, NN, .getfield 61632, NN, NN, .invokevirtual 21394, NN, NN, .ireturn]]
def kX10_fault : List (List Instr) := [[.aload_n 0, .getfield 65612, NN, NN, .getfield 49920, NN, NN, .ireturn]]
def kX10_where : List (List Instr) := [[.aload_n 0, .getfield 65920, NN, NN, .iconst 4, .if_icmp .ne 18, NN, NN, .aload_n 0, .getfield 65612, NN, NN, .getfield 49984, NN, NN, .goto 19, NN, NN, .iconst (-1), .ireturn]]
def kX10_person : List (List Instr) := [[.aload_n 0, .iload_n 1, .invokevirtual 21794, NN, NN, .ifCond .eq 17, NN, NN, .iload_n 2, .ifCond .lt 17, NN, NN, .iload_n 2, .iconst 4, .if_icmp .le 23, NN, NN, .aload_n 0, .iconst 1, .invokevirtual 21266, NN, NN, .ireturn, .iload_n 2, .tableswitch 106 0 3 #[56, 70, 80, 90], NN, NN, NN, NN, NN, NN, NN],
  [NN, NN, NN, NN, NN, NN, NN, NN, NN, NN, NN, NN, NN, NN, NN, NN, NN, NN, NN, NN, NN, NN, NN, NN, .aload_n 0, .aload_n 0, .getfield 65551, NN, NN, .getfield 61828, NN, NN],
  [.iload_n 1, .iaload, .invokevirtual 21394, NN, NN, .ireturn, .aload_n 0, .aload_n 0, .iload_n 1, .invokevirtual 22930, NN, NN, .invokevirtual 21394, NN, NN, .ireturn, .aload_n 0, .aload_n 0, .iload_n 1, .invokevirtual 23186, NN, NN, .invokevirtual 21394, NN, NN, .ireturn, .aload_n 0, .aload_n 0, .getfield 65551, NN, NN, .getfield 62154],
  [NN, NN, .iload_n 1, .invokevirtual 1810, NN, NN, .invokevirtual 21394, NN, NN, .ireturn, .aload_n 0, .aload_n 0, .getfield 65551, NN, NN, .getfield 61892, NN, NN, .iload_n 1, .iaload, .invokevirtual 21394, NN, NN, .ireturn]]
def kX10_slot : List (List Instr) := [[.aload_n 0, .iload_n 1, .invokevirtual 22050, NN, NN, .ifCond .eq 20, NN, NN, .aload_n 0, .aload_n 0, .iload_n 1, .invokevirtual 23058, NN, NN, .invokevirtual 21394, NN, NN, .goto 25, NN, NN, .aload_n 0, .iconst 1, .invokevirtual 21266, NN, NN, .ireturn]]
def kX10_turned : List (List Instr) := [[.aload_n 0, .iload_n 1, .invokevirtual 22178, NN, NN, .ifCond .eq 16, NN, NN, .aload_n 0, .iload_n 2, .invokevirtual 22050, NN, NN, .ifCond .ne 22, NN, NN, .aload_n 0, .iconst 1, .invokevirtual 21266, NN, NN, .ireturn, .aload_n 0, .aload_n 0, .getfield 65551, NN, NN, .getfield 61956, NN, NN, .iload_n 1, .iaload],
  [.iload_n 2, .invokestatic 8978, NN, NN, .invokevirtual 21394, NN, NN, .ireturn]]
def kX10_quarrels : List (List Instr) := [[.aload_n 0, .invokevirtual 21665, NN, NN, .ifCond .eq 25, NN, NN, .aload_n 0, .aload_n 0, .aload_n 0, .getfield 65678, NN, NN, .getfield 57344, NN, NN, .invokevirtual 23314, NN, NN, .invokevirtual 21394, NN, NN, .goto 30, NN, NN, .aload_n 0, .iconst 1, .invokevirtual 21266, NN, NN, .ireturn]]
def kX10_met : List (List Instr) := [[.aload_n 0, .invokevirtual 21665, NN, NN, .ifCond .eq 31, NN, NN, .aload_n 0, .aload_n 0, .getfield 65551, NN, NN, .getfield 62218, NN, NN, .aload_n 0, .getfield 65678, NN, NN, .getfield 57344, NN, NN, .invokevirtual 2066, NN, NN, .invokevirtual 21394, NN, NN, .goto 36, NN, NN, .aload_n 0],
  [.iconst 1, .invokevirtual 21266, NN, NN, .ireturn]]
def kX10_ring : List (List Instr) := [[.aload_n 0, .iload_n 1, .invokevirtual 22306, NN, NN, .ifCond .eq 24, NN, NN, .aload_n 0, .aload_n 0, .aload_n 0, .iload_n 1, .invokevirtual 23698, NN, NN, .invokevirtual 23058, NN, NN, .invokevirtual 21394, NN, NN, .goto 29, NN, NN, .aload_n 0, .iconst 1, .invokevirtual 21266, NN, NN, .ireturn]]
def kX10_truth : List (List Instr) := [[.aload_n 0, .iload_n 1, .invokevirtual 22306, NN, NN, .ifCond .eq 20, NN, NN, .aload_n 0, .aload_n 0, .iload_n 1, .invokevirtual 23698, NN, NN, .invokevirtual 21394, NN, NN, .goto 25, NN, NN, .aload_n 0, .iconst 1, .invokevirtual 21266, NN, NN, .ireturn]]
def kX10_image : List (List Instr) := [[.aload_n 0, .iload_n 1, .invokevirtual 21794, NN, NN, .ifCond .eq 20, NN, NN, .iload_n 2, .ifCond .lt 20, NN, NN, .iload_n 2, .aload_n 0, .invokevirtual 23441, NN, NN, .if_icmp .lt 26, NN, NN, .aload_n 0, .iconst 1, .invokevirtual 21266, NN, NN, .ireturn, .aload_n 0, .aload_n 0, .iload_n 2, .aload_n 0, .iload_n 1, .invokevirtual 22930],
  [NN, NN, .invokevirtual 23827, NN, NN, .invokevirtual 21394, NN, NN, .ireturn]]
def kX10_selves : List (List Instr) := [[.aload_n 0, .invokevirtual 21665, NN, NN, .ifCond .ne 13, NN, NN, .aload_n 0, .iconst 1, .invokevirtual 21266, NN, NN, .ireturn, .iconst 0, .istore_n 1, .aload_n 0, .invokevirtual 23569, NN, NN, .istore_n 2, .iconst 0, .istore_n 3, .iload_n 3, .iload_n 2, .if_icmp .ge 87, NN, NN, .iload_n 3, .iconst 1, .iadd, .iload_n 2, .if_icmp .ge 40],
  [NN, NN, .iload_n 3, .iconst 1, .iadd, .goto 41, NN, NN, .iconst 0, .istore 4, NN, .aload_n 0, .aload_n 0, .iload_n 3, .invokevirtual 23698, NN, NN, .invokevirtual 23058, NN, NN, .istore 5, NN, .iload 5, NN, .ifCond .lt 81, NN, NN, .iload 5, NN, .aload_n 0, .aload_n 0, .iload 4],
  [NN, .invokevirtual 23698, NN, NN, .invokevirtual 23058, NN, NN, .if_icmp .ne 81, NN, NN, .iload_n 1, .iconst 1, .iload 5, NN, .ishl, .ior, .istore_n 1, .iinc 3 1, NN, NN, .goto 22, NN, NN, .aload_n 0, .iload_n 1, .invokevirtual 21394, NN, NN, .ireturn]]
def kX10_near : List (List Instr) := [[.aload_n 0, .iload_n 1, .iload_n 2, .invokevirtual 21923, NN, NN, .ifCond .ne 15, NN, NN, .aload_n 0, .iconst 1, .invokevirtual 21266, NN, NN, .ireturn, .aload_n 0, .invokevirtual 23569, NN, NN, .istore_n 3, .iconst 0, .istore 4, NN, .iload 4, NN, .aload_n 0, .invokevirtual 23441, NN, NN, .if_icmp .ge 101, NN, NN],
  [.iconst 0, .istore 5, NN, .iload 5, NN, .aload_n 0, .invokevirtual 23441, NN, NN, .if_icmp .ge 95, NN, NN, .aload_n 0, .iload 4, NN, .aload_n 0, .iload_n 1, .invokevirtual 22930, NN, NN, .invokevirtual 23827, NN, NN, .aload_n 0, .iload 5, NN, .aload_n 0, .iload_n 2, .invokevirtual 22930, NN, NN, .invokevirtual 23827],
  [NN, NN, .isub, .invokestatic 46481, NN, NN, .istore 6, NN, .iload_n 3, .iload 6, NN, .aload_n 0, .invokevirtual 23569, NN, NN, .iload 6, NN, .isub, .invokestatic 46738, NN, NN, .invokestatic 46738, NN, NN, .istore_n 3, .iinc 5 1, NN, NN, .goto 35, NN, NN, .iinc 4 1],
  [NN, NN, .goto 23, NN, NN, .aload_n 0, .iload_n 3, .invokevirtual 21394, NN, NN, .ireturn]]
def kX10_seenIn : List (List Instr) := [[.aload_n 0, .invokevirtual 21665, NN, NN, .ifCond .eq 16, NN, NN, .iload_n 1, .ifCond .lt 16, NN, NN, .iload_n 1, .iconst 2, .if_icmp .le 22, NN, NN, .aload_n 0, .iconst 1, .invokevirtual 21266, NN, NN, .ireturn, .iconst 0, .istore_n 2, .iconst 0, .istore_n 3, .iload_n 3, .aload_n 0, .getfield 65551, NN, NN, .getfield 61632],
  [NN, NN, .if_icmp .ge 63, NN, NN, .aload_n 0, .getfield 65551, NN, NN, .getfield 61828, NN, NN, .iload_n 3, .iaload, .iload_n 1, .if_icmp .ne 57, NN, NN, .iload_n 2, .aload_n 0, .invokevirtual 23441, NN, NN, .iadd, .istore_n 2, .iinc 3 1, NN, NN, .goto 26, NN, NN, .aload_n 0],
  [.iload_n 2, .invokevirtual 21394, NN, NN, .ireturn]]
def kX10_slides : List (List Instr) := [[.aload_n 0, .iload_n 1, .invokevirtual 22050, NN, NN, .ifCond .ne 14, NN, NN, .aload_n 0, .iconst 1, .invokevirtual 21266, NN, NN, .ireturn, .aload_n 0, .getfield 65551, NN, NN, .iload_n 2, .iload_n 3, .invokevirtual 12051, NN, NN, .istore 4, NN, .iload 4, NN, .iconst (-1), .if_icmp .ne 39, NN, NN, .aload_n 0],
  [.iconst 2, .invokevirtual 21266, NN, NN, .goto 49, NN, NN, .aload_n 0, .iload 4, NN, .iload_n 1, .invokestatic 8978, NN, NN, .invokevirtual 21394, NN, NN, .ireturn]]
def kX10_round : List (List Instr) := [[.aload_n 0, .invokevirtual 21665, NN, NN, .ifCond .ne 13, NN, NN, .aload_n 0, .iconst 1, .invokevirtual 21266, NN, NN, .ireturn, .aload_n 0, .getfield 65551, NN, NN, .iload_n 1, .iload_n 2, .invokevirtual 12051, NN, NN, .istore_n 3, .iload_n 3, .iconst (-1), .if_icmp .ne 36, NN, NN, .aload_n 0, .iconst 2, .invokevirtual 21266, NN],
  [NN, .goto 51, NN, NN, .aload_n 0, .iload_n 3, .aload_n 0, .getfield 65551, NN, NN, .getfield 61504, NN, NN, .invokestatic 10386, NN, NN, .invokevirtual 21394, NN, NN, .ireturn]]
def kX10_even : List (List Instr) := [[.aload_n 0, .invokevirtual 21665, NN, NN, .ifCond .ne 13, NN, NN, .aload_n 0, .iconst 1, .invokevirtual 21266, NN, NN, .ireturn, .aload_n 0, .getfield 65551, NN, NN, .iload_n 1, .iload_n 2, .invokevirtual 12051, NN, NN, .istore_n 3, .iload_n 3, .iconst (-1), .if_icmp .ne 34, NN, NN, .aload_n 0, .iconst 2, .invokevirtual 21266, NN],
  [NN, .ireturn, .aload_n 0, .iload_n 3, .aload_n 0, .getfield 65551, NN, NN, .getfield 61504, NN, NN, .invokestatic 10130, NN, NN, .aload_n 0, .getfield 65551, NN, NN, .getfield 61504, NN, NN, .invokestatic 10274, NN, NN, .ifCond .eq 63, NN, NN, .iconst 1, .goto 64, NN, NN, .iconst 0],
  [.invokevirtual 21394, NN, NN, .ireturn]]
def kX10_fixes : List (List Instr) := [[.aload_n 0, .invokevirtual 21665, NN, NN, .ifCond .ne 13, NN, NN, .aload_n 0, .iconst 1, .invokevirtual 21266, NN, NN, .ireturn, .aload_n 0, .getfield 65551, NN, NN, .iload_n 1, .iload_n 2, .invokevirtual 12051, NN, NN, .istore_n 3, .iload_n 3, .iconst (-1), .if_icmp .ne 36, NN, NN, .aload_n 0, .iconst 2, .invokevirtual 21266, NN],
  [NN, .goto 51, NN, NN, .aload_n 0, .iload_n 3, .aload_n 0, .getfield 65551, NN, NN, .getfield 61504, NN, NN, .invokestatic 10002, NN, NN, .invokevirtual 21394, NN, NN, .ireturn]]
def kX10_commute : List (List Instr) := [[.aload_n 0, .iload_n 1, .invokevirtual 22178, NN, NN, .ifCond .eq 16, NN, NN, .aload_n 0, .iload_n 2, .invokevirtual 22178, NN, NN, .ifCond .ne 22, NN, NN, .aload_n 0, .iconst 1, .invokevirtual 21266, NN, NN, .ireturn, .aload_n 0, .aload_n 0, .getfield 65551, NN, NN, .getfield 61956, NN, NN, .iload_n 1, .iaload],
  [.aload_n 0, .getfield 65551, NN, NN, .getfield 61956, NN, NN, .iload_n 2, .iaload, .aload_n 0, .getfield 65551, NN, NN, .getfield 61504, NN, NN, .invokestatic 9891, NN, NN, .ifCond .eq 58, NN, NN, .iconst 1, .goto 59, NN, NN, .iconst 0, .invokevirtual 21394, NN, NN, .ireturn]]
def kX10_undoing : List (List Instr) := [[.aload_n 0, .invokevirtual 21665, NN, NN, .ifCond .ne 13, NN, NN, .aload_n 0, .iconst 1, .invokevirtual 21266, NN, NN, .ireturn, .aload_n 0, .getfield 65551, NN, NN, .iload_n 1, .iload_n 2, .invokevirtual 12051, NN, NN, .istore_n 3, .iload_n 3, .iconst (-1), .if_icmp .ne 34, NN, NN, .aload_n 0, .iconst 2, .invokevirtual 21266, NN],
  [NN, .ireturn, .aload_n 0, .aload_n 0, .invokevirtual 24001, NN, NN, .iload_n 3, .aload_n 0, .getfield 65551, NN, NN, .getfield 61504, NN, NN, .invokestatic 9746, NN, NN, .invokevirtual 2706, NN, NN, .invokevirtual 21394, NN, NN, .ireturn]]
def kX10_reach : List (List Instr) := [[.aload_n 0, .invokevirtual 21665, NN, NN, .ifCond .eq 21, NN, NN, .aload_n 0, .aload_n 0, .invokevirtual 24001, NN, NN, .getfield 45184, NN, NN, .invokevirtual 21394, NN, NN, .goto 26, NN, NN, .aload_n 0, .iconst 1, .invokevirtual 21266, NN, NN, .ireturn]]
def kX10_deepest : List (List Instr) := [[.aload_n 0, .invokevirtual 21665, NN, NN, .ifCond .eq 21, NN, NN, .aload_n 0, .aload_n 0, .invokevirtual 24001, NN, NN, .invokevirtual 2833, NN, NN, .invokevirtual 21394, NN, NN, .goto 26, NN, NN, .aload_n 0, .iconst 1, .invokevirtual 21266, NN, NN, .ireturn]]
def kX10_evens : List (List Instr) := [[.aload_n 0, .invokevirtual 21665, NN, NN, .ifCond .eq 21, NN, NN, .aload_n 0, .aload_n 0, .invokevirtual 24001, NN, NN, .invokevirtual 2961, NN, NN, .invokevirtual 21394, NN, NN, .goto 26, NN, NN, .aload_n 0, .iconst 1, .invokevirtual 21266, NN, NN, .ireturn]]
def kX10_orbit : List (List Instr) := [[.aload_n 0, .iload_n 1, .invokevirtual 22050, NN, NN, .ifCond .eq 23, NN, NN, .aload_n 0, .aload_n 0, .invokevirtual 24001, NN, NN, .iload_n 1, .invokevirtual 3090, NN, NN, .invokevirtual 21394, NN, NN, .goto 28, NN, NN, .aload_n 0, .iconst 1, .invokevirtual 21266, NN, NN, .ireturn]]
def kX10_keeps : List (List Instr) := [[.aload_n 0, .iload_n 1, .invokevirtual 22050, NN, NN, .ifCond .eq 23, NN, NN, .aload_n 0, .aload_n 0, .invokevirtual 24001, NN, NN, .iload_n 1, .invokevirtual 3218, NN, NN, .invokevirtual 21394, NN, NN, .goto 28, NN, NN, .aload_n 0, .iconst 1, .invokevirtual 21266, NN, NN, .ireturn]]
def kX10_pairs : List (List Instr) := [[.aload_n 0, .invokevirtual 21665, NN, NN, .ifCond .eq 21, NN, NN, .aload_n 0, .aload_n 0, .invokevirtual 24001, NN, NN, .invokevirtual 3345, NN, NN, .invokevirtual 21394, NN, NN, .goto 26, NN, NN, .aload_n 0, .iconst 1, .invokevirtual 21266, NN, NN, .ireturn]]
def kX10_centre : List (List Instr) := [[.aload_n 0, .invokevirtual 21665, NN, NN, .ifCond .eq 25, NN, NN, .aload_n 0, .aload_n 0, .invokevirtual 24001, NN, NN, .aload_n 0, .getfield 65551, NN, NN, .invokevirtual 3602, NN, NN, .invokevirtual 21394, NN, NN, .goto 30, NN, NN, .aload_n 0, .iconst 1, .invokevirtual 21266, NN, NN, .ireturn]]
def kX10_errand : List (List Instr) := [[.aload_n 0, .invokevirtual 21665, NN, NN, .ifCond .eq 22, NN, NN, .aload_n 0, .aload_n 0, .aload_n 0, .invokevirtual 24081, NN, NN, .invokevirtual 24338, NN, NN, .invokevirtual 21394, NN, NN, .goto 27, NN, NN, .aload_n 0, .iconst 1, .invokevirtual 21266, NN, NN, .ireturn]]
def kX10_errandAt : List (List Instr) := [[.aload_n 0, .invokevirtual 21665, NN, NN, .ifCond .eq 19, NN, NN, .aload_n 0, .aload_n 0, .invokevirtual 24081, NN, NN, .iload_n 1, .invokevirtual 24467, NN, NN, .goto 24, NN, NN, .aload_n 0, .iconst 1, .invokevirtual 21266, NN, NN, .ireturn]]
def kX10_peace : List (List Instr) := [[.aload_n 0, .invokevirtual 21665, NN, NN, .ifCond .eq 22, NN, NN, .aload_n 0, .aload_n 0, .aload_n 0, .invokevirtual 24209, NN, NN, .invokevirtual 24338, NN, NN, .invokevirtual 21394, NN, NN, .goto 27, NN, NN, .aload_n 0, .iconst 1, .invokevirtual 21266, NN, NN, .ireturn]]
def kX10_peaceAt : List (List Instr) := [[.aload_n 0, .invokevirtual 21665, NN, NN, .ifCond .eq 19, NN, NN, .aload_n 0, .aload_n 0, .invokevirtual 24209, NN, NN, .iload_n 1, .invokevirtual 24467, NN, NN, .goto 24, NN, NN, .aload_n 0, .iconst 1, .invokevirtual 21266, NN, NN, .ireturn]]
def kX10_bring : List (List Instr) := [[.aload_n 0, .iload_n 1, .invokevirtual 21794, NN, NN, .ifCond .eq 16, NN, NN, .aload_n 0, .iload_n 2, .invokevirtual 22050, NN, NN, .ifCond .ne 22, NN, NN, .aload_n 0, .iconst 1, .invokevirtual 21266, NN, NN, .ireturn, .aload_n 0, .aload_n 0, .aload_n 0, .invokevirtual 24001, NN, NN, .aload_n 0, .iload_n 1, .invokevirtual 22930, NN],
  [NN, .iload_n 2, .invokevirtual 3987, NN, NN, .invokevirtual 24338, NN, NN, .invokevirtual 21394, NN, NN, .ireturn]]
def kX10_calmest : List (List Instr) := [[.aload_n 0, .invokevirtual 21665, NN, NN, .ifCond .ne 13, NN, NN, .aload_n 0, .iconst 1, .invokevirtual 21266, NN, NN, .ireturn, .aload_n 0, .invokevirtual 24001, NN, NN, .astore_n 1, .aload_n 0, .aload_n 0, .getfield 65678, NN, NN, .getfield 57344, NN, NN, .invokevirtual 23314, NN, NN, .istore_n 2, .iconst 0, .istore_n 3],
  [.iload_n 3, .aload_n 1, .getfield 45184, NN, NN, .if_icmp .ge 78, NN, NN, .iload_n 2, .ifCond .le 78, NN, NN, .iload_n 2, .aload_n 0, .aload_n 1, .iload_n 3, .aload_n 0, .getfield 65678, NN, NN, .getfield 57344, NN, NN, .aload_n 0, .getfield 65551, NN, NN, .getfield 61632, NN, NN, .invokevirtual 3732, NN],
  [NN, .invokevirtual 23314, NN, NN, .invokestatic 46738, NN, NN, .istore_n 2, .iinc 3 1, NN, NN, .goto 32, NN, NN, .aload_n 0, .iload_n 2, .invokevirtual 21394, NN, NN, .ireturn]]
def kX10_colourings : List (List Instr) := [[.aload_n 0, .invokevirtual 21665, NN, NN, .ifCond .ne 14, NN, NN, .aload_n 0, .iconst 1, .invokevirtual 21266, NN, NN, .i2l, .lreturn, .iload_n 1, .invokestatic 22433, NN, NN, .ifCond .eq 36, NN, NN, .aload_n 0, .aload_n 0, .invokevirtual 24001, NN, NN, .iload_n 1, .invokevirtual 4274, NN, NN, .invokevirtual 21554, NN],
  [NN, .goto 42, NN, NN, .aload_n 0, .iconst 2, .invokevirtual 21266, NN, NN, .i2l, .lreturn]]
def kX10_mirrored : List (List Instr) := [[.aload_n 0, .invokevirtual 21665, NN, NN, .ifCond .ne 14, NN, NN, .aload_n 0, .iconst 1, .invokevirtual 21266, NN, NN, .i2l, .lreturn, .iload_n 1, .invokestatic 22433, NN, NN, .ifCond .ne 28, NN, NN, .aload_n 0, .iconst 2, .invokevirtual 21266, NN, NN, .i2l, .lreturn, .aload_n 0, .getfield 65803, NN, NN],
  [.getfield 45058, NN, NN, .ifCond .ne 50, NN, NN, .aload_n 0, .getfield 65803, NN, NN, .aload_n 0, .getfield 65551, NN, NN, .iconst 1, .invokevirtual 2435, NN, NN, .aload_n 0, .aload_n 0, .getfield 65803, NN, NN, .iload_n 1, .invokevirtual 4274, NN, NN, .invokevirtual 21554, NN, NN, .lreturn]]
def kX10_necklaces : List (List Instr) := [[.aload_n 0, .invokevirtual 21665, NN, NN, .ifCond .ne 14, NN, NN, .aload_n 0, .iconst 1, .invokevirtual 21266, NN, NN, .i2l, .lreturn, .iload_n 1, .invokestatic 22561, NN, NN, .ifCond .eq 28, NN, NN, .iload_n 2, .invokestatic 22433, NN, NN, .ifCond .ne 35, NN, NN, .aload_n 0, .iconst 2, .invokevirtual 21266, NN],
  [NN, .i2l, .lreturn, .aload_n 0, .iload_n 1, .iload_n 2, .invokestatic 178, NN, NN, .iload_n 1, .i2l, .ldiv, .invokevirtual 21554, NN, NN, .lreturn]]
def kX10_bracelets : List (List Instr) := [[.aload_n 0, .invokevirtual 21665, NN, NN, .ifCond .ne 14, NN, NN, .aload_n 0, .iconst 1, .invokevirtual 21266, NN, NN, .i2l, .lreturn, .iload_n 1, .invokestatic 22561, NN, NN, .ifCond .eq 28, NN, NN, .iload_n 2, .invokestatic 22433, NN, NN, .ifCond .ne 35, NN, NN, .aload_n 0, .iconst 2, .invokevirtual 21266, NN],
  [NN, .i2l, .lreturn, .iload_n 1, .iload_n 2, .invokestatic 178, NN, NN, .iload_n 1, .iload_n 2, .invokestatic 434, NN, NN, .ladd, .lstore_n 3, .aload_n 0, .lload_n 3, .iconst 2, .iload_n 1, .imul, .i2l, .ldiv, .invokevirtual 21554, NN, NN, .lreturn]]
def kX10_fits : List (List Instr) := [[.aload_n 0, .invokevirtual 21665, NN, NN, .ifCond .eq 24, NN, NN, .aload_n 0, .aload_n 0, .getfield 65551, NN, NN, .invokevirtual 12305, NN, NN, .invokestatic 45841, NN, NN, .invokevirtual 21394, NN, NN, .goto 29, NN, NN, .aload_n 0, .iconst 1, .invokevirtual 21266, NN, NN, .ireturn]]
def kX10_fitAt : List (List Instr) := [[.aload_n 0, .invokevirtual 21665, NN, NN, .ifCond .eq 11, NN, NN, .iload_n 1, .ifCond .ge 17, NN, NN, .aload_n 0, .iconst 1, .invokevirtual 21266, NN, NN, .ireturn, .aload_n 0, .getfield 65551, NN, NN, .invokevirtual 12305, NN, NN, .istore_n 2, .iload_n 1, .istore_n 3, .iconst 0, .istore 4, NN, .iload 4, NN],
  [.aload_n 0, .getfield 65551, NN, NN, .invokevirtual 12177, NN, NN, .if_icmp .ge 72, NN, NN, .iload_n 2, .iload 4, NN, .ishr, .iconst 1, .iand, .iconst 1, .if_icmp .ne 66, NN, NN, .iload_n 3, .ifCond .ne 63, NN, NN, .aload_n 0, .iload 4, NN, .invokevirtual 21394, NN, NN, .ireturn, .iinc 3 (-1)],
  [NN, NN, .iinc 4 1, NN, NN, .goto 30, NN, NN, .aload_n 0, .iconst 1, .invokevirtual 21266, NN, NN, .ireturn]]
def kX10_could : List (List Instr) := [[.aload_n 0, .invokevirtual 21665, NN, NN, .ifCond .ne 13, NN, NN, .aload_n 0, .iconst 1, .invokevirtual 21266, NN, NN, .ireturn, .aload_n 0, .getfield 65551, NN, NN, .invokevirtual 12305, NN, NN, .istore_n 1, .iconst 0, .istore_n 2, .iconst 0, .istore_n 3, .iload_n 3, .aload_n 0, .getfield 65551, NN, NN, .invokevirtual 12177, NN],
  [NN, .if_icmp .ge 59, NN, NN, .iload_n 2, .iload_n 1, .iload_n 3, .ishr, .iconst 1, .iand, .iconst 1, .if_icmp .ne 50, NN, NN, .iload_n 3, .goto 51, NN, NN, .iconst 0, .ior, .istore_n 2, .iinc 3 1, NN, NN, .goto 25, NN, NN, .aload_n 0, .iload_n 2, .invokevirtual 21394, NN, NN],
  [.ireturn]]
def kX10_surely : List (List Instr) := [[.aload_n 0, .invokevirtual 21665, NN, NN, .ifCond .ne 13, NN, NN, .aload_n 0, .iconst 1, .invokevirtual 21266, NN, NN, .ireturn, .aload_n 0, .getfield 65551, NN, NN, .invokevirtual 12305, NN, NN, .istore_n 1, .iload_n 1, .ifCond .ne 29, NN, NN, .iconst 0, .goto 38, NN, NN, .aload_n 0, .getfield 65551, NN],
  [NN, .invokevirtual 12177, NN, NN, .iconst 1, .isub, .istore_n 2, .iconst 0, .istore_n 3, .iload_n 3, .aload_n 0, .getfield 65551, NN, NN, .invokevirtual 12177, NN, NN, .if_icmp .ge 75, NN, NN, .iload_n 2, .iload_n 1, .iload_n 3, .ishr, .iconst 1, .iand, .iconst 1, .if_icmp .ne 66, NN, NN, .iload_n 3, .goto 67],
  [NN, NN, .iload_n 2, .iand, .istore_n 2, .iinc 3 1, NN, NN, .goto 41, NN, NN, .aload_n 0, .iload_n 2, .invokevirtual 21394, NN, NN, .ireturn]]
def kX10_ask : List (List Instr) := [[.aload_n 0, .invokevirtual 21665, NN, NN, .ifCond .eq 25, NN, NN, .aload_n 0, .aload_n 0, .aload_n 0, .getfield 65551, NN, NN, .invokevirtual 12305, NN, NN, .invokevirtual 24594, NN, NN, .invokevirtual 21394, NN, NN, .goto 30, NN, NN, .aload_n 0, .iconst 1, .invokevirtual 21266, NN, NN, .ireturn]]
def kX10_askLeaves : List (List Instr) := [[.aload_n 0, .invokevirtual 21665, NN, NN, .ifCond .ne 13, NN, NN, .aload_n 0, .iconst 1, .invokevirtual 21266, NN, NN, .ireturn, .aload_n 0, .getfield 65551, NN, NN, .invokevirtual 12305, NN, NN, .istore_n 1, .aload_n 0, .iload_n 1, .invokevirtual 24594, NN, NN, .istore_n 2, .aload_n 0, .iload_n 2, .bipush (-2), NN, .if_icmp .ne 39],
  [NN, NN, .bipush (-2), NN, .goto 48, NN, NN, .aload_n 0, .getfield 65551, NN, NN, .iload_n 1, .iload_n 2, .invokevirtual 12691, NN, NN, .invokevirtual 21394, NN, NN, .ireturn]]
def kX10_judge : List (List Instr) := [[.aload_n 0, .invokevirtual 21665, NN, NN, .ifCond .eq 31, NN, NN, .aload_n 0, .aload_n 0, .getfield 65551, NN, NN, .getfield 62282, NN, NN, .aload_n 0, .getfield 65551, NN, NN, .invokevirtual 11921, NN, NN, .invokevirtual 2194, NN, NN, .invokevirtual 21394, NN, NN, .goto 36, NN, NN, .aload_n 0],
  [.iconst 1, .invokevirtual 21266, NN, NN, .ireturn]]
def kX10_gets : List (List Instr) := [[.aload_n 0, .iload_n 1, .iload_n 2, .invokevirtual 21923, NN, NN, .ifCond .ne 15, NN, NN, .aload_n 0, .iconst 1, .invokevirtual 21266, NN, NN, .ireturn, .iload_n 3, .ifCond .lt 24, NN, NN, .iload_n 3, .iconst 5, .if_icmp .le 30, NN, NN, .aload_n 0, .iconst 2, .invokevirtual 21266, NN, NN, .ireturn, .aload_n 0, .aload_n 0],
  [.getfield 65551, NN, NN, .aload_n 0, .iload_n 1, .invokevirtual 22930, NN, NN, .aload_n 0, .iload_n 2, .invokevirtual 22930, NN, NN, .iload_n 3, .iconst 1, .invokestatic 1189, NN, NN, .ifCond .eq 57, NN, NN, .iconst 1, .goto 58, NN, NN, .iconst 0, .invokevirtual 21394, NN, NN, .ireturn]]
def kX10_getsBy : List (List Instr) := [[.aload_n 0, .iload_n 1, .iload_n 2, .invokevirtual 21923, NN, NN, .ifCond .ne 15, NN, NN, .aload_n 0, .iconst 1, .invokevirtual 21266, NN, NN, .ireturn, .iload_n 3, .iconst 1, .if_icmp .lt 25, NN, NN, .iload_n 3, .iconst 5, .if_icmp .le 31, NN, NN, .aload_n 0, .iconst 2, .invokevirtual 21266, NN, NN, .ireturn, .aload_n 0],
  [.aload_n 0, .getfield 65551, NN, NN, .aload_n 0, .iload_n 1, .invokevirtual 22930, NN, NN, .aload_n 0, .iload_n 2, .invokevirtual 22930, NN, NN, .iload_n 3, .invokestatic 1300, NN, NN, .invokevirtual 21394, NN, NN, .ireturn]]
def kX10_looks : List (List Instr) := [[.aload_n 0, .invokevirtual 21665, NN, NN, .ifCond .ne 16, NN, NN, .aload_n 0, .iconst 1, .invokevirtual 21266, NN, NN, .pop, .bipush (-100), NN, .ireturn, .iload_n 1, .invokestatic 22689, NN, NN, .ifCond .ne 32, NN, NN, .aload_n 0, .iconst 2, .invokevirtual 21266, NN, NN, .pop, .bipush (-100), NN, .ireturn],
  [.aload_n 0, .iload 4, NN, .ifCond .eq 47, NN, NN, .iload_n 1, .iload_n 2, .iload_n 3, .invokestatic 915, NN, NN, .goto 53, NN, NN, .iload_n 1, .iload_n 2, .iload_n 3, .invokestatic 787, NN, NN, .invokevirtual 21394, NN, NN, .ireturn]]
def kX10_rests : List (List Instr) := [[.aload_n 0, .invokevirtual 21665, NN, NN, .ifCond .ne 13, NN, NN, .aload_n 0, .iconst 1, .invokevirtual 21266, NN, NN, .ireturn, .iload_n 1, .invokestatic 22689, NN, NN, .ifCond .ne 26, NN, NN, .aload_n 0, .iconst 2, .invokevirtual 21266, NN, NN, .ireturn, .iconst 0, .istore_n 2, .iconst 0, .istore_n 3, .iload_n 3, .iconst 4],
  [.if_icmp .ge 57, NN, NN, .iload_n 2, .iload_n 1, .iload_n 3, .invokestatic 1058, NN, NN, .ifCond .eq 48, NN, NN, .iconst 1, .goto 49, NN, NN, .iconst 0, .iadd, .istore_n 2, .iinc 3 1, NN, NN, .goto 30, NN, NN, .aload_n 0, .iload_n 2, .invokevirtual 21394, NN, NN, .ireturn]]
def kX10_rest : List (List Instr) := [[.aload_n 0, .invokevirtual 21665, NN, NN, .ifCond .ne 13, NN, NN, .aload_n 0, .iconst 1, .invokevirtual 21266, NN, NN, .ireturn, .iload_n 1, .invokestatic 22689, NN, NN, .ifCond .ne 26, NN, NN, .aload_n 0, .iconst 2, .invokevirtual 21266, NN, NN, .ireturn, .iconst 0, .istore_n 2, .iload_n 2, .iconst 4, .if_icmp .ge 78, NN],
  [NN, .iload_n 1, .iload_n 2, .invokestatic 1058, NN, NN, .ifCond .eq 72, NN, NN, .aload_n 0, .iload_n 2, .invokestatic 545, NN, NN, .ifCond .eq 54, NN, NN, .bipush 10, NN, .goto 55, NN, NN, .iconst 0, .iload_n 2, .invokestatic 673, NN, NN, .ifCond .eq 66, NN, NN, .iconst 1, .goto 67],
  [NN, NN, .iconst 0, .iadd, .invokevirtual 21394, NN, NN, .ireturn, .iinc 2 1, NN, NN, .goto 28, NN, NN, .aload_n 0, .bipush (-2), NN, .invokevirtual 21394, NN, NN, .ireturn]]
def kX10_odds : List (List Instr) := [[.aload_n 0, .iload_n 1, .iload_n 2, .invokevirtual 21923, NN, NN, .ifCond .ne 16, NN, NN, .aload_n 0, .iconst 1, .invokevirtual 21266, NN, NN, .i2l, .lreturn, .iload_n 3, .ifCond .lt 25, NN, NN, .iload_n 3, .iconst 5, .if_icmp .le 32, NN, NN, .aload_n 0, .iconst 2, .invokevirtual 21266, NN, NN, .i2l, .lreturn],
  [.aload_n 0, .getfield 65869, NN, NN, .aload_n 0, .getfield 65551, NN, NN, .aload_n 0, .iload_n 1, .invokevirtual 22930, NN, NN, .aload_n 0, .iload_n 2, .invokevirtual 22930, NN, NN, .iload_n 3, .invokevirtual 8069, NN, NN, .aload_n 0, .aload_n 0, .getfield 65869, NN, NN, .invokevirtual 8497, NN, NN, .aload_n 0, .getfield 65551],
  [NN, NN, .iload_n 3, .invokevirtual 12850, NN, NN, .iload 4, NN, .invokestatic 24883, NN, NN, .invokevirtual 21554, NN, NN, .lreturn]]
def kX10_slotOdds : List (List Instr) := [[.aload_n 0, .iload_n 1, .invokevirtual 21794, NN, NN, .ifCond .eq 16, NN, NN, .aload_n 0, .iload_n 2, .invokevirtual 22050, NN, NN, .ifCond .ne 23, NN, NN, .aload_n 0, .iconst 1, .invokevirtual 21266, NN, NN, .i2l, .lreturn, .iload_n 3, .ifCond .lt 32, NN, NN, .iload_n 3, .iconst 5, .if_icmp .le 39, NN, NN],
  [.aload_n 0, .iconst 2, .invokevirtual 21266, NN, NN, .i2l, .lreturn, .aload_n 0, .getfield 65869, NN, NN, .aload_n 0, .getfield 65551, NN, NN, .aload_n 0, .iload_n 1, .invokevirtual 22930, NN, NN, .aload_n 0, .iload_n 1, .invokevirtual 22930, NN, NN, .iload_n 3, .invokevirtual 8069, NN, NN, .aload_n 0, .aload_n 0, .getfield 65869],
  [NN, NN, .iload_n 2, .invokevirtual 8626, NN, NN, .aload_n 0, .getfield 65551, NN, NN, .iload_n 3, .invokevirtual 12850, NN, NN, .iload 4, NN, .invokestatic 24883, NN, NN, .invokevirtual 21554, NN, NN, .lreturn]]
def kX10_mean : List (List Instr) := [[.aload_n 0, .invokevirtual 21665, NN, NN, .ifCond .ne 14, NN, NN, .aload_n 0, .iconst 1, .invokevirtual 21266, NN, NN, .i2l, .lreturn, .iload_n 1, .ifCond .lt 23, NN, NN, .iload_n 1, .iconst 5, .if_icmp .le 30, NN, NN, .aload_n 0, .iconst 2, .invokevirtual 21266, NN, NN, .i2l, .lreturn, .lconst 0, .lstore_n 3],
  [.iconst 0, .istore 5, NN, .iload 5, NN, .aload_n 0, .getfield 65551, NN, NN, .getfield 62154, NN, NN, .getfield 41152, NN, NN, .if_icmp .ge 112, NN, NN, .aload_n 0, .getfield 65869, NN, NN, .aload_n 0, .getfield 65551, NN, NN, .aload_n 0, .aload_n 0, .getfield 65551, NN, NN, .getfield 62154],
  [NN, NN, .getfield 40964, NN, NN, .iload 5, NN, .iaload, .invokevirtual 22930, NN, NN, .aload_n 0, .aload_n 0, .getfield 65551, NN, NN, .getfield 62154, NN, NN, .getfield 41028, NN, NN, .iload 5, NN, .iaload, .invokevirtual 22930, NN, NN, .iload_n 1, .invokevirtual 8069, NN, NN],
  [.lload_n 3, .aload_n 0, .getfield 65869, NN, NN, .invokevirtual 8497, NN, NN, .ladd, .lstore_n 3, .iinc 5 1, NN, NN, .goto 35, NN, NN, .aload_n 0, .lload_n 3, .aload_n 0, .getfield 65551, NN, NN, .iload_n 1, .invokevirtual 12850, NN, NN, .iload_n 2, .invokestatic 24883, NN, NN, .invokevirtual 21554, NN],
  [NN, .lreturn]]
def kX10_shaken : List (List Instr) := [[.aload_n 0, .iload_n 1, .invokevirtual 21794, NN, NN, .ifCond .ne 14, NN, NN, .aload_n 0, .iconst 1, .invokevirtual 21266, NN, NN, .ireturn, .iload_n 2, .invokestatic 22817, NN, NN, .ifCond .eq 31, NN, NN, .iload_n 3, .ifCond .lt 31, NN, NN, .iload_n 3, .bipush 60, NN, .if_icmp .le 37, NN, NN, .aload_n 0],
  [.iconst 2, .invokevirtual 21266, NN, NN, .ireturn, .aload_n 0, .getfield 65678, NN, NN, .getfield 57344, NN, NN, .istore 4, NN, .aload_n 0, .getfield 65869, NN, NN, .iload_n 2, .putfield 53440, NN, NN, .iconst 0, .istore 5, NN, .iload 5, NN, .iload_n 3, .if_icmp .ge 84, NN, NN, .aload_n 0],
  [.getfield 65869, NN, NN, .aload_n 0, .getfield 65551, NN, NN, .iload 4, NN, .invokevirtual 8851, NN, NN, .istore 4, NN, .iinc 5 1, NN, NN, .goto 57, NN, NN, .aload_n 0, .iload 4, NN, .iload_n 1, .invokestatic 8978, NN, NN, .invokevirtual 21394, NN, NN, .ireturn]]
def kX10_peaceIn : List (List Instr) := [[.aload_n 0, .invokevirtual 21665, NN, NN, .ifCond .ne 13, NN, NN, .aload_n 0, .iconst 1, .invokevirtual 21266, NN, NN, .ireturn, .iload_n 1, .invokestatic 22817, NN, NN, .ifCond .eq 30, NN, NN, .iload_n 2, .ifCond .lt 30, NN, NN, .iload_n 2, .bipush 60, NN, .if_icmp .le 36, NN, NN, .aload_n 0, .iconst 2],
  [.invokevirtual 21266, NN, NN, .ireturn, .aload_n 0, .getfield 65678, NN, NN, .getfield 57344, NN, NN, .istore_n 3, .aload_n 0, .getfield 65869, NN, NN, .iload_n 1, .putfield 53440, NN, NN, .iconst 0, .istore 4, NN, .iload 4, NN, .iload_n 2, .if_icmp .gt 95, NN, NN, .aload_n 0, .iload_n 3, .invokevirtual 23314],
  [NN, NN, .ifCond .ne 76, NN, NN, .aload_n 0, .iload 4, NN, .invokevirtual 21394, NN, NN, .ireturn, .aload_n 0, .getfield 65869, NN, NN, .aload_n 0, .getfield 65551, NN, NN, .iload_n 3, .invokevirtual 8851, NN, NN, .istore_n 3, .iinc 4 1, NN, NN, .goto 55, NN, NN, .aload_n 0],
  [.bipush (-2), NN, .invokevirtual 21394, NN, NN, .ireturn]]
def kX10_turn : List (List Instr) := [[.aload_n 0, .iload_n 1, .invokevirtual 22178, NN, NN, .ifCond .eq 28, NN, NN, .aload_n 0, .aload_n 0, .aload_n 0, .getfield 65551, NN, NN, .getfield 61956, NN, NN, .iload_n 1, .iaload, .invokevirtual 24722, NN, NN, .invokevirtual 21394, NN, NN, .goto 33, NN, NN, .aload_n 0, .iconst 1, .invokevirtual 21266, NN],
  [NN, .ireturn]]
def kX10_turnBack : List (List Instr) := [[.aload_n 0, .iload_n 1, .invokevirtual 22178, NN, NN, .ifCond .ne 14, NN, NN, .aload_n 0, .iconst 1, .invokevirtual 21266, NN, NN, .ireturn, .aload_n 0, .aload_n 0, .aload_n 0, .getfield 65551, NN, NN, .getfield 61956, NN, NN, .iload_n 1, .iaload, .aload_n 0, .getfield 65551, NN, NN, .getfield 61504, NN, NN],
  [.invokestatic 9746, NN, NN, .invokevirtual 24722, NN, NN, .invokevirtual 21394, NN, NN, .ireturn]]
def kX10_move : List (List Instr) := [[.aload_n 0, .iload_n 1, .invokevirtual 21794, NN, NN, .ifCond .eq 16, NN, NN, .aload_n 0, .iload_n 2, .invokevirtual 22050, NN, NN, .ifCond .ne 22, NN, NN, .aload_n 0, .iconst 1, .invokevirtual 21266, NN, NN, .ireturn, .aload_n 0, .iload_n 2, .invokevirtual 23058, NN, NN, .bipush (-2), NN, .if_icmp .eq 38, NN, NN],
  [.aload_n 0, .iconst 5, .invokevirtual 21266, NN, NN, .ireturn, .aload_n 0, .iload_n 1, .invokevirtual 22930, NN, NN, .istore_n 3, .aload_n 0, .getfield 65678, NN, NN, .aload_n 0, .getfield 65678, NN, NN, .getfield 57344, NN, NN, .iload_n 1, .iload_n 2, .invokestatic 9107, NN, NN, .invokevirtual 10882, NN, NN, .aload_n 0],
  [.iload_n 3, .invokevirtual 21394, NN, NN, .ireturn]]
def kX10_undo : List (List Instr) := [[.aload_n 0, .getfield 65678, NN, NN, .getfield 57472, NN, NN, .ifCond .ne 19, NN, NN, .aload_n 0, .bipush 6, NN, .invokevirtual 21266, NN, NN, .pop, .iconst 0, .ireturn, .aload_n 0, .getfield 65678, NN, NN, .invokevirtual 11009, NN, NN, .aload_n 0, .iconst 0, .invokevirtual 21394, NN, NN, .pop],
  [.iconst 1, .ireturn]]
def kX10_keep : List (List Instr) := [[.aload_n 0, .invokevirtual 21665, NN, NN, .ifCond .ne 13, NN, NN, .aload_n 0, .iconst 1, .invokevirtual 21266, NN, NN, .ireturn, .aload_n 0, .getfield 65678, NN, NN, .getfield 57600, NN, NN, .iconst 3, .if_icmp .ge 38, NN, NN, .aload_n 0, .aload_n 0, .getfield 65678, NN, NN, .invokevirtual 11153, NN, NN],
  [.invokevirtual 21394, NN, NN, .goto 43, NN, NN, .aload_n 0, .iconst 3, .invokevirtual 21266, NN, NN, .ireturn]]
def kX10_back : List (List Instr) := [[.iload_n 1, .ifCond .lt 15, NN, NN, .iload_n 1, .aload_n 0, .getfield 65678, NN, NN, .getfield 57600, NN, NN, .if_icmp .lt 23, NN, NN, .aload_n 0, .iconst 1, .invokevirtual 21266, NN, NN, .pop, .iconst 0, .ireturn, .aload_n 0, .getfield 65678, NN, NN, .iload_n 1, .invokevirtual 11266, NN, NN, .aload_n 0],
  [.iconst 0, .invokevirtual 21394, NN, NN, .pop, .iconst 1, .ireturn]]
def kX10_led : List (List Instr) := [[.iload_n 1, .istore_n 2, .iconst 0, .istore_n 3, .iload_n 3, .aload_n 0, .getfield 65551, NN, NN, .getfield 61632, NN, NN, .if_icmp .ge 47, NN, NN, .aload_n 0, .iload_n 3, .invokevirtual 22930, NN, NN, .aload_n 0, .getfield 65551, NN, NN, .getfield 61892, NN, NN, .iload_n 3, .iaload, .if_icmp .eq 41, NN, NN],
  [.iload_n 2, .ifCond .ne 38, NN, NN, .iload_n 3, .ireturn, .iinc 2 (-1), NN, NN, .iinc 3 1, NN, NN, .goto 4, NN, NN, .new 99, NN, NN, .dup, .invokespecial 255873, NN, NN, .athrow]]
def kX10_size : List (List Instr) := [[.iload_n 1, .tableswitch 169 0 11 #[64, 72, 80, 88, 96, 104, 115, 126, 134, 145, 153, 161], NN, NN, NN, NN, NN, NN, NN, NN, NN, NN, NN, NN, NN, NN, NN, NN, NN, NN, NN, NN, NN, NN, NN, NN, NN, NN, NN, NN, NN, NN],
  [NN, NN, NN, NN, NN, NN, NN, NN, NN, NN, NN, NN, NN, NN, NN, NN, NN, NN, NN, NN, NN, NN, NN, NN, NN, NN, NN, NN, NN, NN, NN, NN],
  [.aload_n 0, .getfield 65551, NN, NN, .getfield 61440, NN, NN, .ireturn, .aload_n 0, .getfield 65551, NN, NN, .getfield 61504, NN, NN, .ireturn, .aload_n 0, .getfield 65551, NN, NN, .getfield 61568, NN, NN, .ireturn, .aload_n 0, .getfield 65551, NN, NN, .getfield 61632, NN, NN, .ireturn],
  [.aload_n 0, .getfield 65551, NN, NN, .getfield 61696, NN, NN, .ireturn, .aload_n 0, .getfield 65551, NN, NN, .getfield 62154, NN, NN, .getfield 41152, NN, NN, .ireturn, .aload_n 0, .getfield 65551, NN, NN, .getfield 62218, NN, NN, .getfield 41152, NN, NN, .ireturn, .aload_n 0, .getfield 65551],
  [NN, NN, .getfield 61760, NN, NN, .ireturn, .aload_n 0, .getfield 65551, NN, NN, .getfield 62282, NN, NN, .getfield 41152, NN, NN, .ireturn, .aload_n 0, .getfield 65678, NN, NN, .getfield 57472, NN, NN, .ireturn, .aload_n 0, .getfield 65678, NN, NN, .getfield 57600, NN, NN],
  [.ireturn, .aload_n 0, .getfield 65612, NN, NN, .getfield 49280, NN, NN, .ireturn, .iconst (-1), .ireturn]]
def kX10_trouble : List (List Instr) := [[.aload_n 0, .getfield 65920, NN, NN, .ireturn]]
def kX10_refused : List (List Instr) := [[.aload_n 0, .iload_n 1, .putfield 65920, NN, NN, .iconst (-1), .ireturn]]
def kX10_fine : List (List Instr) := [[.aload_n 0, .iconst 0, .putfield 65920, NN, NN, .iload_n 1, .ireturn]]
def kX10_fineLong : List (List Instr) := [[.aload_n 0, .iconst 0, .putfield 65920, NN, NN, .lload_n 1, .lreturn]]
def kX10_isTube : List (List Instr) := [[.aload_n 0, .getfield 65551, NN, NN, .getfield 61504, NN, NN, .ifCond .le 14, NN, NN, .iconst 1, .goto 15, NN, NN, .iconst 0, .ireturn]]
def kX10_isPerson : List (List Instr) := [[.iload_n 1, .ifCond .lt 19, NN, NN, .iload_n 1, .aload_n 0, .getfield 65551, NN, NN, .getfield 61632, NN, NN, .if_icmp .ge 19, NN, NN, .iconst 1, .goto 20, NN, NN, .iconst 0, .ireturn]]
def kX10_areTwo : List (List Instr) := [[.aload_n 0, .iload_n 1, .invokevirtual 21794, NN, NN, .ifCond .eq 25, NN, NN, .aload_n 0, .iload_n 2, .invokevirtual 21794, NN, NN, .ifCond .eq 25, NN, NN, .iload_n 1, .iload_n 2, .if_icmp .eq 25, NN, NN, .iconst 1, .goto 26, NN, NN, .iconst 0, .ireturn]]
def kX10_isSlot : List (List Instr) := [[.iload_n 1, .ifCond .lt 19, NN, NN, .iload_n 1, .aload_n 0, .getfield 65551, NN, NN, .getfield 61504, NN, NN, .if_icmp .ge 19, NN, NN, .iconst 1, .goto 20, NN, NN, .iconst 0, .ireturn]]
def kX10_isTurn : List (List Instr) := [[.iload_n 1, .ifCond .lt 19, NN, NN, .iload_n 1, .aload_n 0, .getfield 65551, NN, NN, .getfield 61696, NN, NN, .if_icmp .ge 19, NN, NN, .iconst 1, .goto 20, NN, NN, .iconst 0, .ireturn]]
def kX10_isPlace : List (List Instr) := [[.iload_n 1, .ifCond .lt 16, NN, NN, .iload_n 1, .aload_n 0, .invokevirtual 23569, NN, NN, .if_icmp .ge 16, NN, NN, .iconst 1, .goto 17, NN, NN, .iconst 0, .ireturn]]
def kX10_areColours : List (List Instr) := [[.iload_n 0, .iconst 1, .if_icmp .lt 15, NN, NN, .iload_n 0, .bipush 9, NN, .if_icmp .gt 15, NN, NN, .iconst 1, .goto 16, NN, NN, .iconst 0, .ireturn]]
def kX10_areBeads : List (List Instr) := [[.iload_n 0, .iconst 1, .if_icmp .lt 15, NN, NN, .iload_n 0, .bipush 12, NN, .if_icmp .gt 15, NN, NN, .iconst 1, .goto 16, NN, NN, .iconst 0, .ireturn]]
def kX10_isBlue : List (List Instr) := [[.iload_n 0, .ifCond .lt 14, NN, NN, .iload_n 0, .bipush 9, NN, .if_icmp .gt 14, NN, NN, .iconst 1, .goto 15, NN, NN, .iconst 0, .ireturn]]
def kX10_isSeed : List (List Instr) := [[.iload_n 0, .ifCond .lt 15, NN, NN, .iload_n 0, .ldc_w 65537, NN, NN, .if_icmp .ge 15, NN, NN, .iconst 1, .goto 16, NN, NN, .iconst 0, .ireturn]]
def kX10_slotOf : List (List Instr) := [[.aload_n 0, .getfield 65678, NN, NN, .getfield 57344, NN, NN, .iload_n 1, .invokestatic 8978, NN, NN, .ireturn]]
def kX10_whoIsIn : List (List Instr) := [[.iconst 0, .istore_n 2, .iload_n 2, .aload_n 0, .getfield 65551, NN, NN, .getfield 61632, NN, NN, .if_icmp .ge 30, NN, NN, .aload_n 0, .iload_n 2, .invokevirtual 22930, NN, NN, .iload_n 1, .if_icmp .ne 24, NN, NN, .iload_n 2, .ireturn, .iinc 2 1, NN, NN, .goto 2, NN, NN, .bipush (-2), NN],
  [.ireturn]]
def kX10_besideBits : List (List Instr) := [[.iconst 0, .istore_n 2, .iconst 0, .istore_n 3, .iload_n 3, .aload_n 0, .getfield 65551, NN, NN, .getfield 61632, NN, NN, .if_icmp .ge 43, NN, NN, .aload_n 0, .iload_n 1, .invokevirtual 22930, NN, NN, .aload_n 0, .iload_n 3, .invokevirtual 22930, NN, NN, .invokestatic 9250, NN, NN, .ifCond .eq 37, NN, NN, .iload_n 2],
  [.iconst 1, .iload_n 3, .ishl, .ior, .istore_n 2, .iinc 3 1, NN, NN, .goto 4, NN, NN, .iload_n 2, .ireturn]]
def kX10_quarrelsBy : List (List Instr) := [[.aload_n 0, .getfield 65551, NN, NN, .getfield 62154, NN, NN, .iload_n 1, .invokevirtual 2066, NN, NN, .invokestatic 45841, NN, NN, .ireturn]]
def kX10_sectors : List (List Instr) := [[.iconst 2, .aload_n 0, .getfield 65551, NN, NN, .getfield 61440, NN, NN, .imul, .ireturn]]
def kX10_places : List (List Instr) := [[.aload_n 0, .invokevirtual 23441, NN, NN, .aload_n 0, .getfield 65551, NN, NN, .getfield 61504, NN, NN, .imul, .ireturn]]
def kX10_slotAt : List (List Instr) := [[.aload_n 0, .getfield 65551, NN, NN, .getfield 61504, NN, NN, .ifCond .ne 12, NN, NN, .iconst (-1), .ireturn, .iload_n 1, .aload_n 0, .getfield 65551, NN, NN, .getfield 61504, NN, NN, .irem, .istore_n 2, .iload_n 1, .aload_n 0, .getfield 65551, NN, NN, .getfield 61504, NN, NN, .idiv, .iconst 2],
  [.irem, .ifCond .ne 40, NN, NN, .iconst 1, .goto 41, NN, NN, .iconst 0, .istore_n 3, .iload_n 3, .ifCond .eq 50, NN, NN, .iload_n 2, .goto 61, NN, NN, .aload_n 0, .getfield 65551, NN, NN, .getfield 61504, NN, NN, .iconst 1, .isub, .iload_n 2, .isub, .ireturn]]
def kX10_placeIn : List (List Instr) := [[.iload_n 1, .iconst 2, .irem, .ifCond .ne 10, NN, NN, .iload_n 2, .goto 21, NN, NN, .aload_n 0, .getfield 65551, NN, NN, .getfield 61504, NN, NN, .iconst 1, .isub, .iload_n 2, .isub, .istore_n 3, .iload_n 1, .aload_n 0, .getfield 65551, NN, NN, .getfield 61504, NN, NN, .imul, .iload_n 3],
  [.iadd, .ireturn]]
def kX10_reached : List (List Instr) := [[.aload_n 0, .getfield 65739, NN, NN, .getfield 45058, NN, NN, .ifCond .ne 22, NN, NN, .aload_n 0, .getfield 65739, NN, NN, .aload_n 0, .getfield 65551, NN, NN, .iconst 0, .invokevirtual 2435, NN, NN, .aload_n 0, .getfield 65739, NN, NN, .areturn]]
def kX10_errandChange : List (List Instr) := [[.aload_n 0, .invokevirtual 24001, NN, NN, .aload_n 0, .getfield 65551, NN, NN, .getfield 62218, NN, NN, .aload_n 0, .getfield 65551, NN, NN, .getfield 62218, NN, NN, .invokevirtual 1937, NN, NN, .aload_n 0, .getfield 65678, NN, NN, .getfield 57344, NN, NN, .aload_n 0, .getfield 65551, NN, NN],
  [.getfield 61632, NN, NN, .invokevirtual 3861, NN, NN, .ireturn]]
def kX10_peaceChange : List (List Instr) := [[.aload_n 0, .invokevirtual 24001, NN, NN, .aload_n 0, .getfield 65551, NN, NN, .getfield 62154, NN, NN, .iconst 0, .aload_n 0, .getfield 65678, NN, NN, .getfield 57344, NN, NN, .aload_n 0, .getfield 65551, NN, NN, .getfield 61632, NN, NN, .invokevirtual 3861, NN, NN, .ireturn]]
def kX10_depthOrNot : List (List Instr) := [[.iload_n 1, .iconst (-1), .if_icmp .ne 10, NN, NN, .bipush (-2), NN, .goto 19, NN, NN, .aload_n 0, .invokevirtual 24001, NN, NN, .getfield 45316, NN, NN, .iload_n 1, .iaload, .ireturn]]
def kX10_turnOnTheWay : List (List Instr) := [[.iload_n 1, .iconst (-1), .if_icmp .eq 22, NN, NN, .iload_n 2, .ifCond .lt 22, NN, NN, .iload_n 2, .aload_n 0, .invokevirtual 24001, NN, NN, .getfield 45316, NN, NN, .iload_n 1, .iaload, .if_icmp .lt 28, NN, NN, .aload_n 0, .iconst 1, .invokevirtual 21266, NN, NN, .ireturn, .aload_n 0, .aload_n 0, .invokevirtual 24001, NN],
  [NN, .iload_n 1, .iload_n 2, .invokevirtual 4115, NN, NN, .invokevirtual 21394, NN, NN, .ireturn]]
def kX10_whomToAsk : List (List Instr) := [[.iload_n 1, .ifCond .eq 14, NN, NN, .aload_n 0, .getfield 65551, NN, NN, .getfield 61760, NN, NN, .ifCond .ne 17, NN, NN, .bipush (-2), NN, .ireturn, .iconst 0, .istore_n 2, .iconst 1, .istore_n 3, .iload_n 3, .aload_n 0, .getfield 65551, NN, NN, .getfield 61760, NN, NN, .if_icmp .ge 61, NN, NN],
  [.aload_n 0, .getfield 65551, NN, NN, .iload_n 1, .iload_n 3, .invokevirtual 12691, NN, NN, .aload_n 0, .getfield 65551, NN, NN, .iload_n 1, .iload_n 2, .invokevirtual 12691, NN, NN, .if_icmp .ge 55, NN, NN, .iload_n 3, .istore_n 2, .iinc 3 1, NN, NN, .goto 21, NN, NN, .iload_n 2, .ireturn]]
def kX10_slideAll : List (List Instr) := [[.aload_n 0, .getfield 65678, NN, NN, .getfield 57344, NN, NN, .istore_n 2, .aload_n 0, .getfield 65678, NN, NN, .iload_n 2, .iload_n 1, .aload_n 0, .getfield 65551, NN, NN, .getfield 61632, NN, NN, .invokestatic 9619, NN, NN, .invokevirtual 10882, NN, NN, .iconst 0, .istore_n 3, .iconst 0, .istore 4, NN],
  [.iload 4, NN, .aload_n 0, .getfield 65551, NN, NN, .getfield 61632, NN, NN, .if_icmp .ge 72, NN, NN, .aload_n 0, .iload 4, NN, .invokevirtual 22930, NN, NN, .iload_n 2, .iload 4, NN, .invokestatic 8978, NN, NN, .if_icmp .eq 66, NN, NN, .iload_n 3, .iconst 1, .iload 4, NN, .ishl],
  [.ior, .istore_n 3, .iinc 4 1, NN, NN, .goto 32, NN, NN, .iload_n 3, .ireturn]]
def kX10_inLowestTerms : List (List Instr) := [[.lload_n 0, .lstore 5, NN, .lload_n 2, .lstore 7, NN, .iconst 0, .istore 9, NN, .iload 9, NN, .bipush 100, NN, .if_icmp .ge 44, NN, NN, .lload 7, NN, .lconst 0, .lcmp, .ifCond .eq 44, NN, NN, .lload 5, NN, .lload 7, NN, .lrem, .lstore 10, NN, .lload 7, NN],
  [.lstore 5, NN, .lload 10, NN, .lstore 7, NN, .iinc 9 1, NN, NN, .goto 9, NN, NN, .lload 5, NN, .lconst 0, .lcmp, .ifCond .ne 53, NN, NN, .lconst 0, .lreturn, .iload 4, NN, .ifCond .eq 62, NN, NN, .lload_n 2, .goto 63, NN, NN, .lload_n 0, .lload 5],
  [NN, .ldiv, .lreturn]]
def kX11_init : List (List Instr) := [[.aload_n 0, .invokespecial 128385, NN, NN, .aload_n 0, .bipush 6, NN, .newarray .int, NN, .putfield 70276, NN, NN, .aload_n 0, .bipush 6, NN, .newarray .int, NN, .putfield 70340, NN, NN, .aload_n 0, .bipush 6, NN, .newarray .int, NN, .putfield 70404, NN, NN, .aload_n 0, .bipush 18, NN, .newarray .int],
  [NN, .putfield 70468, NN, NN, .aload_n 0, .iconst 4, .newarray .int, NN, .putfield 70532, NN, NN, .aload_n 0, .iconst 4, .newarray .int, NN, .putfield 70596, NN, NN, .aload_n 0, .iconst 3, .newarray .int, NN, .putfield 70788, NN, NN, .aload_n 0, .iconst 3, .newarray .int, NN, .putfield 70852, NN, NN],
  [.aload_n 0, .iconst 5, .newarray .int, NN, .putfield 70916, NN, NN, .aload_n 0, .iconst 5, .newarray .int, NN, .putfield 70980, NN, NN, .aload_n 0, .bipush 9, NN, .newarray .long, NN, .putfield 71045, NN, NN, .aload_n 0, .bipush 9, NN, .newarray .int, NN, .putfield 71108, NN, NN, .aload_n 0, .bipush 9],
  [NN, .newarray .int, NN, .putfield 71172, NN, NN, .return_]]
def kX11_find : List (List Instr) := [[.iconst 0, .istore_n 3, .iload_n 3, .aload_n 0, .getfield 70208, NN, NN, .if_icmp .ge 29, NN, NN, .aload_n 0, .getfield 71045, NN, NN, .iload_n 3, .laload, .lload_n 1, .lcmp, .ifCond .ne 23, NN, NN, .iload_n 3, .ireturn, .iinc 3 1, NN, NN, .goto 2, NN, NN, .iconst (-1), .ireturn]]
def kX11_isTaken : List (List Instr) := [[.iconst 0, .istore_n 2, .iload_n 2, .aload_n 0, .getfield 69824, NN, NN, .if_icmp .ge 28, NN, NN, .aload_n 0, .getfield 70340, NN, NN, .iload_n 2, .iaload, .iload_n 1, .if_icmp .ne 22, NN, NN, .iconst 1, .ireturn, .iinc 2 1, NN, NN, .goto 2, NN, NN, .iconst 0, .ireturn]]
def kX11_isUnsure : List (List Instr) := [[.iconst 0, .istore_n 2, .iload_n 2, .aload_n 0, .getfield 70080, NN, NN, .if_icmp .ge 28, NN, NN, .aload_n 0, .getfield 70788, NN, NN, .iload_n 2, .iaload, .iload_n 1, .if_icmp .ne 22, NN, NN, .iconst 1, .ireturn, .iinc 2 1, NN, NN, .goto 2, NN, NN, .iconst 0, .ireturn]]
def kX12_init : List (List Instr) := [[.aload_n 0, .invokespecial 128385, NN, NN, .aload_n 0, .iconst (-1), .putfield 73856, NN, NN, .aload_n 0, .sipush 700, NN, NN, .newarray .byte, NN, .putfield 74054, NN, NN, .aload_n 0, .bipush 6, NN, .newarray .int, NN, .putfield 74756, NN, NN, .aload_n 0, .bipush 6, NN, .newarray .int, NN, .putfield 74820],
  [NN, NN, .aload_n 0, .bipush 96, NN, .newarray .int, NN, .putfield 74884, NN, NN, .aload_n 0, .bipush 18, NN, .newarray .int, NN, .putfield 74948, NN, NN, .aload_n 0, .sipush 4320, NN, NN, .newarray .int, NN, .putfield 75140, NN, NN, .aload_n 0, .sipush 720, NN, NN, .newarray .int],
  [NN, .putfield 75204, NN, NN, .aload_n 0, .sipush 720, NN, NN, .newarray .int, NN, .putfield 75268, NN, NN, .aload_n 0, .sipush 720, NN, NN, .newarray .int, NN, .putfield 75332, NN, NN, .aload_n 0, .sipush 720, NN, NN, .newarray .int, NN, .putfield 75396, NN, NN, .aload_n 0],
  [.bipush 6, NN, .newarray .int, NN, .putfield 75460, NN, NN, .aload_n 0, .bipush 6, NN, .newarray .int, NN, .putfield 75588, NN, NN, .aload_n 0, .iconst 3, .newarray .int, NN, .putfield 75844, NN, NN, .aload_n 0, .sipush 1024, NN, NN, .newarray .int, NN, .putfield 75972, NN, NN, .aload_n 0],
  [.sipush 720, NN, NN, .newarray .long, NN, .putfield 76037, NN, NN, .aload_n 0, .sipush 720, NN, NN, .newarray .long, NN, .putfield 76101, NN, NN, .return_]]
def kX12_thrown : List (List Instr) := [[.aload_n 0, .getfield 73728, NN, NN, .ireturn]]
def kX12_refused : List (List Instr) := [[.aload_n 0, .iload_n 1, .putfield 73792, NN, NN, .aload_n 0, .iconst (-1), .putfield 73856, NN, NN, .iconst (-1), .ireturn]]
def kX12_lost : List (List Instr) := [[.aload_n 0, .iload_n 1, .invokevirtual 25746, NN, NN, .pop, .bipush (-100), NN, .ireturn]]
def kX12_denied : List (List Instr) := [[.aload_n 0, .iload_n 1, .invokevirtual 25746, NN, NN, .pop, .iconst 0, .ireturn]]
def kX12_good : List (List Instr) := [[.aload_n 0, .iconst 0, .putfield 73792, NN, NN, .aload_n 0, .iconst (-1), .putfield 73856, NN, NN, .iload_n 1, .ireturn]]
def kX12_goodLong : List (List Instr) := [[.aload_n 0, .iconst 0, .invokevirtual 26130, NN, NN, .pop, .lload_n 1, .lreturn]]
def kX12_granted : List (List Instr) := [[.aload_n 0, .iconst 0, .invokevirtual 26130, NN, NN, .pop, .iconst 1, .ireturn]]
def kX12_in : List (List Instr) := [[.iload_n 0, .iload_n 1, .if_icmp .lt 14, NN, NN, .iload_n 0, .iload_n 2, .if_icmp .gt 14, NN, NN, .iconst 1, .goto 15, NN, NN, .iconst 0, .ireturn]]
def kX12_bit : List (List Instr) := [[.iload_n 0, .iload_n 1, .ishr, .iconst 1, .iand, .iconst 1, .if_icmp .ne 13, NN, NN, .iconst 1, .goto 14, NN, NN, .iconst 0, .ireturn]]
def kX12_bits : List (List Instr) := [[.iconst 0, .istore_n 1, .iload_n 0, .istore_n 2, .iload_n 2, .ifCond .eq 20, NN, NN, .iinc 1 1, NN, NN, .iload_n 2, .iload_n 2, .iconst 1, .isub, .iand, .istore_n 2, .goto 4, NN, NN, .iload_n 1, .ireturn]]
def kX12_common : List (List Instr) := [[.lload_n 0, .lstore 4, NN, .lload_n 2, .lstore 6, NN, .lload 6, NN, .lconst 0, .lcmp, .ifCond .eq 31, NN, NN, .lload 4, NN, .lload 6, NN, .lrem, .lstore 8, NN, .lload 6, NN, .lstore 4, NN, .lload 8, NN, .lstore 6, NN, .goto 6, NN, NN, .lload 4],
  [NN, .lreturn]]
def kX12_fraction : List (List Instr) := [[.aload_n 0, .iconst 0, .invokevirtual 26130, NN, NN, .pop, .iload 5, NN, .ifCond .eq 15, NN, NN, .lload_n 3, .goto 16, NN, NN, .lload_n 1, .lload_n 1, .lload_n 3, .invokestatic 26930, NN, NN, .ldiv, .lreturn]]
def kX12_power : List (List Instr) := [[.lconst 1, .lstore_n 3, .iconst 0, .istore 5, NN, .iload 5, NN, .iload_n 2, .if_icmp .ge 21, NN, NN, .lload_n 3, .lload_n 0, .lmul, .lstore_n 3, .iinc 5 1, NN, NN, .goto 5, NN, NN, .lload_n 3, .lreturn]]
def kX12_byteAt : List (List Instr) := [[.iload_n 1, .aload_n 0, .getfield 74176, NN, NN, .if_icmp .ge 21, NN, NN, .aload_n 0, .getfield 74054, NN, NN, .iload_n 1, .baload, .sipush 255, NN, NN, .iand, .goto 22, NN, NN, .iconst (-1), .ireturn]]
def kX12_isLetter : List (List Instr) := [[.iload_n 0, .bipush 97, NN, .if_icmp .lt 16, NN, NN, .iload_n 0, .bipush 122, NN, .if_icmp .gt 16, NN, NN, .iconst 1, .goto 17, NN, NN, .iconst 0, .ireturn]]
def kX12_isDigit : List (List Instr) := [[.iload_n 0, .bipush 48, NN, .if_icmp .lt 16, NN, NN, .iload_n 0, .bipush 57, NN, .if_icmp .gt 16, NN, NN, .iconst 1, .goto 17, NN, NN, .iconst 0, .ireturn]]
def kX12_packed : List (List Instr) := [[.lconst 0, .lstore_n 1, .iconst 0, .istore_n 3, .iload_n 3, .aload_n 0, .invokevirtual 128529, NN, NN, .if_icmp .ge 36, NN, NN, .ldc2_w 32, NN, NN, .lload_n 1, .lmul, .aload_n 0, .iload_n 3, .invokevirtual 128658, NN, NN, .bipush 97, NN, .isub, .iconst 1, .iadd, .i2l, .ladd, .lstore_n 1, .iinc 3 1, NN],
  [NN, .goto 4, NN, NN, .lload_n 1, .lreturn]]
def kX12_goesOn : List (List Instr) := [[.aload_n 0, .getfield 74304, NN, NN, .iconst 5, .if_icmp .ne 9, NN, NN, .return_, .aload_n 0, .aload_n 0, .getfield 74240, NN, NN, .invokevirtual 27282, NN, NN, .bipush 32, NN, .if_icmp .ne 35, NN, NN, .aload_n 0, .dup, .getfield 74240, NN, NN, .iconst 1, .iadd, .putfield 74240, NN, NN],
  [.goto 9, NN, NN, .aload_n 0, .aload_n 0, .getfield 74240, NN, NN, .putfield 74368, NN, NN, .aload_n 0, .iconst 0, .putfield 74304, NN, NN, .aload_n 0, .aload_n 0, .getfield 74240, NN, NN, .invokevirtual 27282, NN, NN, .istore_n 1, .iconst 0, .istore_n 2, .iload_n 1, .iconst (-1), .if_icmp .ne 72, NN, NN],
  [.aload_n 0, .iconst 1, .putfield 74304, NN, NN, .goto 265, NN, NN, .iload_n 1, .invokestatic 27425, NN, NN, .ifCond .eq 161, NN, NN, .aload_n 0, .lconst 0, .putfield 74625, NN, NN, .aload_n 0, .aload_n 0, .getfield 74240, NN, NN, .invokevirtual 27282, NN, NN, .invokestatic 27425, NN, NN, .ifCond .eq 147],
  [NN, NN, .iload_n 2, .bipush 8, NN, .if_icmp .ge 131, NN, NN, .aload_n 0, .ldc2_w 32, NN, NN, .aload_n 0, .getfield 74625, NN, NN, .lmul, .aload_n 0, .aload_n 0, .getfield 74240, NN, NN, .invokevirtual 27282, NN, NN, .bipush 97, NN, .isub, .iconst 1, .iadd, .i2l, .ladd],
  [.putfield 74625, NN, NN, .iinc 2 1, NN, NN, .aload_n 0, .dup, .getfield 74240, NN, NN, .iconst 1, .iadd, .putfield 74240, NN, NN, .goto 84, NN, NN, .iload_n 2, .bipush 8, NN, .if_icmp .gt 265, NN, NN, .aload_n 0, .iconst 2, .putfield 74304, NN, NN, .goto 265, NN],
  [NN, .iload_n 1, .invokestatic 27553, NN, NN, .ifCond .eq 244, NN, NN, .aload_n 0, .iconst 0, .putfield 74432, NN, NN, .aload_n 0, .aload_n 0, .getfield 74240, NN, NN, .invokevirtual 27282, NN, NN, .invokestatic 27553, NN, NN, .ifCond .eq 231, NN, NN, .iload_n 2, .iconst 3, .if_icmp .ge 215, NN, NN],
  [.aload_n 0, .bipush 10, NN, .aload_n 0, .getfield 74432, NN, NN, .imul, .aload_n 0, .aload_n 0, .getfield 74240, NN, NN, .invokevirtual 27282, NN, NN, .iadd, .bipush 48, NN, .isub, .putfield 74432, NN, NN, .iinc 2 1, NN, NN, .aload_n 0, .dup, .getfield 74240, NN, NN, .iconst 1],
  [.iadd, .putfield 74240, NN, NN, .goto 173, NN, NN, .iload_n 2, .iconst 3, .if_icmp .gt 265, NN, NN, .aload_n 0, .iconst 3, .putfield 74304, NN, NN, .goto 265, NN, NN, .iload_n 1, .bipush 59, NN, .if_icmp .ne 265, NN, NN, .aload_n 0, .iconst 4, .putfield 74304, NN, NN, .aload_n 0],
  [.dup, .getfield 74240, NN, NN, .iconst 1, .iadd, .putfield 74240, NN, NN, .return_]]
def kX12_flaw : List (List Instr) := [[.aload_n 0, .getfield 74304, NN, NN, .iconst 5, .if_icmp .ne 9, NN, NN, .return_, .aload_n 0, .iload_n 1, .putfield 74496, NN, NN, .aload_n 0, .aload_n 0, .getfield 74368, NN, NN, .putfield 74560, NN, NN, .aload_n 0, .iconst 5, .putfield 74304, NN, NN, .return_]]
def kX12_isWord : List (List Instr) := [[.aload_n 0, .getfield 74304, NN, NN, .iconst 2, .if_icmp .ne 24, NN, NN, .aload_n 0, .getfield 74625, NN, NN, .aload_n 1, .invokestatic 27697, NN, NN, .lcmp, .ifCond .ne 24, NN, NN, .iconst 1, .goto 25, NN, NN, .iconst 0, .ireturn]]
def kX12_eatsSemicolon : List (List Instr) := [[.aload_n 0, .getfield 74304, NN, NN, .iconst 4, .if_icmp .ne 12, NN, NN, .iconst 1, .goto 13, NN, NN, .iconst 0, .istore_n 1, .iload_n 1, .ifCond .eq 22, NN, NN, .aload_n 0, .invokevirtual 27777, NN, NN, .iload_n 1, .ireturn]]
def kX12_needs : List (List Instr) := [[.aload_n 0, .aload_n 1, .invokevirtual 28066, NN, NN, .ifCond .ne 13, NN, NN, .aload_n 0, .iconst 1, .invokevirtual 27906, NN, NN, .aload_n 0, .invokevirtual 27777, NN, NN, .return_]]
def kX12_wholeAt : List (List Instr) := [[.aload_n 0, .getfield 74304, NN, NN, .iconst 3, .if_icmp .eq 16, NN, NN, .aload_n 0, .iconst 1, .invokevirtual 27906, NN, NN, .goto 33, NN, NN, .aload_n 0, .getfield 74432, NN, NN, .iload_n 1, .iload_n 2, .invokestatic 26531, NN, NN, .ifCond .ne 33, NN, NN, .aload_n 0, .iconst 4, .invokevirtual 27906, NN],
  [NN, .aload_n 0, .getfield 74304, NN, NN, .iconst 5, .if_icmp .ne 45, NN, NN, .iload_n 1, .goto 49, NN, NN, .aload_n 0, .getfield 74432, NN, NN, .ireturn]]
def kX12_readPart : List (List Instr) := [[.aload_n 0, .aload_n 1, .invokevirtual 28290, NN, NN, .aload_n 0, .iload_n 2, .iload_n 3, .invokevirtual 28435, NN, NN, .istore 4, NN, .aload_n 0, .invokevirtual 27777, NN, NN, .iload 4, NN, .ireturn]]
def kX12_isName : List (List Instr) := [[.aload_n 0, .getfield 74304, NN, NN, .iconst 2, .if_icmp .ne 53, NN, NN, .aload_n 0, .instanceof 0, NN, .invokevirtual 28066, NN, NN, .ifCond .ne 53, NN, NN, .aload_n 0, .instanceof 1, NN, .invokevirtual 28066, NN, NN, .ifCond .ne 53, NN, NN, .aload_n 0, .instanceof 2, NN, .invokevirtual 28066, NN, NN],
  [.ifCond .ne 53, NN, NN, .aload_n 0, .instanceof 3, NN, .invokevirtual 28066, NN, NN, .ifCond .ne 53, NN, NN, .aload_n 0, .instanceof 4, NN, .invokevirtual 28066, NN, NN, .ifCond .eq 55, NN, NN, .iconst 0, .ireturn, .aload_n 0, .instanceof 5, NN, .invokevirtual 28066, NN, NN, .ifCond .ne 86, NN, NN],
  [.aload_n 0, .instanceof 6, NN, .invokevirtual 28066, NN, NN, .ifCond .ne 86, NN, NN, .aload_n 0, .instanceof 7, NN, .invokevirtual 28066, NN, NN, .ifCond .ne 86, NN, NN, .iconst 1, .goto 87, NN, NN, .iconst 0, .ireturn]]
def kX12_lineBegins : List (List Instr) := [[.iload_n 1, .iload_n 2, .if_icmp .ne 10, NN, NN, .aload_n 0, .iconst 5, .invokevirtual 27906, NN, NN, .aload_n 0, .getfield 74001, NN, NN, .getfield 69632, NN, NN, .ifCond .ne 26, NN, NN, .aload_n 0, .bipush 6, NN, .invokevirtual 27906, NN, NN, .aload_n 0, .invokevirtual 27777, NN, NN, .return_]]
def kX12_readFresh : List (List Instr) := [[.aload_n 0, .invokevirtual 28705, NN, NN, .ifCond .ne 12, NN, NN, .aload_n 0, .iconst 1, .invokevirtual 27906, NN, NN, .aload_n 0, .getfield 74001, NN, NN, .aload_n 0, .getfield 74625, NN, NN, .invokevirtual 25106, NN, NN, .iconst (-1), .if_icmp .eq 32, NN, NN, .aload_n 0, .iconst 3, .invokevirtual 27906, NN, NN],
  [.aload_n 0, .getfield 74625, NN, NN, .lstore_n 1, .aload_n 0, .invokevirtual 27777, NN, NN, .lload_n 1, .lreturn]]
def kX12_names : List (List Instr) := [[.aload_n 0, .getfield 74001, NN, NN, .getfield 71045, NN, NN, .aload_n 0, .getfield 74001, NN, NN, .getfield 70208, NN, NN, .lload_n 1, .lastore, .aload_n 0, .getfield 74001, NN, NN, .getfield 71108, NN, NN, .aload_n 0, .getfield 74001, NN, NN, .getfield 70208, NN, NN, .iload_n 3, .iastore],
  [.aload_n 0, .getfield 74001, NN, NN, .getfield 71172, NN, NN, .aload_n 0, .getfield 74001, NN, NN, .getfield 70208, NN, NN, .iload 4, NN, .iastore, .aload_n 0, .getfield 74001, NN, NN, .dup, .getfield 70208, NN, NN, .iconst 1, .iadd, .putfield 70208, NN, NN, .return_]]
def kX12_personAtHand : List (List Instr) := [[.aload_n 0, .invokevirtual 28705, NN, NN, .ifCond .ne 12, NN, NN, .aload_n 0, .iconst 1, .invokevirtual 27906, NN, NN, .aload_n 0, .getfield 74001, NN, NN, .aload_n 0, .getfield 74625, NN, NN, .invokevirtual 25106, NN, NN, .istore_n 1, .iload_n 1, .iconst (-1), .if_icmp .eq 41, NN, NN, .aload_n 0, .getfield 74001, NN],
  [NN, .getfield 71108, NN, NN, .iload_n 1, .iaload, .ifCond .eq 46, NN, NN, .aload_n 0, .iconst 2, .invokevirtual 27906, NN, NN, .aload_n 0, .getfield 74304, NN, NN, .iconst 5, .if_icmp .ne 58, NN, NN, .iconst 0, .goto 67, NN, NN, .aload_n 0, .getfield 74001, NN, NN, .getfield 71172, NN],
  [NN, .iload_n 1, .iaload, .ireturn]]
def kX12_readTwo : List (List Instr) := [[.aload_n 0, .invokevirtual 29201, NN, NN, .istore_n 1, .aload_n 0, .invokevirtual 27777, NN, NN, .aload_n 0, .aload_n 0, .invokevirtual 29201, NN, NN, .putfield 74688, NN, NN, .aload_n 0, .getfield 74304, NN, NN, .iconst 5, .if_icmp .eq 38, NN, NN, .iload_n 1, .aload_n 0, .getfield 74688, NN, NN, .if_icmp .ne 38, NN],
  [NN, .aload_n 0, .iconst 3, .invokevirtual 27906, NN, NN, .iload_n 1, .ireturn]]
def kX12_readAll : List (List Instr) := [[.iconst 1, .istore_n 1, .iload_n 1, .ifCond .eq 18, NN, NN, .aload_n 0, .invokevirtual 29569, NN, NN, .aload_n 0, .invokevirtual 28193, NN, NN, .istore_n 1, .goto 2, NN, NN, .aload_n 0, .getfield 74304, NN, NN, .iconst 1, .if_icmp .eq 31, NN, NN, .aload_n 0, .iconst 1, .invokevirtual 27906, NN, NN, .aload_n 0],
  [.getfield 74001, NN, NN, .getfield 69824, NN, NN, .ifCond .eq 51, NN, NN, .aload_n 0, .getfield 74001, NN, NN, .getfield 69888, NN, NN, .ifCond .ne 57, NN, NN, .aload_n 0, .bipush 6, NN, .invokevirtual 27906, NN, NN, .return_]]
def kX12_readLine : List (List Instr) := [[.aload_n 0, .instanceof 0, NN, .invokevirtual 28066, NN, NN, .ifCond .eq 16, NN, NN, .aload_n 0, .invokevirtual 29697, NN, NN, .goto 135, NN, NN, .aload_n 0, .instanceof 1, NN, .invokevirtual 28066, NN, NN, .ifCond .eq 32, NN, NN, .aload_n 0, .invokevirtual 29825, NN, NN, .goto 135, NN, NN],
  [.aload_n 0, .instanceof 2, NN, .invokevirtual 28066, NN, NN, .ifCond .eq 48, NN, NN, .aload_n 0, .invokevirtual 29953, NN, NN, .goto 135, NN, NN, .aload_n 0, .instanceof 3, NN, .invokevirtual 28066, NN, NN, .ifCond .eq 64, NN, NN, .aload_n 0, .invokevirtual 30081, NN, NN, .goto 135, NN, NN],
  [.aload_n 0, .instanceof 4, NN, .invokevirtual 28066, NN, NN, .ifCond .eq 81, NN, NN, .aload_n 0, .iconst 0, .invokevirtual 30210, NN, NN, .goto 135, NN, NN, .aload_n 0, .instanceof 5, NN, .invokevirtual 28066, NN, NN, .ifCond .eq 98, NN, NN, .aload_n 0, .iconst 1, .invokevirtual 30210, NN, NN, .goto 135],
  [NN, NN, .aload_n 0, .instanceof 6, NN, .invokevirtual 28066, NN, NN, .ifCond .eq 114, NN, NN, .aload_n 0, .invokevirtual 30337, NN, NN, .goto 135, NN, NN, .aload_n 0, .instanceof 7, NN, .invokevirtual 28066, NN, NN, .ifCond .eq 130, NN, NN, .aload_n 0, .invokevirtual 30465, NN, NN, .goto 135],
  [NN, NN, .aload_n 0, .iconst 1, .invokevirtual 27906, NN, NN, .return_]]
def kX12_readTube : List (List Instr) := [[.aload_n 0, .getfield 74001, NN, NN, .getfield 69632, NN, NN, .ifCond .le 15, NN, NN, .aload_n 0, .iconst 3, .invokevirtual 27906, NN, NN, .aload_n 0, .invokevirtual 27777, NN, NN, .aload_n 0, .instanceof 8, NN, .iconst 2, .bipush 9, NN, .invokevirtual 28564, NN, NN, .istore_n 1, .aload_n 0, .instanceof 9, NN],
  [.iconst 2, .bipush 6, NN, .invokevirtual 28564, NN, NN, .istore_n 2, .aload_n 0, .instanceof 10, NN, .iconst 0, .bipush 100, NN, .invokevirtual 28564, NN, NN, .istore_n 3, .aload_n 0, .getfield 74304, NN, NN, .iconst 5, .if_icmp .ne 58, NN, NN, .return_, .aload_n 0, .getfield 74001, NN, NN, .iload_n 1, .putfield 69632],
  [NN, NN, .aload_n 0, .getfield 74001, NN, NN, .iload_n 2, .putfield 69696, NN, NN, .aload_n 0, .getfield 74001, NN, NN, .iload_n 3, .putfield 69760, NN, NN, .return_]]
def kX12_readPerson : List (List Instr) := [[.aload_n 0, .aload_n 0, .getfield 74001, NN, NN, .getfield 69824, NN, NN, .bipush 6, NN, .invokevirtual 28803, NN, NN, .aload_n 0, .invokevirtual 28977, NN, NN, .lstore_n 1, .aload_n 0, .checkcast 11, NN, NN, .invokevirtual 28066, NN, NN, .ifCond .eq 32, NN, NN, .iconst 0, .goto 61, NN, NN],
  [.aload_n 0, .checkcast 12, NN, NN, .invokevirtual 28066, NN, NN, .ifCond .eq 46, NN, NN, .iconst 1, .goto 61, NN, NN, .aload_n 0, .checkcast 13, NN, NN, .invokevirtual 28066, NN, NN, .ifCond .eq 60, NN, NN, .iconst 2, .goto 61, NN, NN, .iconst (-1), .istore_n 3, .iload_n 3, .iconst (-1)],
  [.if_icmp .ne 72, NN, NN, .aload_n 0, .iconst 1, .invokevirtual 27906, NN, NN, .aload_n 0, .invokevirtual 27777, NN, NN, .aload_n 0, .checkcast 14, NN, NN, .invokevirtual 28290, NN, NN, .aload_n 0, .iconst 0, .aload_n 0, .getfield 74001, NN, NN, .getfield 69696, NN, NN, .iconst 1, .isub, .invokevirtual 28435, NN],
  [NN, .istore 4, NN, .aload_n 0, .getfield 74304, NN, NN, .iconst 5, .if_icmp .eq 124, NN, NN, .aload_n 0, .getfield 74001, NN, NN, .iload 4, NN, .invokevirtual 25250, NN, NN, .ifCond .eq 124, NN, NN, .aload_n 0, .iconst 3, .invokevirtual 27906, NN, NN, .aload_n 0, .invokevirtual 27777, NN, NN],
  [.aload_n 0, .getfield 74304, NN, NN, .iconst 5, .if_icmp .ne 137, NN, NN, .return_, .aload_n 0, .lload_n 1, .iconst 0, .aload_n 0, .getfield 74001, NN, NN, .getfield 69824, NN, NN, .invokevirtual 29060, NN, NN, .aload_n 0, .getfield 74001, NN, NN, .getfield 70276, NN, NN, .aload_n 0, .getfield 74001, NN],
  [NN, .getfield 69824, NN, NN, .iload_n 3, .iastore, .aload_n 0, .getfield 74001, NN, NN, .getfield 70340, NN, NN, .aload_n 0, .getfield 74001, NN, NN, .getfield 69824, NN, NN, .iload 4, NN, .iastore, .aload_n 0, .getfield 74001, NN, NN, .dup, .getfield 69824, NN, NN, .iconst 1],
  [.iadd, .putfield 69824, NN, NN, .return_]]
def kX12_readTurn : List (List Instr) := [[.aload_n 0, .aload_n 0, .getfield 74001, NN, NN, .getfield 69888, NN, NN, .iconst 3, .invokevirtual 28803, NN, NN, .aload_n 0, .invokevirtual 28977, NN, NN, .lstore_n 1, .iconst 0, .istore_n 3, .iconst 0, .istore 4, NN, .iload 4, NN, .aload_n 0, .getfield 74001, NN, NN, .getfield 69696, NN, NN, .if_icmp .ge 128],
  [NN, NN, .aload_n 0, .getfield 74304, NN, NN, .iconst 5, .if_icmp .eq 128, NN, NN, .aload_n 0, .iconst 0, .aload_n 0, .getfield 74001, NN, NN, .getfield 69696, NN, NN, .iconst 1, .isub, .invokevirtual 28435, NN, NN, .istore 5, NN, .aload_n 0, .getfield 74304, NN, NN, .iconst 5, .if_icmp .eq 80],
  [NN, NN, .iload_n 3, .iload 5, NN, .invokestatic 26658, NN, NN, .ifCond .eq 80, NN, NN, .aload_n 0, .iconst 3, .invokevirtual 27906, NN, NN, .aload_n 0, .getfield 74304, NN, NN, .iconst 5, .if_icmp .eq 111, NN, NN, .aload_n 0, .getfield 74001, NN, NN, .getfield 70468, NN, NN, .bipush 6],
  [NN, .aload_n 0, .getfield 74001, NN, NN, .getfield 69888, NN, NN, .imul, .iload 4, NN, .iadd, .iload 5, NN, .iastore, .iload_n 3, .iconst 1, .iload 5, NN, .ishl, .ior, .istore_n 3, .aload_n 0, .invokevirtual 27777, NN, NN, .iinc 4 1, NN, NN, .goto 22, NN, NN],
  [.aload_n 0, .getfield 74304, NN, NN, .iconst 5, .if_icmp .ne 137, NN, NN, .return_, .aload_n 0, .lload_n 1, .iconst 1, .aload_n 0, .getfield 74001, NN, NN, .getfield 69888, NN, NN, .invokevirtual 29060, NN, NN, .aload_n 0, .getfield 74001, NN, NN, .dup, .getfield 69888, NN, NN, .iconst 1, .iadd],
  [.putfield 69888, NN, NN, .return_]]
def kX12_readQuarrel : List (List Instr) := [[.aload_n 0, .aload_n 0, .getfield 74001, NN, NN, .getfield 69952, NN, NN, .bipush 6, NN, .invokevirtual 28803, NN, NN, .aload_n 0, .invokevirtual 29329, NN, NN, .istore_n 1, .aload_n 0, .getfield 74304, NN, NN, .iconst 5, .if_icmp .eq 50, NN, NN, .aload_n 0, .getfield 74001, NN, NN, .getfield 70404, NN],
  [NN, .iload_n 1, .iaload, .aload_n 0, .getfield 74688, NN, NN, .invokestatic 26658, NN, NN, .ifCond .eq 50, NN, NN, .aload_n 0, .iconst 3, .invokevirtual 27906, NN, NN, .aload_n 0, .invokevirtual 27777, NN, NN, .aload_n 0, .getfield 74304, NN, NN, .iconst 5, .if_icmp .ne 63, NN, NN, .return_, .aload_n 0],
  [.getfield 74001, NN, NN, .getfield 70404, NN, NN, .iload_n 1, .dup2, .iaload, .iconst 1, .aload_n 0, .getfield 74688, NN, NN, .ishl, .ior, .iastore, .aload_n 0, .getfield 74001, NN, NN, .getfield 70404, NN, NN, .aload_n 0, .getfield 74688, NN, NN, .dup2, .iaload, .iconst 1, .iload_n 1],
  [.ishl, .ior, .iastore, .aload_n 0, .getfield 74001, NN, NN, .dup, .getfield 69952, NN, NN, .iconst 1, .iadd, .putfield 69952, NN, NN, .return_]]
def kX12_readWish : List (List Instr) := [[.aload_n 0, .aload_n 0, .getfield 74001, NN, NN, .getfield 70016, NN, NN, .iconst 4, .invokevirtual 28803, NN, NN, .aload_n 0, .invokevirtual 29329, NN, NN, .istore_n 2, .aload_n 0, .invokevirtual 27777, NN, NN, .aload_n 0, .getfield 74304, NN, NN, .iconst 5, .if_icmp .ne 30, NN, NN, .return_, .aload_n 0, .getfield 74001],
  [NN, NN, .getfield 70532, NN, NN, .aload_n 0, .getfield 74001, NN, NN, .getfield 70016, NN, NN, .iload_n 2, .iastore, .aload_n 0, .getfield 74001, NN, NN, .getfield 70596, NN, NN, .aload_n 0, .getfield 74001, NN, NN, .getfield 70016, NN, NN, .aload_n 0, .getfield 74688, NN, NN],
  [.iastore, .iload_n 1, .ifCond .eq 90, NN, NN, .aload_n 0, .getfield 74001, NN, NN, .dup, .getfield 70656, NN, NN, .iconst 1, .aload_n 0, .getfield 74001, NN, NN, .getfield 70016, NN, NN, .ishl, .ior, .putfield 70656, NN, NN, .aload_n 0, .getfield 74001, NN, NN, .dup, .getfield 70016],
  [NN, NN, .iconst 1, .iadd, .putfield 70016, NN, NN, .return_]]
def kX12_readUnsure : List (List Instr) := [[.aload_n 0, .aload_n 0, .getfield 74001, NN, NN, .getfield 70080, NN, NN, .iconst 3, .invokevirtual 28803, NN, NN, .aload_n 0, .invokevirtual 29201, NN, NN, .istore_n 1, .aload_n 0, .getfield 74304, NN, NN, .iconst 5, .if_icmp .eq 41, NN, NN, .aload_n 0, .getfield 74001, NN, NN, .iload_n 1, .invokevirtual 25378, NN],
  [NN, .ifCond .eq 41, NN, NN, .aload_n 0, .iconst 3, .invokevirtual 27906, NN, NN, .aload_n 0, .invokevirtual 27777, NN, NN, .aload_n 0, .iconst 0, .aload_n 0, .getfield 74001, NN, NN, .getfield 69696, NN, NN, .iconst 1, .isub, .invokevirtual 28435, NN, NN, .istore_n 2, .aload_n 0, .invokevirtual 27777, NN, NN],
  [.aload_n 0, .getfield 74304, NN, NN, .iconst 5, .if_icmp .ne 73, NN, NN, .return_, .aload_n 0, .getfield 74001, NN, NN, .getfield 70788, NN, NN, .aload_n 0, .getfield 74001, NN, NN, .getfield 70080, NN, NN, .iload_n 1, .iastore, .aload_n 0, .getfield 74001, NN, NN, .getfield 70852, NN, NN],
  [.aload_n 0, .getfield 74001, NN, NN, .getfield 70080, NN, NN, .iload_n 2, .iastore, .aload_n 0, .getfield 74001, NN, NN, .dup, .getfield 70080, NN, NN, .iconst 1, .iadd, .putfield 70080, NN, NN, .return_]]
def kX12_readSeen : List (List Instr) := [[.aload_n 0, .aload_n 0, .getfield 74001, NN, NN, .getfield 70144, NN, NN, .iconst 5, .invokevirtual 28803, NN, NN, .aload_n 0, .invokevirtual 29329, NN, NN, .istore_n 1, .aload_n 0, .invokevirtual 27777, NN, NN, .aload_n 0, .checkcast 15, NN, NN, .invokevirtual 28066, NN, NN, .istore_n 2, .iload_n 2, .ifCond .ne 48, NN],
  [NN, .aload_n 0, .checkcast 16, NN, NN, .invokevirtual 28066, NN, NN, .ifCond .ne 48, NN, NN, .aload_n 0, .iconst 1, .invokevirtual 27906, NN, NN, .aload_n 0, .invokevirtual 27777, NN, NN, .aload_n 0, .getfield 74304, NN, NN, .iconst 5, .if_icmp .ne 61, NN, NN, .return_, .aload_n 0, .getfield 74001, NN],
  [NN, .getfield 70916, NN, NN, .aload_n 0, .getfield 74001, NN, NN, .getfield 70144, NN, NN, .iload_n 1, .iastore, .aload_n 0, .getfield 74001, NN, NN, .getfield 70980, NN, NN, .aload_n 0, .getfield 74001, NN, NN, .getfield 70144, NN, NN, .aload_n 0, .getfield 74688, NN, NN, .iastore],
  [.iload_n 2, .ifCond .eq 121, NN, NN, .aload_n 0, .getfield 74001, NN, NN, .dup, .getfield 70720, NN, NN, .iconst 1, .aload_n 0, .getfield 74001, NN, NN, .getfield 70144, NN, NN, .ishl, .ior, .putfield 70720, NN, NN, .aload_n 0, .getfield 74001, NN, NN, .dup, .getfield 70144, NN],
  [NN, .iconst 1, .iadd, .putfield 70144, NN, NN, .return_]]
def kX12_feed : List (List Instr) := [[.aload_n 0, .iconst 0, .putfield 73728, NN, NN, .aload_n 0, .getfield 74112, NN, NN, .bipush 20, NN, .iadd, .sipush 700, NN, NN, .if_icmp .le 20, NN, NN, .iconst (-1), .ireturn, .iconst 0, .istore 6, NN, .iload 6, NN, .bipush 20, NN, .if_icmp .ge 117, NN, NN, .iload 6, NN],
  [.iconst 4, .if_icmp .ge 40, NN, NN, .iload_n 1, .goto 76, NN, NN, .iload 6, NN, .bipush 8, NN, .if_icmp .ge 51, NN, NN, .iload_n 2, .goto 76, NN, NN, .iload 6, NN, .bipush 12, NN, .if_icmp .ge 62, NN, NN, .iload_n 3, .goto 76, NN, NN, .iload 6, NN],
  [.bipush 16, NN, .if_icmp .ge 74, NN, NN, .iload 4, NN, .goto 76, NN, NN, .iload 5, NN, .istore 7, NN, .aload_n 0, .getfield 74054, NN, NN, .aload_n 0, .getfield 74112, NN, NN, .iload 7, NN, .bipush 24, NN, .bipush 8, NN, .iload 6, NN, .iconst 4, .irem],
  [.imul, .isub, .ishr, .i2b, .bastore, .aload_n 0, .dup, .getfield 74112, NN, NN, .iconst 1, .iadd, .putfield 74112, NN, NN, .iinc 6 1, NN, NN, .goto 23, NN, NN, .aload_n 0, .getfield 74112, NN, NN, .ireturn]]
def kX12_tube : List (List Instr) := [[.aload_n 0, .iconst 0, .putfield 73728, NN, NN, .iload_n 1, .ifCond .lt 17, NN, NN, .iload_n 1, .aload_n 0, .getfield 74112, NN, NN, .if_icmp .le 23, NN, NN, .aload_n 0, .iconst 2, .invokevirtual 25746, NN, NN, .ireturn, .aload_n 0, .iload_n 1, .putfield 74176, NN, NN, .aload_n 0, .iconst 0, .putfield 74112, NN],
  [NN, .aload_n 0, .iconst 0, .putfield 74240, NN, NN, .aload_n 0, .iconst 0, .putfield 74496, NN, NN, .aload_n 0, .new 17, NN, NN, .dup, .invokespecial 24961, NN, NN, .putfield 74001, NN, NN, .aload_n 0, .iconst 0, .putfield 74304, NN, NN, .aload_n 0, .invokevirtual 27777, NN, NN, .aload_n 0],
  [.invokevirtual 29441, NN, NN, .aload_n 0, .getfield 74496, NN, NN, .ifCond .le 89, NN, NN, .aload_n 0, .iconst 4, .putfield 73792, NN, NN, .aload_n 0, .aload_n 0, .getfield 74560, NN, NN, .putfield 73856, NN, NN, .iconst (-1), .ireturn, .aload_n 0, .aload_n 0, .getfield 74001, NN, NN, .putfield 73937, NN],
  [NN, .iconst 0, .istore_n 2, .iload_n 2, .bipush 6, NN, .if_icmp .ge 126, NN, NN, .aload_n 0, .getfield 74756, NN, NN, .iload_n 2, .aload_n 0, .getfield 73937, NN, NN, .getfield 70340, NN, NN, .iload_n 2, .iaload, .iastore, .iinc 2 1, NN, NN, .goto 99, NN, NN, .aload_n 0, .iconst 0],
  [.putfield 75008, NN, NN, .aload_n 0, .iconst 0, .putfield 75072, NN, NN, .aload_n 0, .iconst 0, .invokevirtual 32258, NN, NN, .aload_n 0, .aload_n 0, .getfield 73937, NN, NN, .getfield 69824, NN, NN, .invokevirtual 26130, NN, NN, .ireturn]]
def kX12_fault : List (List Instr) := [[.aload_n 0, .iconst 0, .putfield 73728, NN, NN, .aload_n 0, .getfield 74496, NN, NN, .ireturn]]
def kX12_where : List (List Instr) := [[.aload_n 0, .iconst 0, .putfield 73728, NN, NN, .aload_n 0, .getfield 73856, NN, NN, .ireturn]]
def kX12_isPerson : List (List Instr) := [[.aload_n 0, .getfield 73937, NN, NN, .ifnull 26, NN, NN, .iload_n 1, .ifCond .lt 26, NN, NN, .iload_n 1, .aload_n 0, .getfield 73937, NN, NN, .getfield 69824, NN, NN, .if_icmp .ge 26, NN, NN, .iconst 1, .goto 27, NN, NN, .iconst 0, .ireturn]]
def kX12_isSlot : List (List Instr) := [[.aload_n 0, .getfield 73937, NN, NN, .ifnull 26, NN, NN, .iload_n 1, .ifCond .lt 26, NN, NN, .iload_n 1, .aload_n 0, .getfield 73937, NN, NN, .getfield 69696, NN, NN, .if_icmp .ge 26, NN, NN, .iconst 1, .goto 27, NN, NN, .iconst 0, .ireturn]]
def kX12_isTurn : List (List Instr) := [[.aload_n 0, .getfield 73937, NN, NN, .ifnull 26, NN, NN, .iload_n 1, .ifCond .lt 26, NN, NN, .iload_n 1, .aload_n 0, .getfield 73937, NN, NN, .getfield 69888, NN, NN, .if_icmp .ge 26, NN, NN, .iconst 1, .goto 27, NN, NN, .iconst 0, .ireturn]]
def kX12_areTwo : List (List Instr) := [[.aload_n 0, .iload_n 1, .invokevirtual 31138, NN, NN, .ifCond .eq 25, NN, NN, .aload_n 0, .iload_n 2, .invokevirtual 31138, NN, NN, .ifCond .eq 25, NN, NN, .iload_n 1, .iload_n 2, .if_icmp .eq 25, NN, NN, .iconst 1, .goto 26, NN, NN, .iconst 0, .ireturn]]
def kX12_works : List (List Instr) := [[.iconst 0, .istore_n 1, .iload_n 1, .bipush 6, NN, .if_icmp .ge 26, NN, NN, .aload_n 0, .getfield 74820, NN, NN, .iload_n 1, .aload_n 0, .getfield 74756, NN, NN, .iload_n 1, .iaload, .iastore, .iinc 1 1, NN, NN, .goto 2, NN, NN, .return_]]
def kX12_slid : List (List Instr) := [[.iload_n 1, .aload_n 0, .getfield 73937, NN, NN, .getfield 69888, NN, NN, .if_icmp .ge 28, NN, NN, .aload_n 0, .getfield 73937, NN, NN, .getfield 70468, NN, NN, .bipush 6, NN, .iload_n 1, .imul, .iload_n 2, .iadd, .iaload, .goto 39, NN, NN, .aload_n 0, .getfield 73937, NN, NN],
  [.getfield 69696, NN, NN, .iconst 1, .isub, .iload_n 2, .isub, .ireturn]]
def kX12_ranked : List (List Instr) := [[.iconst 0, .istore_n 1, .iconst 0, .istore_n 2, .iload_n 2, .aload_n 0, .getfield 73937, NN, NN, .getfield 69696, NN, NN, .if_icmp .ge 84, NN, NN, .iconst 0, .istore_n 3, .iload_n 2, .iconst 1, .iadd, .istore 4, NN, .iload 4, NN, .aload_n 0, .getfield 73937, NN, NN, .getfield 69696, NN, NN, .if_icmp .ge 64],
  [NN, NN, .iload_n 3, .aload_n 0, .getfield 75460, NN, NN, .iload 4, NN, .iaload, .aload_n 0, .getfield 75460, NN, NN, .iload_n 2, .iaload, .if_icmp .ge 55, NN, NN, .iconst 1, .goto 56, NN, NN, .iconst 0, .iadd, .istore_n 3, .iinc 4 1, NN, NN, .goto 22, NN, NN],
  [.iload_n 1, .aload_n 0, .getfield 73937, NN, NN, .getfield 69696, NN, NN, .iload_n 2, .isub, .imul, .iload_n 3, .iadd, .istore_n 1, .iinc 2 1, NN, NN, .goto 4, NN, NN, .iload_n 1, .ireturn]]
def kX12_layWay : List (List Instr) := [[.iconst 0, .istore_n 2, .iload_n 2, .aload_n 0, .getfield 73937, NN, NN, .getfield 69696, NN, NN, .if_icmp .ge 36, NN, NN, .aload_n 0, .getfield 75460, NN, NN, .iload_n 2, .aload_n 0, .getfield 75140, NN, NN, .bipush 6, NN, .iload_n 1, .imul, .iload_n 2, .iadd, .iaload, .iastore, .iinc 2 1, NN],
  [NN, .goto 2, NN, NN, .return_]]
def kX12_adds : List (List Instr) := [[.iconst 0, .istore 4, NN, .iload 4, NN, .aload_n 0, .getfield 73937, NN, NN, .getfield 69696, NN, NN, .if_icmp .ge 43, NN, NN, .aload_n 0, .getfield 75140, NN, NN, .bipush 6, NN, .aload_n 0, .getfield 75520, NN, NN, .imul, .iload 4, NN, .iadd, .aload_n 0, .getfield 75460, NN],
  [NN, .iload 4, NN, .iaload, .iastore, .iinc 4 1, NN, NN, .goto 3, NN, NN, .aload_n 0, .getfield 75204, NN, NN, .iload_n 1, .aload_n 0, .getfield 75520, NN, NN, .iastore, .aload_n 0, .getfield 75268, NN, NN, .aload_n 0, .getfield 75520, NN, NN, .iload_n 2, .iconst (-1), .if_icmp .ne 70],
  [NN, NN, .iconst 0, .goto 78, NN, NN, .aload_n 0, .getfield 75268, NN, NN, .iload_n 2, .iaload, .iconst 1, .iadd, .iastore, .aload_n 0, .getfield 75332, NN, NN, .aload_n 0, .getfield 75520, NN, NN, .iload_n 2, .iastore, .aload_n 0, .getfield 75396, NN, NN, .aload_n 0, .getfield 75520, NN],
  [NN, .iload_n 3, .iastore, .aload_n 0, .dup, .getfield 75520, NN, NN, .iconst 1, .iadd, .putfield 75520, NN, NN, .return_]]
def kX12_reaches : List (List Instr) := [[.iconst 0, .istore_n 2, .iload_n 2, .sipush 720, NN, NN, .if_icmp .ge 22, NN, NN, .aload_n 0, .getfield 75204, NN, NN, .iload_n 2, .iconst (-1), .iastore, .iinc 2 1, NN, NN, .goto 2, NN, NN, .iconst 0, .istore_n 2, .iload_n 2, .aload_n 0, .getfield 73937, NN, NN, .getfield 69696, NN, NN],
  [.if_icmp .ge 48, NN, NN, .aload_n 0, .getfield 75460, NN, NN, .iload_n 2, .iload_n 2, .iastore, .iinc 2 1, NN, NN, .goto 24, NN, NN, .aload_n 0, .iconst 0, .putfield 75520, NN, NN, .aload_n 0, .aload_n 0, .invokevirtual 31889, NN, NN, .iconst (-1), .iconst (-1), .invokevirtual 32132, NN, NN, .iconst 0],
  [.istore_n 2, .iload_n 2, .aload_n 0, .getfield 75520, NN, NN, .if_icmp .ge 178, NN, NN, .iconst 0, .istore_n 3, .iload_n 3, .aload_n 0, .getfield 73937, NN, NN, .getfield 69888, NN, NN, .iload_n 1, .ifCond .eq 91, NN, NN, .iconst 1, .goto 92, NN, NN, .iconst 0, .iadd, .if_icmp .ge 172, NN, NN],
  [.iconst 0, .istore 4, NN, .iload 4, NN, .aload_n 0, .getfield 73937, NN, NN, .getfield 69696, NN, NN, .if_icmp .ge 141, NN, NN, .aload_n 0, .getfield 75460, NN, NN, .iload 4, NN, .aload_n 0, .iload_n 3, .aload_n 0, .getfield 75140, NN, NN, .bipush 6, NN, .iload_n 2, .imul, .iload 4],
  [NN, .iadd, .iaload, .invokevirtual 31763, NN, NN, .iastore, .iinc 4 1, NN, NN, .goto 99, NN, NN, .aload_n 0, .invokevirtual 31889, NN, NN, .istore 4, NN, .aload_n 0, .getfield 75204, NN, NN, .iload 4, NN, .iaload, .iconst (-1), .if_icmp .ne 166, NN, NN, .aload_n 0, .iload 4],
  [NN, .iload_n 2, .iload_n 3, .invokevirtual 32132, NN, NN, .iinc 3 1, NN, NN, .goto 75, NN, NN, .iinc 2 1, NN, NN, .goto 65, NN, NN, .return_]]
def kX12_comes : List (List Instr) := [[.aload_n 0, .getfield 75140, NN, NN, .bipush 6, NN, .iload_n 1, .imul, .iload_n 2, .iadd, .iaload, .ireturn]]
def kX12_goesBy : List (List Instr) := [[.iconst 0, .istore_n 2, .iload_n 2, .aload_n 0, .getfield 73937, NN, NN, .getfield 69824, NN, NN, .if_icmp .ge 36, NN, NN, .aload_n 0, .getfield 74820, NN, NN, .iload_n 2, .aload_n 0, .iload_n 1, .aload_n 0, .getfield 74756, NN, NN, .iload_n 2, .iaload, .invokevirtual 32403, NN, NN, .iastore, .iinc 2 1, NN],
  [NN, .goto 2, NN, NN, .return_]]
def kX12_ringsOf : List (List Instr) := [[.iconst 0, .istore_n 1, .iconst 0, .istore_n 2, .iconst 0, .istore_n 3, .iload_n 3, .aload_n 0, .getfield 73937, NN, NN, .getfield 69696, NN, NN, .if_icmp .ge 68, NN, NN, .iload_n 1, .iload_n 3, .invokestatic 26658, NN, NN, .ifCond .eq 28, NN, NN, .goto 62, NN, NN, .iinc 2 1, NN, NN, .iload_n 3],
  [.istore 4, NN, .iload_n 1, .iload 4, NN, .invokestatic 26658, NN, NN, .ifCond .ne 62, NN, NN, .iload_n 1, .iconst 1, .iload 4, NN, .ishl, .ior, .istore_n 1, .aload_n 0, .getfield 75460, NN, NN, .iload 4, NN, .iaload, .istore 4, NN, .goto 34, NN, NN, .iinc 3 1, NN],
  [NN, .goto 6, NN, NN, .iload_n 2, .ireturn]]
def kX12_isEven : List (List Instr) := [[.aload_n 0, .getfield 73937, NN, NN, .getfield 69696, NN, NN, .aload_n 0, .invokevirtual 32657, NN, NN, .isub, .iconst 2, .irem, .ifCond .ne 21, NN, NN, .iconst 1, .goto 22, NN, NN, .iconst 0, .ireturn]]
def kX12_fixed : List (List Instr) := [[.iconst 0, .istore_n 1, .iconst 0, .istore_n 2, .iload_n 2, .aload_n 0, .getfield 73937, NN, NN, .getfield 69696, NN, NN, .if_icmp .ge 39, NN, NN, .iload_n 1, .aload_n 0, .getfield 75460, NN, NN, .iload_n 2, .iaload, .iload_n 2, .if_icmp .ne 30, NN, NN, .iconst 1, .goto 31, NN, NN, .iconst 0, .iadd],
  [.istore_n 1, .iinc 2 1, NN, NN, .goto 4, NN, NN, .iload_n 1, .ireturn]]
def kX12_areBeside : List (List Instr) := [[.iload_n 0, .iload_n 1, .isub, .iconst 1, .if_icmp .eq 14, NN, NN, .iload_n 1, .iload_n 0, .isub, .iconst 1, .if_icmp .ne 18, NN, NN, .iconst 1, .goto 19, NN, NN, .iconst 0, .ireturn]]
def kX12_besideOf : List (List Instr) := [[.iconst 0, .istore_n 2, .iconst 0, .istore_n 3, .iload_n 3, .aload_n 0, .getfield 73937, NN, NN, .getfield 69824, NN, NN, .if_icmp .ge 49, NN, NN, .iload_n 2, .aload_n 0, .getfield 74820, NN, NN, .iload_n 1, .iaload, .aload_n 0, .getfield 74820, NN, NN, .iload_n 3, .iaload, .invokestatic 33058, NN, NN, .ifCond .eq 40],
  [NN, NN, .iconst 1, .iload_n 3, .ishl, .goto 41, NN, NN, .iconst 0, .ior, .istore_n 2, .iinc 3 1, NN, NN, .goto 4, NN, NN, .iload_n 2, .ireturn]]
def kX12_person : List (List Instr) := [[.aload_n 0, .iconst 0, .putfield 73728, NN, NN, .aload_n 0, .iload_n 1, .invokevirtual 31138, NN, NN, .ifCond .eq 22, NN, NN, .iload_n 2, .iconst 0, .iconst 4, .invokestatic 26531, NN, NN, .ifCond .ne 28, NN, NN, .aload_n 0, .iconst 1, .invokevirtual 25746, NN, NN, .ireturn, .aload_n 0, .invokevirtual 31617, NN, NN],
  [.aload_n 0, .iload_n 2, .ifCond .ne 49, NN, NN, .aload_n 0, .getfield 73937, NN, NN, .getfield 70276, NN, NN, .iload_n 1, .iaload, .goto 102, NN, NN, .iload_n 2, .iconst 1, .if_icmp .ne 63, NN, NN, .aload_n 0, .getfield 74756, NN, NN, .iload_n 1, .iaload, .goto 102, NN, NN, .iload_n 2],
  [.iconst 2, .if_icmp .ne 76, NN, NN, .aload_n 0, .iload_n 1, .invokevirtual 33170, NN, NN, .goto 102, NN, NN, .iload_n 2, .iconst 3, .if_icmp .ne 93, NN, NN, .aload_n 0, .getfield 73937, NN, NN, .getfield 70404, NN, NN, .iload_n 1, .iaload, .goto 102, NN, NN, .aload_n 0, .getfield 73937, NN],
  [NN, .getfield 70340, NN, NN, .iload_n 1, .iaload, .invokevirtual 26130, NN, NN, .ireturn]]
def kX12_whoIn : List (List Instr) := [[.iconst 0, .istore_n 2, .iload_n 2, .aload_n 0, .getfield 73937, NN, NN, .getfield 69824, NN, NN, .if_icmp .ge 31, NN, NN, .aload_n 0, .getfield 74756, NN, NN, .iload_n 2, .iaload, .iload_n 1, .if_icmp .ne 25, NN, NN, .iload_n 2, .ireturn, .iinc 2 1, NN, NN, .goto 2, NN, NN, .bipush (-2)],
  [NN, .ireturn]]
def kX12_slot : List (List Instr) := [[.aload_n 0, .iconst 0, .putfield 73728, NN, NN, .aload_n 0, .iload_n 1, .invokevirtual 31266, NN, NN, .ifCond .eq 25, NN, NN, .aload_n 0, .aload_n 0, .iload_n 1, .invokevirtual 33426, NN, NN, .invokevirtual 26130, NN, NN, .goto 30, NN, NN, .aload_n 0, .iconst 1, .invokevirtual 25746, NN, NN, .ireturn]]
def kX12_turned : List (List Instr) := [[.aload_n 0, .iconst 0, .putfield 73728, NN, NN, .aload_n 0, .iload_n 1, .invokevirtual 31394, NN, NN, .ifCond .eq 34, NN, NN, .aload_n 0, .iload_n 2, .invokevirtual 31266, NN, NN, .ifCond .eq 34, NN, NN, .aload_n 0, .aload_n 0, .iload_n 1, .iload_n 2, .invokevirtual 31763, NN, NN, .invokevirtual 26130, NN, NN, .goto 39],
  [NN, NN, .aload_n 0, .iconst 1, .invokevirtual 25746, NN, NN, .ireturn]]
def kX12_quarrelsNow : List (List Instr) := [[.iconst 0, .istore_n 1, .iconst 0, .istore_n 2, .iload_n 2, .aload_n 0, .getfield 73937, NN, NN, .getfield 69824, NN, NN, .if_icmp .ge 42, NN, NN, .iload_n 1, .aload_n 0, .iload_n 2, .invokevirtual 33170, NN, NN, .aload_n 0, .getfield 73937, NN, NN, .getfield 70404, NN, NN, .iload_n 2, .iaload, .iand, .invokestatic 26769],
  [NN, NN, .iadd, .istore_n 1, .iinc 2 1, NN, NN, .goto 4, NN, NN, .iload_n 1, .iconst 2, .idiv, .ireturn]]
def kX12_quarrels : List (List Instr) := [[.aload_n 0, .iconst 0, .putfield 73728, NN, NN, .aload_n 0, .getfield 73937, NN, NN, .ifnonnull 18, NN, NN, .aload_n 0, .iconst 1, .invokevirtual 25746, NN, NN, .ireturn, .aload_n 0, .invokevirtual 31617, NN, NN, .aload_n 0, .aload_n 0, .invokevirtual 33809, NN, NN, .invokevirtual 26130, NN, NN, .ireturn]]
def kX12_metNow : List (List Instr) := [[.iconst 0, .istore_n 1, .iconst 0, .istore_n 2, .iload_n 2, .aload_n 0, .getfield 73937, NN, NN, .getfield 70016, NN, NN, .if_icmp .ge 76, NN, NN, .iload_n 1, .aload_n 0, .getfield 74820, NN, NN, .aload_n 0, .getfield 73937, NN, NN, .getfield 70532, NN, NN, .iload_n 2, .iaload, .iaload, .aload_n 0, .getfield 74820],
  [NN, NN, .aload_n 0, .getfield 73937, NN, NN, .getfield 70596, NN, NN, .iload_n 2, .iaload, .iaload, .invokestatic 33058, NN, NN, .aload_n 0, .getfield 73937, NN, NN, .getfield 70656, NN, NN, .iload_n 2, .invokestatic 26658, NN, NN, .if_icmp .eq 67, NN, NN, .iconst 1, .iload_n 2, .ishl],
  [.goto 68, NN, NN, .iconst 0, .ior, .istore_n 1, .iinc 2 1, NN, NN, .goto 4, NN, NN, .iload_n 1, .ireturn]]
def kX12_met : List (List Instr) := [[.aload_n 0, .iconst 0, .putfield 73728, NN, NN, .aload_n 0, .getfield 73937, NN, NN, .ifnonnull 18, NN, NN, .aload_n 0, .iconst 1, .invokevirtual 25746, NN, NN, .ireturn, .aload_n 0, .invokevirtual 31617, NN, NN, .aload_n 0, .aload_n 0, .invokevirtual 34065, NN, NN, .invokevirtual 26130, NN, NN, .ireturn]]
def kX12_places : List (List Instr) := [[.iconst 2, .aload_n 0, .getfield 73937, NN, NN, .getfield 69632, NN, NN, .imul, .aload_n 0, .getfield 73937, NN, NN, .getfield 69696, NN, NN, .imul, .ireturn]]
def kX12_isPlace : List (List Instr) := [[.aload_n 0, .getfield 73937, NN, NN, .ifnull 23, NN, NN, .iload_n 1, .ifCond .lt 23, NN, NN, .iload_n 1, .aload_n 0, .invokevirtual 34321, NN, NN, .if_icmp .ge 23, NN, NN, .iconst 1, .goto 24, NN, NN, .iconst 0, .ireturn]]
def kX12_seenSlot : List (List Instr) := [[.iload_n 1, .aload_n 0, .getfield 73937, NN, NN, .getfield 69696, NN, NN, .idiv, .iconst 2, .irem, .ifCond .ne 26, NN, NN, .iload_n 1, .aload_n 0, .getfield 73937, NN, NN, .getfield 69696, NN, NN, .irem, .goto 45, NN, NN, .aload_n 0, .getfield 73937, NN, NN, .getfield 69696, NN],
  [NN, .iconst 1, .isub, .iload_n 1, .aload_n 0, .getfield 73937, NN, NN, .getfield 69696, NN, NN, .irem, .isub, .ireturn]]
def kX12_ring : List (List Instr) := [[.aload_n 0, .iconst 0, .putfield 73728, NN, NN, .aload_n 0, .iload_n 1, .invokevirtual 34466, NN, NN, .ifCond .eq 29, NN, NN, .aload_n 0, .aload_n 0, .aload_n 0, .iload_n 1, .invokevirtual 34578, NN, NN, .invokevirtual 33426, NN, NN, .invokevirtual 26130, NN, NN, .goto 34, NN, NN, .aload_n 0, .iconst 1, .invokevirtual 25746],
  [NN, NN, .ireturn]]
def kX12_truth : List (List Instr) := [[.aload_n 0, .iconst 0, .putfield 73728, NN, NN, .aload_n 0, .iload_n 1, .invokevirtual 34466, NN, NN, .ifCond .eq 25, NN, NN, .aload_n 0, .aload_n 0, .iload_n 1, .invokevirtual 34578, NN, NN, .invokevirtual 26130, NN, NN, .goto 30, NN, NN, .aload_n 0, .iconst 1, .invokevirtual 25746, NN, NN, .ireturn]]
def kX12_image : List (List Instr) := [[.aload_n 0, .iconst 0, .putfield 73728, NN, NN, .aload_n 0, .iload_n 1, .invokevirtual 31138, NN, NN, .ifCond .ne 19, NN, NN, .aload_n 0, .iconst 1, .invokevirtual 25746, NN, NN, .ireturn, .iconst 0, .istore_n 3, .iconst 0, .istore 4, NN, .iload 4, NN, .aload_n 0, .invokevirtual 34321, NN, NN, .if_icmp .ge 72, NN],
  [NN, .aload_n 0, .iload 4, NN, .invokevirtual 34578, NN, NN, .aload_n 0, .getfield 74756, NN, NN, .iload_n 1, .iaload, .if_icmp .eq 51, NN, NN, .goto 66, NN, NN, .iload_n 3, .iload_n 2, .if_icmp .ne 63, NN, NN, .aload_n 0, .iload 4, NN, .invokevirtual 26130, NN, NN, .ireturn, .iinc 3 1],
  [NN, NN, .iinc 4 1, NN, NN, .goto 24, NN, NN, .aload_n 0, .iconst 1, .invokevirtual 25746, NN, NN, .ireturn]]
def kX12_selves : List (List Instr) := [[.aload_n 0, .iconst 0, .putfield 73728, NN, NN, .aload_n 0, .getfield 73937, NN, NN, .ifnonnull 18, NN, NN, .aload_n 0, .iconst 1, .invokevirtual 25746, NN, NN, .ireturn, .iconst 0, .istore_n 1, .iconst 0, .istore_n 2, .iload_n 2, .aload_n 0, .invokevirtual 34321, NN, NN, .if_icmp .ge 83, NN, NN, .aload_n 0, .aload_n 0],
  [.iload_n 2, .invokevirtual 34578, NN, NN, .invokevirtual 33426, NN, NN, .istore_n 3, .iload_n 1, .iload_n 3, .bipush (-2), NN, .if_icmp .eq 74, NN, NN, .aload_n 0, .iload_n 2, .iconst 1, .iadd, .aload_n 0, .invokevirtual 34321, NN, NN, .irem, .invokevirtual 34578, NN, NN, .aload_n 0, .getfield 74756, NN, NN, .iload_n 3],
  [.iaload, .if_icmp .ne 74, NN, NN, .iconst 1, .iload_n 3, .ishl, .goto 75, NN, NN, .iconst 0, .ior, .istore_n 1, .iinc 2 1, NN, NN, .goto 22, NN, NN, .aload_n 0, .iload_n 1, .invokevirtual 26130, NN, NN, .ireturn]]
def kX12_near : List (List Instr) := [[.aload_n 0, .iconst 0, .putfield 73728, NN, NN, .aload_n 0, .iload_n 1, .iload_n 2, .invokevirtual 31523, NN, NN, .ifCond .ne 20, NN, NN, .aload_n 0, .iconst 1, .invokevirtual 25746, NN, NN, .ireturn, .sipush 9999, NN, NN, .istore_n 3, .iconst 0, .istore 4, NN, .iload 4, NN, .aload_n 0, .invokevirtual 34321, NN],
  [NN, .if_icmp .ge 150, NN, NN, .iconst 0, .istore 5, NN, .iload 5, NN, .aload_n 0, .invokevirtual 34321, NN, NN, .if_icmp .ge 144, NN, NN, .aload_n 0, .iload 4, NN, .invokevirtual 34578, NN, NN, .aload_n 0, .getfield 74756, NN, NN, .iload_n 1, .iaload, .if_icmp .ne 144, NN, NN, .iload 5],
  [NN, .iload 4, NN, .isub, .aload_n 0, .invokevirtual 34321, NN, NN, .iadd, .aload_n 0, .invokevirtual 34321, NN, NN, .irem, .istore 6, NN, .aload_n 0, .iload 5, NN, .invokevirtual 34578, NN, NN, .aload_n 0, .getfield 74756, NN, NN, .iload_n 2, .iaload, .if_icmp .ne 104, NN, NN, .iload 6],
  [NN, .iload_n 3, .if_icmp .ge 104, NN, NN, .iload 6, NN, .istore_n 3, .aload_n 0, .iload 5, NN, .invokevirtual 34578, NN, NN, .aload_n 0, .getfield 74756, NN, NN, .iload_n 2, .iaload, .if_icmp .ne 138, NN, NN, .aload_n 0, .invokevirtual 34321, NN, NN, .iload 6, NN, .isub, .iload_n 3, .if_icmp .ge 138],
  [NN, NN, .aload_n 0, .invokevirtual 34321, NN, NN, .iload 6, NN, .isub, .istore_n 3, .iinc 5 1, NN, NN, .goto 39, NN, NN, .iinc 4 1, NN, NN, .goto 27, NN, NN, .aload_n 0, .iload_n 3, .invokevirtual 26130, NN, NN, .ireturn]]
def kX12_seenIn : List (List Instr) := [[.aload_n 0, .iconst 0, .putfield 73728, NN, NN, .aload_n 0, .getfield 73937, NN, NN, .ifnull 21, NN, NN, .iload_n 1, .iconst 0, .iconst 2, .invokestatic 26531, NN, NN, .ifCond .ne 27, NN, NN, .aload_n 0, .iconst 1, .invokevirtual 25746, NN, NN, .ireturn, .iconst 0, .istore_n 2, .iconst 0, .istore_n 3, .iload_n 3],
  [.aload_n 0, .getfield 73937, NN, NN, .getfield 69824, NN, NN, .if_icmp .ge 69, NN, NN, .iload_n 2, .aload_n 0, .getfield 73937, NN, NN, .getfield 70276, NN, NN, .iload_n 3, .iaload, .iload_n 1, .if_icmp .ne 60, NN, NN, .iconst 1, .goto 61, NN, NN, .iconst 0, .iadd, .istore_n 2, .iinc 3 1],
  [NN, NN, .goto 31, NN, NN, .aload_n 0, .iconst 2, .aload_n 0, .getfield 73937, NN, NN, .getfield 69632, NN, NN, .imul, .iload_n 2, .imul, .invokevirtual 26130, NN, NN, .ireturn]]
def kX12_layRow : List (List Instr) := [[.aload_n 0, .getfield 73937, NN, NN, .ifnonnull 9, NN, NN, .iconst 1, .ireturn, .iload_n 2, .iconst 0, .bipush 6, NN, .invokestatic 26531, NN, NN, .ifCond .eq 23, NN, NN, .iload_n 1, .ifCond .ge 25, NN, NN, .iconst 2, .ireturn, .iconst 1, .istore_n 3, .iconst 0, .istore 4, NN, .iload 4, NN],
  [.iload_n 2, .if_icmp .ge 47, NN, NN, .iload_n 3, .bipush 10, NN, .imul, .istore_n 3, .iinc 4 1, NN, NN, .goto 30, NN, NN, .iload_n 1, .iload_n 3, .if_icmp .lt 54, NN, NN, .iconst 2, .ireturn, .iconst 0, .istore 4, NN, .iload 4, NN, .aload_n 0, .getfield 73937, NN, NN, .getfield 69696],
  [NN, NN, .if_icmp .ge 84, NN, NN, .aload_n 0, .getfield 75460, NN, NN, .iload 4, NN, .iload 4, NN, .iastore, .iinc 4 1, NN, NN, .goto 57, NN, NN, .iconst 0, .istore 4, NN, .iload 4, NN, .iload_n 2, .if_icmp .ge 166, NN, NN, .iload_n 3, .bipush 10, NN],
  [.idiv, .istore_n 3, .iload_n 1, .iload_n 3, .idiv, .bipush 10, NN, .irem, .iconst 1, .isub, .istore 5, NN, .aload_n 0, .iload 5, NN, .invokevirtual 31394, NN, NN, .ifCond .ne 119, NN, NN, .iconst 2, .ireturn, .iconst 0, .istore 6, NN, .iload 6, NN, .aload_n 0, .getfield 73937, NN, NN],
  [.getfield 69696, NN, NN, .if_icmp .ge 160, NN, NN, .aload_n 0, .getfield 75460, NN, NN, .iload 6, NN, .aload_n 0, .iload 5, NN, .aload_n 0, .getfield 75460, NN, NN, .iload 6, NN, .iaload, .invokevirtual 31763, NN, NN, .iastore, .iinc 6 1, NN, NN, .goto 122, NN, NN],
  [.iinc 4 1, NN, NN, .goto 87, NN, NN, .iconst 0, .ireturn]]
def kX12_slides : List (List Instr) := [[.aload_n 0, .iconst 0, .putfield 73728, NN, NN, .aload_n 0, .iload_n 1, .invokevirtual 31266, NN, NN, .ifCond .ne 19, NN, NN, .aload_n 0, .iconst 1, .invokevirtual 25746, NN, NN, .ireturn, .aload_n 0, .iload_n 2, .iload_n 3, .invokevirtual 35475, NN, NN, .istore 4, NN, .iload 4, NN, .ifCond .le 41, NN, NN],
  [.aload_n 0, .iload 4, NN, .invokevirtual 25746, NN, NN, .goto 51, NN, NN, .aload_n 0, .aload_n 0, .getfield 75460, NN, NN, .iload_n 1, .iaload, .invokevirtual 26130, NN, NN, .ireturn]]
def kX12_round : List (List Instr) := [[.aload_n 0, .iconst 0, .putfield 73728, NN, NN, .aload_n 0, .iload_n 1, .iload_n 2, .invokevirtual 35475, NN, NN, .istore_n 3, .iload_n 3, .ifCond .le 22, NN, NN, .aload_n 0, .iload_n 3, .invokevirtual 25746, NN, NN, .ireturn, .iconst 1, .istore 4, NN, .iconst 0, .istore 5, NN, .iload 5, NN, .aload_n 0, .getfield 73937],
  [NN, NN, .getfield 69696, NN, NN, .if_icmp .ge 98, NN, NN, .iconst 1, .istore 6, NN, .aload_n 0, .getfield 75460, NN, NN, .iload 5, NN, .iaload, .istore 7, NN, .iload 7, NN, .iload 5, NN, .if_icmp .eq 74, NN, NN, .iinc 6 1, NN, NN, .aload_n 0, .getfield 75460],
  [NN, NN, .iload 7, NN, .iaload, .istore 7, NN, .goto 52, NN, NN, .iload 4, NN, .iload 4, NN, .i2l, .iload 6, NN, .i2l, .invokestatic 26930, NN, NN, .l2i, .idiv, .iload 6, NN, .imul, .istore 4, NN, .iinc 5 1, NN, NN, .goto 28],
  [NN, NN, .aload_n 0, .iload 4, NN, .invokevirtual 26130, NN, NN, .ireturn]]
def kX12_even : List (List Instr) := [[.aload_n 0, .iconst 0, .putfield 73728, NN, NN, .aload_n 0, .iload_n 1, .iload_n 2, .invokevirtual 35475, NN, NN, .istore_n 3, .iload_n 3, .ifCond .le 24, NN, NN, .aload_n 0, .iload_n 3, .invokevirtual 25746, NN, NN, .goto 40, NN, NN, .aload_n 0, .aload_n 0, .invokevirtual 32801, NN, NN, .ifCond .eq 36, NN, NN],
  [.iconst 1, .goto 37, NN, NN, .iconst 0, .invokevirtual 26130, NN, NN, .ireturn]]
def kX12_fixes : List (List Instr) := [[.aload_n 0, .iconst 0, .putfield 73728, NN, NN, .aload_n 0, .iload_n 1, .iload_n 2, .invokevirtual 35475, NN, NN, .istore_n 3, .iload_n 3, .ifCond .le 24, NN, NN, .aload_n 0, .iload_n 3, .invokevirtual 25746, NN, NN, .goto 32, NN, NN, .aload_n 0, .aload_n 0, .invokevirtual 32913, NN, NN, .invokevirtual 26130, NN, NN],
  [.ireturn]]
def kX12_doCommute : List (List Instr) := [[.iconst 0, .istore_n 3, .iload_n 3, .aload_n 0, .getfield 73937, NN, NN, .getfield 69696, NN, NN, .if_icmp .ge 46, NN, NN, .aload_n 0, .iload_n 1, .aload_n 0, .iload_n 2, .iload_n 3, .invokevirtual 31763, NN, NN, .invokevirtual 31763, NN, NN, .aload_n 0, .iload_n 2, .aload_n 0, .iload_n 1, .iload_n 3, .invokevirtual 31763, NN, NN],
  [.invokevirtual 31763, NN, NN, .if_icmp .eq 40, NN, NN, .iconst 0, .ireturn, .iinc 3 1, NN, NN, .goto 2, NN, NN, .iconst 1, .ireturn]]
def kX12_commute : List (List Instr) := [[.aload_n 0, .iconst 0, .putfield 73728, NN, NN, .aload_n 0, .iload_n 1, .invokevirtual 31394, NN, NN, .ifCond .eq 42, NN, NN, .aload_n 0, .iload_n 2, .invokevirtual 31394, NN, NN, .ifCond .eq 42, NN, NN, .aload_n 0, .aload_n 0, .iload_n 1, .iload_n 2, .invokevirtual 36131, NN, NN, .ifCond .eq 35, NN, NN, .iconst 1],
  [.goto 36, NN, NN, .iconst 0, .invokevirtual 26130, NN, NN, .goto 47, NN, NN, .aload_n 0, .iconst 1, .invokevirtual 25746, NN, NN, .ireturn]]
def kX12_inverts : List (List Instr) := [[.iconst 0, .istore_n 1, .iload_n 1, .aload_n 0, .getfield 73937, NN, NN, .getfield 69696, NN, NN, .if_icmp .ge 31, NN, NN, .aload_n 0, .getfield 75588, NN, NN, .aload_n 0, .getfield 75460, NN, NN, .iload_n 1, .iaload, .iload_n 1, .iastore, .iinc 1 1, NN, NN, .goto 2, NN, NN, .iconst 0],
  [.istore_n 1, .iload_n 1, .aload_n 0, .getfield 73937, NN, NN, .getfield 69696, NN, NN, .if_icmp .ge 62, NN, NN, .aload_n 0, .getfield 75460, NN, NN, .iload_n 1, .aload_n 0, .getfield 75588, NN, NN, .iload_n 1, .iaload, .iastore, .iinc 1 1, NN, NN, .goto 33, NN, NN, .return_]]
def kX12_undoing : List (List Instr) := [[.aload_n 0, .iconst 0, .putfield 73728, NN, NN, .aload_n 0, .iload_n 1, .iload_n 2, .invokevirtual 35475, NN, NN, .istore_n 3, .iload_n 3, .ifCond .le 22, NN, NN, .aload_n 0, .iload_n 3, .invokevirtual 25746, NN, NN, .ireturn, .aload_n 0, .invokevirtual 36353, NN, NN, .aload_n 0, .aload_n 0, .getfield 75268, NN, NN, .aload_n 0],
  [.getfield 75204, NN, NN, .aload_n 0, .invokevirtual 31889, NN, NN, .iaload, .iaload, .invokevirtual 26130, NN, NN, .ireturn]]
def kX12_reach : List (List Instr) := [[.aload_n 0, .iconst 0, .putfield 73728, NN, NN, .aload_n 0, .getfield 73937, NN, NN, .ifnonnull 20, NN, NN, .aload_n 0, .iconst 1, .invokevirtual 25746, NN, NN, .goto 28, NN, NN, .aload_n 0, .aload_n 0, .getfield 75520, NN, NN, .invokevirtual 26130, NN, NN, .ireturn]]
def kX12_deepest : List (List Instr) := [[.aload_n 0, .iconst 0, .putfield 73728, NN, NN, .aload_n 0, .getfield 73937, NN, NN, .ifnonnull 20, NN, NN, .aload_n 0, .iconst 1, .invokevirtual 25746, NN, NN, .goto 35, NN, NN, .aload_n 0, .aload_n 0, .getfield 75268, NN, NN, .aload_n 0, .getfield 75520, NN, NN, .iconst 1, .isub, .iaload],
  [.invokevirtual 26130, NN, NN, .ireturn]]
def kX12_evens : List (List Instr) := [[.aload_n 0, .iconst 0, .putfield 73728, NN, NN, .aload_n 0, .getfield 73937, NN, NN, .ifnonnull 18, NN, NN, .aload_n 0, .iconst 1, .invokevirtual 25746, NN, NN, .ireturn, .iconst 0, .istore_n 1, .iconst 0, .istore_n 2, .iload_n 2, .aload_n 0, .getfield 75520, NN, NN, .if_icmp .ge 56, NN, NN, .aload_n 0, .iload_n 2],
  [.invokevirtual 32002, NN, NN, .iload_n 1, .aload_n 0, .invokevirtual 32801, NN, NN, .ifCond .eq 47, NN, NN, .iconst 1, .goto 48, NN, NN, .iconst 0, .iadd, .istore_n 1, .iinc 2 1, NN, NN, .goto 22, NN, NN, .aload_n 0, .iload_n 1, .invokevirtual 26130, NN, NN, .ireturn]]
def kX12_orbit : List (List Instr) := [[.aload_n 0, .iconst 0, .putfield 73728, NN, NN, .aload_n 0, .iload_n 1, .invokevirtual 31266, NN, NN, .ifCond .ne 19, NN, NN, .aload_n 0, .iconst 1, .invokevirtual 25746, NN, NN, .ireturn, .iconst 0, .istore_n 2, .iconst 0, .istore_n 3, .iload_n 3, .aload_n 0, .getfield 75520, NN, NN, .if_icmp .ge 48, NN, NN, .iload_n 2],
  [.iconst 1, .aload_n 0, .iload_n 3, .iload_n 1, .invokevirtual 32403, NN, NN, .ishl, .ior, .istore_n 2, .iinc 3 1, NN, NN, .goto 23, NN, NN, .aload_n 0, .iload_n 2, .invokevirtual 26130, NN, NN, .ireturn]]
def kX12_keeps : List (List Instr) := [[.aload_n 0, .iconst 0, .putfield 73728, NN, NN, .aload_n 0, .iload_n 1, .invokevirtual 31266, NN, NN, .ifCond .ne 19, NN, NN, .aload_n 0, .iconst 1, .invokevirtual 25746, NN, NN, .ireturn, .iconst 0, .istore_n 2, .iconst 0, .istore_n 3, .iload_n 3, .aload_n 0, .getfield 75520, NN, NN, .if_icmp .ge 55, NN, NN, .iload_n 2],
  [.aload_n 0, .iload_n 3, .iload_n 1, .invokevirtual 32403, NN, NN, .iload_n 1, .if_icmp .ne 46, NN, NN, .iconst 1, .goto 47, NN, NN, .iconst 0, .iadd, .istore_n 2, .iinc 3 1, NN, NN, .goto 23, NN, NN, .aload_n 0, .iload_n 2, .invokevirtual 26130, NN, NN, .ireturn]]
def kX12_pairs : List (List Instr) := [[.aload_n 0, .iconst 0, .putfield 73728, NN, NN, .aload_n 0, .getfield 73937, NN, NN, .ifnonnull 18, NN, NN, .aload_n 0, .iconst 1, .invokevirtual 25746, NN, NN, .ireturn, .iconst 0, .istore_n 1, .iconst 0, .istore_n 2, .iload_n 2, .aload_n 0, .getfield 73937, NN, NN, .getfield 69696, NN, NN, .if_icmp .ge 157, NN],
  [NN, .iconst 0, .istore_n 3, .iload_n 3, .iload_n 2, .if_icmp .ge 151, NN, NN, .iconst 1, .istore 4, NN, .iconst 0, .istore 5, NN, .iload 5, NN, .aload_n 0, .getfield 75520, NN, NN, .if_icmp .ge 132, NN, NN, .aload_n 0, .iload 5, NN, .iload_n 3, .invokevirtual 32403, NN, NN, .istore 6, NN],
  [.aload_n 0, .iload 5, NN, .iload_n 2, .invokevirtual 32403, NN, NN, .istore 7, NN, .iload 6, NN, .iload 7, NN, .if_icmp .le 85, NN, NN, .iload 6, NN, .goto 87, NN, NN, .iload 7, NN, .istore 8, NN, .iload 6, NN, .iload 7, NN, .if_icmp .le 101, NN, NN],
  [.iload 7, NN, .goto 103, NN, NN, .iload 6, NN, .istore 9, NN, .iload 8, NN, .iload_n 2, .if_icmp .lt 123, NN, NN, .iload 8, NN, .iload_n 2, .if_icmp .ne 126, NN, NN, .iload 9, NN, .iload_n 3, .if_icmp .ge 126, NN, NN, .iconst 0, .istore 4, NN, .iinc 5 1, NN],
  [NN, .goto 46, NN, NN, .iload_n 1, .iload 4, NN, .ifCond .eq 142, NN, NN, .iconst 1, .goto 143, NN, NN, .iconst 0, .iadd, .istore_n 1, .iinc 3 1, NN, NN, .goto 35, NN, NN, .iinc 2 1, NN, NN, .goto 22, NN, NN, .aload_n 0, .iload_n 1, .invokevirtual 26130],
  [NN, NN, .ireturn]]
def kX12_centre : List (List Instr) := [[.aload_n 0, .iconst 0, .putfield 73728, NN, NN, .aload_n 0, .getfield 73937, NN, NN, .ifnonnull 18, NN, NN, .aload_n 0, .iconst 1, .invokevirtual 25746, NN, NN, .ireturn, .iconst 0, .istore_n 1, .iconst 0, .istore_n 2, .iload_n 2, .aload_n 0, .getfield 75520, NN, NN, .if_icmp .ge 123, NN, NN, .iconst 1, .istore_n 3],
  [.iconst 0, .istore 4, NN, .iload 4, NN, .aload_n 0, .getfield 73937, NN, NN, .getfield 69888, NN, NN, .if_icmp .ge 105, NN, NN, .iconst 0, .istore 5, NN, .iload 5, NN, .aload_n 0, .getfield 73937, NN, NN, .getfield 69696, NN, NN, .if_icmp .ge 99, NN, NN, .aload_n 0, .iload_n 2],
  [.aload_n 0, .iload 4, NN, .iload 5, NN, .invokevirtual 31763, NN, NN, .invokevirtual 32403, NN, NN, .aload_n 0, .iload 4, NN, .aload_n 0, .iload_n 2, .iload 5, NN, .invokevirtual 32403, NN, NN, .invokevirtual 31763, NN, NN, .if_icmp .eq 93, NN, NN, .iconst 0, .istore_n 3, .iinc 5 1, NN, NN],
  [.goto 50, NN, NN, .iinc 4 1, NN, NN, .goto 35, NN, NN, .iload_n 1, .iload_n 3, .ifCond .eq 114, NN, NN, .iconst 1, .goto 115, NN, NN, .iconst 0, .iadd, .istore_n 1, .iinc 2 1, NN, NN, .goto 22, NN, NN, .aload_n 0, .iload_n 1, .invokevirtual 26130, NN, NN],
  [.ireturn]]
def kX12_isDone : List (List Instr) := [[.iload_n 1, .ifCond .eq 19, NN, NN, .aload_n 0, .invokevirtual 33809, NN, NN, .ifCond .ne 15, NN, NN, .iconst 1, .goto 41, NN, NN, .iconst 0, .goto 41, NN, NN, .aload_n 0, .invokevirtual 34065, NN, NN, .invokestatic 26769, NN, NN, .aload_n 0, .getfield 73937, NN, NN, .getfield 70016, NN],
  [NN, .if_icmp .ne 40, NN, NN, .iconst 1, .goto 41, NN, NN, .iconst 0, .ireturn]]
def kX12_doneBy : List (List Instr) := [[.iconst 0, .istore_n 2, .iload_n 2, .aload_n 0, .getfield 75520, NN, NN, .if_icmp .ge 31, NN, NN, .aload_n 0, .iload_n 2, .invokevirtual 32514, NN, NN, .aload_n 0, .iload_n 1, .invokevirtual 37538, NN, NN, .ifCond .eq 25, NN, NN, .iload_n 2, .ireturn, .iinc 2 1, NN, NN, .goto 2, NN, NN, .iconst (-1)],
  [.ireturn]]
def kX12_fewest : List (List Instr) := [[.aload_n 0, .getfield 73937, NN, NN, .ifnonnull 13, NN, NN, .aload_n 0, .iconst 1, .invokevirtual 25746, NN, NN, .ireturn, .aload_n 0, .iload_n 1, .invokevirtual 37650, NN, NN, .istore_n 2, .aload_n 0, .iload_n 2, .iconst (-1), .if_icmp .ne 30, NN, NN, .bipush (-2), NN, .goto 36, NN, NN, .aload_n 0, .getfield 75268],
  [NN, NN, .iload_n 2, .iaload, .invokevirtual 26130, NN, NN, .ireturn]]
def kX12_stepOf : List (List Instr) := [[.aload_n 0, .getfield 73937, NN, NN, .ifnonnull 13, NN, NN, .aload_n 0, .iconst 1, .invokevirtual 25746, NN, NN, .ireturn, .aload_n 0, .iload_n 1, .invokevirtual 37650, NN, NN, .istore_n 3, .iload_n 3, .iconst (-1), .if_icmp .eq 38, NN, NN, .iload_n 2, .ifCond .lt 38, NN, NN, .iload_n 2, .aload_n 0, .getfield 75268, NN],
  [NN, .iload_n 3, .iaload, .if_icmp .lt 44, NN, NN, .aload_n 0, .iconst 1, .invokevirtual 25746, NN, NN, .ireturn, .aload_n 0, .getfield 75268, NN, NN, .iload_n 3, .iaload, .iload_n 2, .iconst 1, .iadd, .if_icmp .le 66, NN, NN, .aload_n 0, .getfield 75332, NN, NN, .iload_n 3, .iaload, .istore_n 3, .goto 44],
  [NN, NN, .aload_n 0, .aload_n 0, .getfield 75396, NN, NN, .iload_n 3, .iaload, .invokevirtual 26130, NN, NN, .ireturn]]
def kX12_errand : List (List Instr) := [[.aload_n 0, .iconst 0, .putfield 73728, NN, NN, .aload_n 0, .iconst 0, .invokevirtual 37778, NN, NN, .ireturn]]
def kX12_errandAt : List (List Instr) := [[.aload_n 0, .iconst 0, .putfield 73728, NN, NN, .aload_n 0, .iconst 0, .iload_n 1, .invokevirtual 37907, NN, NN, .ireturn]]
def kX12_peace : List (List Instr) := [[.aload_n 0, .iconst 0, .putfield 73728, NN, NN, .aload_n 0, .iconst 1, .invokevirtual 37778, NN, NN, .ireturn]]
def kX12_peaceAt : List (List Instr) := [[.aload_n 0, .iconst 0, .putfield 73728, NN, NN, .aload_n 0, .iconst 1, .iload_n 1, .invokevirtual 37907, NN, NN, .ireturn]]
def kX12_bring : List (List Instr) := [[.aload_n 0, .iconst 0, .putfield 73728, NN, NN, .aload_n 0, .iload_n 1, .invokevirtual 31138, NN, NN, .ifCond .eq 21, NN, NN, .aload_n 0, .iload_n 2, .invokevirtual 31266, NN, NN, .ifCond .ne 27, NN, NN, .aload_n 0, .iconst 1, .invokevirtual 25746, NN, NN, .ireturn, .iconst 0, .istore_n 3, .iload_n 3, .aload_n 0, .getfield 75520],
  [NN, NN, .if_icmp .ge 69, NN, NN, .aload_n 0, .iload_n 3, .aload_n 0, .getfield 74756, NN, NN, .iload_n 1, .iaload, .invokevirtual 32403, NN, NN, .iload_n 2, .if_icmp .ne 63, NN, NN, .aload_n 0, .aload_n 0, .getfield 75268, NN, NN, .iload_n 3, .iaload, .invokevirtual 26130, NN, NN, .ireturn, .iinc 3 1],
  [NN, NN, .goto 29, NN, NN, .aload_n 0, .bipush (-2), NN, .invokevirtual 26130, NN, NN, .ireturn]]
def kX12_calmest : List (List Instr) := [[.aload_n 0, .iconst 0, .putfield 73728, NN, NN, .aload_n 0, .getfield 73937, NN, NN, .ifnonnull 18, NN, NN, .aload_n 0, .iconst 1, .invokevirtual 25746, NN, NN, .ireturn, .sipush 9999, NN, NN, .istore_n 1, .iconst 0, .istore_n 2, .iload_n 2, .aload_n 0, .getfield 75520, NN, NN, .if_icmp .ge 56, NN, NN],
  [.aload_n 0, .iload_n 2, .invokevirtual 32514, NN, NN, .aload_n 0, .invokevirtual 33809, NN, NN, .iload_n 1, .if_icmp .ge 50, NN, NN, .aload_n 0, .invokevirtual 33809, NN, NN, .istore_n 1, .iinc 2 1, NN, NN, .goto 24, NN, NN, .aload_n 0, .iload_n 1, .invokevirtual 26130, NN, NN, .ireturn]]
def kX12_counted : List (List Instr) := [[.lconst 0, .lstore_n 2, .iconst 0, .istore 4, NN, .iload 4, NN, .aload_n 0, .getfield 75520, NN, NN, .if_icmp .ge 38, NN, NN, .aload_n 0, .iload 4, NN, .invokevirtual 32002, NN, NN, .lload_n 2, .iload_n 1, .i2l, .aload_n 0, .invokevirtual 32657, NN, NN, .invokestatic 27186, NN, NN, .ladd, .lstore_n 2],
  [.iinc 4 1, NN, NN, .goto 5, NN, NN, .lload_n 2, .aload_n 0, .getfield 75520, NN, NN, .i2l, .ldiv, .lreturn]]
def kX12_refusesColours : List (List Instr) := [[.aload_n 0, .getfield 73937, NN, NN, .ifnonnull 11, NN, NN, .iconst 1, .goto 26, NN, NN, .iload_n 1, .iconst 1, .bipush 9, NN, .invokestatic 26531, NN, NN, .ifCond .eq 25, NN, NN, .iconst 0, .goto 26, NN, NN, .iconst 2, .ireturn]]
def kX12_colourings : List (List Instr) := [[.aload_n 0, .iconst 0, .putfield 73728, NN, NN, .aload_n 0, .iload_n 1, .invokevirtual 38930, NN, NN, .istore_n 2, .iload_n 2, .ifCond .le 24, NN, NN, .aload_n 0, .iload_n 2, .invokevirtual 25746, NN, NN, .i2l, .goto 33, NN, NN, .aload_n 0, .aload_n 0, .iload_n 1, .invokevirtual 38834, NN, NN, .invokevirtual 26290, NN],
  [NN, .lreturn]]
def kX12_mirrored : List (List Instr) := [[.aload_n 0, .iconst 0, .putfield 73728, NN, NN, .aload_n 0, .iload_n 1, .invokevirtual 38930, NN, NN, .istore_n 2, .iload_n 2, .ifCond .le 22, NN, NN, .aload_n 0, .iload_n 2, .invokevirtual 25746, NN, NN, .i2l, .lreturn, .aload_n 0, .iconst 1, .invokevirtual 32258, NN, NN, .aload_n 0, .iload_n 1, .invokevirtual 38834, NN, NN],
  [.lstore_n 3, .aload_n 0, .iconst 0, .invokevirtual 32258, NN, NN, .aload_n 0, .lload_n 3, .invokevirtual 26290, NN, NN, .lreturn]]
def kX12_aroundSum : List (List Instr) := [[.lconst 0, .lstore_n 2, .iconst 1, .istore 4, NN, .iload 4, NN, .iload_n 0, .if_icmp .gt 34, NN, NN, .lload_n 2, .iload_n 1, .i2l, .iload_n 0, .i2l, .iload 4, NN, .i2l, .invokestatic 26930, NN, NN, .l2i, .invokestatic 27186, NN, NN, .ladd, .lstore_n 2, .iinc 4 1, NN, NN, .goto 5],
  [NN, NN, .lload_n 2, .lreturn]]
def kX12_refusesNecklace : List (List Instr) := [[.aload_n 0, .getfield 73937, NN, NN, .ifnonnull 11, NN, NN, .iconst 1, .goto 36, NN, NN, .iload_n 1, .iconst 1, .bipush 12, NN, .invokestatic 26531, NN, NN, .ifCond .eq 35, NN, NN, .iload_n 2, .iconst 1, .bipush 9, NN, .invokestatic 26531, NN, NN, .ifCond .eq 35, NN, NN, .iconst 0],
  [.goto 36, NN, NN, .iconst 2, .ireturn]]
def kX12_necklaces : List (List Instr) := [[.aload_n 0, .iconst 0, .putfield 73728, NN, NN, .aload_n 0, .iload_n 1, .iload_n 2, .invokevirtual 39443, NN, NN, .istore_n 3, .iload_n 3, .ifCond .le 25, NN, NN, .aload_n 0, .iload_n 3, .invokevirtual 25746, NN, NN, .i2l, .goto 37, NN, NN, .aload_n 0, .iload_n 1, .iload_n 2, .invokestatic 39346, NN, NN, .iload_n 1],
  [.i2l, .ldiv, .invokevirtual 26290, NN, NN, .lreturn]]
def kX12_bracelets : List (List Instr) := [[.aload_n 0, .iconst 0, .putfield 73728, NN, NN, .aload_n 0, .iload_n 1, .iload_n 2, .invokevirtual 39443, NN, NN, .istore_n 3, .iload_n 3, .ifCond .le 23, NN, NN, .aload_n 0, .iload_n 3, .invokevirtual 25746, NN, NN, .i2l, .lreturn, .iload_n 1, .iload_n 2, .invokestatic 39346, NN, NN, .lstore 4, NN, .iconst 0, .istore 6],
  [NN, .iload 6, NN, .iload_n 1, .if_icmp .ge 103, NN, NN, .iconst 0, .istore 7, NN, .iconst 0, .istore 8, NN, .iload 8, NN, .iload_n 1, .if_icmp .ge 81, NN, NN, .iload 7, NN, .iload 6, NN, .iload_n 1, .iadd, .iload 8, NN, .isub, .iload_n 1, .irem, .iload 8, NN],
  [.if_icmp .ne 71, NN, NN, .iconst 1, .goto 72, NN, NN, .iconst 0, .iadd, .istore 7, NN, .iinc 8 1, NN, NN, .goto 45, NN, NN, .lload 4, NN, .iload_n 2, .i2l, .iload_n 1, .iload 7, NN, .iadd, .iconst 2, .idiv, .invokestatic 27186, NN, NN, .ladd, .lstore 4],
  [NN, .iinc 6 1, NN, NN, .goto 33, NN, NN, .aload_n 0, .lload 4, NN, .iconst 2, .iload_n 1, .imul, .i2l, .ldiv, .invokevirtual 26290, NN, NN, .lreturn]]
def kX12_laysFirst : List (List Instr) := [[.iconst 0, .istore_n 2, .iload_n 2, .aload_n 0, .getfield 73937, NN, NN, .getfield 69824, NN, NN, .if_icmp .ge 34, NN, NN, .aload_n 0, .getfield 74820, NN, NN, .iload_n 2, .aload_n 0, .getfield 73937, NN, NN, .getfield 70340, NN, NN, .iload_n 2, .iaload, .iastore, .iinc 2 1, NN, NN, .goto 2],
  [NN, NN, .iconst 0, .istore_n 2, .iload_n 2, .aload_n 0, .getfield 73937, NN, NN, .getfield 70080, NN, NN, .if_icmp .ge 84, NN, NN, .iload_n 1, .iload_n 2, .invokestatic 26658, NN, NN, .ifCond .eq 78, NN, NN, .aload_n 0, .getfield 74820, NN, NN, .aload_n 0, .getfield 73937, NN, NN, .getfield 70788],
  [NN, NN, .iload_n 2, .iaload, .aload_n 0, .getfield 73937, NN, NN, .getfield 70852, NN, NN, .iload_n 2, .iaload, .iastore, .iinc 2 1, NN, NN, .goto 36, NN, NN, .return_]]
def kX12_areUnlike : List (List Instr) := [[.iconst 0, .istore_n 1, .iconst 0, .istore_n 2, .iload_n 2, .aload_n 0, .getfield 73937, NN, NN, .getfield 69824, NN, NN, .if_icmp .ge 32, NN, NN, .iload_n 1, .iconst 1, .aload_n 0, .getfield 74820, NN, NN, .iload_n 2, .iaload, .ishl, .ior, .istore_n 1, .iinc 2 1, NN, NN, .goto 4, NN, NN],
  [.iload_n 1, .invokestatic 26769, NN, NN, .aload_n 0, .getfield 73937, NN, NN, .getfield 69824, NN, NN, .if_icmp .ne 50, NN, NN, .iconst 1, .goto 51, NN, NN, .iconst 0, .ireturn]]
def kX12_wrongSeen : List (List Instr) := [[.iconst 0, .istore_n 1, .iload_n 1, .aload_n 0, .getfield 73937, NN, NN, .getfield 70144, NN, NN, .if_icmp .ge 66, NN, NN, .aload_n 0, .getfield 74820, NN, NN, .aload_n 0, .getfield 73937, NN, NN, .getfield 70916, NN, NN, .iload_n 1, .iaload, .iaload, .aload_n 0, .getfield 74820, NN, NN, .aload_n 0],
  [.getfield 73937, NN, NN, .getfield 70980, NN, NN, .iload_n 1, .iaload, .iaload, .invokestatic 33058, NN, NN, .aload_n 0, .getfield 73937, NN, NN, .getfield 70720, NN, NN, .iload_n 1, .invokestatic 26658, NN, NN, .if_icmp .eq 60, NN, NN, .iload_n 1, .ireturn, .iinc 1 1, NN, NN, .goto 2],
  [NN, NN, .bipush (-2), NN, .ireturn]]
def kX12_fitting : List (List Instr) := [[.aload_n 0, .iconst 0, .putfield 75648, NN, NN, .aload_n 0, .iconst 0, .putfield 75712, NN, NN, .aload_n 0, .iconst 1, .aload_n 0, .getfield 73937, NN, NN, .getfield 70080, NN, NN, .ishl, .iconst 1, .isub, .putfield 75776, NN, NN, .iconst (-1), .istore_n 2, .iconst 0, .istore_n 3, .iload_n 3, .iconst 3, .if_icmp .ge 47],
  [NN, NN, .aload_n 0, .getfield 75844, NN, NN, .iload_n 3, .iconst 0, .iastore, .iinc 3 1, NN, NN, .goto 29, NN, NN, .iconst 0, .istore_n 3, .iload_n 3, .iconst 1, .aload_n 0, .getfield 73937, NN, NN, .getfield 70080, NN, NN, .ishl, .if_icmp .ge 177, NN, NN, .aload_n 0, .iload_n 3],
  [.invokevirtual 39810, NN, NN, .aload_n 0, .invokevirtual 39969, NN, NN, .ifCond .eq 171, NN, NN, .aload_n 0, .invokevirtual 40081, NN, NN, .bipush (-2), NN, .if_icmp .eq 86, NN, NN, .goto 171, NN, NN, .aload_n 0, .getfield 75648, NN, NN, .iload_n 1, .if_icmp .ne 96, NN, NN, .iload_n 3, .istore_n 2],
  [.aload_n 0, .dup, .getfield 75648, NN, NN, .iconst 1, .iadd, .putfield 75648, NN, NN, .aload_n 0, .dup, .getfield 75712, NN, NN, .iload_n 3, .ior, .putfield 75712, NN, NN, .aload_n 0, .dup, .getfield 75776, NN, NN, .iload_n 3, .iand, .putfield 75776, NN, NN, .iconst 0, .istore 4],
  [NN, .iload 4, NN, .aload_n 0, .getfield 73937, NN, NN, .getfield 70080, NN, NN, .if_icmp .ge 171, NN, NN, .aload_n 0, .getfield 75844, NN, NN, .iload 4, NN, .dup2, .iaload, .iload_n 3, .iload 4, NN, .invokestatic 26658, NN, NN, .ifCond .eq 162, NN, NN, .iconst 1, .goto 163],
  [NN, NN, .iconst 0, .iadd, .iastore, .iinc 4 1, NN, NN, .goto 129, NN, NN, .iinc 3 1, NN, NN, .goto 49, NN, NN, .aload_n 0, .getfield 75648, NN, NN, .ifCond .ne 189, NN, NN, .aload_n 0, .iconst 0, .putfield 75776, NN, NN, .iload_n 2, .ireturn]]
def kX12_fits : List (List Instr) := [[.aload_n 0, .iconst 0, .putfield 73728, NN, NN, .aload_n 0, .getfield 73937, NN, NN, .ifnonnull 18, NN, NN, .aload_n 0, .iconst 1, .invokevirtual 25746, NN, NN, .ireturn, .aload_n 0, .iconst (-1), .invokevirtual 40210, NN, NN, .pop, .aload_n 0, .aload_n 0, .getfield 75648, NN, NN, .invokevirtual 26130, NN, NN],
  [.ireturn]]
def kX12_fitAt : List (List Instr) := [[.aload_n 0, .iconst 0, .putfield 73728, NN, NN, .aload_n 0, .getfield 73937, NN, NN, .ifnull 16, NN, NN, .iload_n 1, .ifCond .ge 22, NN, NN, .aload_n 0, .iconst 1, .invokevirtual 25746, NN, NN, .ireturn, .aload_n 0, .iload_n 1, .invokevirtual 40210, NN, NN, .istore_n 2, .iload_n 2, .iconst (-1), .if_icmp .ne 41, NN],
  [NN, .aload_n 0, .iconst 1, .invokevirtual 25746, NN, NN, .goto 46, NN, NN, .aload_n 0, .iload_n 2, .invokevirtual 26130, NN, NN, .ireturn]]
def kX12_could : List (List Instr) := [[.aload_n 0, .iconst 0, .putfield 73728, NN, NN, .aload_n 0, .getfield 73937, NN, NN, .ifnonnull 18, NN, NN, .aload_n 0, .iconst 1, .invokevirtual 25746, NN, NN, .ireturn, .aload_n 0, .iconst (-1), .invokevirtual 40210, NN, NN, .pop, .aload_n 0, .aload_n 0, .getfield 75712, NN, NN, .invokevirtual 26130, NN, NN],
  [.ireturn]]
def kX12_surely : List (List Instr) := [[.aload_n 0, .iconst 0, .putfield 73728, NN, NN, .aload_n 0, .getfield 73937, NN, NN, .ifnonnull 18, NN, NN, .aload_n 0, .iconst 1, .invokevirtual 25746, NN, NN, .ireturn, .aload_n 0, .iconst (-1), .invokevirtual 40210, NN, NN, .pop, .aload_n 0, .aload_n 0, .getfield 75776, NN, NN, .invokevirtual 26130, NN, NN],
  [.ireturn]]
def kX12_asks : List (List Instr) := [[.aload_n 0, .iconst (-1), .invokevirtual 40210, NN, NN, .pop, .bipush (-2), NN, .istore_n 1, .aload_n 0, .bipush (-2), NN, .putfield 75904, NN, NN, .iconst 0, .istore_n 2, .iload_n 2, .aload_n 0, .getfield 73937, NN, NN, .getfield 70080, NN, NN, .if_icmp .ge 106, NN, NN, .aload_n 0, .getfield 75648, NN, NN],
  [.ifCond .le 106, NN, NN, .aload_n 0, .getfield 75844, NN, NN, .iload_n 2, .iaload, .aload_n 0, .getfield 75648, NN, NN, .aload_n 0, .getfield 75844, NN, NN, .iload_n 2, .iaload, .isub, .if_icmp .le 64, NN, NN, .aload_n 0, .getfield 75844, NN, NN, .iload_n 2, .iaload, .goto 75, NN, NN],
  [.aload_n 0, .getfield 75648, NN, NN, .aload_n 0, .getfield 75844, NN, NN, .iload_n 2, .iaload, .isub, .istore_n 3, .iload_n 1, .bipush (-2), NN, .if_icmp .eq 93, NN, NN, .iload_n 3, .aload_n 0, .getfield 75904, NN, NN, .if_icmp .lt 93, NN, NN, .goto 100, NN, NN, .iload_n 2, .istore_n 1, .aload_n 0],
  [.iload_n 3, .putfield 75904, NN, NN, .iinc 2 1, NN, NN, .goto 17, NN, NN, .iload_n 1, .ireturn]]
def kX12_ask : List (List Instr) := [[.aload_n 0, .iconst 0, .putfield 73728, NN, NN, .aload_n 0, .getfield 73937, NN, NN, .ifnonnull 20, NN, NN, .aload_n 0, .iconst 1, .invokevirtual 25746, NN, NN, .goto 28, NN, NN, .aload_n 0, .aload_n 0, .invokevirtual 40849, NN, NN, .invokevirtual 26130, NN, NN, .ireturn]]
def kX12_askLeaves : List (List Instr) := [[.aload_n 0, .iconst 0, .putfield 73728, NN, NN, .aload_n 0, .getfield 73937, NN, NN, .ifnonnull 18, NN, NN, .aload_n 0, .iconst 1, .invokevirtual 25746, NN, NN, .ireturn, .aload_n 0, .invokevirtual 40849, NN, NN, .pop, .aload_n 0, .aload_n 0, .getfield 75904, NN, NN, .invokevirtual 26130, NN, NN, .ireturn]]
def kX12_judge : List (List Instr) := [[.aload_n 0, .iconst 0, .putfield 73728, NN, NN, .aload_n 0, .getfield 73937, NN, NN, .ifnonnull 18, NN, NN, .aload_n 0, .iconst 1, .invokevirtual 25746, NN, NN, .ireturn, .aload_n 0, .iconst 0, .invokevirtual 39810, NN, NN, .aload_n 0, .aload_n 0, .invokevirtual 40081, NN, NN, .invokevirtual 26130, NN, NN, .ireturn]]
def kX12_choices : List (List Instr) := [[.aload_n 0, .getfield 73937, NN, NN, .getfield 69888, NN, NN, .iconst 1, .iadd, .ireturn]]
def kX12_argues : List (List Instr) := [[.iconst 1, .istore 4, NN, .iconst 0, .istore 5, NN, .iload 5, NN, .iload_n 3, .if_icmp .ge 27, NN, NN, .iload 4, NN, .aload_n 0, .invokevirtual 41361, NN, NN, .imul, .istore 4, NN, .iinc 5 1, NN, NN, .goto 6, NN, NN, .iconst 0, .istore 5, NN, .iload 5, NN],
  [.iload 4, NN, .if_icmp .ge 151, NN, NN, .aload_n 0, .getfield 74756, NN, NN, .iload_n 1, .iaload, .istore 6, NN, .aload_n 0, .getfield 74756, NN, NN, .iload_n 2, .iaload, .istore 7, NN, .iload 4, NN, .istore 8, NN, .iconst 0, .istore 9, NN, .iload 9, NN, .iload_n 3, .if_icmp .ge 123],
  [NN, NN, .iload 8, NN, .aload_n 0, .invokevirtual 41361, NN, NN, .idiv, .istore 8, NN, .iload 5, NN, .iload 8, NN, .idiv, .aload_n 0, .invokevirtual 41361, NN, NN, .irem, .iconst 1, .isub, .istore 10, NN, .iload 10, NN, .ifCond .ge 97, NN, NN, .goto 117, NN],
  [NN, .aload_n 0, .iload 10, NN, .iload 6, NN, .invokevirtual 31763, NN, NN, .istore 6, NN, .aload_n 0, .iload 10, NN, .iload 7, NN, .invokevirtual 31763, NN, NN, .istore 7, NN, .iinc 9 1, NN, NN, .goto 60, NN, NN, .aload_n 0, .getfield 75972, NN, NN, .iload 5],
  [NN, .iload 6, NN, .iload 7, NN, .invokestatic 33058, NN, NN, .ifCond .eq 143, NN, NN, .iconst 1, .goto 144, NN, NN, .iconst 0, .iastore, .iinc 5 1, NN, NN, .goto 30, NN, NN, .iload_n 3, .iconst 1, .isub, .istore 5, NN, .iload 5, NN, .ifCond .le 222, NN],
  [NN, .iload 4, NN, .aload_n 0, .invokevirtual 41361, NN, NN, .idiv, .istore 4, NN, .iconst 0, .istore 6, NN, .iload 6, NN, .iload 4, NN, .if_icmp .ge 216, NN, NN, .aload_n 0, .getfield 75972, NN, NN, .iload 6, NN, .aload_n 0, .iload 6, NN, .aload_n 0, .invokevirtual 41361, NN],
  [NN, .imul, .iload 5, NN, .iconst 2, .irem, .ifCond .ne 205, NN, NN, .iconst 1, .goto 206, NN, NN, .iconst 0, .invokevirtual 41619, NN, NN, .iastore, .iinc 6 1, NN, NN, .goto 173, NN, NN, .iinc 5 (-1), NN, NN, .goto 156, NN, NN, .return_]]
def kX12_bestFrom : List (List Instr) := [[.aload_n 0, .getfield 75972, NN, NN, .iload_n 1, .iaload, .istore_n 3, .iload_n 1, .iconst 1, .iadd, .istore 4, NN, .iload 4, NN, .iload_n 1, .aload_n 0, .invokevirtual 41361, NN, NN, .iadd, .if_icmp .ge 66, NN, NN, .iload_n 2, .ifCond .eq 41, NN, NN, .aload_n 0, .getfield 75972, NN, NN, .iload 4],
  [NN, .iaload, .iload_n 3, .if_icmp .le 60, NN, NN, .goto 52, NN, NN, .aload_n 0, .getfield 75972, NN, NN, .iload 4, NN, .iaload, .iload_n 3, .if_icmp .ge 60, NN, NN, .aload_n 0, .getfield 75972, NN, NN, .iload 4, NN, .iaload, .istore_n 3, .iinc 4 1, NN, NN, .goto 12],
  [NN, NN, .iload_n 3, .ireturn]]
def kX12_refusesGame : List (List Instr) := [[.aload_n 0, .iload_n 1, .iload_n 2, .invokevirtual 31523, NN, NN, .ifCond .ne 13, NN, NN, .iconst 1, .goto 28, NN, NN, .iload_n 3, .iload 4, NN, .iconst 5, .invokestatic 26531, NN, NN, .ifCond .eq 27, NN, NN, .iconst 0, .goto 28, NN, NN, .iconst 2, .ireturn]]
def kX12_gets : List (List Instr) := [[.aload_n 0, .iconst 0, .putfield 73728, NN, NN, .aload_n 0, .iload_n 1, .iload_n 2, .iload_n 3, .iconst 0, .invokevirtual 41749, NN, NN, .istore 4, NN, .iload 4, NN, .ifCond .le 27, NN, NN, .aload_n 0, .iload 4, NN, .invokevirtual 25746, NN, NN, .ireturn, .aload_n 0, .iload_n 1, .iload_n 2, .iload_n 3, .invokevirtual 41476],
  [NN, NN, .aload_n 0, .iload_n 3, .ifCond .ne 48, NN, NN, .aload_n 0, .getfield 75972, NN, NN, .iconst 0, .iaload, .goto 54, NN, NN, .aload_n 0, .iconst 0, .iconst 1, .invokevirtual 41619, NN, NN, .invokevirtual 26130, NN, NN, .ireturn]]
def kX12_getsBy : List (List Instr) := [[.aload_n 0, .iconst 0, .putfield 73728, NN, NN, .aload_n 0, .iload_n 1, .iload_n 2, .iload_n 3, .iconst 1, .invokevirtual 41749, NN, NN, .istore 4, NN, .iload 4, NN, .ifCond .le 27, NN, NN, .aload_n 0, .iload 4, NN, .invokevirtual 25746, NN, NN, .ireturn, .aload_n 0, .iload_n 1, .iload_n 2, .iload_n 3, .invokevirtual 41476],
  [NN, NN, .aload_n 0, .getfield 75972, NN, NN, .iconst 0, .iaload, .iconst 1, .if_icmp .eq 53, NN, NN, .aload_n 0, .iconst 0, .iconst 1, .invokevirtual 41619, NN, NN, .ifCond .ne 60, NN, NN, .aload_n 0, .bipush (-2), NN, .invokevirtual 26130, NN, NN, .ireturn, .iconst 1, .istore 5, NN, .aload_n 0],
  [.getfield 75972, NN, NN, .iload 5, NN, .iaload, .ifCond .ne 79, NN, NN, .iinc 5 1, NN, NN, .goto 63, NN, NN, .aload_n 0, .iload 5, NN, .iconst 1, .isub, .invokevirtual 26130, NN, NN, .ireturn]]
def kX12_eye : List (List Instr) := [[.iload_n 1, .ifCond .eq 18, NN, NN, .iload_n 2, .ifCond .eq 12, NN, NN, .iconst 3, .goto 27, NN, NN, .iconst 1, .iload_n 0, .isub, .goto 27, NN, NN, .iload_n 2, .ifCond .eq 26, NN, NN, .iconst 0, .goto 27, NN, NN, .iconst 1, .ireturn]]
def kX12_street : List (List Instr) := [[.iload_n 1, .ifCond .eq 16, NN, NN, .iload_n 2, .ifCond .eq 12, NN, NN, .iconst 3, .goto 27, NN, NN, .iconst 1, .goto 27, NN, NN, .iload_n 2, .ifCond .eq 26, NN, NN, .iconst 2, .iload_n 0, .isub, .goto 27, NN, NN, .iconst 1, .ireturn]]
def kX12_refusesBlue : List (List Instr) := [[.aload_n 0, .getfield 73937, NN, NN, .ifnonnull 11, NN, NN, .iconst 1, .goto 26, NN, NN, .iload_n 1, .iconst 0, .bipush 9, NN, .invokestatic 26531, NN, NN, .ifCond .eq 25, NN, NN, .iconst 0, .goto 26, NN, NN, .iconst 2, .ireturn]]
def kX12_looks : List (List Instr) := [[.aload_n 0, .iconst 0, .putfield 73728, NN, NN, .aload_n 0, .iload_n 1, .invokevirtual 42386, NN, NN, .istore 5, NN, .iload 5, NN, .ifCond .le 26, NN, NN, .aload_n 0, .iload 5, NN, .invokevirtual 25874, NN, NN, .goto 50, NN, NN, .aload_n 0, .iload 4, NN, .ifCond .eq 41, NN, NN],
  [.iload_n 1, .iload_n 2, .iload_n 3, .invokestatic 42259, NN, NN, .goto 47, NN, NN, .iload_n 1, .iload_n 2, .iload_n 3, .invokestatic 42131, NN, NN, .invokevirtual 26130, NN, NN, .ireturn]]
def kX12_isRest : List (List Instr) := [[.iload_n 1, .iconst 1, .if_icmp .le 9, NN, NN, .iconst 1, .goto 10, NN, NN, .iconst 0, .istore_n 2, .iload_n 1, .iconst 2, .irem, .iconst 1, .if_icmp .ne 22, NN, NN, .iconst 1, .goto 23, NN, NN, .iconst 0, .istore_n 3, .iload_n 0, .iload_n 2, .ifCond .ne 33, NN, NN, .iconst 1, .goto 34, NN],
  [NN, .iconst 0, .iload_n 3, .invokestatic 42131, NN, NN, .iload_n 0, .iload_n 2, .iload_n 3, .invokestatic 42131, NN, NN, .if_icmp .gt 74, NN, NN, .iload_n 0, .iload_n 2, .iload_n 3, .ifCond .ne 57, NN, NN, .iconst 1, .goto 58, NN, NN, .iconst 0, .invokestatic 42259, NN, NN, .iload_n 0, .iload_n 2, .iload_n 3],
  [.invokestatic 42259, NN, NN, .if_icmp .gt 74, NN, NN, .iconst 1, .goto 75, NN, NN, .iconst 0, .ireturn]]
def kX12_rests : List (List Instr) := [[.aload_n 0, .iconst 0, .putfield 73728, NN, NN, .aload_n 0, .iload_n 1, .invokevirtual 42386, NN, NN, .istore_n 2, .iload_n 2, .ifCond .le 21, NN, NN, .aload_n 0, .iload_n 2, .invokevirtual 25746, NN, NN, .ireturn, .iconst 0, .istore_n 3, .iconst 0, .istore 4, NN, .iload 4, NN, .iconst 4, .if_icmp .ge 55, NN, NN],
  [.iload_n 3, .iload_n 1, .iload 4, NN, .invokestatic 42658, NN, NN, .ifCond .eq 46, NN, NN, .iconst 1, .goto 47, NN, NN, .iconst 0, .iadd, .istore_n 3, .iinc 4 1, NN, NN, .goto 26, NN, NN, .aload_n 0, .iload_n 3, .invokevirtual 26130, NN, NN, .ireturn]]
def kX12_rest : List (List Instr) := [[.aload_n 0, .iconst 0, .putfield 73728, NN, NN, .aload_n 0, .iload_n 1, .invokevirtual 42386, NN, NN, .istore_n 2, .iload_n 2, .ifCond .le 21, NN, NN, .aload_n 0, .iload_n 2, .invokevirtual 25746, NN, NN, .ireturn, .iconst 0, .istore_n 3, .iload_n 3, .iconst 4, .if_icmp .ge 57, NN, NN, .iload_n 1, .iload_n 3, .invokestatic 42658, NN],
  [NN, .ifCond .eq 51, NN, NN, .aload_n 0, .bipush 10, NN, .iload_n 3, .iconst 2, .idiv, .imul, .iload_n 3, .iconst 2, .irem, .iadd, .invokevirtual 26130, NN, NN, .ireturn, .iinc 3 1, NN, NN, .goto 23, NN, NN, .aload_n 0, .bipush (-2), NN, .invokevirtual 26130, NN, NN, .ireturn]]
def kX12_spreadsOut : List (List Instr) := [[.aload_n 0, .lconst 1, .putfield 76161, NN, NN, .iconst 0, .istore_n 2, .iload_n 2, .aload_n 0, .getfield 75520, NN, NN, .if_icmp .ge 36, NN, NN, .aload_n 0, .getfield 76037, NN, NN, .iload_n 2, .iload_n 2, .ifCond .ne 28, NN, NN, .lconst 1, .goto 29, NN, NN, .lconst 0, .lastore, .iinc 2 1, NN],
  [NN, .goto 7, NN, NN, .iconst 0, .istore_n 2, .iload_n 2, .iload_n 1, .if_icmp .ge 179, NN, NN, .aload_n 0, .dup, .getfield 76161, NN, NN, .ldc2_w 100, NN, NN, .aload_n 0, .getfield 73937, NN, NN, .getfield 69888, NN, NN, .i2l, .lmul, .lmul, .putfield 76161, NN, NN],
  [.iconst 0, .istore_n 3, .iload_n 3, .aload_n 0, .getfield 75520, NN, NN, .if_icmp .ge 113, NN, NN, .aload_n 0, .getfield 76101, NN, NN, .iload_n 3, .aload_n 0, .getfield 76037, NN, NN, .iload_n 3, .laload, .bipush 100, NN, .aload_n 0, .getfield 73937, NN, NN, .getfield 69760, NN, NN, .isub, .i2l],
  [.lmul, .aload_n 0, .getfield 73937, NN, NN, .getfield 69888, NN, NN, .i2l, .lmul, .lastore, .iinc 3 1, NN, NN, .goto 66, NN, NN, .iconst 0, .istore_n 3, .iload_n 3, .aload_n 0, .getfield 75520, NN, NN, .if_icmp .ge 145, NN, NN, .aload_n 0, .getfield 76037, NN, NN, .iload_n 3],
  [.laload, .lconst 0, .lcmp, .ifCond .le 139, NN, NN, .aload_n 0, .iload_n 3, .invokevirtual 43138, NN, NN, .iinc 3 1, NN, NN, .goto 115, NN, NN, .iconst 0, .istore_n 3, .iload_n 3, .aload_n 0, .getfield 75520, NN, NN, .if_icmp .ge 173, NN, NN, .aload_n 0, .getfield 76037, NN, NN, .iload_n 3],
  [.aload_n 0, .getfield 76101, NN, NN, .iload_n 3, .laload, .lastore, .iinc 3 1, NN, NN, .goto 147, NN, NN, .iinc 2 1, NN, NN, .goto 38, NN, NN, .return_]]
def kX12_spreads : List (List Instr) := [[.iconst 0, .istore_n 2, .iload_n 2, .aload_n 0, .getfield 73937, NN, NN, .getfield 69888, NN, NN, .if_icmp .ge 87, NN, NN, .iconst 0, .istore_n 3, .iload_n 3, .aload_n 0, .getfield 73937, NN, NN, .getfield 69696, NN, NN, .if_icmp .ge 49, NN, NN, .aload_n 0, .getfield 75460, NN, NN, .iload_n 3, .aload_n 0],
  [.iload_n 2, .aload_n 0, .iload_n 1, .iload_n 3, .invokevirtual 32403, NN, NN, .invokevirtual 31763, NN, NN, .iastore, .iinc 3 1, NN, NN, .goto 15, NN, NN, .aload_n 0, .getfield 76101, NN, NN, .aload_n 0, .getfield 75204, NN, NN, .aload_n 0, .invokevirtual 31889, NN, NN, .iaload, .dup2, .laload],
  [.aload_n 0, .getfield 76037, NN, NN, .iload_n 1, .laload, .aload_n 0, .getfield 73937, NN, NN, .getfield 69760, NN, NN, .i2l, .lmul, .ladd, .lastore, .iinc 2 1, NN, NN, .goto 2, NN, NN, .return_]]
def kX12_refusesShakes : List (List Instr) := [[.iload_n 1, .ifCond .ne 8, NN, NN, .iconst 1, .goto 22, NN, NN, .iload_n 2, .iconst 0, .iconst 5, .invokestatic 26531, NN, NN, .ifCond .eq 21, NN, NN, .iconst 0, .goto 22, NN, NN, .iconst 2, .ireturn]]
def kX12_odds : List (List Instr) := [[.aload_n 0, .iconst 0, .putfield 73728, NN, NN, .aload_n 0, .aload_n 0, .iload_n 1, .iload_n 2, .invokevirtual 31523, NN, NN, .iload_n 3, .invokevirtual 43283, NN, NN, .istore 5, NN, .iload 5, NN, .ifCond .le 31, NN, NN, .aload_n 0, .iload 5, NN, .invokevirtual 25746, NN, NN, .i2l, .lreturn, .aload_n 0],
  [.iload_n 3, .invokevirtual 43010, NN, NN, .lconst 0, .lstore 6, NN, .iconst 0, .istore 8, NN, .iload 8, NN, .aload_n 0, .getfield 75520, NN, NN, .if_icmp .ge 103, NN, NN, .lload 6, NN, .aload_n 0, .iload 8, NN, .aload_n 0, .getfield 74756, NN, NN, .iload_n 1, .iaload, .invokevirtual 32403, NN],
  [NN, .aload_n 0, .iload 8, NN, .aload_n 0, .getfield 74756, NN, NN, .iload_n 2, .iaload, .invokevirtual 32403, NN, NN, .invokestatic 33058, NN, NN, .ifCond .eq 93, NN, NN, .aload_n 0, .getfield 76037, NN, NN, .iload 8, NN, .laload, .goto 94, NN, NN, .lconst 0, .ladd, .lstore 6],
  [NN, .iinc 8 1, NN, NN, .goto 42, NN, NN, .aload_n 0, .lload 6, NN, .aload_n 0, .getfield 76161, NN, NN, .iload 4, NN, .invokevirtual 27060, NN, NN, .lreturn]]
def kX12_slotOdds : List (List Instr) := [[.aload_n 0, .iconst 0, .putfield 73728, NN, NN, .aload_n 0, .aload_n 0, .iload_n 1, .invokevirtual 31138, NN, NN, .ifCond .eq 26, NN, NN, .aload_n 0, .iload_n 2, .invokevirtual 31266, NN, NN, .ifCond .eq 26, NN, NN, .iconst 1, .goto 27, NN, NN, .iconst 0, .iload_n 3, .invokevirtual 43283, NN, NN, .istore 5],
  [NN, .iload 5, NN, .ifCond .le 46, NN, NN, .aload_n 0, .iload 5, NN, .invokevirtual 25746, NN, NN, .i2l, .lreturn, .aload_n 0, .iload_n 3, .invokevirtual 43010, NN, NN, .lconst 0, .lstore 6, NN, .iconst 0, .istore 8, NN, .iload 8, NN, .aload_n 0, .getfield 75520, NN, NN, .if_icmp .ge 104],
  [NN, NN, .lload 6, NN, .aload_n 0, .iload 8, NN, .aload_n 0, .getfield 74756, NN, NN, .iload_n 1, .iaload, .invokevirtual 32403, NN, NN, .iload_n 2, .if_icmp .ne 94, NN, NN, .aload_n 0, .getfield 76037, NN, NN, .iload 8, NN, .laload, .goto 95, NN, NN, .lconst 0, .ladd],
  [.lstore 6, NN, .iinc 8 1, NN, NN, .goto 57, NN, NN, .aload_n 0, .lload 6, NN, .aload_n 0, .getfield 76161, NN, NN, .iload 4, NN, .invokevirtual 27060, NN, NN, .lreturn]]
def kX12_mean : List (List Instr) := [[.aload_n 0, .iconst 0, .putfield 73728, NN, NN, .aload_n 0, .aload_n 0, .getfield 73937, NN, NN, .ifnull 17, NN, NN, .iconst 1, .goto 18, NN, NN, .iconst 0, .iload_n 1, .invokevirtual 43283, NN, NN, .istore_n 3, .iload_n 3, .ifCond .le 34, NN, NN, .aload_n 0, .iload_n 3, .invokevirtual 25746, NN, NN],
  [.i2l, .lreturn, .aload_n 0, .iload_n 1, .invokevirtual 43010, NN, NN, .lconst 0, .lstore 4, NN, .iconst 0, .istore 6, NN, .iload 6, NN, .aload_n 0, .getfield 75520, NN, NN, .if_icmp .ge 84, NN, NN, .aload_n 0, .iload 6, NN, .invokevirtual 32514, NN, NN, .lload 4, NN, .aload_n 0, .getfield 76037],
  [NN, NN, .iload 6, NN, .laload, .aload_n 0, .invokevirtual 33809, NN, NN, .i2l, .lmul, .ladd, .lstore 4, NN, .iinc 6 1, NN, NN, .goto 45, NN, NN, .aload_n 0, .lload 4, NN, .aload_n 0, .getfield 76161, NN, NN, .iload_n 2, .invokevirtual 27060, NN, NN, .lreturn]]
def kX12_aShake : List (List Instr) := [[.aload_n 0, .ldc2_w 75, NN, NN, .aload_n 0, .getfield 76224, NN, NN, .i2l, .lmul, .ldc2_w 74, NN, NN, .ladd, .ldc2_w 65537, NN, NN, .lrem, .l2i, .putfield 76224, NN, NN, .aload_n 0, .getfield 76224, NN, NN, .bipush 100, NN, .irem, .aload_n 0, .getfield 73937, NN],
  [NN, .getfield 69760, NN, NN, .if_icmp .lt 40, NN, NN, .return_, .aload_n 0, .ldc2_w 75, NN, NN, .aload_n 0, .getfield 76224, NN, NN, .i2l, .lmul, .ldc2_w 74, NN, NN, .ladd, .ldc2_w 65537, NN, NN, .lrem, .l2i, .putfield 76224, NN, NN, .iconst 0, .istore_n 1],
  [.iload_n 1, .aload_n 0, .getfield 73937, NN, NN, .getfield 69824, NN, NN, .if_icmp .ge 109, NN, NN, .aload_n 0, .getfield 74820, NN, NN, .iload_n 1, .aload_n 0, .aload_n 0, .getfield 76224, NN, NN, .aload_n 0, .getfield 73937, NN, NN, .getfield 69888, NN, NN, .irem, .aload_n 0, .getfield 74820, NN],
  [NN, .iload_n 1, .iaload, .invokevirtual 31763, NN, NN, .iastore, .iinc 1 1, NN, NN, .goto 64, NN, NN, .return_]]
def kX12_refusesSeed : List (List Instr) := [[.iload_n 1, .ifCond .ne 8, NN, NN, .iconst 1, .goto 34, NN, NN, .iload_n 2, .iconst 0, .ldc_w 65536, NN, NN, .invokestatic 26531, NN, NN, .ifCond .eq 33, NN, NN, .iload_n 3, .iconst 0, .bipush 60, NN, .invokestatic 26531, NN, NN, .ifCond .eq 33, NN, NN, .iconst 0, .goto 34, NN],
  [NN, .iconst 2, .ireturn]]
def kX12_shaken : List (List Instr) := [[.aload_n 0, .iconst 0, .putfield 73728, NN, NN, .aload_n 0, .aload_n 0, .iload_n 1, .invokevirtual 31138, NN, NN, .iload_n 2, .iload_n 3, .invokevirtual 43924, NN, NN, .istore 4, NN, .iload 4, NN, .ifCond .le 30, NN, NN, .aload_n 0, .iload 4, NN, .invokevirtual 25746, NN, NN, .ireturn, .aload_n 0, .invokevirtual 31617],
  [NN, NN, .aload_n 0, .iload_n 2, .putfield 76224, NN, NN, .iconst 0, .istore 5, NN, .iload 5, NN, .iload_n 3, .if_icmp .ge 58, NN, NN, .aload_n 0, .invokevirtual 43777, NN, NN, .iinc 5 1, NN, NN, .goto 42, NN, NN, .aload_n 0, .aload_n 0, .getfield 74820, NN, NN, .iload_n 1],
  [.iaload, .invokevirtual 26130, NN, NN, .ireturn]]
def kX12_peaceIn : List (List Instr) := [[.aload_n 0, .iconst 0, .putfield 73728, NN, NN, .aload_n 0, .aload_n 0, .getfield 73937, NN, NN, .ifnull 17, NN, NN, .iconst 1, .goto 18, NN, NN, .iconst 0, .iload_n 1, .iload_n 2, .invokevirtual 43924, NN, NN, .istore_n 3, .iload_n 3, .ifCond .le 34, NN, NN, .aload_n 0, .iload_n 3, .invokevirtual 25746, NN],
  [NN, .ireturn, .aload_n 0, .invokevirtual 31617, NN, NN, .aload_n 0, .iload_n 1, .putfield 76224, NN, NN, .iconst 0, .istore 4, NN, .iload 4, NN, .iload_n 2, .if_icmp .gt 76, NN, NN, .aload_n 0, .invokevirtual 33809, NN, NN, .ifCond .ne 66, NN, NN, .aload_n 0, .iload 4, NN, .invokevirtual 26130, NN],
  [NN, .ireturn, .aload_n 0, .invokevirtual 43777, NN, NN, .iinc 4 1, NN, NN, .goto 46, NN, NN, .aload_n 0, .bipush (-2), NN, .invokevirtual 26130, NN, NN, .ireturn]]
def kX12_remembers : List (List Instr) := [[.aload_n 0, .getfield 75008, NN, NN, .bipush 16, NN, .if_icmp .ne 48, NN, NN, .iconst 0, .istore_n 1, .iload_n 1, .bipush 90, NN, .if_icmp .ge 38, NN, NN, .aload_n 0, .getfield 74884, NN, NN, .iload_n 1, .aload_n 0, .getfield 74884, NN, NN, .iload_n 1, .bipush 6, NN, .iadd, .iaload, .iastore],
  [.iinc 1 1, NN, NN, .goto 11, NN, NN, .aload_n 0, .dup, .getfield 75008, NN, NN, .iconst 1, .isub, .putfield 75008, NN, NN, .iconst 0, .istore_n 1, .iload_n 1, .bipush 6, NN, .if_icmp .ge 82, NN, NN, .aload_n 0, .getfield 74884, NN, NN, .bipush 6, NN, .aload_n 0, .getfield 75008],
  [NN, NN, .imul, .iload_n 1, .iadd, .aload_n 0, .getfield 74756, NN, NN, .iload_n 1, .iaload, .iastore, .iinc 1 1, NN, NN, .goto 50, NN, NN, .aload_n 0, .dup, .getfield 75008, NN, NN, .iconst 1, .iadd, .putfield 75008, NN, NN, .return_]]
def kX12_slidesAll : List (List Instr) := [[.iconst 0, .istore_n 1, .aload_n 0, .invokevirtual 44289, NN, NN, .iconst 0, .istore_n 2, .iload_n 2, .aload_n 0, .getfield 73937, NN, NN, .getfield 69824, NN, NN, .if_icmp .ge 72, NN, NN, .iload_n 1, .aload_n 0, .getfield 75460, NN, NN, .aload_n 0, .getfield 74756, NN, NN, .iload_n 2, .iaload, .iaload, .aload_n 0],
  [.getfield 74756, NN, NN, .iload_n 2, .iaload, .if_icmp .ne 44, NN, NN, .iconst 0, .goto 47, NN, NN, .iconst 1, .iload_n 2, .ishl, .ior, .istore_n 1, .aload_n 0, .getfield 74756, NN, NN, .iload_n 2, .aload_n 0, .getfield 75460, NN, NN, .aload_n 0, .getfield 74756, NN, NN, .iload_n 2, .iaload],
  [.iaload, .iastore, .iinc 2 1, NN, NN, .goto 8, NN, NN, .aload_n 0, .iload_n 1, .invokevirtual 26130, NN, NN, .ireturn]]
def kX12_layTurn : List (List Instr) := [[.iconst 0, .istore_n 2, .iload_n 2, .aload_n 0, .getfield 73937, NN, NN, .getfield 69696, NN, NN, .if_icmp .ge 31, NN, NN, .aload_n 0, .getfield 75460, NN, NN, .iload_n 2, .aload_n 0, .iload_n 1, .iload_n 2, .invokevirtual 31763, NN, NN, .iastore, .iinc 2 1, NN, NN, .goto 2, NN, NN, .return_]]
def kX12_turn : List (List Instr) := [[.aload_n 0, .iconst 0, .putfield 73728, NN, NN, .aload_n 0, .iload_n 1, .invokevirtual 31394, NN, NN, .ifCond .ne 19, NN, NN, .aload_n 0, .iconst 1, .invokevirtual 25746, NN, NN, .ireturn, .aload_n 0, .iload_n 1, .invokevirtual 44546, NN, NN, .aload_n 0, .invokevirtual 44433, NN, NN, .ireturn]]
def kX12_turnBack : List (List Instr) := [[.aload_n 0, .iconst 0, .putfield 73728, NN, NN, .aload_n 0, .iload_n 1, .invokevirtual 31394, NN, NN, .ifCond .ne 19, NN, NN, .aload_n 0, .iconst 1, .invokevirtual 25746, NN, NN, .ireturn, .aload_n 0, .iload_n 1, .invokevirtual 44546, NN, NN, .aload_n 0, .invokevirtual 36353, NN, NN, .aload_n 0, .invokevirtual 44433, NN, NN],
  [.ireturn]]
def kX12_move : List (List Instr) := [[.aload_n 0, .iconst 0, .putfield 73728, NN, NN, .aload_n 0, .iload_n 1, .invokevirtual 31138, NN, NN, .ifCond .eq 21, NN, NN, .aload_n 0, .iload_n 2, .invokevirtual 31266, NN, NN, .ifCond .ne 27, NN, NN, .aload_n 0, .iconst 1, .invokevirtual 25746, NN, NN, .ireturn, .aload_n 0, .iload_n 2, .invokevirtual 33426, NN, NN],
  [.bipush (-2), NN, .if_icmp .eq 43, NN, NN, .aload_n 0, .iconst 5, .invokevirtual 25746, NN, NN, .ireturn, .aload_n 0, .invokevirtual 44289, NN, NN, .aload_n 0, .getfield 74756, NN, NN, .iload_n 1, .iaload, .istore_n 3, .aload_n 0, .getfield 74756, NN, NN, .iload_n 1, .iload_n 2, .iastore, .aload_n 0, .iload_n 3, .invokevirtual 26130],
  [NN, NN, .ireturn]]
def kX12_undo : List (List Instr) := [[.aload_n 0, .iconst 0, .putfield 73728, NN, NN, .aload_n 0, .getfield 73937, NN, NN, .ifnull 19, NN, NN, .aload_n 0, .getfield 75008, NN, NN, .ifCond .ne 26, NN, NN, .aload_n 0, .bipush 6, NN, .invokevirtual 26018, NN, NN, .ireturn, .aload_n 0, .dup, .getfield 75008, NN, NN, .iconst 1],
  [.isub, .putfield 75008, NN, NN, .iconst 0, .istore_n 1, .iload_n 1, .bipush 6, NN, .if_icmp .ge 70, NN, NN, .aload_n 0, .getfield 74756, NN, NN, .iload_n 1, .aload_n 0, .getfield 74884, NN, NN, .bipush 6, NN, .aload_n 0, .getfield 75008, NN, NN, .imul, .iload_n 1, .iadd, .iaload, .iastore],
  [.iinc 1 1, NN, NN, .goto 38, NN, NN, .aload_n 0, .invokevirtual 26401, NN, NN, .ireturn]]
def kX12_keep : List (List Instr) := [[.aload_n 0, .iconst 0, .putfield 73728, NN, NN, .aload_n 0, .getfield 73937, NN, NN, .ifnonnull 18, NN, NN, .aload_n 0, .iconst 1, .invokevirtual 25746, NN, NN, .ireturn, .aload_n 0, .getfield 75072, NN, NN, .iconst 3, .if_icmp .ne 32, NN, NN, .aload_n 0, .iconst 3, .invokevirtual 25746, NN, NN, .ireturn],
  [.iconst 0, .istore_n 1, .iload_n 1, .bipush 6, NN, .if_icmp .ge 66, NN, NN, .aload_n 0, .getfield 74948, NN, NN, .bipush 6, NN, .aload_n 0, .getfield 75072, NN, NN, .imul, .iload_n 1, .iadd, .aload_n 0, .getfield 74756, NN, NN, .iload_n 1, .iaload, .iastore, .iinc 1 1, NN, NN, .goto 34],
  [NN, NN, .aload_n 0, .dup, .getfield 75072, NN, NN, .iconst 1, .iadd, .putfield 75072, NN, NN, .aload_n 0, .aload_n 0, .getfield 75072, NN, NN, .iconst 1, .isub, .invokevirtual 26130, NN, NN, .ireturn]]
def kX12_back : List (List Instr) := [[.aload_n 0, .iconst 0, .putfield 73728, NN, NN, .aload_n 0, .getfield 73937, NN, NN, .ifnull 24, NN, NN, .iload_n 1, .ifCond .lt 24, NN, NN, .iload_n 1, .aload_n 0, .getfield 75072, NN, NN, .if_icmp .lt 30, NN, NN, .aload_n 0, .iconst 1, .invokevirtual 26018, NN, NN, .ireturn, .iconst 0, .istore_n 2],
  [.iload_n 2, .bipush 6, NN, .if_icmp .ge 61, NN, NN, .aload_n 0, .getfield 74756, NN, NN, .iload_n 2, .aload_n 0, .getfield 74948, NN, NN, .bipush 6, NN, .iload_n 1, .imul, .iload_n 2, .iadd, .iaload, .iastore, .iinc 2 1, NN, NN, .goto 32, NN, NN, .aload_n 0, .iconst 0, .putfield 75008],
  [NN, NN, .aload_n 0, .invokevirtual 26401, NN, NN, .ireturn]]
def kX12_led : List (List Instr) := [[.aload_n 0, .iconst 0, .putfield 73728, NN, NN, .iconst 0, .istore_n 2, .iconst 0, .istore_n 3, .aload_n 0, .getfield 73937, NN, NN, .ifnull 64, NN, NN, .iload_n 3, .aload_n 0, .getfield 73937, NN, NN, .getfield 69824, NN, NN, .if_icmp .ge 64, NN, NN, .aload_n 0, .getfield 74756, NN, NN, .iload_n 3],
  [.iaload, .aload_n 0, .getfield 73937, NN, NN, .getfield 70340, NN, NN, .iload_n 3, .iaload, .if_icmp .ne 48, NN, NN, .goto 58, NN, NN, .iload_n 2, .iload_n 1, .if_icmp .ne 55, NN, NN, .iload_n 3, .ireturn, .iinc 2 1, NN, NN, .iinc 3 1, NN, NN, .goto 9, NN, NN],
  [.aload_n 0, .iconst 1, .putfield 73728, NN, NN, .iconst 0, .ireturn]]
def kX12_size : List (List Instr) := [[.aload_n 0, .iconst 0, .putfield 73728, NN, NN, .iload_n 1, .bipush 11, NN, .if_icmp .ne 16, NN, NN, .aload_n 0, .getfield 74112, NN, NN, .ireturn, .iload_n 1, .iconst 0, .bipush 10, NN, .invokestatic 26531, NN, NN, .ifCond .ne 28, NN, NN, .iconst (-1), .ireturn, .aload_n 0, .getfield 73937, NN, NN],
  [.ifnonnull 37, NN, NN, .iconst 0, .ireturn, .iload_n 1, .tableswitch 169 0 9 #[92, 100, 108, 116, 124, 132, 140, 148, 156, 164], NN, NN, NN, NN, NN, NN, NN, NN, NN, NN, NN, NN, NN, NN, NN, NN, NN, NN, NN, NN, NN, NN, NN, NN, NN],
  [NN, NN, NN, NN, NN, NN, NN, NN, NN, NN, NN, NN, NN, NN, NN, NN, NN, NN, NN, NN, NN, NN, NN, NN, NN, NN, NN, NN, .aload_n 0, .getfield 73937, NN, NN],
  [.getfield 69632, NN, NN, .ireturn, .aload_n 0, .getfield 73937, NN, NN, .getfield 69696, NN, NN, .ireturn, .aload_n 0, .getfield 73937, NN, NN, .getfield 69760, NN, NN, .ireturn, .aload_n 0, .getfield 73937, NN, NN, .getfield 69824, NN, NN, .ireturn, .aload_n 0, .getfield 73937, NN, NN],
  [.getfield 69888, NN, NN, .ireturn, .aload_n 0, .getfield 73937, NN, NN, .getfield 69952, NN, NN, .ireturn, .aload_n 0, .getfield 73937, NN, NN, .getfield 70016, NN, NN, .ireturn, .aload_n 0, .getfield 73937, NN, NN, .getfield 70080, NN, NN, .ireturn, .aload_n 0, .getfield 73937, NN, NN],
  [.getfield 70144, NN, NN, .ireturn, .aload_n 0, .getfield 75008, NN, NN, .ireturn, .aload_n 0, .getfield 75072, NN, NN, .ireturn]]
def kX12_trouble : List (List Instr) := [[.aload_n 0, .iconst 0, .putfield 73728, NN, NN, .aload_n 0, .getfield 73792, NN, NN, .ireturn]]
def kJ6_bitCount_0f7a4 : List (List Instr) := [[.iload_n 0, .iload_n 0, .iconst 1, .iushr, .ldc_w 1431655765, NN, NN, .iand, .isub, .istore_n 0, .iload_n 0, .ldc_w 858993459, NN, NN, .iand, .iload_n 0, .iconst 2, .iushr, .ldc_w 858993459, NN, NN, .iand, .iadd, .istore_n 0, .iload_n 0, .iload_n 0, .iconst 4, .iushr, .iadd, .ldc_w 252645135, NN, NN],
  [.iand, .istore_n 0, .iload_n 0, .iload_n 0, .bipush 8, NN, .iushr, .iadd, .istore_n 0, .iload_n 0, .iload_n 0, .bipush 16, NN, .iushr, .iadd, .istore_n 0, .iload_n 0, .bipush 63, NN, .iand, .ireturn]]
def kX5_changeFor : List (List Instr) := [[.aload_n 0, .getfield 49871, NN, NN, .astore_n 2, .aload_n 0, .aload_n 1, .putfield 49871, NN, NN, .aload_n 2, .areturn]]
def kX9_addPerson : List (List Instr) := [[.aload_n 0, .getfield 61632, NN, NN, .bipush 6, NN, .if_icmp .ge 39, NN, NN, .aload_n 0, .getfield 61828, NN, NN, .aload_n 0, .getfield 61632, NN, NN, .iload_n 1, .iastore, .aload_n 0, .getfield 61892, NN, NN, .aload_n 0, .getfield 61632, NN, NN, .iload_n 2, .iastore, .aload_n 0, .dup, .getfield 61632],
  [NN, NN, .iconst 1, .iadd, .putfield 61632, NN, NN, .return_]]
def kX9_addTurn : List (List Instr) := [[.aload_n 0, .getfield 61696, NN, NN, .iconst 3, .if_icmp .ge 28, NN, NN, .aload_n 0, .getfield 61956, NN, NN, .aload_n 0, .getfield 61696, NN, NN, .iload_n 1, .iastore, .aload_n 0, .dup, .getfield 61696, NN, NN, .iconst 1, .iadd, .putfield 61696, NN, NN, .return_]]
def kX9_addUnsure : List (List Instr) := [[.aload_n 0, .getfield 61760, NN, NN, .iconst 3, .if_icmp .ge 38, NN, NN, .aload_n 0, .getfield 62020, NN, NN, .aload_n 0, .getfield 61760, NN, NN, .iload_n 1, .iastore, .aload_n 0, .getfield 62084, NN, NN, .aload_n 0, .getfield 61760, NN, NN, .iload_n 2, .iastore, .aload_n 0, .dup, .getfield 61760, NN],
  [NN, .iconst 1, .iadd, .putfield 61760, NN, NN, .return_]]
def kJ9_abs_0f7a4 : List (List Instr) := [[.iload_n 0, .ifCond .ge 9, NN, NN, .iload_n 0, .ineg, .goto 10, NN, NN, .iload_n 0, .ireturn]]
def kJ9_max_7cf53 : List (List Instr) := [[.iload_n 0, .iload_n 1, .if_icmp .lt 9, NN, NN, .iload_n 0, .goto 10, NN, NN, .iload_n 1, .ireturn]]
def kJ9_min_7cf53 : List (List Instr) := [[.iload_n 0, .iload_n 1, .if_icmp .gt 9, NN, NN, .iload_n 0, .goto 10, NN, NN, .iload_n 1, .ireturn]]
def kL_law : List (List Instr) := [[.new 16, NN, NN, .dup, .invokespecial 12929, NN, NN, .astore_n 1, .new 18, NN, NN, .dup, .invokespecial 25473, NN, NN, .astore_n 2, .iconst 1, .newarray .long, NN, .astore_n 3, .iconst 0, .istore 4, NN, .iload 4, NN, .aload_n 0, .arraylength, .bipush 6, NN, .isub, .if_icmp .gt 2220, NN],
  [NN, .aload_n 0, .iload 4, NN, .iaload, .bipush 63, NN, .iand, .tableswitch 2214 0 63 #[312, 385, 410, 423, 436, 473, 498, 535, 548, 561, 586, 611, 648, 661, 698, 723, 772, 809, 846, 883, 920, 957, 970, 983, 996, 1021, 1046, 1059, 1072, 1085, 1110, 1123, 1148, 1185, 1198, 1224, 1250, 1288, 1326, 1339, 1364, 1377, 1390, 1403, 1416, 1429, 1478, 1527, 1636, 1661, 1686, 1764, 1842, 1896, 1945, 1982, 2007, 2032, 2069, 2082, 2095, 2120, 2176, 2201], NN, NN, NN, NN, NN, NN, NN, NN, NN, NN, NN, NN, NN, NN, NN, NN, NN, NN, NN, NN, NN, NN, NN],
  [NN, NN, NN, NN, NN, NN, NN, NN, NN, NN, NN, NN, NN, NN, NN, NN, NN, NN, NN, NN, NN, NN, NN, NN, NN, NN, NN, NN, NN, NN, NN, NN],
  [NN, NN, NN, NN, NN, NN, NN, NN, NN, NN, NN, NN, NN, NN, NN, NN, NN, NN, NN, NN, NN, NN, NN, NN, NN, NN, NN, NN, NN, NN, NN, NN],
  [NN, NN, NN, NN, NN, NN, NN, NN, NN, NN, NN, NN, NN, NN, NN, NN, NN, NN, NN, NN, NN, NN, NN, NN, NN, NN, NN, NN, NN, NN, NN, NN],
  [NN, NN, NN, NN, NN, NN, NN, NN, NN, NN, NN, NN, NN, NN, NN, NN, NN, NN, NN, NN, NN, NN, NN, NN, NN, NN, NN, NN, NN, NN, NN, NN],
  [NN, NN, NN, NN, NN, NN, NN, NN, NN, NN, NN, NN, NN, NN, NN, NN, NN, NN, NN, NN, NN, NN, NN, NN, NN, NN, NN, NN, NN, NN, NN, NN],
  [NN, NN, NN, NN, NN, NN, NN, NN, NN, NN, NN, NN, NN, NN, NN, NN, NN, NN, NN, NN, NN, NN, NN, NN, NN, NN, NN, NN, NN, NN, NN, NN],
  [NN, NN, NN, NN, NN, NN, NN, NN, NN, NN, NN, NN, NN, NN, NN, NN, NN, NN, NN, NN, NN, NN, NN, NN, NN, NN, NN, NN, NN, NN, NN, NN],
  [NN, NN, NN, NN, NN, NN, NN, NN, NN, NN, NN, NN, NN, NN, NN, NN, NN, NN, NN, NN, NN, NN, NN, NN, .aload_n 1, .aload_n 0, .iload 4, NN, .iconst 1, .iadd, .iaload, .aload_n 0],
  [.iload 4, NN, .iconst 2, .iadd, .iaload, .aload_n 0, .iload 4, NN, .iconst 3, .iadd, .iaload, .aload_n 0, .iload 4, NN, .iconst 4, .iadd, .iaload, .aload_n 0, .iload 4, NN, .iconst 5, .iadd, .iaload, .invokevirtual 13078, NN, NN, .aload_n 2, .aload_n 0, .iload 4, NN, .iconst 1, .iadd],
  [.iaload, .aload_n 0, .iload 4, NN, .iconst 2, .iadd, .iaload, .aload_n 0, .iload 4, NN, .iconst 3, .iadd, .iaload, .aload_n 0, .iload 4, NN, .iconst 4, .iadd, .iaload, .aload_n 0, .iload 4, NN, .iconst 5, .iadd, .iaload, .invokevirtual 30614, NN, NN, .if_icmp .eq 2214, NN, NN, .iconst 0],
  [.ireturn, .aload_n 1, .aload_n 0, .iload 4, NN, .iconst 1, .iadd, .iaload, .invokevirtual 13202, NN, NN, .aload_n 2, .aload_n 0, .iload 4, NN, .iconst 1, .iadd, .iaload, .invokevirtual 30738, NN, NN, .if_icmp .eq 2214, NN, NN, .iconst 0, .ireturn, .aload_n 1, .invokevirtual 13329, NN, NN, .aload_n 2, .invokevirtual 30865],
  [NN, NN, .if_icmp .eq 2214, NN, NN, .iconst 0, .ireturn, .aload_n 1, .invokevirtual 13457, NN, NN, .aload_n 2, .invokevirtual 30993, NN, NN, .if_icmp .eq 2214, NN, NN, .iconst 0, .ireturn, .aload_n 1, .aload_n 0, .iload 4, NN, .iconst 1, .iadd, .iaload, .aload_n 0, .iload 4, NN, .iconst 2, .iadd],
  [.iaload, .invokevirtual 13587, NN, NN, .aload_n 2, .aload_n 0, .iload 4, NN, .iconst 1, .iadd, .iaload, .aload_n 0, .iload 4, NN, .iconst 2, .iadd, .iaload, .invokevirtual 33299, NN, NN, .if_icmp .eq 2214, NN, NN, .iconst 0, .ireturn, .aload_n 1, .aload_n 0, .iload 4, NN, .iconst 1, .iadd, .iaload],
  [.invokevirtual 13714, NN, NN, .aload_n 2, .aload_n 0, .iload 4, NN, .iconst 1, .iadd, .iaload, .invokevirtual 33554, NN, NN, .if_icmp .eq 2214, NN, NN, .iconst 0, .ireturn, .aload_n 1, .aload_n 0, .iload 4, NN, .iconst 1, .iadd, .iaload, .aload_n 0, .iload 4, NN, .iconst 2, .iadd, .iaload, .invokevirtual 13843],
  [NN, NN, .aload_n 2, .aload_n 0, .iload 4, NN, .iconst 1, .iadd, .iaload, .aload_n 0, .iload 4, NN, .iconst 2, .iadd, .iaload, .invokevirtual 33683, NN, NN, .if_icmp .eq 2214, NN, NN, .iconst 0, .ireturn, .aload_n 1, .invokevirtual 13969, NN, NN, .aload_n 2, .invokevirtual 33937, NN, NN, .if_icmp .eq 2214],
  [NN, NN, .iconst 0, .ireturn, .aload_n 1, .invokevirtual 14097, NN, NN, .aload_n 2, .invokevirtual 34193, NN, NN, .if_icmp .eq 2214, NN, NN, .iconst 0, .ireturn, .aload_n 1, .aload_n 0, .iload 4, NN, .iconst 1, .iadd, .iaload, .invokevirtual 14226, NN, NN, .aload_n 2, .aload_n 0, .iload 4, NN, .iconst 1],
  [.iadd, .iaload, .invokevirtual 34706, NN, NN, .if_icmp .eq 2214, NN, NN, .iconst 0, .ireturn, .aload_n 1, .aload_n 0, .iload 4, NN, .iconst 1, .iadd, .iaload, .invokevirtual 14354, NN, NN, .aload_n 2, .aload_n 0, .iload 4, NN, .iconst 1, .iadd, .iaload, .invokevirtual 34834, NN, NN, .if_icmp .eq 2214, NN],
  [NN, .iconst 0, .ireturn, .aload_n 1, .aload_n 0, .iload 4, NN, .iconst 1, .iadd, .iaload, .aload_n 0, .iload 4, NN, .iconst 2, .iadd, .iaload, .invokevirtual 14483, NN, NN, .aload_n 2, .aload_n 0, .iload 4, NN, .iconst 1, .iadd, .iaload, .aload_n 0, .iload 4, NN, .iconst 2, .iadd, .iaload],
  [.invokevirtual 34963, NN, NN, .if_icmp .eq 2214, NN, NN, .iconst 0, .ireturn, .aload_n 1, .invokevirtual 14609, NN, NN, .aload_n 2, .invokevirtual 35089, NN, NN, .if_icmp .eq 2214, NN, NN, .iconst 0, .ireturn, .aload_n 1, .aload_n 0, .iload 4, NN, .iconst 1, .iadd, .iaload, .aload_n 0, .iload 4, NN, .iconst 2],
  [.iadd, .iaload, .invokevirtual 14739, NN, NN, .aload_n 2, .aload_n 0, .iload 4, NN, .iconst 1, .iadd, .iaload, .aload_n 0, .iload 4, NN, .iconst 2, .iadd, .iaload, .invokevirtual 35219, NN, NN, .if_icmp .eq 2214, NN, NN, .iconst 0, .ireturn, .aload_n 1, .aload_n 0, .iload 4, NN, .iconst 1, .iadd],
  [.iaload, .invokevirtual 14866, NN, NN, .aload_n 2, .aload_n 0, .iload 4, NN, .iconst 1, .iadd, .iaload, .invokevirtual 35346, NN, NN, .if_icmp .eq 2214, NN, NN, .iconst 0, .ireturn, .aload_n 1, .aload_n 0, .iload 4, NN, .iconst 1, .iadd, .iaload, .aload_n 0, .iload 4, NN, .iconst 2, .iadd, .iaload],
  [.aload_n 0, .iload 4, NN, .iconst 3, .iadd, .iaload, .invokevirtual 14996, NN, NN, .aload_n 2, .aload_n 0, .iload 4, NN, .iconst 1, .iadd, .iaload, .aload_n 0, .iload 4, NN, .iconst 2, .iadd, .iaload, .aload_n 0, .iload 4, NN, .iconst 3, .iadd, .iaload, .invokevirtual 35604, NN, NN, .if_icmp .eq 2214],
  [NN, NN, .iconst 0, .ireturn, .aload_n 1, .aload_n 0, .iload 4, NN, .iconst 1, .iadd, .iaload, .aload_n 0, .iload 4, NN, .iconst 2, .iadd, .iaload, .invokevirtual 15123, NN, NN, .aload_n 2, .aload_n 0, .iload 4, NN, .iconst 1, .iadd, .iaload, .aload_n 0, .iload 4, NN, .iconst 2, .iadd],
  [.iaload, .invokevirtual 35731, NN, NN, .if_icmp .eq 2214, NN, NN, .iconst 0, .ireturn, .aload_n 1, .aload_n 0, .iload 4, NN, .iconst 1, .iadd, .iaload, .aload_n 0, .iload 4, NN, .iconst 2, .iadd, .iaload, .invokevirtual 15251, NN, NN, .aload_n 2, .aload_n 0, .iload 4, NN, .iconst 1, .iadd, .iaload],
  [.aload_n 0, .iload 4, NN, .iconst 2, .iadd, .iaload, .invokevirtual 35859, NN, NN, .if_icmp .eq 2214, NN, NN, .iconst 0, .ireturn, .aload_n 1, .aload_n 0, .iload 4, NN, .iconst 1, .iadd, .iaload, .aload_n 0, .iload 4, NN, .iconst 2, .iadd, .iaload, .invokevirtual 15379, NN, NN, .aload_n 2, .aload_n 0],
  [.iload 4, NN, .iconst 1, .iadd, .iaload, .aload_n 0, .iload 4, NN, .iconst 2, .iadd, .iaload, .invokevirtual 35987, NN, NN, .if_icmp .eq 2214, NN, NN, .iconst 0, .ireturn, .aload_n 1, .aload_n 0, .iload 4, NN, .iconst 1, .iadd, .iaload, .aload_n 0, .iload 4, NN, .iconst 2, .iadd, .iaload],
  [.invokevirtual 15507, NN, NN, .aload_n 2, .aload_n 0, .iload 4, NN, .iconst 1, .iadd, .iaload, .aload_n 0, .iload 4, NN, .iconst 2, .iadd, .iaload, .invokevirtual 36243, NN, NN, .if_icmp .eq 2214, NN, NN, .iconst 0, .ireturn, .aload_n 1, .aload_n 0, .iload 4, NN, .iconst 1, .iadd, .iaload, .aload_n 0],
  [.iload 4, NN, .iconst 2, .iadd, .iaload, .invokevirtual 15635, NN, NN, .aload_n 2, .aload_n 0, .iload 4, NN, .iconst 1, .iadd, .iaload, .aload_n 0, .iload 4, NN, .iconst 2, .iadd, .iaload, .invokevirtual 36499, NN, NN, .if_icmp .eq 2214, NN, NN, .iconst 0, .ireturn, .aload_n 1, .invokevirtual 15761, NN],
  [NN, .aload_n 2, .invokevirtual 36625, NN, NN, .if_icmp .eq 2214, NN, NN, .iconst 0, .ireturn, .aload_n 1, .invokevirtual 15889, NN, NN, .aload_n 2, .invokevirtual 36753, NN, NN, .if_icmp .eq 2214, NN, NN, .iconst 0, .ireturn, .aload_n 1, .invokevirtual 16017, NN, NN, .aload_n 2, .invokevirtual 36881, NN, NN, .if_icmp .eq 2214],
  [NN, NN, .iconst 0, .ireturn, .aload_n 1, .aload_n 0, .iload 4, NN, .iconst 1, .iadd, .iaload, .invokevirtual 16146, NN, NN, .aload_n 2, .aload_n 0, .iload 4, NN, .iconst 1, .iadd, .iaload, .invokevirtual 37010, NN, NN, .if_icmp .eq 2214, NN, NN, .iconst 0, .ireturn, .aload_n 1, .aload_n 0, .iload 4],
  [NN, .iconst 1, .iadd, .iaload, .invokevirtual 16274, NN, NN, .aload_n 2, .aload_n 0, .iload 4, NN, .iconst 1, .iadd, .iaload, .invokevirtual 37138, NN, NN, .if_icmp .eq 2214, NN, NN, .iconst 0, .ireturn, .aload_n 1, .invokevirtual 16401, NN, NN, .aload_n 2, .invokevirtual 37265, NN, NN, .if_icmp .eq 2214, NN],
  [NN, .iconst 0, .ireturn, .aload_n 1, .invokevirtual 16529, NN, NN, .aload_n 2, .invokevirtual 37393, NN, NN, .if_icmp .eq 2214, NN, NN, .iconst 0, .ireturn, .aload_n 1, .invokevirtual 16657, NN, NN, .aload_n 2, .invokevirtual 38033, NN, NN, .if_icmp .eq 2214, NN, NN, .iconst 0, .ireturn, .aload_n 1, .aload_n 0, .iload 4],
  [NN, .iconst 1, .iadd, .iaload, .invokevirtual 16786, NN, NN, .aload_n 2, .aload_n 0, .iload 4, NN, .iconst 1, .iadd, .iaload, .invokevirtual 38162, NN, NN, .if_icmp .eq 2214, NN, NN, .iconst 0, .ireturn, .aload_n 1, .invokevirtual 16913, NN, NN, .aload_n 2, .invokevirtual 38289, NN, NN, .if_icmp .eq 2214, NN],
  [NN, .iconst 0, .ireturn, .aload_n 1, .aload_n 0, .iload 4, NN, .iconst 1, .iadd, .iaload, .invokevirtual 17042, NN, NN, .aload_n 2, .aload_n 0, .iload 4, NN, .iconst 1, .iadd, .iaload, .invokevirtual 38418, NN, NN, .if_icmp .eq 2214, NN, NN, .iconst 0, .ireturn, .aload_n 1, .aload_n 0, .iload 4, NN],
  [.iconst 1, .iadd, .iaload, .aload_n 0, .iload 4, NN, .iconst 2, .iadd, .iaload, .invokevirtual 17171, NN, NN, .aload_n 2, .aload_n 0, .iload 4, NN, .iconst 1, .iadd, .iaload, .aload_n 0, .iload 4, NN, .iconst 2, .iadd, .iaload, .invokevirtual 38547, NN, NN, .if_icmp .eq 2214, NN, NN, .iconst 0],
  [.ireturn, .aload_n 1, .invokevirtual 17297, NN, NN, .aload_n 2, .invokevirtual 38673, NN, NN, .if_icmp .eq 2214, NN, NN, .iconst 0, .ireturn, .aload_n 1, .aload_n 0, .iload 4, NN, .iconst 1, .iadd, .iaload, .invokevirtual 17458, NN, NN, .aload_n 2, .aload_n 0, .iload 4, NN, .iconst 1, .iadd, .iaload, .invokevirtual 39090],
  [NN, NN, .lcmp, .ifCond .eq 2214, NN, NN, .iconst 0, .ireturn, .aload_n 1, .aload_n 0, .iload 4, NN, .iconst 1, .iadd, .iaload, .invokevirtual 17586, NN, NN, .aload_n 2, .aload_n 0, .iload 4, NN, .iconst 1, .iadd, .iaload, .invokevirtual 39218, NN, NN, .lcmp, .ifCond .eq 2214, NN, NN],
  [.iconst 0, .ireturn, .aload_n 1, .aload_n 0, .iload 4, NN, .iconst 1, .iadd, .iaload, .aload_n 0, .iload 4, NN, .iconst 2, .iadd, .iaload, .invokevirtual 17715, NN, NN, .aload_n 2, .aload_n 0, .iload 4, NN, .iconst 1, .iadd, .iaload, .aload_n 0, .iload 4, NN, .iconst 2, .iadd, .iaload, .invokevirtual 39603],
  [NN, NN, .lcmp, .ifCond .eq 2214, NN, NN, .iconst 0, .ireturn, .aload_n 1, .aload_n 0, .iload 4, NN, .iconst 1, .iadd, .iaload, .aload_n 0, .iload 4, NN, .iconst 2, .iadd, .iaload, .invokevirtual 17843, NN, NN, .aload_n 2, .aload_n 0, .iload 4, NN, .iconst 1, .iadd, .iaload, .aload_n 0],
  [.iload 4, NN, .iconst 2, .iadd, .iaload, .invokevirtual 39731, NN, NN, .lcmp, .ifCond .eq 2214, NN, NN, .iconst 0, .ireturn, .aload_n 1, .invokevirtual 17937, NN, NN, .aload_n 2, .invokevirtual 40337, NN, NN, .if_icmp .eq 2214, NN, NN, .iconst 0, .ireturn, .aload_n 1, .aload_n 0, .iload 4, NN, .iconst 1],
  [.iadd, .iaload, .invokevirtual 18066, NN, NN, .aload_n 2, .aload_n 0, .iload 4, NN, .iconst 1, .iadd, .iaload, .invokevirtual 40466, NN, NN, .if_icmp .eq 2214, NN, NN, .iconst 0, .ireturn, .aload_n 1, .invokevirtual 18193, NN, NN, .aload_n 2, .invokevirtual 40593, NN, NN, .if_icmp .eq 2214, NN, NN, .iconst 0],
  [.ireturn, .aload_n 1, .invokevirtual 18321, NN, NN, .aload_n 2, .invokevirtual 40721, NN, NN, .if_icmp .eq 2214, NN, NN, .iconst 0, .ireturn, .aload_n 1, .invokevirtual 18449, NN, NN, .aload_n 2, .invokevirtual 40977, NN, NN, .if_icmp .eq 2214, NN, NN, .iconst 0, .ireturn, .aload_n 1, .invokevirtual 18577, NN, NN, .aload_n 2],
  [.invokevirtual 41105, NN, NN, .if_icmp .eq 2214, NN, NN, .iconst 0, .ireturn, .aload_n 1, .invokevirtual 18705, NN, NN, .aload_n 2, .invokevirtual 41233, NN, NN, .if_icmp .eq 2214, NN, NN, .iconst 0, .ireturn, .aload_n 1, .aload_n 0, .iload 4, NN, .iconst 1, .iadd, .iaload, .aload_n 0, .iload 4, NN, .iconst 2],
  [.iadd, .iaload, .aload_n 0, .iload 4, NN, .iconst 3, .iadd, .iaload, .invokevirtual 18836, NN, NN, .aload_n 2, .aload_n 0, .iload 4, NN, .iconst 1, .iadd, .iaload, .aload_n 0, .iload 4, NN, .iconst 2, .iadd, .iaload, .aload_n 0, .iload 4, NN, .iconst 3, .iadd, .iaload, .invokevirtual 41876, NN],
  [NN, .if_icmp .eq 2214, NN, NN, .iconst 0, .ireturn, .aload_n 1, .aload_n 0, .iload 4, NN, .iconst 1, .iadd, .iaload, .aload_n 0, .iload 4, NN, .iconst 2, .iadd, .iaload, .aload_n 0, .iload 4, NN, .iconst 3, .iadd, .iaload, .invokevirtual 18964, NN, NN, .aload_n 2, .aload_n 0, .iload 4, NN],
  [.iconst 1, .iadd, .iaload, .aload_n 0, .iload 4, NN, .iconst 2, .iadd, .iaload, .aload_n 0, .iload 4, NN, .iconst 3, .iadd, .iaload, .invokevirtual 42004, NN, NN, .if_icmp .eq 2214, NN, NN, .iconst 0, .ireturn, .aload_n 1, .aload_n 0, .iload 4, NN, .iconst 1, .iadd, .iaload, .aload_n 0, .iload 4],
  [NN, .iconst 2, .iadd, .iaload, .ifCond .eq 1547, NN, NN, .iconst 1, .goto 1548, NN, NN, .iconst 0, .aload_n 0, .iload 4, NN, .iconst 3, .iadd, .iaload, .ifCond .eq 1561, NN, NN, .iconst 1, .goto 1562, NN, NN, .iconst 0, .aload_n 0, .iload 4, NN, .iconst 4, .iadd, .iaload],
  [.ifCond .eq 1575, NN, NN, .iconst 1, .goto 1576, NN, NN, .iconst 0, .invokevirtual 19093, NN, NN, .aload_n 2, .aload_n 0, .iload 4, NN, .iconst 1, .iadd, .iaload, .aload_n 0, .iload 4, NN, .iconst 2, .iadd, .iaload, .ifCond .eq 1599, NN, NN, .iconst 1, .goto 1600, NN, NN, .iconst 0],
  [.aload_n 0, .iload 4, NN, .iconst 3, .iadd, .iaload, .ifCond .eq 1613, NN, NN, .iconst 1, .goto 1614, NN, NN, .iconst 0, .aload_n 0, .iload 4, NN, .iconst 4, .iadd, .iaload, .ifCond .eq 1627, NN, NN, .iconst 1, .goto 1628, NN, NN, .iconst 0, .invokevirtual 42517, NN, NN, .if_icmp .eq 2214],
  [NN, NN, .iconst 0, .ireturn, .aload_n 1, .aload_n 0, .iload 4, NN, .iconst 1, .iadd, .iaload, .invokevirtual 19218, NN, NN, .aload_n 2, .aload_n 0, .iload 4, NN, .iconst 1, .iadd, .iaload, .invokevirtual 42770, NN, NN, .if_icmp .eq 2214, NN, NN, .iconst 0, .ireturn, .aload_n 1, .aload_n 0, .iload 4],
  [NN, .iconst 1, .iadd, .iaload, .invokevirtual 19346, NN, NN, .aload_n 2, .aload_n 0, .iload 4, NN, .iconst 1, .iadd, .iaload, .invokevirtual 42898, NN, NN, .if_icmp .eq 2214, NN, NN, .iconst 0, .ireturn, .aload_n 1, .aload_n 0, .iload 4, NN, .iconst 1, .iadd, .iaload, .aload_n 0, .iload 4, NN],
  [.iconst 2, .iadd, .iaload, .aload_n 0, .iload 4, NN, .iconst 3, .iadd, .iaload, .aload_n 0, .iload 4, NN, .iconst 4, .iadd, .iaload, .ifCond .eq 1718, NN, NN, .iconst 1, .goto 1719, NN, NN, .iconst 0, .invokevirtual 19509, NN, NN, .aload_n 2, .aload_n 0, .iload 4, NN, .iconst 1, .iadd],
  [.iaload, .aload_n 0, .iload 4, NN, .iconst 2, .iadd, .iaload, .aload_n 0, .iload 4, NN, .iconst 3, .iadd, .iaload, .aload_n 0, .iload 4, NN, .iconst 4, .iadd, .iaload, .ifCond .eq 1754, NN, NN, .iconst 1, .goto 1755, NN, NN, .iconst 0, .invokevirtual 43445, NN, NN, .lcmp, .ifCond .eq 2214],
  [NN, NN, .iconst 0, .ireturn, .aload_n 1, .aload_n 0, .iload 4, NN, .iconst 1, .iadd, .iaload, .aload_n 0, .iload 4, NN, .iconst 2, .iadd, .iaload, .aload_n 0, .iload 4, NN, .iconst 3, .iadd, .iaload, .aload_n 0, .iload 4, NN, .iconst 4, .iadd, .iaload, .ifCond .eq 1796, NN, NN],
  [.iconst 1, .goto 1797, NN, NN, .iconst 0, .invokevirtual 19637, NN, NN, .aload_n 2, .aload_n 0, .iload 4, NN, .iconst 1, .iadd, .iaload, .aload_n 0, .iload 4, NN, .iconst 2, .iadd, .iaload, .aload_n 0, .iload 4, NN, .iconst 3, .iadd, .iaload, .aload_n 0, .iload 4, NN, .iconst 4, .iadd],
  [.iaload, .ifCond .eq 1832, NN, NN, .iconst 1, .goto 1833, NN, NN, .iconst 0, .invokevirtual 43573, NN, NN, .lcmp, .ifCond .eq 2214, NN, NN, .iconst 0, .ireturn, .aload_n 1, .aload_n 0, .iload 4, NN, .iconst 1, .iadd, .iaload, .aload_n 0, .iload 4, NN, .iconst 2, .iadd, .iaload, .ifCond .eq 1862],
  [NN, NN, .iconst 1, .goto 1863, NN, NN, .iconst 0, .invokevirtual 19763, NN, NN, .aload_n 2, .aload_n 0, .iload 4, NN, .iconst 1, .iadd, .iaload, .aload_n 0, .iload 4, NN, .iconst 2, .iadd, .iaload, .ifCond .eq 1886, NN, NN, .iconst 1, .goto 1887, NN, NN, .iconst 0, .invokevirtual 43699],
  [NN, NN, .lcmp, .ifCond .eq 2214, NN, NN, .iconst 0, .ireturn, .aload_n 1, .aload_n 0, .iload 4, NN, .iconst 1, .iadd, .iaload, .aload_n 0, .iload 4, NN, .iconst 2, .iadd, .iaload, .aload_n 0, .iload 4, NN, .iconst 3, .iadd, .iaload, .invokevirtual 19860, NN, NN, .aload_n 2, .aload_n 0],
  [.iload 4, NN, .iconst 1, .iadd, .iaload, .aload_n 0, .iload 4, NN, .iconst 2, .iadd, .iaload, .aload_n 0, .iload 4, NN, .iconst 3, .iadd, .iaload, .invokevirtual 44052, NN, NN, .if_icmp .eq 2214, NN, NN, .iconst 0, .ireturn, .aload_n 1, .aload_n 0, .iload 4, NN, .iconst 1, .iadd, .iaload],
  [.aload_n 0, .iload 4, NN, .iconst 2, .iadd, .iaload, .invokevirtual 19987, NN, NN, .aload_n 2, .aload_n 0, .iload 4, NN, .iconst 1, .iadd, .iaload, .aload_n 0, .iload 4, NN, .iconst 2, .iadd, .iaload, .invokevirtual 44179, NN, NN, .if_icmp .eq 2214, NN, NN, .iconst 0, .ireturn, .aload_n 1, .aload_n 0],
  [.iload 4, NN, .iconst 1, .iadd, .iaload, .invokevirtual 20114, NN, NN, .aload_n 2, .aload_n 0, .iload 4, NN, .iconst 1, .iadd, .iaload, .invokevirtual 44690, NN, NN, .if_icmp .eq 2214, NN, NN, .iconst 0, .ireturn, .aload_n 1, .aload_n 0, .iload 4, NN, .iconst 1, .iadd, .iaload, .invokevirtual 20242, NN],
  [NN, .aload_n 2, .aload_n 0, .iload 4, NN, .iconst 1, .iadd, .iaload, .invokevirtual 44818, NN, NN, .if_icmp .eq 2214, NN, NN, .iconst 0, .ireturn, .aload_n 1, .aload_n 0, .iload 4, NN, .iconst 1, .iadd, .iaload, .aload_n 0, .iload 4, NN, .iconst 2, .iadd, .iaload, .invokevirtual 20371, NN, NN],
  [.aload_n 2, .aload_n 0, .iload 4, NN, .iconst 1, .iadd, .iaload, .aload_n 0, .iload 4, NN, .iconst 2, .iadd, .iaload, .invokevirtual 44947, NN, NN, .if_icmp .eq 2214, NN, NN, .iconst 0, .ireturn, .aload_n 1, .invokevirtual 20513, NN, NN, .aload_n 2, .invokevirtual 45089, NN, NN, .if_icmp .eq 2214, NN, NN],
  [.iconst 0, .ireturn, .aload_n 1, .invokevirtual 20625, NN, NN, .aload_n 2, .invokevirtual 45201, NN, NN, .if_icmp .eq 2214, NN, NN, .iconst 0, .ireturn, .aload_n 1, .aload_n 0, .iload 4, NN, .iconst 1, .iadd, .iaload, .invokevirtual 20770, NN, NN, .aload_n 2, .aload_n 0, .iload 4, NN, .iconst 1, .iadd, .iaload],
  [.invokevirtual 45346, NN, NN, .if_icmp .eq 2214, NN, NN, .iconst 0, .ireturn, .aload_n 1, .aload_n 0, .iload 4, NN, .iconst 1, .iadd, .iaload, .aload_n 3, .invokestatic 128787, NN, NN, .istore 5, NN, .aload_n 2, .aload_n 0, .iload 4, NN, .iconst 1, .iadd, .iaload, .invokevirtual 45458, NN, NN, .istore 6],
  [NN, .aload_n 2, .invokevirtual 25617, NN, NN, .iload 5, NN, .if_icmp .eq 2156, NN, NN, .iconst 0, .ireturn, .iload 5, NN, .ifCond .ne 2173, NN, NN, .aload_n 3, .iconst 0, .laload, .iload 6, NN, .i2l, .lcmp, .ifCond .eq 2173, NN, NN, .iconst 0, .ireturn, .goto 2214, NN, NN],
  [.aload_n 1, .aload_n 0, .iload 4, NN, .iconst 1, .iadd, .iaload, .invokevirtual 21010, NN, NN, .aload_n 2, .aload_n 0, .iload 4, NN, .iconst 1, .iadd, .iaload, .invokevirtual 45586, NN, NN, .if_icmp .eq 2214, NN, NN, .iconst 0, .ireturn, .aload_n 1, .invokevirtual 21137, NN, NN, .aload_n 2, .invokevirtual 45713, NN],
  [NN, .if_icmp .eq 2214, NN, NN, .iconst 0, .ireturn, .iinc 4 6, NN, NN, .goto 23, NN, NN, .iconst 1, .ireturn]]
/-- field sorts by class (10 + its place): 0 int, 1 long, 2 boolean, from 4 on the type of a reference -/
def fty : Nat → List Nat := fun t => match t with
  | 10 => [4, 4, 7, 0]
  | 11 => [2, 0, 0, 4, 4, 4, 4, 4, 4]
  | 12 => [5, 6, 0, 0, 0, 0, 0, 1, 5, 4, 0, 15, 0, 0]
  | 13 => [5, 5, 0, 0]
  | 14 => [0, 4, 0, 4, 0]
  | 15 => [0, 0, 0, 0, 0, 0, 4, 4, 4, 4, 4, 10, 10, 10]
  | 16 => [15, 12, 14, 11, 11, 13, 0]
  | 17 => [0, 0, 0, 0, 0, 0, 0, 0, 0, 0, 4, 4, 4, 4, 4, 4, 0, 0, 4, 4, 4, 4, 5, 4, 4]
  | 18 => [0, 0, 0, 17, 17, 6, 0, 0, 0, 0, 0, 0, 0, 0, 1, 0, 4, 4, 4, 4, 0, 0, 4, 4, 4, 4, 4, 4, 0, 4, 0, 0, 0, 4, 0, 4, 5, 5, 1, 0]
  | _ => []
def jsT : List (List Int) := [[116, 117, 98, 101], [112, 101, 114, 115, 111, 110], [116, 117, 114, 110], [113, 117, 97, 114, 114, 101, 108], [119, 97, 110, 116, 115], [115, 104, 117, 110, 115], [117, 110, 115, 117, 114, 101], [115, 101, 101, 110], [109, 105, 114, 114, 111, 114, 115], [115, 108, 111, 116, 115], [115, 104, 97, 107, 101, 115], [114, 101, 100], [98, 108, 117, 101], [103, 114, 101, 101, 110], [97, 116], [98, 101, 115, 105, 100, 101], [102, 97, 114]]
def mtab_0 : List (Nat × Nat × Nat × List (List Instr)) := [(5, 3, 0, kX0_power), (5, 3, 0, kX0_fixedByGoingRound), (4, 1, 0, kX0_commonPart), (2, 3, 0, kX0_fixedByGoingOver), (1, 2, 0, kX1_isLook), (1, 2, 0, kX1_isHope), (3, 1, 0, kX1_ofEye), (3, 1, 0, kX1_ofStreet), (4, 2, 0, kX1_isRest), (7, 2, 0, kX2_endsBeside), (6, 1, 0, kX2_firstTurn), (2, 0, 10, kX3_init), (1, 2, 10, kX3_isFull), (4, 0, 10, kX3_add), (4, 1, 10, kX3_partners), (1, 1, 10, kX3_all), (4, 1, 10, kX3_holding), (4, 1, 10, kX3_firstBroken), (1, 0, 11, kX4_init), (6, 0, 11, kX4_explore), (5, 0, 11, kX4_find), (4, 1, 11, kX4_depthOf), (1, 1, 11, kX4_most), (3, 1, 11, kX4_evenCount)]
def mtab_1 : List (Nat × Nat × Nat × List (List Instr)) := [(4, 1, 11, kX4_comesInto), (4, 1, 11, kX4_leaving), (6, 1, 11, kX4_pairSets), (8, 3, 11, kX4_pairsFrom), (6, 1, 11, kX4_central), (4, 1, 11, kX4_standBehind), (6, 1, 11, kX4_firstHolding), (4, 1, 11, kX4_firstBringing), (5, 1, 11, kX4_turnAt), (7, 3, 11, kX4_colourCount), (1, 0, 12, kX5_init), (3, 0, 12, kX5_put), (4, 2, 12, kX5_read), (2, 2, 12, kX5_failHere), (1, 0, 12, kX5_step), (1, 0, 12, kX5_takeWord), (1, 0, 12, kX5_takeWhole), (4, 3, 0, kX5_coded), (2, 2, 12, kX5_isWord), (2, 1, 12, kX5_lineSort), (2, 2, 12, kX5_takeLine), (2, 2, 12, kX5_isFull), (1, 2, 12, kX5_goesOn), (4, 2, 12, kX5_takeTube)]
def mtab_2 : List (Nat × Nat × Nat × List (List Instr)) := [(2, 2, 12, kX5_takePerson), (5, 2, 12, kX5_takeTurn), (3, 2, 12, kX5_takeQuarrel), (4, 2, 12, kX5_takeWish), (3, 2, 12, kX5_takeUnsure), (4, 2, 12, kX5_takeSeen), (2, 2, 12, kX5_takeThis), (3, 2, 12, kX5_isBetween), (4, 1, 12, kX5_takeBetween), (2, 1, 12, kX5_nameHere), (2, 2, 12, kX5_takeNewName), (3, 1, 12, kX5_personHere), (2, 1, 12, kX5_takePersonsName), (3, 1, 12, kX5_takeAnother), (1, 0, 13, kX6_init), (6, 0, 13, kX6_spread), (2, 1, 0, kX6_state), (8, 0, 13, kX6_shakeOnce), (4, 3, 13, kX6_besideWeight), (2, 3, 13, kX6_weightIn), (1, 1, 13, kX6_draw), (3, 1, 13, kX6_drawnShake), (2, 1, 0, kX7_at), (3, 1, 0, kX7_with)]
def mtab_3 : List (Nat × Nat × Nat × List (List Instr)) := [(2, 2, 0, kX7_areBeside), (1, 1, 0, kX7_same), (3, 1, 0, kX7_otherWayRound), (5, 1, 0, kX7_through), (4, 1, 0, kX7_inverse), (3, 2, 0, kX7_commuting), (4, 1, 0, kX7_fixed), (7, 1, 0, kX7_cycles), (2, 2, 0, kX7_isEven), (5, 1, 0, kX7_order), (7, 1, 0, kX7_rank), (1, 0, 14, kX8_init), (2, 0, 14, kX8_begin), (2, 0, 14, kX8_act), (1, 0, 14, kX8_takeBack), (1, 1, 14, kX8_keepImage), (2, 0, 14, kX8_goBack), (1, 0, 15, kX9_init), (1, 0, 15, kX9_clear), (3, 2, 15, kX9_isHome), (3, 2, 15, kX9_isUnsure), (3, 1, 15, kX9_homeStand), (7, 1, 15, kX9_changeBy), (1, 1, 15, kX9_unsureSets)]
def mtab_4 : List (Nat × Nat × Nat × List (List Instr)) := [(4, 1, 15, kX9_fitting), (4, 1, 15, kX9_standBy), (4, 2, 15, kX9_areUnlike), (5, 1, 15, kX9_leftAtMost), (5, 3, 15, kX9_shakeWeight), (1, 0, 16, kX10_init), (6, 1, 16, kX10_feed), (2, 1, 16, kX10_tube), (1, 1, 16, kX10_fault), (1, 1, 16, kX10_where), (3, 1, 16, kX10_person), (2, 1, 16, kX10_slot), (3, 1, 16, kX10_turned), (1, 1, 16, kX10_quarrels), (1, 1, 16, kX10_met), (2, 1, 16, kX10_ring), (2, 1, 16, kX10_truth), (3, 1, 16, kX10_image), (6, 1, 16, kX10_selves), (7, 1, 16, kX10_near), (4, 1, 16, kX10_seenIn), (5, 1, 16, kX10_slides), (4, 1, 16, kX10_round), (4, 1, 16, kX10_even)]
def mtab_5 : List (Nat × Nat × Nat × List (List Instr)) := [(4, 1, 16, kX10_fixes), (3, 1, 16, kX10_commute), (4, 1, 16, kX10_undoing), (1, 1, 16, kX10_reach), (1, 1, 16, kX10_deepest), (1, 1, 16, kX10_evens), (2, 1, 16, kX10_orbit), (2, 1, 16, kX10_keeps), (1, 1, 16, kX10_pairs), (1, 1, 16, kX10_centre), (1, 1, 16, kX10_errand), (2, 1, 16, kX10_errandAt), (1, 1, 16, kX10_peace), (2, 1, 16, kX10_peaceAt), (3, 1, 16, kX10_bring), (4, 1, 16, kX10_calmest), (2, 3, 16, kX10_colourings), (2, 3, 16, kX10_mirrored), (3, 3, 16, kX10_necklaces), (5, 3, 16, kX10_bracelets), (1, 1, 16, kX10_fits), (5, 1, 16, kX10_fitAt), (4, 1, 16, kX10_could), (4, 1, 16, kX10_surely)]
def mtab_6 : List (Nat × Nat × Nat × List (List Instr)) := [(1, 1, 16, kX10_ask), (3, 1, 16, kX10_askLeaves), (1, 1, 16, kX10_judge), (4, 1, 16, kX10_gets), (4, 1, 16, kX10_getsBy), (5, 1, 16, kX10_looks), (4, 1, 16, kX10_rests), (3, 1, 16, kX10_rest), (5, 3, 16, kX10_odds), (5, 3, 16, kX10_slotOdds), (6, 3, 16, kX10_mean), (6, 1, 16, kX10_shaken), (5, 1, 16, kX10_peaceIn), (2, 1, 16, kX10_turn), (2, 1, 16, kX10_turnBack), (4, 1, 16, kX10_move), (1, 2, 16, kX10_undo), (1, 1, 16, kX10_keep), (2, 2, 16, kX10_back), (4, 1, 16, kX10_led), (2, 1, 16, kX10_size), (1, 1, 16, kX10_trouble), (2, 1, 16, kX10_refused), (2, 1, 16, kX10_fine)]
def mtab_7 : List (Nat × Nat × Nat × List (List Instr)) := [(3, 3, 16, kX10_fineLong), (1, 2, 16, kX10_isTube), (2, 2, 16, kX10_isPerson), (3, 2, 16, kX10_areTwo), (2, 2, 16, kX10_isSlot), (2, 2, 16, kX10_isTurn), (2, 2, 16, kX10_isPlace), (1, 2, 0, kX10_areColours), (1, 2, 0, kX10_areBeads), (1, 2, 0, kX10_isBlue), (1, 2, 0, kX10_isSeed), (2, 1, 16, kX10_slotOf), (3, 1, 16, kX10_whoIsIn), (4, 1, 16, kX10_besideBits), (2, 1, 16, kX10_quarrelsBy), (1, 1, 16, kX10_sectors), (1, 1, 16, kX10_places), (4, 1, 16, kX10_slotAt), (4, 1, 16, kX10_placeIn), (1, 4, 16, kX10_reached), (1, 1, 16, kX10_errandChange), (1, 1, 16, kX10_peaceChange), (2, 1, 16, kX10_depthOrNot), (3, 1, 16, kX10_turnOnTheWay)]
def mtab_8 : List (Nat × Nat × Nat × List (List Instr)) := [(4, 1, 16, kX10_whomToAsk), (5, 1, 16, kX10_slideAll), (12, 3, 0, kX10_inLowestTerms), (1, 0, 17, kX11_init), (4, 1, 17, kX11_find), (3, 2, 17, kX11_isTaken), (3, 2, 17, kX11_isUnsure), (1, 0, 18, kX12_init), (1, 1, 18, kX12_thrown), (2, 1, 18, kX12_refused), (2, 1, 18, kX12_lost), (2, 2, 18, kX12_denied), (2, 1, 18, kX12_good), (3, 3, 18, kX12_goodLong), (1, 2, 18, kX12_granted), (3, 2, 0, kX12_in), (2, 2, 0, kX12_bit), (3, 1, 0, kX12_bits), (10, 3, 0, kX12_common), (6, 3, 18, kX12_fraction), (6, 3, 0, kX12_power), (2, 1, 18, kX12_byteAt), (1, 2, 0, kX12_isLetter), (1, 2, 0, kX12_isDigit)]
def mtab_9 : List (Nat × Nat × Nat × List (List Instr)) := [(4, 3, 0, kX12_packed), (3, 0, 18, kX12_goesOn), (2, 0, 18, kX12_flaw), (2, 2, 18, kX12_isWord), (2, 2, 18, kX12_eatsSemicolon), (2, 0, 18, kX12_needs), (3, 1, 18, kX12_wholeAt), (5, 1, 18, kX12_readPart), (1, 2, 18, kX12_isName), (3, 0, 18, kX12_lineBegins), (3, 3, 18, kX12_readFresh), (5, 0, 18, kX12_names), (2, 1, 18, kX12_personAtHand), (2, 1, 18, kX12_readTwo), (2, 0, 18, kX12_readAll), (1, 0, 18, kX12_readLine), (4, 0, 18, kX12_readTube), (5, 0, 18, kX12_readPerson), (6, 0, 18, kX12_readTurn), (2, 0, 18, kX12_readQuarrel), (3, 0, 18, kX12_readWish), (3, 0, 18, kX12_readUnsure), (3, 0, 18, kX12_readSeen), (8, 1, 18, kX12_feed)]
def mtab_10 : List (Nat × Nat × Nat × List (List Instr)) := [(3, 1, 18, kX12_tube), (1, 1, 18, kX12_fault), (1, 1, 18, kX12_where), (2, 2, 18, kX12_isPerson), (2, 2, 18, kX12_isSlot), (2, 2, 18, kX12_isTurn), (3, 2, 18, kX12_areTwo), (2, 0, 18, kX12_works), (3, 1, 18, kX12_slid), (5, 1, 18, kX12_ranked), (3, 0, 18, kX12_layWay), (5, 0, 18, kX12_adds), (5, 0, 18, kX12_reaches), (3, 1, 18, kX12_comes), (3, 0, 18, kX12_goesBy), (5, 1, 18, kX12_ringsOf), (1, 2, 18, kX12_isEven), (3, 1, 18, kX12_fixed), (2, 2, 0, kX12_areBeside), (4, 1, 18, kX12_besideOf), (3, 1, 18, kX12_person), (3, 1, 18, kX12_whoIn), (2, 1, 18, kX12_slot), (3, 1, 18, kX12_turned)]
def mtab_11 : List (Nat × Nat × Nat × List (List Instr)) := [(3, 1, 18, kX12_quarrelsNow), (1, 1, 18, kX12_quarrels), (3, 1, 18, kX12_metNow), (1, 1, 18, kX12_met), (1, 1, 18, kX12_places), (2, 2, 18, kX12_isPlace), (2, 1, 18, kX12_seenSlot), (2, 1, 18, kX12_ring), (2, 1, 18, kX12_truth), (5, 1, 18, kX12_image), (4, 1, 18, kX12_selves), (7, 1, 18, kX12_near), (4, 1, 18, kX12_seenIn), (7, 1, 18, kX12_layRow), (5, 1, 18, kX12_slides), (8, 1, 18, kX12_round), (4, 1, 18, kX12_even), (4, 1, 18, kX12_fixes), (4, 2, 18, kX12_doCommute), (3, 1, 18, kX12_commute), (2, 0, 18, kX12_inverts), (4, 1, 18, kX12_undoing), (1, 1, 18, kX12_reach), (1, 1, 18, kX12_deepest)]
def mtab_12 : List (Nat × Nat × Nat × List (List Instr)) := [(3, 1, 18, kX12_evens), (4, 1, 18, kX12_orbit), (4, 1, 18, kX12_keeps), (10, 1, 18, kX12_pairs), (6, 1, 18, kX12_centre), (2, 2, 18, kX12_isDone), (3, 1, 18, kX12_doneBy), (3, 1, 18, kX12_fewest), (4, 1, 18, kX12_stepOf), (1, 1, 18, kX12_errand), (2, 1, 18, kX12_errandAt), (1, 1, 18, kX12_peace), (2, 1, 18, kX12_peaceAt), (4, 1, 18, kX12_bring), (3, 1, 18, kX12_calmest), (5, 3, 18, kX12_counted), (2, 1, 18, kX12_refusesColours), (3, 3, 18, kX12_colourings), (5, 3, 18, kX12_mirrored), (5, 3, 0, kX12_aroundSum), (3, 1, 18, kX12_refusesNecklace), (4, 3, 18, kX12_necklaces), (9, 3, 18, kX12_bracelets), (3, 0, 18, kX12_laysFirst)]
def mtab_13 : List (Nat × Nat × Nat × List (List Instr)) := [(3, 2, 18, kX12_areUnlike), (2, 1, 18, kX12_wrongSeen), (5, 1, 18, kX12_fitting), (1, 1, 18, kX12_fits), (3, 1, 18, kX12_fitAt), (1, 1, 18, kX12_could), (1, 1, 18, kX12_surely), (4, 1, 18, kX12_asks), (1, 1, 18, kX12_ask), (1, 1, 18, kX12_askLeaves), (1, 1, 18, kX12_judge), (1, 1, 18, kX12_choices), (11, 0, 18, kX12_argues), (5, 1, 18, kX12_bestFrom), (5, 1, 18, kX12_refusesGame), (5, 1, 18, kX12_gets), (6, 1, 18, kX12_getsBy), (3, 1, 0, kX12_eye), (3, 1, 0, kX12_street), (2, 1, 18, kX12_refusesBlue), (6, 1, 18, kX12_looks), (4, 2, 0, kX12_isRest), (5, 1, 18, kX12_rests), (4, 1, 18, kX12_rest)]
def mtab_14 : List (Nat × Nat × Nat × List (List Instr)) := [(4, 0, 18, kX12_spreadsOut), (4, 0, 18, kX12_spreads), (3, 1, 18, kX12_refusesShakes), (9, 3, 18, kX12_odds), (9, 3, 18, kX12_slotOdds), (7, 3, 18, kX12_mean), (2, 0, 18, kX12_aShake), (4, 1, 18, kX12_refusesSeed), (6, 1, 18, kX12_shaken), (5, 1, 18, kX12_peaceIn), (2, 0, 18, kX12_remembers), (3, 1, 18, kX12_slidesAll), (3, 0, 18, kX12_layTurn), (2, 1, 18, kX12_turn), (2, 1, 18, kX12_turnBack), (4, 1, 18, kX12_move), (2, 2, 18, kX12_undo), (2, 1, 18, kX12_keep), (3, 2, 18, kX12_back), (4, 1, 18, kX12_led), (2, 1, 18, kX12_size), (1, 1, 18, kX12_trouble), (1, 1, 0, kJ6_bitCount_0f7a4), (3, 4, 12, kX5_changeFor)]
def mtab_15 : List (Nat × Nat × Nat × List (List Instr)) := [(3, 0, 15, kX9_addPerson), (2, 0, 15, kX9_addTurn), (3, 0, 15, kX9_addUnsure), (1, 1, 0, kJ9_abs_0f7a4), (2, 1, 0, kJ9_max_7cf53), (2, 1, 0, kJ9_min_7cf53), (7, 2, 0, kL_law)]
/-- a method by its number: how many locals, what it returns (0 nothing, 1 int, 2 boolean, 3 long, 4 a reference), the type of its object (0 static), its code -/
def mtab (m : Nat) : Nat × Nat × Nat × List (List Instr) := (([mtab_0, mtab_1, mtab_2, mtab_3, mtab_4, mtab_5, mtab_6, mtab_7, mtab_8, mtab_9, mtab_10, mtab_11, mtab_12, mtab_13, mtab_14, mtab_15] : List (List (Nat × Nat × Nat × List (List Instr)))).getD (m / 24) []).getD (m % 24) (0, 0, 0, [])
abbrev mX0_power : Nat := 0
abbrev mX0_fixedByGoingRound : Nat := 1
abbrev mX0_commonPart : Nat := 2
abbrev mX0_fixedByGoingOver : Nat := 3
abbrev mX1_isLook : Nat := 4
abbrev mX1_isHope : Nat := 5
abbrev mX1_ofEye : Nat := 6
abbrev mX1_ofStreet : Nat := 7
abbrev mX1_isRest : Nat := 8
abbrev mX2_endsBeside : Nat := 9
abbrev mX2_firstTurn : Nat := 10
abbrev mX3_init : Nat := 11
abbrev mX3_isFull : Nat := 12
abbrev mX3_add : Nat := 13
abbrev mX3_partners : Nat := 14
abbrev mX3_all : Nat := 15
abbrev mX3_holding : Nat := 16
abbrev mX3_firstBroken : Nat := 17
abbrev mX4_init : Nat := 18
abbrev mX4_explore : Nat := 19
abbrev mX4_find : Nat := 20
abbrev mX4_depthOf : Nat := 21
abbrev mX4_most : Nat := 22
abbrev mX4_evenCount : Nat := 23
abbrev mX4_comesInto : Nat := 24
abbrev mX4_leaving : Nat := 25
abbrev mX4_pairSets : Nat := 26
abbrev mX4_pairsFrom : Nat := 27
abbrev mX4_central : Nat := 28
abbrev mX4_standBehind : Nat := 29
abbrev mX4_firstHolding : Nat := 30
abbrev mX4_firstBringing : Nat := 31
abbrev mX4_turnAt : Nat := 32
abbrev mX4_colourCount : Nat := 33
abbrev mX5_init : Nat := 34
abbrev mX5_put : Nat := 35
abbrev mX5_read : Nat := 36
abbrev mX5_failHere : Nat := 37
abbrev mX5_step : Nat := 38
abbrev mX5_takeWord : Nat := 39
abbrev mX5_takeWhole : Nat := 40
abbrev mX5_coded : Nat := 41
abbrev mX5_isWord : Nat := 42
abbrev mX5_lineSort : Nat := 43
abbrev mX5_takeLine : Nat := 44
abbrev mX5_isFull : Nat := 45
abbrev mX5_goesOn : Nat := 46
abbrev mX5_takeTube : Nat := 47
abbrev mX5_takePerson : Nat := 48
abbrev mX5_takeTurn : Nat := 49
abbrev mX5_takeQuarrel : Nat := 50
abbrev mX5_takeWish : Nat := 51
abbrev mX5_takeUnsure : Nat := 52
abbrev mX5_takeSeen : Nat := 53
abbrev mX5_takeThis : Nat := 54
abbrev mX5_isBetween : Nat := 55
abbrev mX5_takeBetween : Nat := 56
abbrev mX5_nameHere : Nat := 57
abbrev mX5_takeNewName : Nat := 58
abbrev mX5_personHere : Nat := 59
abbrev mX5_takePersonsName : Nat := 60
abbrev mX5_takeAnother : Nat := 61
abbrev mX6_init : Nat := 62
abbrev mX6_spread : Nat := 63
abbrev mX6_state : Nat := 64
abbrev mX6_shakeOnce : Nat := 65
abbrev mX6_besideWeight : Nat := 66
abbrev mX6_weightIn : Nat := 67
abbrev mX6_draw : Nat := 68
abbrev mX6_drawnShake : Nat := 69
abbrev mX7_at : Nat := 70
abbrev mX7_with : Nat := 71
abbrev mX7_areBeside : Nat := 72
abbrev mX7_same : Nat := 73
abbrev mX7_otherWayRound : Nat := 74
abbrev mX7_through : Nat := 75
abbrev mX7_inverse : Nat := 76
abbrev mX7_commuting : Nat := 77
abbrev mX7_fixed : Nat := 78
abbrev mX7_cycles : Nat := 79
abbrev mX7_isEven : Nat := 80
abbrev mX7_order : Nat := 81
abbrev mX7_rank : Nat := 82
abbrev mX8_init : Nat := 83
abbrev mX8_begin : Nat := 84
abbrev mX8_act : Nat := 85
abbrev mX8_takeBack : Nat := 86
abbrev mX8_keepImage : Nat := 87
abbrev mX8_goBack : Nat := 88
abbrev mX9_init : Nat := 89
abbrev mX9_clear : Nat := 90
abbrev mX9_isHome : Nat := 91
abbrev mX9_isUnsure : Nat := 92
abbrev mX9_homeStand : Nat := 93
abbrev mX9_changeBy : Nat := 94
abbrev mX9_unsureSets : Nat := 95
abbrev mX9_fitting : Nat := 96
abbrev mX9_standBy : Nat := 97
abbrev mX9_areUnlike : Nat := 98
abbrev mX9_leftAtMost : Nat := 99
abbrev mX9_shakeWeight : Nat := 100
abbrev mX10_init : Nat := 101
abbrev mX10_feed : Nat := 102
abbrev mX10_tube : Nat := 103
abbrev mX10_fault : Nat := 104
abbrev mX10_where : Nat := 105
abbrev mX10_person : Nat := 106
abbrev mX10_slot : Nat := 107
abbrev mX10_turned : Nat := 108
abbrev mX10_quarrels : Nat := 109
abbrev mX10_met : Nat := 110
abbrev mX10_ring : Nat := 111
abbrev mX10_truth : Nat := 112
abbrev mX10_image : Nat := 113
abbrev mX10_selves : Nat := 114
abbrev mX10_near : Nat := 115
abbrev mX10_seenIn : Nat := 116
abbrev mX10_slides : Nat := 117
abbrev mX10_round : Nat := 118
abbrev mX10_even : Nat := 119
abbrev mX10_fixes : Nat := 120
abbrev mX10_commute : Nat := 121
abbrev mX10_undoing : Nat := 122
abbrev mX10_reach : Nat := 123
abbrev mX10_deepest : Nat := 124
abbrev mX10_evens : Nat := 125
abbrev mX10_orbit : Nat := 126
abbrev mX10_keeps : Nat := 127
abbrev mX10_pairs : Nat := 128
abbrev mX10_centre : Nat := 129
abbrev mX10_errand : Nat := 130
abbrev mX10_errandAt : Nat := 131
abbrev mX10_peace : Nat := 132
abbrev mX10_peaceAt : Nat := 133
abbrev mX10_bring : Nat := 134
abbrev mX10_calmest : Nat := 135
abbrev mX10_colourings : Nat := 136
abbrev mX10_mirrored : Nat := 137
abbrev mX10_necklaces : Nat := 138
abbrev mX10_bracelets : Nat := 139
abbrev mX10_fits : Nat := 140
abbrev mX10_fitAt : Nat := 141
abbrev mX10_could : Nat := 142
abbrev mX10_surely : Nat := 143
abbrev mX10_ask : Nat := 144
abbrev mX10_askLeaves : Nat := 145
abbrev mX10_judge : Nat := 146
abbrev mX10_gets : Nat := 147
abbrev mX10_getsBy : Nat := 148
abbrev mX10_looks : Nat := 149
abbrev mX10_rests : Nat := 150
abbrev mX10_rest : Nat := 151
abbrev mX10_odds : Nat := 152
abbrev mX10_slotOdds : Nat := 153
abbrev mX10_mean : Nat := 154
abbrev mX10_shaken : Nat := 155
abbrev mX10_peaceIn : Nat := 156
abbrev mX10_turn : Nat := 157
abbrev mX10_turnBack : Nat := 158
abbrev mX10_move : Nat := 159
abbrev mX10_undo : Nat := 160
abbrev mX10_keep : Nat := 161
abbrev mX10_back : Nat := 162
abbrev mX10_led : Nat := 163
abbrev mX10_size : Nat := 164
abbrev mX10_trouble : Nat := 165
abbrev mX10_refused : Nat := 166
abbrev mX10_fine : Nat := 167
abbrev mX10_fineLong : Nat := 168
abbrev mX10_isTube : Nat := 169
abbrev mX10_isPerson : Nat := 170
abbrev mX10_areTwo : Nat := 171
abbrev mX10_isSlot : Nat := 172
abbrev mX10_isTurn : Nat := 173
abbrev mX10_isPlace : Nat := 174
abbrev mX10_areColours : Nat := 175
abbrev mX10_areBeads : Nat := 176
abbrev mX10_isBlue : Nat := 177
abbrev mX10_isSeed : Nat := 178
abbrev mX10_slotOf : Nat := 179
abbrev mX10_whoIsIn : Nat := 180
abbrev mX10_besideBits : Nat := 181
abbrev mX10_quarrelsBy : Nat := 182
abbrev mX10_sectors : Nat := 183
abbrev mX10_places : Nat := 184
abbrev mX10_slotAt : Nat := 185
abbrev mX10_placeIn : Nat := 186
abbrev mX10_reached : Nat := 187
abbrev mX10_errandChange : Nat := 188
abbrev mX10_peaceChange : Nat := 189
abbrev mX10_depthOrNot : Nat := 190
abbrev mX10_turnOnTheWay : Nat := 191
abbrev mX10_whomToAsk : Nat := 192
abbrev mX10_slideAll : Nat := 193
abbrev mX10_inLowestTerms : Nat := 194
abbrev mX11_init : Nat := 195
abbrev mX11_find : Nat := 196
abbrev mX11_isTaken : Nat := 197
abbrev mX11_isUnsure : Nat := 198
abbrev mX12_init : Nat := 199
abbrev mX12_thrown : Nat := 200
abbrev mX12_refused : Nat := 201
abbrev mX12_lost : Nat := 202
abbrev mX12_denied : Nat := 203
abbrev mX12_good : Nat := 204
abbrev mX12_goodLong : Nat := 205
abbrev mX12_granted : Nat := 206
abbrev mX12_in : Nat := 207
abbrev mX12_bit : Nat := 208
abbrev mX12_bits : Nat := 209
abbrev mX12_common : Nat := 210
abbrev mX12_fraction : Nat := 211
abbrev mX12_power : Nat := 212
abbrev mX12_byteAt : Nat := 213
abbrev mX12_isLetter : Nat := 214
abbrev mX12_isDigit : Nat := 215
abbrev mX12_packed : Nat := 216
abbrev mX12_goesOn : Nat := 217
abbrev mX12_flaw : Nat := 218
abbrev mX12_isWord : Nat := 219
abbrev mX12_eatsSemicolon : Nat := 220
abbrev mX12_needs : Nat := 221
abbrev mX12_wholeAt : Nat := 222
abbrev mX12_readPart : Nat := 223
abbrev mX12_isName : Nat := 224
abbrev mX12_lineBegins : Nat := 225
abbrev mX12_readFresh : Nat := 226
abbrev mX12_names : Nat := 227
abbrev mX12_personAtHand : Nat := 228
abbrev mX12_readTwo : Nat := 229
abbrev mX12_readAll : Nat := 230
abbrev mX12_readLine : Nat := 231
abbrev mX12_readTube : Nat := 232
abbrev mX12_readPerson : Nat := 233
abbrev mX12_readTurn : Nat := 234
abbrev mX12_readQuarrel : Nat := 235
abbrev mX12_readWish : Nat := 236
abbrev mX12_readUnsure : Nat := 237
abbrev mX12_readSeen : Nat := 238
abbrev mX12_feed : Nat := 239
abbrev mX12_tube : Nat := 240
abbrev mX12_fault : Nat := 241
abbrev mX12_where : Nat := 242
abbrev mX12_isPerson : Nat := 243
abbrev mX12_isSlot : Nat := 244
abbrev mX12_isTurn : Nat := 245
abbrev mX12_areTwo : Nat := 246
abbrev mX12_works : Nat := 247
abbrev mX12_slid : Nat := 248
abbrev mX12_ranked : Nat := 249
abbrev mX12_layWay : Nat := 250
abbrev mX12_adds : Nat := 251
abbrev mX12_reaches : Nat := 252
abbrev mX12_comes : Nat := 253
abbrev mX12_goesBy : Nat := 254
abbrev mX12_ringsOf : Nat := 255
abbrev mX12_isEven : Nat := 256
abbrev mX12_fixed : Nat := 257
abbrev mX12_areBeside : Nat := 258
abbrev mX12_besideOf : Nat := 259
abbrev mX12_person : Nat := 260
abbrev mX12_whoIn : Nat := 261
abbrev mX12_slot : Nat := 262
abbrev mX12_turned : Nat := 263
abbrev mX12_quarrelsNow : Nat := 264
abbrev mX12_quarrels : Nat := 265
abbrev mX12_metNow : Nat := 266
abbrev mX12_met : Nat := 267
abbrev mX12_places : Nat := 268
abbrev mX12_isPlace : Nat := 269
abbrev mX12_seenSlot : Nat := 270
abbrev mX12_ring : Nat := 271
abbrev mX12_truth : Nat := 272
abbrev mX12_image : Nat := 273
abbrev mX12_selves : Nat := 274
abbrev mX12_near : Nat := 275
abbrev mX12_seenIn : Nat := 276
abbrev mX12_layRow : Nat := 277
abbrev mX12_slides : Nat := 278
abbrev mX12_round : Nat := 279
abbrev mX12_even : Nat := 280
abbrev mX12_fixes : Nat := 281
abbrev mX12_doCommute : Nat := 282
abbrev mX12_commute : Nat := 283
abbrev mX12_inverts : Nat := 284
abbrev mX12_undoing : Nat := 285
abbrev mX12_reach : Nat := 286
abbrev mX12_deepest : Nat := 287
abbrev mX12_evens : Nat := 288
abbrev mX12_orbit : Nat := 289
abbrev mX12_keeps : Nat := 290
abbrev mX12_pairs : Nat := 291
abbrev mX12_centre : Nat := 292
abbrev mX12_isDone : Nat := 293
abbrev mX12_doneBy : Nat := 294
abbrev mX12_fewest : Nat := 295
abbrev mX12_stepOf : Nat := 296
abbrev mX12_errand : Nat := 297
abbrev mX12_errandAt : Nat := 298
abbrev mX12_peace : Nat := 299
abbrev mX12_peaceAt : Nat := 300
abbrev mX12_bring : Nat := 301
abbrev mX12_calmest : Nat := 302
abbrev mX12_counted : Nat := 303
abbrev mX12_refusesColours : Nat := 304
abbrev mX12_colourings : Nat := 305
abbrev mX12_mirrored : Nat := 306
abbrev mX12_aroundSum : Nat := 307
abbrev mX12_refusesNecklace : Nat := 308
abbrev mX12_necklaces : Nat := 309
abbrev mX12_bracelets : Nat := 310
abbrev mX12_laysFirst : Nat := 311
abbrev mX12_areUnlike : Nat := 312
abbrev mX12_wrongSeen : Nat := 313
abbrev mX12_fitting : Nat := 314
abbrev mX12_fits : Nat := 315
abbrev mX12_fitAt : Nat := 316
abbrev mX12_could : Nat := 317
abbrev mX12_surely : Nat := 318
abbrev mX12_asks : Nat := 319
abbrev mX12_ask : Nat := 320
abbrev mX12_askLeaves : Nat := 321
abbrev mX12_judge : Nat := 322
abbrev mX12_choices : Nat := 323
abbrev mX12_argues : Nat := 324
abbrev mX12_bestFrom : Nat := 325
abbrev mX12_refusesGame : Nat := 326
abbrev mX12_gets : Nat := 327
abbrev mX12_getsBy : Nat := 328
abbrev mX12_eye : Nat := 329
abbrev mX12_street : Nat := 330
abbrev mX12_refusesBlue : Nat := 331
abbrev mX12_looks : Nat := 332
abbrev mX12_isRest : Nat := 333
abbrev mX12_rests : Nat := 334
abbrev mX12_rest : Nat := 335
abbrev mX12_spreadsOut : Nat := 336
abbrev mX12_spreads : Nat := 337
abbrev mX12_refusesShakes : Nat := 338
abbrev mX12_odds : Nat := 339
abbrev mX12_slotOdds : Nat := 340
abbrev mX12_mean : Nat := 341
abbrev mX12_aShake : Nat := 342
abbrev mX12_refusesSeed : Nat := 343
abbrev mX12_shaken : Nat := 344
abbrev mX12_peaceIn : Nat := 345
abbrev mX12_remembers : Nat := 346
abbrev mX12_slidesAll : Nat := 347
abbrev mX12_layTurn : Nat := 348
abbrev mX12_turn : Nat := 349
abbrev mX12_turnBack : Nat := 350
abbrev mX12_move : Nat := 351
abbrev mX12_undo : Nat := 352
abbrev mX12_keep : Nat := 353
abbrev mX12_back : Nat := 354
abbrev mX12_led : Nat := 355
abbrev mX12_size : Nat := 356
abbrev mX12_trouble : Nat := 357
abbrev mJ6_bitCount_0f7a4 : Nat := 358
abbrev mX5_changeFor : Nat := 359
abbrev mX9_addPerson : Nat := 360
abbrev mX9_addTurn : Nat := 361
abbrev mX9_addUnsure : Nat := 362
abbrev mJ9_abs_0f7a4 : Nat := 363
abbrev mJ9_max_7cf53 : Nat := 364
abbrev mJ9_min_7cf53 : Nat := 365
abbrev mL_law : Nat := 366
