def kc0 : List (List (Nat × Instr)) := [[(0, .aload_n 0), (1, .invokespecial 3), (4, .aload_n 0), (5, .new 9), (8, .dup), (9, .invokespecial 11), (12, .putfield 12), (15, .aload_n 0), (16, .iconst 4), (17, .anewarray 9), (20, .putfield 18), (23, .aload_n 0), (24, .new 9), (27, .dup), (28, .invokespecial 11), (31, .putfield 22)], [(34, .aload_n 0), (35, .bipush 32), (37, .newarray .int), (39, .putfield 25), (42, .iconst 0), (43, .istore_n 1), (44, .iload_n 1), (45, .iconst 4), (46, .if_icmp .ge (22)), (49, .aload_n 0), (50, .getfield 18), (53, .iload_n 1), (54, .new 9), (57, .dup), (58, .invokespecial 11), (61, .aastore), (62, .iinc 1 1)], [(65, .goto (-21)), (68, .return_)]]
def kF0 : List (Nat × Nat × Nat × Nat) := [(12, 0, 0, 6), (18, 0, 1, 36), (22, 0, 2, 6), (25, 0, 3, 26)]
def kM0 : List (Nat × MF) := [(11, 10, 2, 0, 1, 1, 0)]
def kK0 : List (Nat × AV) := []
set_option maxRecDepth 100000 in
theorem ok0 : okX 0 kc0 kF0 kM0 kK0 = true := by decide +kernel
def kc1 : List (List (Nat × Instr)) := [[(0, .iload_n 1), (1, .invokestatic 29), (4, .ifCond .eq (25)), (7, .aload_n 0), (8, .getfield 18), (11, .iload_n 1), (12, .aaload), (13, .astore_n 2), (14, .aload_n 0), (15, .getfield 18), (18, .iload_n 1), (19, .aload_n 0), (20, .getfield 22), (23, .aastore), (24, .aload_n 0), (25, .aload_n 2), (26, .putfield 22), (29, .return_)]]
def kF1 : List (Nat × Nat × Nat × Nat) := [(18, 0, 1, 36), (22, 0, 2, 6)]
def kM1 : List (Nat × MF) := [(29, 94, 0, 1, 1, 10, 2)]
def kK1 : List (Nat × AV) := []
set_option maxRecDepth 100000 in
theorem ok1 : okX 1 kc1 kF1 kM1 kK1 = true := by decide +kernel
def kc2 : List (List (Nat × Instr)) := [[(0, .iload_n 1), (1, .invokestatic 29), (4, .ifCond .eq (15)), (7, .aload_n 0), (8, .getfield 18), (11, .iload_n 1), (12, .aaload), (13, .getfield 33), (16, .goto 4), (19, .iconst (-1)), (20, .ireturn)]]
def kF2 : List (Nat × Nat × Nat × Nat) := [(18, 0, 1, 36), (33, 1, 0, 0)]
def kM2 : List (Nat × MF) := [(29, 94, 0, 1, 1, 10, 2)]
def kK2 : List (Nat × AV) := []
set_option maxRecDepth 100000 in
theorem ok2 : okX 2 kc2 kF2 kM2 kK2 = true := by decide +kernel
def kc3 : List (List (Nat × Instr)) := [[(0, .iconst 0), (1, .istore 5), (3, .iconst 0), (4, .istore 6), (6, .bipush 7), (8, .istore 7), (10, .iload 7), (12, .ifCond .lt (71)), (15, .aload_n 0), (16, .iload 7), (18, .iload 4), (20, .invokevirtual 41), (23, .astore 8), (25, .aload 8), (27, .iload_n 3), (28, .aload_n 2), (29, .getfield 48)], [(32, .iload 7), (34, .invokestatic 37), (37, .invokevirtual 45), (40, .istore 9), (42, .iload 9), (44, .iconst (-1)), (45, .if_icmp .eq (32)), (48, .aload_n 0), (49, .aload 8), (51, .iload 9), (53, .aload_n 1), (54, .aload_n 2), (55, .iload 5), (57, .invokevirtual 53), (60, .istore 5), (62, .iconst 1), (63, .aload 8)], [(65, .getfield 57), (68, .iload 9), (70, .iaload), (71, .iload 6), (73, .imul), (74, .iadd), (75, .istore 6), (77, .iinc 7 (-1)), (80, .goto (-70)), (83, .aload_n 0), (84, .dup), (85, .getfield 60), (88, .iload 6), (90, .iadd), (91, .putfield 60), (94, .iload 5)], [(96, .ireturn)]]
def kF3 : List (Nat × Nat × Nat × Nat) := [(48, 3, 1, 0), (57, 1, 5, 26), (60, 0, 4, 0)]
def kM3 : List (Nat × MF) := [(37, 5, 0, 2, 4, 0, 1), (41, 4, 1, 2, 3, 0, 6), (45, 13, 1, 2, 4, 1, 1), (53, 6, 1, 5, 9, 0, 1)]
def kK3 : List (Nat × AV) := []
set_option maxRecDepth 100000 in
theorem ok3 : okX 3 kc3 kF3 kM3 kK3 = true := by decide +kernel
def kc4 : List (List (Nat × Instr)) := [[(0, .iload_n 1), (1, .iconst 2), (2, .irem), (3, .ifCond .ne (19)), (6, .iload_n 2), (7, .invokestatic 29), (10, .ifCond .eq (12)), (13, .aload_n 0), (14, .getfield 18), (17, .iload_n 2), (18, .aaload), (19, .goto 7), (22, .aload_n 0), (23, .getfield 12), (26, .areturn)]]
def kF4 : List (Nat × Nat × Nat × Nat) := [(12, 0, 0, 6), (18, 0, 1, 36)]
def kM4 : List (Nat × MF) := [(29, 94, 0, 1, 1, 10, 2)]
def kK4 : List (Nat × AV) := []
set_option maxRecDepth 100000 in
theorem ok4 : okX 4 kc4 kF4 kM4 kK4 = true := by decide +kernel
def kc5 : List (List (Nat × Instr)) := [[(0, .iload_n 0), (1, .istore_n 2), (2, .iconst 0), (3, .istore_n 3), (4, .iload_n 3), (5, .iload_n 1), (6, .iconst 2), (7, .idiv), (8, .if_icmp .ge (14)), (11, .iload_n 2), (12, .invokestatic 63), (15, .istore_n 2), (16, .iinc 3 1), (19, .goto (-15)), (22, .iload_n 2), (23, .ireturn)]]
def kF5 : List (Nat × Nat × Nat × Nat) := []
def kM5 : List (Nat × MF) := [(63, 100, 0, 1, 1, 10, 1)]
def kK5 : List (Nat × AV) := []
set_option maxRecDepth 100000 in
theorem ok5 : okX 5 kc5 kF5 kM5 kK5 = true := by decide +kernel
def kc6 : List (List (Nat × Instr)) := [[(0, .iconst 0), (1, .istore 6), (3, .aload_n 1), (4, .getfield 67), (7, .iload_n 2), (8, .iaload), (9, .istore 7), (11, .iload 7), (13, .aload_n 1), (14, .getfield 67), (17, .iload_n 2), (18, .iconst 1), (19, .iadd), (20, .iaload), (21, .if_icmp .ge (119)), (24, .aload_n 1), (25, .getfield 70), (28, .iload 7), (30, .iaload), (31, .istore 8)], [(33, .iload 8), (35, .sipush 20000), (38, .if_icmp .lt (49)), (41, .iload 6), (43, .iconst 2), (44, .if_icmp .lt (90)), (47, .iinc 6 (-1)), (50, .aload_n 0), (51, .getfield 25), (54, .iload 6), (56, .iconst 1), (57, .isub), (58, .iload 8), (60, .sipush 20000), (63, .isub)], [(64, .aload_n 0), (65, .getfield 25), (68, .iload 6), (70, .iconst 1), (71, .isub), (72, .iaload), (73, .aload_n 0), (74, .getfield 25), (77, .iload 6), (79, .iaload), (80, .invokestatic 73), (83, .iastore), (84, .goto 50), (87, .iload 6), (89, .aload_n 0), (90, .getfield 25), (93, .arraylength), (94, .if_icmp .ge (40))], [(97, .aload_n 0), (98, .getfield 25), (101, .iload 6), (103, .iload 8), (105, .sipush 10000), (108, .if_icmp .ge (8)), (111, .iload 8), (113, .goto 17), (116, .iload 8), (118, .sipush 10000), (121, .isub), (122, .aload_n 3), (123, .aload 4), (125, .iload 5), (127, .invokestatic 77)], [(130, .iastore), (131, .iinc 6 1), (134, .iinc 7 1), (137, .goto (-126)), (140, .iload 6), (142, .ifCond .le (12)), (145, .aload_n 0), (146, .getfield 25), (149, .iconst 0), (150, .iaload), (151, .goto 4), (154, .iconst 0), (155, .ireturn)]]
def kF6 : List (Nat × Nat × Nat × Nat) := [(25, 0, 3, 26), (67, 1, 4, 26), (70, 1, 6, 26)]
def kM6 : List (Nat × MF) := [(73, 7, 0, 3, 3, 0, 1), (77, 8, 0, 4, 4, 0, 1)]
def kK6 : List (Nat × AV) := []
set_option maxRecDepth 100000 in
theorem ok6 : okX 6 kc6 kF6 kM6 kK6 = true := by decide +kernel
def kc7 : List (List (Nat × Instr)) := [[(0, .iload_n 0), (1, .tableswitch (69) (0) (4) #[35, 39, 43, 47, 58])], [(36, .iload_n 1), (37, .iload_n 2), (38, .iadd), (39, .ireturn), (40, .iload_n 1), (41, .iload_n 2), (42, .isub), (43, .ireturn), (44, .iload_n 1), (45, .iload_n 2), (46, .imul), (47, .ireturn), (48, .iload_n 1), (49, .iload_n 2), (50, .if_icmp .ne (7)), (53, .iconst 1), (54, .goto 4), (57, .iconst 0), (58, .ireturn), (59, .iload_n 1), (60, .iload_n 2), (61, .if_icmp .ge (7))], [(64, .iconst 1), (65, .goto 4), (68, .iconst 0), (69, .ireturn), (70, .iload_n 1), (71, .iload_n 2), (72, .if_icmp .le (7)), (75, .iconst 1), (76, .goto 4), (79, .iconst 0), (80, .ireturn)]]
def kF7 : List (Nat × Nat × Nat × Nat) := []
def kM7 : List (Nat × MF) := []
def kK7 : List (Nat × AV) := []
set_option maxRecDepth 100000 in
theorem ok7 : okX 7 kc7 kF7 kM7 kK7 = true := by decide +kernel
def kc8 : List (List (Nat × Instr)) := [[(0, .iload_n 0), (1, .tableswitch (91) (0) (7) #[47, 55, 61, 66, 71, 76, 81, 86])], [(48, .aload_n 2), (49, .getfield 81), (52, .invokestatic 84), (55, .ireturn), (56, .aload_n 1), (57, .aload_n 2), (58, .invokevirtual 87), (61, .ireturn), (62, .aload_n 2), (63, .getfield 81)], [(66, .ireturn), (67, .aload_n 2), (68, .getfield 93), (71, .ireturn), (72, .aload_n 2), (73, .getfield 96), (76, .ireturn), (77, .aload_n 2), (78, .invokevirtual 99), (81, .ireturn), (82, .aload_n 2), (83, .getfield 48), (86, .ireturn), (87, .aload_n 2), (88, .getfield 103), (91, .ireturn), (92, .iload_n 3), (93, .ireturn)]]
def kF8 : List (Nat × Nat × Nat × Nat) := [(48, 3, 1, 0), (81, 3, 4, 0), (93, 3, 2, 0), (96, 3, 3, 0), (103, 3, 0, 0)]
def kM8 : List (Nat × MF) := [(84, 102, 0, 1, 1, 10, 1), (87, 60, 1, 1, 3, 7, 1), (99, 26, 1, 0, 3, 3, 1)]
def kK8 : List (Nat × AV) := []
set_option maxRecDepth 100000 in
theorem ok8 : okX 8 kc8 kF8 kM8 kK8 = true := by decide +kernel
def kc9 : List (List (Nat × Instr)) := [[(0, .iconst 0), (1, .istore 4), (3, .iload 4), (5, .bipush 8), (7, .if_icmp .ge (52)), (10, .iload_n 1), (11, .iload 4), (13, .invokestatic 37), (16, .istore 5), (18, .aload_n 0), (19, .iload 4), (21, .iload_n 3), (22, .invokevirtual 41), (25, .iload_n 2), (26, .iload 5), (28, .invokevirtual 45), (31, .iconst (-1))], [(32, .if_icmp .eq (21)), (35, .iload 4), (37, .iconst 2), (38, .irem), (39, .ifCond .ne (11)), (42, .iload 5), (44, .bipush 32), (46, .iadd), (47, .goto 5), (50, .iload 5), (52, .ireturn), (53, .iinc 4 1), (56, .goto (-53)), (59, .iconst (-1)), (60, .ireturn)]]
def kF9 : List (Nat × Nat × Nat × Nat) := []
def kM9 : List (Nat × MF) := [(37, 5, 0, 2, 4, 0, 1), (41, 4, 1, 2, 3, 0, 6), (45, 13, 1, 2, 4, 1, 1)]
def kK9 : List (Nat × AV) := []
set_option maxRecDepth 100000 in
theorem ok9 : okX 9 kc9 kF9 kM9 kK9 = true := by decide +kernel
def kc10 : List (List (Nat × Instr)) := [[(0, .aload_n 0), (1, .invokespecial 3), (4, .aload_n 0), (5, .bipush 12), (7, .newarray .int), (9, .putfield 11), (12, .aload_n 0), (13, .bipush 12), (15, .newarray .int), (17, .putfield 15), (20, .aload_n 0), (21, .bipush 13), (23, .newarray .int), (25, .putfield 18), (28, .aload_n 0), (29, .bipush 12), (31, .newarray .int)], [(33, .putfield 21), (36, .aload_n 0), (37, .sipush 240), (40, .newarray .int), (42, .putfield 24), (45, .return_)]]
def kF10 : List (Nat × Nat × Nat × Nat) := [(11, 1, 2, 26), (15, 1, 3, 26), (18, 1, 4, 26), (21, 1, 5, 26), (24, 1, 6, 26)]
def kM10 : List (Nat × MF) := []
def kK10 : List (Nat × AV) := []
set_option maxRecDepth 100000 in
theorem ok10 : okX 10 kc10 kF10 kM10 kK10 = true := by decide +kernel
def kc11 : List (List (Nat × Instr)) := [[(0, .aload_n 0), (1, .iconst 0), (2, .putfield 27), (5, .aload_n 0), (6, .iconst 0), (7, .putfield 31), (10, .return_)]]
def kF11 : List (Nat × Nat × Nat × Nat) := [(27, 1, 0, 0), (31, 1, 1, 0)]
def kM11 : List (Nat × MF) := []
def kK11 : List (Nat × AV) := []
set_option maxRecDepth 100000 in
theorem ok11 : okX 11 kc11 kF11 kM11 kK11 = true := by decide +kernel
def kc12 : List (List (Nat × Instr)) := [[(0, .aload_n 0), (1, .getfield 27), (4, .bipush 12), (6, .if_icmp .lt (7)), (9, .iconst 1), (10, .goto 4), (13, .iconst 0), (14, .ireturn)]]
def kF12 : List (Nat × Nat × Nat × Nat) := [(27, 1, 0, 0)]
def kM12 : List (Nat × MF) := []
def kK12 : List (Nat × AV) := []
set_option maxRecDepth 100000 in
theorem ok12 : okX 12 kc12 kF12 kM12 kK12 = true := by decide +kernel
def kc13 : List (List (Nat × Instr)) := [[(0, .iconst 0), (1, .istore_n 3), (2, .iload_n 3), (3, .aload_n 0), (4, .getfield 27), (7, .if_icmp .ge (31)), (10, .aload_n 0), (11, .getfield 11), (14, .iload_n 3), (15, .iaload), (16, .iload_n 1), (17, .if_icmp .ne (15)), (20, .aload_n 0), (21, .getfield 15), (24, .iload_n 3), (25, .iaload), (26, .iload_n 2), (27, .if_icmp .ne (5)), (30, .iload_n 3), (31, .ireturn)], [(32, .iinc 3 1), (35, .goto (-33)), (38, .iconst (-1)), (39, .ireturn)]]
def kF13 : List (Nat × Nat × Nat × Nat) := [(11, 1, 2, 26), (15, 1, 3, 26), (27, 1, 0, 0)]
def kM13 : List (Nat × MF) := []
def kK13 : List (Nat × AV) := []
set_option maxRecDepth 100000 in
theorem ok13 : okX 13 kc13 kF13 kM13 kK13 = true := by decide +kernel
def kc14 : List (List (Nat × Instr)) := [[(0, .aload_n 0), (1, .getfield 27), (4, .bipush 12), (6, .if_icmp .ge (71)), (9, .aload_n 0), (10, .getfield 11), (13, .aload_n 0), (14, .getfield 27), (17, .iload_n 1), (18, .iastore), (19, .aload_n 0), (20, .getfield 15), (23, .aload_n 0), (24, .getfield 27), (27, .iload_n 2), (28, .iastore), (29, .aload_n 0), (30, .getfield 21)], [(33, .aload_n 0), (34, .getfield 27), (37, .iconst 0), (38, .iastore), (39, .aload_n 0), (40, .getfield 18), (43, .aload_n 0), (44, .getfield 27), (47, .aload_n 0), (48, .getfield 31), (51, .iastore), (52, .aload_n 0), (53, .getfield 18), (56, .aload_n 0), (57, .getfield 27), (60, .iconst 1), (61, .iadd), (62, .aload_n 0), (63, .getfield 31)], [(66, .iastore), (67, .aload_n 0), (68, .dup), (69, .getfield 27), (72, .iconst 1), (73, .iadd), (74, .putfield 27), (77, .return_)]]
def kF14 : List (Nat × Nat × Nat × Nat) := [(11, 1, 2, 26), (15, 1, 3, 26), (18, 1, 4, 26), (21, 1, 5, 26), (27, 1, 0, 0), (31, 1, 1, 0)]
def kM14 : List (Nat × MF) := []
def kK14 : List (Nat × AV) := []
set_option maxRecDepth 100000 in
theorem ok14 : okX 14 kc14 kF14 kM14 kK14 = true := by decide +kernel
def kc15 : List (List (Nat × Instr)) := [[(0, .aload_n 0), (1, .getfield 31), (4, .sipush 240), (7, .if_icmp .ge (65)), (10, .aload_n 0), (11, .getfield 27), (14, .ifCond .le (58)), (17, .aload_n 0), (18, .getfield 24), (21, .aload_n 0), (22, .getfield 31), (25, .iload_n 1), (26, .iastore), (27, .aload_n 0), (28, .dup), (29, .getfield 31)], [(32, .iconst 1), (33, .iadd), (34, .putfield 31), (37, .aload_n 0), (38, .getfield 18), (41, .aload_n 0), (42, .getfield 27), (45, .aload_n 0), (46, .getfield 31), (49, .iastore), (50, .iload_n 1), (51, .sipush 10008), (54, .if_icmp .ne (18)), (57, .aload_n 0), (58, .getfield 21), (61, .aload_n 0), (62, .getfield 27)], [(65, .iconst 1), (66, .isub), (67, .dup2), (68, .iaload), (69, .iconst 1), (70, .iadd), (71, .iastore), (72, .return_)]]
def kF15 : List (Nat × Nat × Nat × Nat) := [(18, 1, 4, 26), (21, 1, 5, 26), (24, 1, 6, 26), (27, 1, 0, 0), (31, 1, 1, 0)]
def kM15 : List (Nat × MF) := []
def kK15 : List (Nat × AV) := []
set_option maxRecDepth 100000 in
theorem ok15 : okX 15 kc15 kF15 kM15 kK15 = true := by decide +kernel
def kc16 : List (List (Nat × Instr)) := [[(0, .aload_n 0), (1, .invokespecial 3), (4, .aload_n 0), (5, .aload_n 1), (6, .putfield 9), (9, .return_)]]
def kF16 : List (Nat × Nat × Nat × Nat) := [(9, 2, 0, 14)]
def kM16 : List (Nat × MF) := []
def kK16 : List (Nat × AV) := []
set_option maxRecDepth 100000 in
theorem ok16 : okX 16 kc16 kF16 kM16 kK16 = true := by decide +kernel
def kc17 : List (List (Nat × Instr)) := [[(0, .aload_n 1), (1, .invokevirtual 15), (4, .iconst 0), (5, .istore_n 2), (6, .iload_n 2), (7, .sipush 240), (10, .if_icmp .ge (29)), (13, .aload_n 0), (14, .getfield 9), (17, .invokevirtual 20), (20, .ifCond .ne (19)), (23, .aload_n 0), (24, .aload_n 1), (25, .invokevirtual 26), (28, .ifCond .ne (5)), (31, .iconst 0)], [(32, .ireturn), (33, .iinc 2 1), (36, .goto (-30)), (39, .aload_n 0), (40, .getfield 9), (43, .invokevirtual 20), (46, .ireturn)]]
def kF17 : List (Nat × Nat × Nat × Nat) := [(9, 2, 0, 14)]
def kM17 : List (Nat × MF) := [(15, 11, 1, 0, 1, 1, 0), (20, 78, 1, 0, 1, 9, 2), (26, 18, 1, 1, 4, 2, 2)]
def kK17 : List (Nat × AV) := []
set_option maxRecDepth 100000 in
theorem ok17 : okX 17 kc17 kF17 kM17 kK17 = true := by decide +kernel
def kc18 : List (List (Nat × Instr)) := [[(0, .aload_n 1), (1, .invokevirtual 30), (4, .ifCond .ne (15)), (7, .aload_n 0), (8, .getfield 9), (11, .ldc 33), (13, .invokevirtual 35), (16, .ifCond .ne (5)), (19, .iconst 0), (20, .ireturn), (21, .aload_n 0), (22, .getfield 9), (25, .iconst 1), (26, .invokevirtual 39), (29, .istore_n 2), (30, .iload_n 2), (31, .invokestatic 43)], [(34, .ifCond .ne (5)), (37, .iconst 0), (38, .ireturn), (39, .aload_n 0), (40, .getfield 9), (43, .invokevirtual 47), (46, .aload_n 0), (47, .getfield 9), (50, .ldc 50), (52, .invokevirtual 35), (55, .ifCond .ne (5)), (58, .iconst 0), (59, .ireturn), (60, .aload_n 0), (61, .getfield 9)], [(64, .ldc 52), (66, .invokevirtual 54), (69, .istore_n 3), (70, .iload_n 3), (71, .iconst (-1)), (72, .if_icmp .eq (13)), (75, .aload_n 1), (76, .iload_n 2), (77, .iload_n 3), (78, .invokevirtual 58), (81, .iconst (-1)), (82, .if_icmp .eq (5)), (85, .iconst 0), (86, .ireturn), (87, .aload_n 0), (88, .getfield 9), (91, .invokevirtual 47), (94, .aload_n 1), (95, .iload_n 2)], [(96, .iload_n 3), (97, .invokevirtual 62), (100, .aload_n 0), (101, .getfield 9), (104, .bipush 58), (106, .invokevirtual 66), (109, .ifCond .eq (28)), (112, .aload_n 0), (113, .aload_n 1), (114, .iconst 0), (115, .invokevirtual 70), (118, .ifCond .eq (19)), (121, .aload_n 0), (122, .getfield 9), (125, .bipush 59), (127, .invokevirtual 66)], [(130, .ifCond .eq (7)), (133, .iconst 1), (134, .goto 4), (137, .iconst 0), (138, .ireturn)]]
def kF18 : List (Nat × Nat × Nat × Nat) := [(9, 2, 0, 14)]
def kM18 : List (Nat × MF) := [(30, 12, 1, 0, 1, 1, 2), (35, 79, 1, 1, 2, 9, 2), (39, 82, 1, 1, 4, 9, 1), (43, 86, 0, 1, 1, 10, 2), (47, 77, 1, 0, 1, 9, 0), (54, 81, 1, 1, 7, 9, 1), (58, 13, 1, 2, 4, 1, 1), (62, 14, 1, 2, 3, 1, 0), (66, 83, 1, 1, 2, 9, 2), (70, 19, 1, 2, 5, 2, 2)]
def kK18 : List (Nat × AV) := [(33, .inr (.inr (40, some 0))), (50, .inr (.inr (40, some 1))), (52, .inr (.inr (40, some 2)))]
set_option maxRecDepth 100000 in
theorem ok18 : okX 18 kc18 kF18 kM18 kK18 = true := by decide +kernel
def kc19 : List (List (Nat × Instr)) := [[(0, .aload_n 0), (1, .aload_n 1), (2, .iload_n 2), (3, .invokevirtual 74), (6, .ifCond .ne (5)), (9, .iconst 0), (10, .ireturn), (11, .iconst 0), (12, .istore_n 3), (13, .iload_n 3), (14, .sipush 240), (17, .if_icmp .ge (60)), (20, .aload_n 0), (21, .getfield 9), (24, .invokevirtual 77), (27, .istore 4), (29, .iload 4), (31, .iconst (-1))], [(32, .if_icmp .eq (9)), (35, .iload 4), (37, .iconst 2), (38, .if_icmp .lt (5)), (41, .iconst 1), (42, .ireturn), (43, .aload_n 0), (44, .getfield 9), (47, .invokevirtual 47), (50, .aload_n 0), (51, .aload_n 1), (52, .iload_n 2), (53, .invokevirtual 74), (56, .ifCond .ne (5)), (59, .iconst 0), (60, .ireturn), (61, .aload_n 1), (62, .sipush 20000)], [(65, .iload 4), (67, .iadd), (68, .invokevirtual 81), (71, .iinc 3 1), (74, .goto (-61)), (77, .iconst 1), (78, .ireturn)]]
def kF19 : List (Nat × Nat × Nat × Nat) := [(9, 2, 0, 14)]
def kM19 : List (Nat × MF) := [(47, 77, 1, 0, 1, 9, 0), (74, 20, 1, 2, 5, 2, 2), (77, 84, 1, 0, 1, 9, 1), (81, 15, 1, 1, 2, 1, 0)]
def kK19 : List (Nat × AV) := []
set_option maxRecDepth 100000 in
theorem ok19 : okX 19 kc19 kF19 kM19 kK19 = true := by decide +kernel
def kc20 : List (List (Nat × Instr)) := [[(0, .aload_n 0), (1, .aload_n 1), (2, .iload_n 2), (3, .invokevirtual 85), (6, .ifCond .ne (5)), (9, .iconst 0), (10, .ireturn), (11, .iconst 0), (12, .istore_n 3), (13, .iload_n 3), (14, .sipush 240), (17, .if_icmp .ge (54)), (20, .aload_n 0), (21, .getfield 9), (24, .invokevirtual 77), (27, .istore 4), (29, .iload 4), (31, .iconst 2)], [(32, .if_icmp .ge (5)), (35, .iconst 1), (36, .ireturn), (37, .aload_n 0), (38, .getfield 9), (41, .invokevirtual 47), (44, .aload_n 0), (45, .aload_n 1), (46, .iload_n 2), (47, .invokevirtual 85), (50, .ifCond .ne (5)), (53, .iconst 0), (54, .ireturn), (55, .aload_n 1), (56, .sipush 20000), (59, .iload 4), (61, .iadd), (62, .invokevirtual 81)], [(65, .iinc 3 1), (68, .goto (-55)), (71, .iconst 1), (72, .ireturn)]]
def kF20 : List (Nat × Nat × Nat × Nat) := [(9, 2, 0, 14)]
def kM20 : List (Nat × MF) := [(47, 77, 1, 0, 1, 9, 0), (77, 84, 1, 0, 1, 9, 1), (81, 15, 1, 1, 2, 1, 0), (85, 21, 1, 2, 5, 2, 2)]
def kK20 : List (Nat × AV) := []
set_option maxRecDepth 100000 in
theorem ok20 : okX 20 kc20 kF20 kM20 kK20 = true := by decide +kernel
def kc21 : List (List (Nat × Instr)) := [[(0, .aload_n 0), (1, .getfield 9), (4, .iconst 4), (5, .invokevirtual 39), (8, .istore_n 3), (9, .iload_n 3), (10, .iconst (-1)), (11, .if_icmp .eq (17)), (14, .aload_n 1), (15, .iload_n 3), (16, .invokevirtual 81), (19, .aload_n 0), (20, .getfield 9), (23, .invokevirtual 47), (26, .iconst 1), (27, .ireturn), (28, .aload_n 0), (29, .getfield 9)], [(32, .ldc 88), (34, .invokevirtual 90), (37, .istore 4), (39, .iload 4), (41, .iconst (-1)), (42, .if_icmp .eq (15)), (45, .aload_n 1), (46, .sipush 10000), (49, .iload 4), (51, .iadd), (52, .invokevirtual 81), (55, .iconst 1), (56, .ireturn), (57, .iload_n 2), (58, .bipush 9), (60, .if_icmp .ge (15)), (63, .aload_n 0)], [(64, .getfield 9), (67, .bipush 40), (69, .invokevirtual 66), (72, .ifCond .ne (5)), (75, .iconst 0), (76, .ireturn), (77, .aload_n 0), (78, .aload_n 1), (79, .iload_n 2), (80, .iconst 1), (81, .iadd), (82, .invokevirtual 70), (85, .ifCond .eq (19)), (88, .aload_n 0), (89, .getfield 9), (92, .bipush 41), (94, .invokevirtual 66)], [(97, .ifCond .eq (7)), (100, .iconst 1), (101, .goto 4), (104, .iconst 0), (105, .ireturn)]]
def kF21 : List (Nat × Nat × Nat × Nat) := [(9, 2, 0, 14)]
def kM21 : List (Nat × MF) := [(39, 82, 1, 1, 4, 9, 1), (47, 77, 1, 0, 1, 9, 0), (66, 83, 1, 1, 2, 9, 2), (70, 19, 1, 2, 5, 2, 2), (81, 15, 1, 1, 2, 1, 0), (90, 80, 1, 1, 3, 9, 1)]
def kK21 : List (Nat × AV) := [(88, .inr (.inr (40, some 3)))]
set_option maxRecDepth 100000 in
theorem ok21 : okX 21 kc21 kF21 kM21 kK21 = true := by decide +kernel
def kc22 : List (List (Nat × Instr)) := [[(0, .aload_n 0), (1, .invokespecial 3), (4, .aload_n 0), (5, .iconst 5), (6, .newarray .int), (8, .dup), (9, .iconst 0), (10, .iconst (-1)), (11, .iastore), (12, .dup), (13, .iconst 1), (14, .iconst (-1)), (15, .iastore), (16, .dup), (17, .iconst 2), (18, .iconst (-1)), (19, .iastore), (20, .dup), (21, .iconst 3), (22, .iconst (-1)), (23, .iastore), (24, .dup), (25, .iconst 4), (26, .iconst (-1)), (27, .iastore), (28, .putfield 9), (31, .aload_n 0)], [(32, .iload_n 1), (33, .putfield 15), (36, .aload_n 0), (37, .iload_n 2), (38, .putfield 19), (41, .aload_n 0), (42, .iload_n 3), (43, .putfield 22), (46, .return_)]]
def kF22 : List (Nat × Nat × Nat × Nat) := [(9, 3, 5, 26), (15, 3, 0, 0), (19, 3, 1, 0), (22, 3, 2, 0)]
def kM22 : List (Nat × MF) := []
def kK22 : List (Nat × AV) := []
set_option maxRecDepth 100000 in
theorem ok22 : okX 22 kc22 kF22 kM22 kK22 = true := by decide +kernel
def kc23 : List (List (Nat × Instr)) := [[(0, .iload_n 1), (1, .tableswitch (113) (0) (4) #[35, 59, 71, 89, 101])], [(36, .iload_n 0), (37, .bipush 16), (39, .if_icmp .eq (15)), (42, .iload_n 0), (43, .bipush 17), (45, .if_icmp .eq (9)), (48, .iload_n 0), (49, .bipush 19), (51, .if_icmp .ne (7)), (54, .iconst 1), (55, .goto 4), (58, .iconst 0), (59, .ireturn), (60, .iload_n 0), (61, .bipush 18), (63, .if_icmp .ne (7))], [(66, .iconst 1), (67, .goto 4), (70, .iconst 0), (71, .ireturn), (72, .iload_n 0), (73, .bipush 16), (75, .if_icmp .eq (9)), (78, .iload_n 0), (79, .bipush 19), (81, .if_icmp .ne (7)), (84, .iconst 1), (85, .goto 4), (88, .iconst 0), (89, .ireturn), (90, .iload_n 0), (91, .bipush 21), (93, .if_icmp .ne (7))], [(96, .iconst 1), (97, .goto 4), (100, .iconst 0), (101, .ireturn), (102, .iload_n 0), (103, .bipush 29), (105, .if_icmp .ne (7)), (108, .iconst 1), (109, .goto 4), (112, .iconst 0), (113, .ireturn), (114, .iconst 0), (115, .ireturn)]]
def kF23 : List (Nat × Nat × Nat × Nat) := []
def kM23 : List (Nat × MF) := []
def kK23 : List (Nat × AV) := []
set_option maxRecDepth 100000 in
theorem ok23 : okX 23 kc23 kF23 kM23 kK23 = true := by decide +kernel
def kc24 : List (List (Nat × Instr)) := [[(0, .aload_n 0), (1, .getfield 19), (4, .aload_n 1), (5, .getfield 19), (8, .if_icmp .ne (36)), (11, .aload_n 0), (12, .getfield 25), (15, .aload_n 1), (16, .getfield 25), (19, .if_icmp .ne (25)), (22, .aload_n 0), (23, .getfield 22), (26, .aload_n 1), (27, .getfield 22), (30, .if_icmp .ne (14))], [(33, .aload_n 0), (34, .getfield 28), (37, .aload_n 1), (38, .getfield 28), (41, .if_icmp .eq (5)), (44, .iconst 0), (45, .ireturn), (46, .iconst 0), (47, .istore_n 2), (48, .iload_n 2), (49, .iconst 5), (50, .if_icmp .ge (26)), (53, .aload_n 0), (54, .getfield 9), (57, .iload_n 2), (58, .iaload), (59, .aload_n 1), (60, .getfield 9), (63, .iload_n 2)], [(64, .iaload), (65, .if_icmp .eq (5)), (68, .iconst 0), (69, .ireturn), (70, .iinc 2 1), (73, .goto (-25)), (76, .iconst 1), (77, .ireturn)]]
def kF24 : List (Nat × Nat × Nat × Nat) := [(9, 3, 5, 26), (19, 3, 1, 0), (22, 3, 2, 0), (25, 3, 4, 0), (28, 3, 3, 0)]
def kM24 : List (Nat × MF) := []
def kK24 : List (Nat × AV) := []
set_option maxRecDepth 100000 in
theorem ok24 : okX 24 kc24 kF24 kM24 kK24 = true := by decide +kernel
def kc25 : List (List (Nat × Instr)) := [[(0, .iload_n 1), (1, .tableswitch (87) (0) (7) #[47, 52, 57, 62, 67, 72, 77, 82])], [(48, .aload_n 0), (49, .getfield 19), (52, .ireturn), (53, .aload_n 0), (54, .getfield 25), (57, .ireturn), (58, .aload_n 0), (59, .getfield 22), (62, .ireturn), (63, .aload_n 0)], [(64, .getfield 28), (67, .ireturn), (68, .aload_n 0), (69, .getfield 15), (72, .ireturn), (73, .aload_n 0), (74, .invokevirtual 31), (77, .ireturn), (78, .aload_n 0), (79, .invokevirtual 35), (82, .ireturn), (83, .aload_n 0), (84, .invokevirtual 38), (87, .ireturn), (88, .iconst (-1)), (89, .ireturn)]]
def kF25 : List (Nat × Nat × Nat × Nat) := [(15, 3, 0, 0), (19, 3, 1, 0), (22, 3, 2, 0), (25, 3, 4, 0), (28, 3, 3, 0)]
def kM25 : List (Nat × MF) := [(31, 26, 1, 0, 3, 3, 1), (35, 27, 1, 0, 2, 3, 1), (38, 28, 1, 0, 2, 3, 1)]
def kK25 : List (Nat × AV) := []
set_option maxRecDepth 100000 in
theorem ok25 : okX 25 kc25 kF25 kM25 kK25 = true := by decide +kernel
def kc26 : List (List (Nat × Instr)) := [[(0, .iconst 0), (1, .istore_n 1), (2, .iconst 0), (3, .istore_n 2), (4, .iload_n 2), (5, .iconst 5), (6, .if_icmp .ge (22)), (9, .aload_n 0), (10, .getfield 9), (13, .iload_n 2), (14, .iaload), (15, .iconst (-1)), (16, .if_icmp .eq (6)), (19, .iinc 1 1), (22, .iinc 2 1), (25, .goto (-21)), (28, .iload_n 1), (29, .ireturn)]]
def kF26 : List (Nat × Nat × Nat × Nat) := [(9, 3, 5, 26)]
def kM26 : List (Nat × MF) := []
def kK26 : List (Nat × AV) := []
set_option maxRecDepth 100000 in
theorem ok26 : okX 26 kc26 kF26 kM26 kK26 = true := by decide +kernel
def kc27 : List (List (Nat × Instr)) := [[(0, .iconst 0), (1, .istore_n 1), (2, .iload_n 1), (3, .iconst 5), (4, .if_icmp .ge (26)), (7, .aload_n 0), (8, .getfield 9), (11, .iload_n 1), (12, .iaload), (13, .iconst (-1)), (14, .if_icmp .eq (10)), (17, .aload_n 0), (18, .getfield 9), (21, .iload_n 1), (22, .iaload), (23, .ireturn), (24, .iinc 1 1), (27, .goto (-25)), (30, .iconst (-1)), (31, .ireturn)]]
def kF27 : List (Nat × Nat × Nat × Nat) := [(9, 3, 5, 26)]
def kM27 : List (Nat × MF) := []
def kK27 : List (Nat × AV) := []
set_option maxRecDepth 100000 in
theorem ok27 : okX 27 kc27 kF27 kM27 kK27 = true := by decide +kernel
def kc28 : List (List (Nat × Instr)) := [[(0, .iconst 4), (1, .istore_n 1), (2, .iload_n 1), (3, .ifCond .lt (26)), (6, .aload_n 0), (7, .getfield 9), (10, .iload_n 1), (11, .iaload), (12, .iconst (-1)), (13, .if_icmp .eq (10)), (16, .aload_n 0), (17, .getfield 9), (20, .iload_n 1), (21, .iaload), (22, .ireturn), (23, .iinc 1 (-1)), (26, .goto (-24)), (29, .iconst (-1)), (30, .ireturn)]]
def kF28 : List (Nat × Nat × Nat × Nat) := [(9, 3, 5, 26)]
def kM28 : List (Nat × MF) := []
def kK28 : List (Nat × AV) := []
set_option maxRecDepth 100000 in
theorem ok28 : okX 28 kc28 kF28 kM28 kK28 = true := by decide +kernel
def kc29 : List (List (Nat × Instr)) := [[(0, .aload_n 0), (1, .invokespecial 3), (4, .aload_n 0), (5, .sipush 256), (8, .newarray .char), (10, .putfield 9), (13, .return_)]]
def kF29 : List (Nat × Nat × Nat × Nat) := [(9, 4, 0, 28)]
def kM29 : List (Nat × MF) := []
def kK29 : List (Nat × AV) := []
set_option maxRecDepth 100000 in
theorem ok29 : okX 29 kc29 kF29 kM29 kK29 = true := by decide +kernel
def kc30 : List (List (Nat × Instr)) := [[(0, .aload_n 0), (1, .iconst 0), (2, .putfield 15), (5, .aload_n 0), (6, .aload_n 1), (7, .invokevirtual 19), (10, .iconst 0), (11, .istore_n 2), (12, .iload_n 2), (13, .bipush 7), (15, .if_icmp .ge (24)), (18, .aload_n 1), (19, .iload_n 2), (20, .invokevirtual 23), (23, .astore_n 3), (24, .aload_n 3), (25, .ifnull 8), (28, .aload_n 0), (29, .aload_n 3), (30, .invokevirtual 29)], [(33, .iinc 2 1), (36, .goto (-24)), (39, .aload_n 0), (40, .getfield 15), (43, .ireturn)]]
def kF30 : List (Nat × Nat × Nat × Nat) := [(15, 4, 1, 0)]
def kM30 : List (Nat × MF) := [(19, 31, 1, 1, 2, 4, 0), (23, 56, 1, 1, 2, 7, 8), (29, 34, 1, 1, 2, 4, 0)]
def kK30 : List (Nat × AV) := []
set_option maxRecDepth 100000 in
theorem ok30 : okX 30 kc30 kF30 kM30 kK30 = true := by decide +kernel
def kc31 : List (List (Nat × Instr)) := [[(0, .aload_n 1), (1, .getfield 33), (4, .ifCond .le (33)), (7, .aload_n 1), (8, .getfield 33), (11, .iconst 5), (12, .if_icmp .gt (25)), (15, .aload_n 0), (16, .ldc 36), (18, .iconst 0), (19, .invokevirtual 38), (22, .aload_n 0), (23, .ldc 42), (25, .aload_n 1), (26, .getfield 33), (29, .iconst 1), (30, .isub), (31, .invokevirtual 38)], [(34, .goto 23), (37, .aload_n 1), (38, .getfield 33), (41, .iconst 5), (42, .if_icmp .le (15)), (45, .aload_n 0), (46, .ldc 36), (48, .aload_n 1), (49, .getfield 33), (52, .iconst 5), (53, .isub), (54, .invokevirtual 38), (57, .aload_n 0), (58, .ldc 44), (60, .aload_n 1), (61, .getfield 46)], [(64, .invokevirtual 38), (67, .aload_n 1), (68, .getfield 33), (71, .ifCond .le (20)), (74, .aload_n 0), (75, .ldc 49), (77, .iconst 0), (78, .invokevirtual 38), (81, .aload_n 0), (82, .ldc 44), (84, .aload_n 1), (85, .getfield 51), (88, .invokevirtual 38), (91, .return_)]]
def kF31 : List (Nat × Nat × Nat × Nat) := [(33, 7, 0, 0), (46, 7, 1, 0), (51, 7, 2, 0)]
def kM31 : List (Nat × MF) := [(38, 32, 1, 2, 5, 4, 0)]
def kK31 : List (Nat × AV) := [(36, .inr (.inr (40, some 4))), (42, .inr (.inr (40, some 5))), (44, .inr (.inr (40, some 6))), (49, .inr (.inr (40, some 7)))]
set_option maxRecDepth 100000 in
theorem ok31 : okX 31 kc31 kF31 kM31 kK31 = true := by decide +kernel
def kc32 : List (List (Nat × Instr)) := [[(0, .aload_n 0), (1, .getfield 15), (4, .ifCond .le (9)), (7, .aload_n 0), (8, .bipush 32), (10, .invokevirtual 61), (13, .iconst 0), (14, .istore_n 3), (15, .iconst 0), (16, .istore 4), (18, .iload 4), (20, .aload_n 1), (21, .invokevirtual 101), (24, .if_icmp .ge (46)), (27, .iload_n 3), (28, .iload_n 2), (29, .if_icmp .gt (41))], [(32, .aload_n 1), (33, .iload 4), (35, .invokevirtual 106), (38, .bipush 32), (40, .if_icmp .ne (9)), (43, .iinc 3 1), (46, .goto 18), (49, .iload_n 3), (50, .iload_n 2), (51, .if_icmp .ne (13)), (54, .aload_n 0), (55, .aload_n 1), (56, .iload 4), (58, .invokevirtual 106), (61, .invokevirtual 61)], [(64, .iinc 4 1), (67, .goto (-49)), (70, .return_)]]
def kF32 : List (Nat × Nat × Nat × Nat) := [(15, 4, 1, 0)]
def kM32 : List (Nat × MF) := [(61, 33, 1, 1, 2, 4, 0), (101, 228, 1, 0, 1, 40, 1), (106, 230, 1, 1, 2, 40, 2)]
def kK32 : List (Nat × AV) := []
set_option maxRecDepth 100000 in
theorem ok32 : okX 32 kc32 kF32 kM32 kK32 = true := by decide +kernel
def kc33 : List (List (Nat × Instr)) := [[(0, .aload_n 0), (1, .getfield 15), (4, .aload_n 0), (5, .getfield 9), (8, .arraylength), (9, .if_icmp .ge (23)), (12, .aload_n 0), (13, .getfield 9), (16, .aload_n 0), (17, .getfield 15), (20, .iload_n 1), (21, .castore), (22, .aload_n 0), (23, .dup), (24, .getfield 15), (27, .iconst 1), (28, .iadd), (29, .putfield 15)], [(32, .return_)]]
def kF33 : List (Nat × Nat × Nat × Nat) := [(9, 4, 0, 28), (15, 4, 1, 0)]
def kM33 : List (Nat × MF) := []
def kK33 : List (Nat × AV) := []
set_option maxRecDepth 100000 in
theorem ok33 : okX 33 kc33 kF33 kM33 kK33 = true := by decide +kernel
def kc34 : List (List (Nat × Instr)) := [[(0, .aload_n 1), (1, .getfield 54), (4, .iconst 1), (5, .if_icmp .eq (11)), (8, .aload_n 1), (9, .getfield 54), (12, .iconst 4), (13, .if_icmp .ne (20)), (16, .aload_n 0), (17, .ldc 59), (19, .iconst 0), (20, .invokevirtual 38), (23, .aload_n 0), (24, .ldc 59), (26, .iconst 1), (27, .invokevirtual 38), (30, .goto 9)], [(33, .aload_n 0), (34, .bipush 44), (36, .invokevirtual 61), (39, .aload_n 1), (40, .getfield 54), (43, .iconst 5), (44, .if_icmp .ne (13)), (47, .aload_n 0), (48, .ldc 65), (50, .iconst 0), (51, .invokevirtual 38), (54, .goto 26), (57, .aload_n 1), (58, .getfield 54), (61, .bipush 6), (63, .if_icmp .ne (17))], [(66, .aload_n 0), (67, .ldc 67), (69, .iconst 0), (70, .invokevirtual 38), (73, .aload_n 0), (74, .ldc 67), (76, .iconst 1), (77, .invokevirtual 38), (80, .aload_n 0), (81, .ldc 69), (83, .aload_n 1), (84, .getfield 71), (87, .iconst 1), (88, .isub), (89, .invokevirtual 38), (92, .aload_n 0), (93, .aload_n 1), (94, .invokevirtual 74)], [(97, .aload_n 1), (98, .getfield 77), (101, .ifCond .le (15)), (104, .aload_n 0), (105, .ldc 80), (107, .aload_n 1), (108, .getfield 77), (111, .iconst 1), (112, .isub), (113, .invokevirtual 38), (116, .aload_n 0), (117, .ldc 44), (119, .aload_n 1), (120, .getfield 82), (123, .invokevirtual 38), (126, .aload_n 0), (127, .aload_n 1)], [(128, .invokevirtual 85), (131, .return_)]]
def kF34 : List (Nat × Nat × Nat × Nat) := [(54, 3, 0, 0), (71, 3, 2, 0), (77, 3, 3, 0), (82, 3, 4, 0)]
def kM34 : List (Nat × MF) := [(38, 32, 1, 2, 5, 4, 0), (61, 33, 1, 1, 2, 4, 0), (74, 35, 1, 1, 2, 4, 0), (85, 36, 1, 1, 3, 4, 0)]
def kK34 : List (Nat × AV) := [(44, .inr (.inr (40, some 6))), (59, .inr (.inr (40, some 8))), (65, .inr (.inr (40, some 9))), (67, .inr (.inr (40, some 10))), (69, .inr (.inr (40, some 11))), (80, .inr (.inr (40, some 12)))]
set_option maxRecDepth 100000 in
theorem ok34 : okX 34 kc34 kF34 kM34 kK34 = true := by decide +kernel
def kc35 : List (List (Nat × Instr)) := [[(0, .aload_n 1), (1, .getfield 71), (4, .iconst 1), (5, .if_icmp .ne (16)), (8, .aload_n 0), (9, .ldc 88), (11, .aload_n 1), (12, .getfield 90), (15, .invokevirtual 38), (18, .goto 16), (21, .aload_n 0), (22, .ldc 93), (24, .aload_n 1), (25, .getfield 90), (28, .bipush 16), (30, .isub), (31, .invokevirtual 38)], [(34, .return_)]]
def kF35 : List (Nat × Nat × Nat × Nat) := [(71, 3, 2, 0), (90, 3, 1, 0)]
def kM35 : List (Nat × MF) := [(38, 32, 1, 2, 5, 4, 0)]
def kK35 : List (Nat × AV) := [(88, .inr (.inr (40, some 13))), (93, .inr (.inr (40, some 14)))]
set_option maxRecDepth 100000 in
theorem ok35 : okX 35 kc35 kF35 kM35 kK35 = true := by decide +kernel
def kc36 : List (List (Nat × Instr)) := [[(0, .iconst 0), (1, .istore_n 2), (2, .iload_n 2), (3, .iconst 5), (4, .if_icmp .ge (38)), (7, .aload_n 1), (8, .getfield 95), (11, .iload_n 2), (12, .iaload), (13, .iconst (-1)), (14, .if_icmp .eq (22)), (17, .aload_n 0), (18, .ldc 99), (20, .iload_n 2), (21, .invokevirtual 38), (24, .aload_n 0), (25, .ldc 44), (27, .aload_n 1), (28, .getfield 95), (31, .iload_n 2)], [(32, .iaload), (33, .invokevirtual 38), (36, .iinc 2 1), (39, .goto (-37)), (42, .return_)]]
def kF36 : List (Nat × Nat × Nat × Nat) := [(95, 3, 5, 26)]
def kM36 : List (Nat × MF) := [(38, 32, 1, 2, 5, 4, 0)]
def kK36 : List (Nat × AV) := [(44, .inr (.inr (40, some 6))), (99, .inr (.inr (40, some 15)))]
set_option maxRecDepth 100000 in
theorem ok36 : okX 36 kc36 kF36 kM36 kK36 = true := by decide +kernel
def kc37 : List (List (Nat × Instr)) := [[(0, .iload_n 1), (1, .ifCond .lt (20)), (4, .iload_n 1), (5, .aload_n 0), (6, .getfield 15), (9, .if_icmp .ge (12)), (12, .aload_n 0), (13, .getfield 9), (16, .iload_n 1), (17, .caload), (18, .goto 4), (21, .iconst (-1)), (22, .ireturn)]]
def kF37 : List (Nat × Nat × Nat × Nat) := [(9, 4, 0, 28), (15, 4, 1, 0)]
def kM37 : List (Nat × MF) := []
def kK37 : List (Nat × AV) := []
set_option maxRecDepth 100000 in
theorem ok37 : okX 37 kc37 kF37 kM37 kK37 = true := by decide +kernel
def kc38 : List (List (Nat × Instr)) := [[(0, .aload_n 0), (1, .invokespecial 3), (4, .aload_n 0), (5, .bipush 32), (7, .newarray .int), (9, .putfield 11), (12, .aload_n 0), (13, .iload_n 1), (14, .putfield 15), (17, .aload_n 0), (18, .iload_n 2), (19, .putfield 19), (22, .aload_n 0), (23, .aload_n 3), (24, .putfield 23), (27, .aload_n 0), (28, .aload 4), (30, .putfield 27)], [(33, .aload_n 0), (34, .iconst (-1)), (35, .putfield 30), (38, .aload_n 0), (39, .iload_n 2), (40, .ifCond .eq (10)), (43, .aload_n 3), (44, .getfield 39), (47, .goto 4), (50, .iconst 0), (51, .putfield 33), (54, .aload_n 0), (55, .aload_n 3), (56, .getfield 36), (59, .iconst 1), (60, .iadd), (61, .putfield 36)], [(64, .return_)]]
def kF38 : List (Nat × Nat × Nat × Nat) := [(11, 5, 10, 26), (15, 5, 0, 0), (19, 5, 1, 2), (23, 5, 2, 10), (27, 5, 3, 10), (30, 5, 4, 0), (33, 5, 5, 0), (36, 5, 6, 0), (39, 5, 8, 0)]
def kM38 : List (Nat × MF) := []
def kK38 : List (Nat × AV) := []
set_option maxRecDepth 100000 in
theorem ok38 : okX 38 kc38 kF38 kM38 kK38 = true := by decide +kernel
def kc39 : List (List (Nat × Instr)) := [[(0, .aload_n 0), (1, .invokespecial 3), (4, .aload_n 0), (5, .bipush 32), (7, .newarray .int), (9, .putfield 11), (12, .aload_n 0), (13, .iload_n 1), (14, .putfield 15), (17, .aload_n 0), (18, .iload_n 2), (19, .putfield 19), (22, .aload_n 0), (23, .aconst_null), (24, .putfield 23), (27, .aload_n 0), (28, .aconst_null), (29, .putfield 27)], [(32, .aload_n 0), (33, .iload_n 3), (34, .putfield 30), (37, .aload_n 0), (38, .iconst 0), (39, .putfield 33), (42, .aload_n 0), (43, .iconst 0), (44, .putfield 36), (47, .return_)]]
def kF39 : List (Nat × Nat × Nat × Nat) := [(11, 5, 10, 26), (15, 5, 0, 0), (19, 5, 1, 2), (23, 5, 2, 10), (27, 5, 3, 10), (30, 5, 4, 0), (33, 5, 5, 0), (36, 5, 6, 0)]
def kM39 : List (Nat × MF) := []
def kK39 : List (Nat × AV) := []
set_option maxRecDepth 100000 in
theorem ok39 : okX 39 kc39 kF39 kM39 kK39 = true := by decide +kernel
def kc40 : List (List (Nat × Instr)) := [[(0, .aload_n 0), (1, .iconst 0), (2, .putfield 42), (5, .aload_n 0), (6, .lconst 0), (7, .putfield 45), (10, .aload_n 0), (11, .getfield 23), (14, .ifnonnull 14), (17, .aload_n 0), (18, .aload_n 0), (19, .getfield 30), (22, .invokevirtual 49), (25, .goto 11), (28, .aload_n 0), (29, .aload_n 0), (30, .getfield 23)], [(33, .invokevirtual 53), (36, .aload_n 0), (37, .getfield 27), (40, .ifnull 21), (43, .aload_n 0), (44, .getfield 27), (47, .invokevirtual 57), (50, .ifCond .eq (11)), (53, .aload_n 0), (54, .aload_n 0), (55, .getfield 27), (58, .invokevirtual 53), (61, .return_)]]
def kF40 : List (Nat × Nat × Nat × Nat) := [(23, 5, 2, 10), (27, 5, 3, 10), (30, 5, 4, 0), (42, 5, 11, 0), (45, 5, 12, 1)]
def kM40 : List (Nat × MF) := [(49, 41, 1, 1, 4, 5, 0), (53, 42, 1, 1, 3, 5, 0), (57, 43, 1, 0, 1, 5, 2)]
def kK40 : List (Nat × AV) := []
set_option maxRecDepth 100000 in
theorem ok40 : okX 40 kc40 kF40 kM40 kK40 = true := by decide +kernel
def kc41 : List (List (Nat × Instr)) := [[(0, .lconst 1), (1, .iload_n 1), (2, .lshl), (3, .lstore_n 2), (4, .aload_n 0), (5, .getfield 45), (8, .lload_n 2), (9, .land), (10, .lconst 0), (11, .lcmp), (12, .ifCond .ne (42)), (15, .aload_n 0), (16, .getfield 42), (19, .bipush 32), (21, .if_icmp .ge (33)), (24, .aload_n 0), (25, .getfield 11), (28, .aload_n 0), (29, .getfield 42)], [(32, .iload_n 1), (33, .iastore), (34, .aload_n 0), (35, .dup), (36, .getfield 42), (39, .iconst 1), (40, .iadd), (41, .putfield 42), (44, .aload_n 0), (45, .dup), (46, .getfield 45), (49, .lload_n 2), (50, .lor), (51, .putfield 45), (54, .return_)]]
def kF41 : List (Nat × Nat × Nat × Nat) := [(11, 5, 10, 26), (42, 5, 11, 0), (45, 5, 12, 1)]
def kM41 : List (Nat × MF) := []
def kK41 : List (Nat × AV) := []
set_option maxRecDepth 100000 in
theorem ok41 : okX 41 kc41 kF41 kM41 kK41 = true := by decide +kernel
def kc42 : List (List (Nat × Instr)) := [[(0, .iconst 0), (1, .istore_n 2), (2, .iload_n 2), (3, .aload_n 1), (4, .getfield 42), (7, .if_icmp .ge (19)), (10, .aload_n 0), (11, .aload_n 1), (12, .getfield 11), (15, .iload_n 2), (16, .iaload), (17, .invokevirtual 49), (20, .iinc 2 1), (23, .goto (-21)), (26, .return_)]]
def kF42 : List (Nat × Nat × Nat × Nat) := [(11, 5, 10, 26), (42, 5, 11, 0)]
def kM42 : List (Nat × MF) := [(49, 41, 1, 1, 4, 5, 0)]
def kK42 : List (Nat × AV) := []
set_option maxRecDepth 100000 in
theorem ok42 : okX 42 kc42 kF42 kM42 kK42 = true := by decide +kernel
def kc43 : List (List (Nat × Instr)) := [[(0, .aload_n 0), (1, .getfield 19), (4, .ifCond .ne (24)), (7, .aload_n 0), (8, .getfield 23), (11, .ifnull 17), (14, .aload_n 0), (15, .getfield 23), (18, .getfield 39), (21, .ifCond .ne (7)), (24, .iconst 1), (25, .goto 4), (28, .iconst 0), (29, .ireturn)]]
def kF43 : List (Nat × Nat × Nat × Nat) := [(19, 5, 1, 2), (23, 5, 2, 10), (39, 5, 8, 0)]
def kM43 : List (Nat × MF) := []
def kK43 : List (Nat × AV) := []
set_option maxRecDepth 100000 in
theorem ok43 : okX 43 kc43 kF43 kM43 kK43 = true := by decide +kernel
def kc44 : List (List (Nat × Instr)) := [[(0, .iload_n 1), (1, .ifCond .lt (20)), (4, .iload_n 1), (5, .aload_n 0), (6, .getfield 42), (9, .if_icmp .ge (12)), (12, .aload_n 0), (13, .getfield 11), (16, .iload_n 1), (17, .iaload), (18, .goto 4), (21, .iconst (-1)), (22, .ireturn)]]
def kF44 : List (Nat × Nat × Nat × Nat) := [(11, 5, 10, 26), (42, 5, 11, 0)]
def kM44 : List (Nat × MF) := []
def kK44 : List (Nat × AV) := []
set_option maxRecDepth 100000 in
theorem ok44 : okX 44 kc44 kF44 kM44 kK44 = true := by decide +kernel
def kc45 : List (List (Nat × Instr)) := [[(0, .aload_n 0), (1, .invokespecial 3), (4, .aload_n 0), (5, .bipush 100), (7, .anewarray 11), (10, .putfield 13), (13, .return_)]]
def kF45 : List (Nat × Nat × Nat × Nat) := [(13, 6, 0, 40)]
def kM45 : List (Nat × MF) := []
def kK45 : List (Nat × AV) := []
set_option maxRecDepth 100000 in
theorem ok45 : okX 45 kc45 kF45 kM45 kK45 = true := by decide +kernel
def kc46 : List (List (Nat × Instr)) := [[(0, .aload_n 0), (1, .iload_n 2), (2, .invokevirtual 24), (5, .astore 4), (7, .aload_n 0), (8, .iload_n 3), (9, .invokevirtual 24), (12, .astore 5), (14, .aload_n 0), (15, .getfield 17), (18, .bipush 100), (20, .if_icmp .ge (13)), (23, .aload 4), (25, .ifnull 8), (28, .aload 5), (30, .ifnonnull 5)], [(33, .iconst (-1)), (34, .ireturn), (35, .aload 4), (37, .getfield 28), (40, .ifCond .eq (13)), (43, .aload 4), (45, .getfield 32), (48, .aload 5), (50, .if_acmp .eq (5)), (53, .iconst (-1)), (54, .ireturn), (55, .aload_n 0), (56, .getfield 13), (59, .aload_n 0), (60, .getfield 17), (63, .new 11)], [(66, .dup), (67, .aload_n 0), (68, .getfield 17), (71, .iload_n 1), (72, .aload 4), (74, .aload 5), (76, .invokespecial 36), (79, .aastore), (80, .aload_n 0), (81, .dup), (82, .getfield 17), (85, .iconst 1), (86, .iadd), (87, .putfield 17), (90, .aload 4), (92, .dup), (93, .getfield 39)], [(96, .iconst 1), (97, .iadd), (98, .putfield 39), (101, .aload 5), (103, .dup), (104, .getfield 39), (107, .iconst 1), (108, .iadd), (109, .putfield 39), (112, .iload_n 1), (113, .ifCond .eq (14)), (116, .aload 4), (118, .dup), (119, .getfield 42), (122, .iconst 1), (123, .iadd), (124, .putfield 42), (127, .aload_n 0)], [(128, .getfield 17), (131, .iconst 1), (132, .isub), (133, .ireturn)]]
def kF46 : List (Nat × Nat × Nat × Nat) := [(13, 6, 0, 40), (17, 6, 1, 0), (28, 5, 1, 2), (32, 5, 7, 10), (39, 5, 9, 0), (42, 5, 8, 0)]
def kM46 : List (Nat × MF) := [(24, 47, 1, 1, 2, 6, 10), (36, 38, 2, 4, 5, 5, 0)]
def kK46 : List (Nat × AV) := []
set_option maxRecDepth 100000 in
theorem ok46 : okX 46 kc46 kF46 kM46 kK46 = true := by decide +kernel
def kc47 : List (List (Nat × Instr)) := [[(0, .iload_n 1), (1, .ifCond .lt (20)), (4, .iload_n 1), (5, .aload_n 0), (6, .getfield 17), (9, .if_icmp .ge (12)), (12, .aload_n 0), (13, .getfield 13), (16, .iload_n 1), (17, .aaload), (18, .goto 4), (21, .aconst_null), (22, .areturn)]]
def kF47 : List (Nat × Nat × Nat × Nat) := [(13, 6, 0, 40), (17, 6, 1, 0)]
def kM47 : List (Nat × MF) := []
def kK47 : List (Nat × AV) := []
set_option maxRecDepth 100000 in
theorem ok47 : okX 47 kc47 kF47 kM47 kK47 = true := by decide +kernel
def kc48 : List (List (Nat × Instr)) := [[(0, .aload_n 0), (1, .getfield 17), (4, .bipush 100), (6, .if_icmp .lt (5)), (9, .iconst (-1)), (10, .ireturn), (11, .aload_n 0), (12, .getfield 13), (15, .aload_n 0), (16, .getfield 17), (19, .new 11), (22, .dup), (23, .aload_n 0), (24, .getfield 17), (27, .iload_n 1), (28, .iload_n 2), (29, .invokespecial 21)], [(32, .aastore), (33, .aload_n 0), (34, .dup), (35, .getfield 17), (38, .iconst 1), (39, .iadd), (40, .putfield 17), (43, .aload_n 0), (44, .getfield 17), (47, .iconst 1), (48, .isub), (49, .ireturn)]]
def kF48 : List (Nat × Nat × Nat × Nat) := [(13, 6, 0, 40), (17, 6, 1, 0)]
def kM48 : List (Nat × MF) := [(21, 39, 2, 3, 4, 5, 0)]
def kK48 : List (Nat × AV) := []
set_option maxRecDepth 100000 in
theorem ok48 : okX 48 kc48 kF48 kM48 kK48 = true := by decide +kernel
def kc49 : List (List (Nat × Instr)) := [[(0, .aload_n 0), (1, .iload_n 1), (2, .invokevirtual 24), (5, .astore_n 3), (6, .aload_n 0), (7, .iload_n 2), (8, .invokevirtual 24), (11, .astore 4), (13, .aload_n 3), (14, .ifnull 23), (17, .aload 4), (19, .ifnull 18), (22, .aload_n 3), (23, .getfield 28), (26, .ifCond .eq (11)), (29, .aload 4), (31, .getfield 28)], [(34, .ifCond .eq (5)), (37, .iconst 0), (38, .ireturn), (39, .aload_n 3), (40, .getfield 32), (43, .ifnonnull 11), (46, .aload 4), (48, .getfield 32), (51, .ifnull 5), (54, .iconst 0), (55, .ireturn), (56, .aload_n 3), (57, .aload 4), (59, .putfield 32), (62, .aload 4)], [(64, .aload_n 3), (65, .putfield 32), (68, .iconst 1), (69, .ireturn)]]
def kF49 : List (Nat × Nat × Nat × Nat) := [(28, 5, 1, 2), (32, 5, 7, 10)]
def kM49 : List (Nat × MF) := [(24, 47, 1, 1, 2, 6, 10)]
def kK49 : List (Nat × AV) := []
set_option maxRecDepth 100000 in
theorem ok49 : okX 49 kc49 kF49 kM49 kK49 = true := by decide +kernel
def kc50 : List (List (Nat × Instr)) := [[(0, .aload_n 0), (1, .iload_n 1), (2, .invokevirtual 24), (5, .astore_n 3), (6, .aload_n 3), (7, .ifnonnull 5), (10, .iconst (-1)), (11, .ireturn), (12, .iload_n 2), (13, .ifCond .eq (9)), (16, .iload_n 2), (17, .bipush 100), (19, .if_icmp .lt (7)), (22, .aload_n 0), (23, .invokevirtual 45), (26, .iload_n 2), (27, .tableswitch (89) (0) (5) #[37, 42, 55, 60, 65, 84])], [], [(64, .aload_n 3), (65, .getfield 48), (68, .ireturn), (69, .aload_n 3), (70, .invokevirtual 51), (73, .ifCond .eq (7)), (76, .iconst 1), (77, .goto 4), (80, .iconst 0), (81, .ireturn), (82, .aload_n 3), (83, .getfield 55), (86, .ireturn), (87, .aload_n 3), (88, .getfield 58), (91, .ireturn), (92, .aload_n 3), (93, .getfield 32)], [(96, .ifnonnull 7), (99, .iconst (-1)), (100, .goto 10), (103, .aload_n 3), (104, .getfield 32), (107, .getfield 61), (110, .ireturn), (111, .aload_n 3), (112, .getfield 39), (115, .ireturn), (116, .iload_n 2), (117, .bipush 100), (119, .if_icmp .lt (14)), (122, .aload_n 3), (123, .iload_n 2), (124, .bipush 100), (126, .isub), (127, .invokevirtual 64)], [(130, .goto 4), (133, .iconst (-1)), (134, .ireturn)]]
def kF50 : List (Nat × Nat × Nat × Nat) := [(32, 5, 7, 10), (39, 5, 9, 0), (48, 5, 11, 0), (55, 5, 5, 0), (58, 5, 6, 0), (61, 5, 0, 0)]
def kM50 : List (Nat × MF) := [(24, 47, 1, 1, 2, 6, 10), (45, 51, 1, 0, 2, 6, 0), (51, 43, 1, 0, 1, 5, 2), (64, 44, 1, 1, 2, 5, 1)]
def kK50 : List (Nat × AV) := []
set_option maxRecDepth 100000 in
theorem ok50 : okX 50 kc50 kF50 kM50 kK50 = true := by decide +kernel
def kc51 : List (List (Nat × Instr)) := [[(0, .aload_n 0), (1, .getfield 68), (4, .aload_n 0), (5, .getfield 17), (8, .if_icmp .ne (4)), (11, .return_), (12, .iconst 0), (13, .istore_n 1), (14, .iload_n 1), (15, .aload_n 0), (16, .getfield 17), (19, .if_icmp .ge (18)), (22, .aload_n 0), (23, .getfield 13), (26, .iload_n 1), (27, .aaload), (28, .invokevirtual 71), (31, .iinc 1 1)], [(34, .goto (-20)), (37, .aload_n 0), (38, .aload_n 0), (39, .getfield 17), (42, .putfield 68), (45, .return_)]]
def kF51 : List (Nat × Nat × Nat × Nat) := [(13, 6, 0, 40), (17, 6, 1, 0), (68, 6, 2, 0)]
def kM51 : List (Nat × MF) := [(71, 40, 1, 0, 1, 5, 0)]
def kK51 : List (Nat × AV) := []
set_option maxRecDepth 100000 in
theorem ok51 : okX 51 kc51 kF51 kM51 kK51 = true := by decide +kernel
def kc52 : List (List (Nat × Instr)) := [[(0, .aload_n 0), (1, .invokespecial 3), (4, .aload_n 0), (5, .iconst (-1)), (6, .putfield 9), (9, .aload_n 0), (10, .iconst (-1)), (11, .putfield 15), (14, .aload_n 0), (15, .bipush 7), (17, .anewarray 18), (20, .putfield 20), (23, .return_)]]
def kF52 : List (Nat × Nat × Nat × Nat) := [(9, 7, 1, 0), (15, 7, 2, 0), (20, 7, 3, 38)]
def kM52 : List (Nat × MF) := []
def kK52 : List (Nat × AV) := []
set_option maxRecDepth 100000 in
theorem ok52 : okX 52 kc52 kF52 kM52 kK52 = true := by decide +kernel
def kc53 : List (List (Nat × Instr)) := [[(0, .aload_n 1), (1, .getfield 24), (4, .ifCond .lt (22)), (7, .aload_n 1), (8, .getfield 24), (11, .bipush 7), (13, .if_icmp .ge (13)), (16, .aload_n 0), (17, .getfield 20), (20, .aload_n 1), (21, .getfield 24), (24, .aload_n 1), (25, .aastore), (26, .return_)]]
def kF53 : List (Nat × Nat × Nat × Nat) := [(20, 7, 3, 38), (24, 3, 0, 0)]
def kM53 : List (Nat × MF) := []
def kK53 : List (Nat × AV) := []
set_option maxRecDepth 100000 in
theorem ok53 : okX 53 kc53 kF53 kM53 kK53 = true := by decide +kernel
def kc54 : List (List (Nat × Instr)) := [[(0, .aload_n 0), (1, .getfield 27), (4, .aload_n 1), (5, .getfield 27), (8, .if_icmp .ne (29)), (11, .aload_n 0), (12, .getfield 9), (15, .aload_n 1), (16, .getfield 9), (19, .if_icmp .ne (18)), (22, .aload_n 0), (23, .getfield 15), (26, .aload_n 1), (27, .getfield 15), (30, .if_icmp .ne (7))], [(33, .iconst 1), (34, .goto 4), (37, .iconst 0), (38, .istore_n 2), (39, .iload_n 2), (40, .ifCond .eq (7)), (43, .iconst 0), (44, .goto 4), (47, .iconst 1), (48, .istore_n 3), (49, .iconst 0), (50, .istore 4), (52, .iload 4), (54, .bipush 7), (56, .if_icmp .ge (32)), (59, .aload_n 0), (60, .getfield 20), (63, .iload 4)], [(65, .aaload), (66, .aload_n 1), (67, .getfield 20), (70, .iload 4), (72, .aaload), (73, .invokestatic 34), (76, .ifCond .ne (6)), (79, .iinc 3 1), (82, .iinc 4 1), (85, .goto (-33)), (88, .iload_n 3), (89, .ireturn)]]
def kF54 : List (Nat × Nat × Nat × Nat) := [(9, 7, 1, 0), (15, 7, 2, 0), (20, 7, 3, 38), (27, 7, 0, 0)]
def kM54 : List (Nat × MF) := [(34, 55, 0, 2, 2, 7, 2)]
def kK54 : List (Nat × AV) := []
set_option maxRecDepth 100000 in
theorem ok54 : okX 54 kc54 kF54 kM54 kK54 = true := by decide +kernel
def kc55 : List (List (Nat × Instr)) := [[(0, .aload_n 0), (1, .ifnull 7), (4, .aload_n 1), (5, .ifnonnull 14), (8, .aload_n 0), (9, .aload_n 1), (10, .if_acmp .ne (7)), (13, .iconst 1), (14, .goto 4), (17, .iconst 0), (18, .ireturn), (19, .aload_n 0), (20, .aload_n 1), (21, .invokevirtual 48), (24, .ireturn)]]
def kF55 : List (Nat × Nat × Nat × Nat) := []
def kM55 : List (Nat × MF) := [(48, 24, 1, 1, 3, 3, 2)]
def kK55 : List (Nat × AV) := []
set_option maxRecDepth 100000 in
theorem ok55 : okX 55 kc55 kF55 kM55 kK55 = true := by decide +kernel
def kc56 : List (List (Nat × Instr)) := [[(0, .iload_n 1), (1, .ifCond .lt (18)), (4, .iload_n 1), (5, .bipush 7), (7, .if_icmp .ge (12)), (10, .aload_n 0), (11, .getfield 20), (14, .iload_n 1), (15, .aaload), (16, .goto 4), (19, .aconst_null), (20, .areturn)]]
def kF56 : List (Nat × Nat × Nat × Nat) := [(20, 7, 3, 38)]
def kM56 : List (Nat × MF) := []
def kK56 : List (Nat × AV) := []
set_option maxRecDepth 100000 in
theorem ok56 : okX 56 kc56 kF56 kM56 kK56 = true := by decide +kernel
def kc57 : List (List (Nat × Instr)) := [[(0, .iload_n 1), (1, .tableswitch (51) (0) (3) #[31, 36, 41, 46])], [(32, .aload_n 0), (33, .getfield 27), (36, .ireturn), (37, .aload_n 0), (38, .getfield 9), (41, .ireturn), (42, .aload_n 0), (43, .getfield 15), (46, .ireturn), (47, .aload_n 0), (48, .invokevirtual 30), (51, .ireturn), (52, .iconst (-1)), (53, .ireturn)]]
def kF57 : List (Nat × Nat × Nat × Nat) := [(9, 7, 1, 0), (15, 7, 2, 0), (27, 7, 0, 0)]
def kM57 : List (Nat × MF) := [(30, 58, 1, 0, 3, 7, 1)]
def kK57 : List (Nat × AV) := []
set_option maxRecDepth 100000 in
theorem ok57 : okX 57 kc57 kF57 kM57 kK57 = true := by decide +kernel
def kc58 : List (List (Nat × Instr)) := [[(0, .iconst 0), (1, .istore_n 1), (2, .iconst 0), (3, .istore_n 2), (4, .iload_n 2), (5, .bipush 7), (7, .if_icmp .ge (21)), (10, .aload_n 0), (11, .getfield 20), (14, .iload_n 2), (15, .aaload), (16, .ifnull 6), (19, .iinc 1 1), (22, .iinc 2 1), (25, .goto (-21)), (28, .iload_n 1), (29, .ireturn)]]
def kF58 : List (Nat × Nat × Nat × Nat) := [(20, 7, 3, 38)]
def kM58 : List (Nat × MF) := []
def kK58 : List (Nat × AV) := []
set_option maxRecDepth 100000 in
theorem ok58 : okX 58 kc58 kF58 kM58 kK58 = true := by decide +kernel
def kc59 : List (List (Nat × Instr)) := [[(0, .iconst 0), (1, .istore_n 2), (2, .iconst 0), (3, .istore_n 3), (4, .iload_n 3), (5, .bipush 7), (7, .if_icmp .ge (33)), (10, .aload_n 0), (11, .getfield 20), (14, .iload_n 3), (15, .aaload), (16, .ifnull 18), (19, .iload_n 2), (20, .iload_n 1), (21, .if_icmp .ne (10)), (24, .aload_n 0), (25, .getfield 20), (28, .iload_n 3), (29, .aaload), (30, .areturn), (31, .iinc 2 1)], [(34, .iinc 3 1), (37, .goto (-33)), (40, .aconst_null), (41, .areturn)]]
def kF59 : List (Nat × Nat × Nat × Nat) := [(20, 7, 3, 38)]
def kM59 : List (Nat × MF) := []
def kK59 : List (Nat × AV) := []
set_option maxRecDepth 100000 in
theorem ok59 : okX 59 kc59 kF59 kM59 kK59 = true := by decide +kernel
def kc60 : List (List (Nat × Instr)) := [[(0, .aconst_null), (1, .astore_n 2), (2, .aload_n 1), (3, .getfield 24), (6, .iconst 1), (7, .if_icmp .ne (13)), (10, .aload_n 0), (11, .getfield 20), (14, .iconst 0), (15, .aaload), (16, .astore_n 2), (17, .goto 18), (20, .aload_n 1), (21, .getfield 24), (24, .iconst 4), (25, .if_icmp .ne (10)), (28, .aload_n 0), (29, .getfield 20)], [(32, .iconst 3), (33, .aaload), (34, .astore_n 2), (35, .aload_n 2), (36, .ifnonnull 10), (39, .aload_n 0), (40, .invokevirtual 38), (43, .goto 10), (46, .aload_n 2), (47, .getfield 41), (50, .invokestatic 44), (53, .ireturn)]]
def kF60 : List (Nat × Nat × Nat × Nat) := [(20, 7, 3, 38), (24, 3, 0, 0), (41, 3, 4, 0)]
def kM60 : List (Nat × MF) := [(38, 61, 1, 0, 2, 7, 1), (44, 102, 0, 1, 1, 10, 1)]
def kK60 : List (Nat × AV) := []
set_option maxRecDepth 100000 in
theorem ok60 : okX 60 kc60 kF60 kM60 kK60 = true := by decide +kernel
def kc61 : List (List (Nat × Instr)) := [[(0, .aload_n 0), (1, .getfield 9), (4, .invokestatic 44), (7, .istore_n 1), (8, .aload_n 0), (9, .getfield 27), (12, .ifCond .eq (14)), (15, .iload_n 1), (16, .aload_n 0), (17, .getfield 15), (20, .invokestatic 44), (23, .if_icmp .ne (7)), (26, .iload_n 1), (27, .goto 4), (30, .iconst 0), (31, .ireturn)]]
def kF61 : List (Nat × Nat × Nat × Nat) := [(9, 7, 1, 0), (15, 7, 2, 0), (27, 7, 0, 0)]
def kM61 : List (Nat × MF) := [(44, 102, 0, 1, 1, 10, 1)]
def kK61 : List (Nat × AV) := []
set_option maxRecDepth 100000 in
theorem ok61 : okX 61 kc61 kF61 kM61 kK61 = true := by decide +kernel
def kc62 : List (List (Nat × Instr)) := [[(0, .aload_n 0), (1, .invokespecial 3), (4, .aload_n 0), (5, .aload_n 1), (6, .putfield 9), (9, .return_)]]
def kF62 : List (Nat × Nat × Nat × Nat) := [(9, 8, 0, 14)]
def kM62 : List (Nat × MF) := []
def kK62 : List (Nat × AV) := []
set_option maxRecDepth 100000 in
theorem ok62 : okX 62 kc62 kF62 kM62 kK62 = true := by decide +kernel
def kc63 : List (List (Nat × Instr)) := [[(0, .new 15), (3, .dup), (4, .invokespecial 17), (7, .astore_n 1), (8, .aload_n 0), (9, .aload_n 1), (10, .invokevirtual 18), (13, .ifCond .ne (5)), (16, .aconst_null), (17, .areturn), (18, .iconst (-1)), (19, .istore_n 2), (20, .iconst 0), (21, .istore_n 3), (22, .iload_n 3), (23, .bipush 7), (25, .if_icmp .ge (33)), (28, .aload_n 0), (29, .getfield 9)], [(32, .invokevirtual 22), (35, .ifCond .ne (23)), (38, .aload_n 0), (39, .aload_n 1), (40, .iload_n 2), (41, .invokevirtual 28), (44, .istore_n 2), (45, .iload_n 2), (46, .iconst (-1)), (47, .if_icmp .ne (5)), (50, .aconst_null), (51, .areturn), (52, .iinc 3 1), (55, .goto (-33)), (58, .aload_n 0), (59, .getfield 9), (62, .invokevirtual 22)], [(65, .ifCond .eq (7)), (68, .aload_n 1), (69, .goto 4), (72, .aconst_null), (73, .areturn)]]
def kF63 : List (Nat × Nat × Nat × Nat) := [(9, 8, 0, 14)]
def kM63 : List (Nat × MF) := [(17, 52, 2, 0, 1, 7, 0), (18, 64, 1, 1, 3, 8, 2), (22, 78, 1, 0, 1, 9, 2), (28, 65, 1, 2, 5, 8, 1)]
def kK63 : List (Nat × AV) := []
set_option maxRecDepth 100000 in
theorem ok63 : okX 63 kc63 kF63 kM63 kK63 = true := by decide +kernel
def kc64 : List (List (Nat × Instr)) := [[(0, .aload_n 0), (1, .getfield 9), (4, .ldc 32), (6, .invokevirtual 34), (9, .istore_n 2), (10, .iload_n 2), (11, .iconst (-1)), (12, .if_icmp .ne (30)), (15, .aload_n 1), (16, .aload_n 0), (17, .getfield 9), (20, .ldc 38), (22, .invokevirtual 34), (25, .putfield 40), (28, .aload_n 1), (29, .getfield 40)], [(32, .iconst (-1)), (33, .if_icmp .eq (7)), (36, .iconst 1), (37, .goto 4), (40, .iconst 0), (41, .ireturn), (42, .aload_n 1), (43, .iload_n 2), (44, .ifCond .ne (17)), (47, .aload_n 0), (48, .getfield 9), (51, .ldc 44), (53, .invokevirtual 34), (56, .iconst 1), (57, .iadd), (58, .goto 6), (61, .iload_n 2), (62, .iconst 5), (63, .iadd)], [(64, .putfield 46), (67, .aload_n 1), (68, .getfield 46), (71, .ifCond .ne (5)), (74, .iconst 0), (75, .ireturn), (76, .aload_n 1), (77, .aload_n 0), (78, .getfield 9), (81, .ldc 38), (83, .invokevirtual 34), (86, .putfield 40), (89, .aload_n 1), (90, .getfield 40), (93, .iconst (-1)), (94, .if_icmp .eq (15))], [(97, .aload_n 0), (98, .getfield 9), (101, .ldc 49), (103, .invokevirtual 51), (106, .ifCond .ne (5)), (109, .iconst 0), (110, .ireturn), (111, .aload_n 0), (112, .getfield 9), (115, .ldc 38), (117, .invokevirtual 55), (120, .aload_n 1), (121, .getfield 40), (124, .if_icmp .ne (5)), (127, .iconst 0)], [(128, .ireturn), (129, .aload_n 1), (130, .aload_n 0), (131, .getfield 9), (134, .ldc 38), (136, .invokevirtual 34), (139, .putfield 58), (142, .aload_n 1), (143, .getfield 58), (146, .iconst (-1)), (147, .if_icmp .eq (7)), (150, .iconst 1), (151, .goto 4), (154, .iconst 0), (155, .ireturn)]]
def kF64 : List (Nat × Nat × Nat × Nat) := [(9, 8, 0, 14), (40, 7, 1, 0), (46, 7, 0, 0), (58, 7, 2, 0)]
def kM64 : List (Nat × MF) := [(34, 80, 1, 1, 3, 9, 1), (51, 79, 1, 1, 2, 9, 2), (55, 81, 1, 1, 7, 9, 1)]
def kK64 : List (Nat × AV) := [(32, .inr (.inr (40, some 16))), (38, .inr (.inr (40, some 17))), (44, .inr (.inr (40, some 18))), (49, .inr (.inr (40, some 19)))]
set_option maxRecDepth 100000 in
theorem ok64 : okX 64 kc64 kF64 kM64 kK64 = true := by decide +kernel
def kc65 : List (List (Nat × Instr)) := [[(0, .iload_n 2), (1, .ifCond .eq (8)), (4, .iload_n 2), (5, .iconst 3), (6, .if_icmp .ne (24)), (9, .aload_n 0), (10, .getfield 9), (13, .ldc 61), (15, .invokevirtual 51), (18, .ifCond .eq (12)), (21, .aload_n 0), (22, .aload_n 1), (23, .iload_n 2), (24, .iconst 1), (25, .iadd), (26, .invokevirtual 63), (29, .ireturn), (30, .iload_n 2), (31, .bipush 6)], [(33, .if_icmp .eq (15)), (36, .aload_n 0), (37, .getfield 9), (40, .bipush 44), (42, .invokevirtual 66), (45, .ifCond .ne (5)), (48, .iconst (-1)), (49, .ireturn), (50, .aload_n 0), (51, .getfield 9), (54, .ldc 70), (56, .invokevirtual 55), (59, .istore_n 3), (60, .iload_n 3), (61, .iconst (-1)), (62, .if_icmp .eq (11))], [(65, .iload_n 2), (66, .iload_n 3), (67, .invokestatic 72), (70, .if_icmp .lt (5)), (73, .iconst (-1)), (74, .ireturn), (75, .aload_n 0), (76, .getfield 9), (79, .invokevirtual 76), (82, .iload_n 3), (83, .bipush 6), (85, .if_icmp .ne (9)), (88, .aload_n 0), (89, .aload_n 1), (90, .invokevirtual 79), (93, .ireturn), (94, .iload_n 3), (95, .bipush 7)], [(97, .if_icmp .ne (9)), (100, .aload_n 0), (101, .aload_n 1), (102, .invokevirtual 83), (105, .ireturn), (106, .iload_n 3), (107, .ifCond .ne (15)), (110, .aload_n 0), (111, .getfield 9), (114, .ldc 86), (116, .invokevirtual 55), (119, .goto 4), (122, .iconst (-1)), (123, .istore 4), (125, .iload 4), (127, .bipush 8)], [(129, .if_icmp .lt (30)), (132, .iload 4), (134, .bipush 14), (136, .if_icmp .gt (23)), (139, .iload_n 2), (140, .ifCond .ge (19)), (143, .aload_n 0), (144, .getfield 9), (147, .invokevirtual 76), (150, .aload_n 0), (151, .aload_n 1), (152, .iconst 0), (153, .iload 4), (155, .invokevirtual 88), (158, .ireturn), (159, .iload 4)], [(161, .bipush 7), (163, .if_icmp .ne (19)), (166, .aload_n 0), (167, .getfield 9), (170, .invokevirtual 76), (173, .aload_n 0), (174, .aload_n 1), (175, .iconst 3), (176, .iload 4), (178, .invokevirtual 88), (181, .ireturn), (182, .iload_n 2), (183, .iconst 2), (184, .if_icmp .ge (15)), (187, .aload_n 0), (188, .aload_n 1), (189, .iconst 2), (190, .iload_n 3), (191, .iconst 1)], [(192, .iadd), (193, .invokevirtual 92), (196, .goto 4), (199, .iconst (-1)), (200, .ireturn)]]
def kF65 : List (Nat × Nat × Nat × Nat) := [(9, 8, 0, 14)]
def kM65 : List (Nat × MF) := [(51, 79, 1, 1, 2, 9, 2), (55, 81, 1, 1, 7, 9, 1), (63, 66, 1, 2, 4, 8, 1), (66, 83, 1, 1, 2, 9, 2), (72, 71, 0, 1, 1, 8, 1), (76, 77, 1, 0, 1, 9, 0), (79, 72, 1, 1, 3, 8, 1), (83, 74, 1, 1, 3, 8, 1), (88, 73, 1, 3, 5, 8, 1), (92, 67, 1, 3, 6, 8, 1)]
def kK65 : List (Nat × AV) := [(61, .inr (.inr (40, some 20))), (70, .inr (.inr (40, some 21))), (86, .inr (.inr (40, some 22)))]
set_option maxRecDepth 100000 in
theorem ok65 : okX 65 kc65 kF65 kM65 kK65 = true := by decide +kernel
def kc66 : List (List (Nat × Instr)) := [[(0, .aload_n 0), (1, .getfield 9), (4, .ldc 95), (6, .invokevirtual 51), (9, .ifCond .ne (5)), (12, .iconst (-1)), (13, .ireturn), (14, .aload_n 0), (15, .getfield 9), (18, .ldc 97), (20, .invokevirtual 34), (23, .iconst 1), (24, .iadd), (25, .istore_n 3), (26, .iload_n 3), (27, .ifCond .le (13)), (30, .aload_n 0), (31, .aload_n 1)], [(32, .iload_n 2), (33, .iload_n 3), (34, .invokevirtual 92), (37, .goto 4), (40, .iconst (-1)), (41, .ireturn)]]
def kF66 : List (Nat × Nat × Nat × Nat) := [(9, 8, 0, 14)]
def kM66 : List (Nat × MF) := [(34, 80, 1, 1, 3, 9, 1), (51, 79, 1, 1, 2, 9, 2), (92, 67, 1, 3, 6, 8, 1)]
def kK66 : List (Nat × AV) := [(95, .inr (.inr (40, some 23))), (97, .inr (.inr (40, some 24)))]
set_option maxRecDepth 100000 in
theorem ok66 : okX 66 kc66 kF66 kM66 kK66 = true := by decide +kernel
def kc67 : List (List (Nat × Instr)) := [[(0, .iload_n 3), (1, .iconst 1), (2, .if_icmp .ne (15)), (5, .aload_n 0), (6, .getfield 9), (9, .ldc 86), (11, .invokevirtual 55), (14, .goto 15), (17, .bipush 16), (19, .aload_n 0), (20, .getfield 9), (23, .ldc 120), (25, .invokevirtual 55), (28, .iadd), (29, .istore 4), (31, .iload 4)], [(33, .invokestatic 122), (36, .ifCond .ne (5)), (39, .iconst (-1)), (40, .ireturn), (41, .aload_n 0), (42, .getfield 9), (45, .invokevirtual 76), (48, .new 107), (51, .dup), (52, .iload_n 2), (53, .iload 4), (55, .iload_n 3), (56, .invokespecial 109), (59, .astore 5), (61, .aload_n 1), (62, .aload 5)], [(64, .invokevirtual 112), (67, .aload_n 0), (68, .aload 5), (70, .invokevirtual 126), (73, .ifCond .eq (25)), (76, .aload_n 0), (77, .aload 5), (79, .invokevirtual 116), (82, .ifCond .eq (16)), (85, .aload_n 0), (86, .aload 5), (88, .invokevirtual 129), (91, .ifCond .eq (7)), (94, .iload_n 2), (95, .goto 4)], [(98, .iconst (-1)), (99, .ireturn)]]
def kF67 : List (Nat × Nat × Nat × Nat) := [(9, 8, 0, 14)]
def kM67 : List (Nat × MF) := [(55, 81, 1, 1, 7, 9, 1), (76, 77, 1, 0, 1, 9, 0), (109, 22, 2, 3, 4, 3, 0), (112, 53, 1, 1, 2, 7, 0), (116, 69, 1, 1, 2, 8, 2), (122, 90, 0, 1, 1, 10, 2), (126, 68, 1, 1, 4, 8, 2), (129, 70, 1, 1, 3, 8, 2)]
def kK67 : List (Nat × AV) := [(86, .inr (.inr (40, some 22))), (120, .inr (.inr (40, some 29)))]
set_option maxRecDepth 100000 in
theorem ok67 : okX 67 kc67 kF67 kM67 kK67 = true := by decide +kernel
def kc68 : List (List (Nat × Instr)) := [[(0, .aload_n 1), (1, .getfield 132), (4, .bipush 19), (6, .if_icmp .le (5)), (9, .iconst 1), (10, .ireturn), (11, .aload_n 0), (12, .getfield 9), (15, .ldc 135), (17, .invokevirtual 55), (20, .iconst 1), (21, .iadd), (22, .istore_n 2), (23, .aload_n 1), (24, .getfield 132), (27, .bipush 19), (29, .if_icmp .ne (16))], [(32, .iload_n 2), (33, .iconst 3), (34, .if_icmp .le (7)), (37, .iconst 1), (38, .goto 21), (41, .iconst 0), (42, .goto 17), (45, .iload_n 2), (46, .ifCond .le (12)), (49, .iload_n 2), (50, .iconst 3), (51, .if_icmp .gt (7)), (54, .iconst 1), (55, .goto 4), (58, .iconst 0), (59, .istore_n 3), (60, .iload_n 3), (61, .ifCond .eq (15))], [(64, .aload_n 1), (65, .iload_n 2), (66, .putfield 137), (69, .aload_n 0), (70, .getfield 9), (73, .invokevirtual 76), (76, .iload_n 3), (77, .ireturn)]]
def kF68 : List (Nat × Nat × Nat × Nat) := [(9, 8, 0, 14), (132, 3, 1, 0), (137, 3, 3, 0)]
def kM68 : List (Nat × MF) := [(55, 81, 1, 1, 7, 9, 1), (76, 77, 1, 0, 1, 9, 0)]
def kK68 : List (Nat × AV) := [(135, .inr (.inr (40, some 30)))]
set_option maxRecDepth 100000 in
theorem ok68 : okX 68 kc68 kF68 kM68 kK68 = true := by decide +kernel
def kc69 : List (List (Nat × Instr)) := [[(0, .aload_n 1), (1, .aload_n 0), (2, .getfield 9), (5, .ldc 38), (7, .invokevirtual 34), (10, .putfield 140), (13, .aload_n 1), (14, .getfield 140), (17, .iconst (-1)), (18, .if_icmp .eq (7)), (21, .iconst 1), (22, .goto 4), (25, .iconst 0), (26, .ireturn)]]
def kF69 : List (Nat × Nat × Nat × Nat) := [(9, 8, 0, 14), (140, 3, 4, 0)]
def kM69 : List (Nat × MF) := [(34, 80, 1, 1, 3, 9, 1)]
def kK69 : List (Nat × AV) := [(38, .inr (.inr (40, some 17)))]
set_option maxRecDepth 100000 in
theorem ok69 : okX 69 kc69 kF69 kM69 kK69 = true := by decide +kernel
def kc70 : List (List (Nat × Instr)) := [[(0, .iconst 0), (1, .istore_n 2), (2, .iload_n 2), (3, .iconst 5), (4, .if_icmp .ge (67)), (7, .aload_n 0), (8, .getfield 9), (11, .ldc 143), (13, .invokevirtual 55), (16, .iload_n 2), (17, .if_icmp .ne (48)), (20, .aload_n 1), (21, .getfield 132), (24, .iload_n 2), (25, .invokestatic 145), (28, .ifCond .eq (37)), (31, .aload_n 0)], [(32, .getfield 9), (35, .invokevirtual 76), (38, .aload_n 1), (39, .getfield 149), (42, .iload_n 2), (43, .aload_n 0), (44, .getfield 9), (47, .ldc 38), (49, .invokevirtual 34), (52, .iastore), (53, .aload_n 1), (54, .getfield 149), (57, .iload_n 2), (58, .iaload), (59, .iconst (-1)), (60, .if_icmp .ne (5)), (63, .iconst 0)], [(64, .ireturn), (65, .iinc 2 1), (68, .goto (-66)), (71, .iconst 1), (72, .ireturn)]]
def kF70 : List (Nat × Nat × Nat × Nat) := [(9, 8, 0, 14), (132, 3, 1, 0), (149, 3, 5, 26)]
def kM70 : List (Nat × MF) := [(34, 80, 1, 1, 3, 9, 1), (55, 81, 1, 1, 7, 9, 1), (76, 77, 1, 0, 1, 9, 0), (145, 23, 0, 2, 2, 3, 2)]
def kK70 : List (Nat × AV) := [(38, .inr (.inr (40, some 17))), (143, .inr (.inr (40, some 31)))]
set_option maxRecDepth 100000 in
theorem ok70 : okX 70 kc70 kF70 kM70 kK70 = true := by decide +kernel
def kc71 : List (List (Nat × Instr)) := [[(0, .iload_n 0), (1, .lookupswitch (42) #[(0, 35), (6, 37), (7, 39)])], [(36, .iconst 3), (37, .ireturn), (38, .iconst 5), (39, .ireturn), (40, .bipush 6), (42, .ireturn), (43, .iconst 2), (44, .ireturn)]]
def kF71 : List (Nat × Nat × Nat × Nat) := []
def kM71 : List (Nat × MF) := []
def kK71 : List (Nat × AV) := []
set_option maxRecDepth 100000 in
theorem ok71 : okX 71 kc71 kF71 kM71 kK71 = true := by decide +kernel
def kc72 : List (List (Nat × Instr)) := [[(0, .aload_n 0), (1, .getfield 9), (4, .ldc 99), (6, .invokevirtual 51), (9, .ifCond .eq (19)), (12, .aload_n 0), (13, .getfield 9), (16, .ldc 101), (18, .invokevirtual 51), (21, .ifCond .eq (7)), (24, .iconst 1), (25, .goto 4), (28, .iconst 0), (29, .istore_n 2), (30, .iload_n 2), (31, .ifCond .eq (14))], [(34, .aload_n 0), (35, .aload_n 1), (36, .iconst 5), (37, .bipush 15), (39, .invokevirtual 88), (42, .goto 4), (45, .iconst (-1)), (46, .ireturn)]]
def kF72 : List (Nat × Nat × Nat × Nat) := [(9, 8, 0, 14)]
def kM72 : List (Nat × MF) := [(51, 79, 1, 1, 2, 9, 2), (88, 73, 1, 3, 5, 8, 1)]
def kK72 : List (Nat × AV) := [(99, .inr (.inr (40, some 25))), (101, .inr (.inr (40, some 26)))]
set_option maxRecDepth 100000 in
theorem ok72 : okX 72 kc72 kF72 kM72 kK72 = true := by decide +kernel
def kc73 : List (List (Nat × Instr)) := [[(0, .new 107), (3, .dup), (4, .iload_n 2), (5, .iload_n 3), (6, .iconst 1), (7, .invokespecial 109), (10, .astore 4), (12, .aload_n 1), (13, .aload 4), (15, .invokevirtual 112), (18, .aload_n 0), (19, .aload 4), (21, .invokevirtual 116), (24, .ifCond .eq (7)), (27, .iload_n 2), (28, .goto 4), (31, .iconst (-1))], [(32, .ireturn)]]
def kF73 : List (Nat × Nat × Nat × Nat) := []
def kM73 : List (Nat × MF) := [(109, 22, 2, 3, 4, 3, 0), (112, 53, 1, 1, 2, 7, 0), (116, 69, 1, 1, 2, 8, 2)]
def kK73 : List (Nat × AV) := []
set_option maxRecDepth 100000 in
theorem ok73 : okX 73 kc73 kF73 kM73 kK73 = true := by decide +kernel
def kc74 : List (List (Nat × Instr)) := [[(0, .aload_n 0), (1, .getfield 9), (4, .ldc 103), (6, .invokevirtual 51), (9, .ifCond .eq (15)), (12, .aload_n 0), (13, .getfield 9), (16, .ldc 99), (18, .invokevirtual 51), (21, .ifCond .ne (5)), (24, .iconst (-1)), (25, .ireturn), (26, .aload_n 0), (27, .getfield 9), (30, .ldc 86)], [(32, .invokevirtual 55), (35, .istore_n 2), (36, .aload_n 0), (37, .getfield 9), (40, .ldc 105), (42, .invokevirtual 51), (45, .ifCond .eq (14)), (48, .aload_n 0), (49, .aload_n 1), (50, .bipush 6), (52, .iload_n 2), (53, .invokevirtual 88), (56, .goto 4), (59, .iconst (-1)), (60, .ireturn)]]
def kF74 : List (Nat × Nat × Nat × Nat) := [(9, 8, 0, 14)]
def kM74 : List (Nat × MF) := [(51, 79, 1, 1, 2, 9, 2), (55, 81, 1, 1, 7, 9, 1), (88, 73, 1, 3, 5, 8, 1)]
def kK74 : List (Nat × AV) := [(86, .inr (.inr (40, some 22))), (99, .inr (.inr (40, some 25))), (103, .inr (.inr (40, some 27))), (105, .inr (.inr (40, some 28)))]
set_option maxRecDepth 100000 in
theorem ok74 : okX 74 kc74 kF74 kM74 kK74 = true := by decide +kernel
def kc75 : List (List (Nat × Instr)) := [[(0, .aload_n 0), (1, .invokespecial 3), (4, .aload_n 0), (5, .iconst 0), (6, .newarray .char), (8, .putfield 9), (11, .return_)]]
def kF75 : List (Nat × Nat × Nat × Nat) := [(9, 9, 0, 28)]
def kM75 : List (Nat × MF) := []
def kK75 : List (Nat × AV) := []
set_option maxRecDepth 100000 in
theorem ok75 : okX 75 kc75 kF75 kM75 kK75 = true := by decide +kernel
def kc76 : List (List (Nat × Instr)) := [[(0, .aload_n 0), (1, .aload_n 1), (2, .putfield 9), (5, .aload_n 0), (6, .iconst 0), (7, .iload_n 2), (8, .aload_n 1), (9, .arraylength), (10, .invokestatic 15), (13, .invokestatic 21), (16, .putfield 24), (19, .aload_n 0), (20, .iconst 0), (21, .putfield 28), (24, .aload_n 0), (25, .invokevirtual 31), (28, .return_)]]
def kF76 : List (Nat × Nat × Nat × Nat) := [(9, 9, 0, 28), (24, 9, 1, 0), (28, 9, 4, 0)]
def kM76 : List (Nat × MF) := [(31, 77, 1, 0, 1, 9, 0)]
def kK76 : List (Nat × AV) := []
set_option maxRecDepth 100000 in
theorem ok76 : okX 76 kc76 kF76 kM76 kK76 = true := by decide +kernel
def kc77 : List (List (Nat × Instr)) := [[(0, .aload_n 0), (1, .aload_n 0), (2, .getfield 28), (5, .putfield 34), (8, .aload_n 0), (9, .getfield 34), (12, .aload_n 0), (13, .getfield 24), (16, .if_icmp .ge (30)), (19, .aload_n 0), (20, .getfield 9), (23, .aload_n 0), (24, .getfield 34), (27, .caload), (28, .bipush 32), (30, .if_icmp .ne (16))], [(33, .aload_n 0), (34, .dup), (35, .getfield 34), (38, .iconst 1), (39, .iadd), (40, .putfield 34), (43, .goto (-35)), (46, .aload_n 0), (47, .aload_n 0), (48, .getfield 34), (51, .putfield 28), (54, .aload_n 0), (55, .getfield 28), (58, .aload_n 0), (59, .getfield 24), (62, .if_icmp .ge (44))], [(65, .aload_n 0), (66, .getfield 9), (69, .aload_n 0), (70, .getfield 28), (73, .caload), (74, .bipush 97), (76, .if_icmp .lt (30)), (79, .aload_n 0), (80, .getfield 9), (83, .aload_n 0), (84, .getfield 28), (87, .caload), (88, .bipush 122), (90, .if_icmp .gt (16)), (93, .aload_n 0), (94, .dup), (95, .getfield 28)], [(98, .iconst 1), (99, .iadd), (100, .putfield 28), (103, .goto (-49)), (106, .aload_n 0), (107, .getfield 28), (110, .aload_n 0), (111, .getfield 34), (114, .if_icmp .le (9)), (117, .aload_n 0), (118, .iconst 1), (119, .putfield 37), (122, .return_), (123, .aload_n 0), (124, .getfield 28), (127, .aload_n 0)], [(128, .getfield 24), (131, .if_icmp .ge (44)), (134, .aload_n 0), (135, .getfield 9), (138, .aload_n 0), (139, .getfield 28), (142, .caload), (143, .bipush 48), (145, .if_icmp .lt (30)), (148, .aload_n 0), (149, .getfield 9), (152, .aload_n 0), (153, .getfield 28), (156, .caload), (157, .bipush 57), (159, .if_icmp .gt (16))], [(162, .aload_n 0), (163, .dup), (164, .getfield 28), (167, .iconst 1), (168, .iadd), (169, .putfield 28), (172, .goto (-49)), (175, .aload_n 0), (176, .getfield 28), (179, .aload_n 0), (180, .getfield 34), (183, .if_icmp .le (9)), (186, .aload_n 0), (187, .iconst 2), (188, .putfield 37), (191, .return_)], [(192, .aload_n 0), (193, .aload_n 0), (194, .getfield 34), (197, .aload_n 0), (198, .getfield 24), (201, .if_icmp .ge (7)), (204, .iconst 3), (205, .goto 4), (208, .iconst 0), (209, .putfield 37), (212, .aload_n 0), (213, .aload_n 0), (214, .getfield 34), (217, .iconst 1), (218, .iadd), (219, .aload_n 0), (220, .getfield 24), (223, .invokestatic 15)], [(226, .putfield 28), (229, .return_)]]
def kF77 : List (Nat × Nat × Nat × Nat) := [(9, 9, 0, 28), (24, 9, 1, 0), (28, 9, 4, 0), (34, 9, 3, 0), (37, 9, 2, 0)]
def kM77 : List (Nat × MF) := []
def kK77 : List (Nat × AV) := []
set_option maxRecDepth 100000 in
theorem ok77 : okX 77 kc77 kF77 kM77 kK77 = true := by decide +kernel
def kc78 : List (List (Nat × Instr)) := [[(0, .aload_n 0), (1, .getfield 37), (4, .ifCond .ne (7)), (7, .iconst 1), (8, .goto 4), (11, .iconst 0), (12, .ireturn)]]
def kF78 : List (Nat × Nat × Nat × Nat) := [(37, 9, 2, 0)]
def kM78 : List (Nat × MF) := []
def kK78 : List (Nat × AV) := []
set_option maxRecDepth 100000 in
theorem ok78 : okX 78 kc78 kF78 kM78 kK78 = true := by decide +kernel
def kc79 : List (List (Nat × Instr)) := [[(0, .aload_n 0), (1, .aload_n 1), (2, .invokevirtual 53), (5, .iconst (-1)), (6, .if_icmp .eq (7)), (9, .iconst 1), (10, .goto 4), (13, .iconst 0), (14, .ireturn)]]
def kF79 : List (Nat × Nat × Nat × Nat) := []
def kM79 : List (Nat × MF) := [(53, 80, 1, 1, 3, 9, 1)]
def kK79 : List (Nat × AV) := []
set_option maxRecDepth 100000 in
theorem ok79 : okX 79 kc79 kF79 kM79 kK79 = true := by decide +kernel
def kc80 : List (List (Nat × Instr)) := [[(0, .aload_n 0), (1, .aload_n 1), (2, .invokevirtual 49), (5, .istore_n 2), (6, .iload_n 2), (7, .iconst (-1)), (8, .if_icmp .eq (7)), (11, .aload_n 0), (12, .invokevirtual 31), (15, .iload_n 2), (16, .ireturn)]]
def kF80 : List (Nat × Nat × Nat × Nat) := []
def kM80 : List (Nat × MF) := [(31, 77, 1, 0, 1, 9, 0), (49, 81, 1, 1, 7, 9, 1)]
def kK80 : List (Nat × AV) := []
set_option maxRecDepth 100000 in
theorem ok80 : okX 80 kc80 kF80 kM80 kK80 = true := by decide +kernel
def kc81 : List (List (Nat × Instr)) := [[(0, .aload_n 0), (1, .getfield 37), (4, .iconst 1), (5, .if_icmp .eq (5)), (8, .iconst (-1)), (9, .ireturn), (10, .iconst 0), (11, .istore_n 2), (12, .iconst 0), (13, .istore_n 3), (14, .iconst 0), (15, .istore 4), (17, .iload 4), (19, .aload_n 1), (20, .invokevirtual 40), (23, .if_icmp .ge (101)), (26, .aload_n 1), (27, .iload 4), (29, .invokevirtual 45)], [(32, .istore 5), (34, .iload 5), (36, .bipush 32), (38, .if_icmp .ne (26)), (41, .iload_n 3), (42, .aload_n 0), (43, .getfield 28), (46, .aload_n 0), (47, .getfield 34), (50, .isub), (51, .if_icmp .ne (5)), (54, .iload_n 2), (55, .ireturn), (56, .iinc 2 1), (59, .iconst 0), (60, .istore_n 3), (61, .goto 57)], [(64, .iload_n 3), (65, .iconst (-1)), (66, .if_icmp .eq (36)), (69, .aload_n 0), (70, .getfield 34), (73, .iload_n 3), (74, .iadd), (75, .aload_n 0), (76, .getfield 28), (79, .if_icmp .ge (23)), (82, .aload_n 0), (83, .getfield 9), (86, .aload_n 0), (87, .getfield 34), (90, .iload_n 3), (91, .iadd), (92, .caload), (93, .iload 5), (95, .if_icmp .ne (7))], [(98, .iconst 1), (99, .goto 4), (102, .iconst 0), (103, .istore 6), (105, .iload 6), (107, .ifCond .eq (9)), (110, .iload_n 3), (111, .iconst 1), (112, .iadd), (113, .goto 4), (116, .iconst (-1)), (117, .istore_n 3), (118, .iinc 4 1), (121, .goto (-104)), (124, .iconst (-1)), (125, .ireturn)]]
def kF81 : List (Nat × Nat × Nat × Nat) := [(9, 9, 0, 28), (28, 9, 4, 0), (34, 9, 3, 0), (37, 9, 2, 0)]
def kM81 : List (Nat × MF) := [(40, 228, 1, 0, 1, 40, 1), (45, 230, 1, 1, 2, 40, 2)]
def kK81 : List (Nat × AV) := []
set_option maxRecDepth 100000 in
theorem ok81 : okX 81 kc81 kF81 kM81 kK81 = true := by decide +kernel
def kc82 : List (List (Nat × Instr)) := [[(0, .aload_n 0), (1, .getfield 37), (4, .iconst 2), (5, .if_icmp .ne (16)), (8, .aload_n 0), (9, .getfield 28), (12, .aload_n 0), (13, .getfield 34), (16, .isub), (17, .iload_n 1), (18, .if_icmp .le (5)), (21, .iconst (-1)), (22, .ireturn), (23, .iconst 0), (24, .istore_n 2), (25, .aload_n 0), (26, .getfield 34), (29, .istore_n 3), (30, .iload_n 3), (31, .aload_n 0)], [(32, .getfield 28), (35, .if_icmp .ge (24)), (38, .iload_n 2), (39, .bipush 10), (41, .imul), (42, .aload_n 0), (43, .getfield 9), (46, .iload_n 3), (47, .caload), (48, .bipush 48), (50, .isub), (51, .iadd), (52, .istore_n 2), (53, .iinc 3 1), (56, .goto (-26)), (59, .iload_n 2), (60, .ireturn)]]
def kF82 : List (Nat × Nat × Nat × Nat) := [(9, 9, 0, 28), (28, 9, 4, 0), (34, 9, 3, 0), (37, 9, 2, 0)]
def kM82 : List (Nat × MF) := []
def kK82 : List (Nat × AV) := []
set_option maxRecDepth 100000 in
theorem ok82 : okX 82 kc82 kF82 kM82 kK82 = true := by decide +kernel
def kc83 : List (List (Nat × Instr)) := [[(0, .aload_n 0), (1, .getfield 37), (4, .iconst 3), (5, .if_icmp .ne (27)), (8, .aload_n 0), (9, .getfield 34), (12, .aload_n 0), (13, .getfield 24), (16, .if_icmp .ge (16)), (19, .aload_n 0), (20, .getfield 9), (23, .aload_n 0), (24, .getfield 34), (27, .caload), (28, .iload_n 1), (29, .if_icmp .eq (5))], [(32, .iconst 0), (33, .ireturn), (34, .aload_n 0), (35, .invokevirtual 31), (38, .iconst 1), (39, .ireturn)]]
def kF83 : List (Nat × Nat × Nat × Nat) := [(9, 9, 0, 28), (24, 9, 1, 0), (34, 9, 3, 0), (37, 9, 2, 0)]
def kM83 : List (Nat × MF) := [(31, 77, 1, 0, 1, 9, 0)]
def kK83 : List (Nat × AV) := []
set_option maxRecDepth 100000 in
theorem ok83 : okX 83 kc83 kF83 kM83 kK83 = true := by decide +kernel
def kc84 : List (List (Nat × Instr)) := [[(0, .aload_n 0), (1, .getfield 37), (4, .iconst 3), (5, .if_icmp .ne (31)), (8, .aload_n 0), (9, .getfield 34), (12, .aload_n 0), (13, .getfield 24), (16, .if_icmp .ge (20)), (19, .ldc 56), (21, .aload_n 0), (22, .getfield 9), (25, .aload_n 0), (26, .getfield 34), (29, .caload), (30, .invokevirtual 58)], [(33, .goto 4), (36, .iconst (-1)), (37, .ireturn)]]
def kF84 : List (Nat × Nat × Nat × Nat) := [(9, 9, 0, 28), (24, 9, 1, 0), (34, 9, 3, 0), (37, 9, 2, 0)]
def kM84 : List (Nat × MF) := [(58, 231, 1, 1, 2, 40, 1)]
def kK84 : List (Nat × AV) := [(56, .inr (.inr (40, some 32)))]
set_option maxRecDepth 100000 in
theorem ok84 : okX 84 kc84 kF84 kM84 kK84 = true := by decide +kernel
def kc85 : List (List (Nat × Instr)) := [[(0, .aload_n 0), (1, .invokespecial 1), (4, .aload_n 0), (5, .sipush 240), (8, .newarray .char), (10, .putfield 9), (13, .aload_n 0), (14, .bipush 60), (16, .anewarray 13), (19, .putfield 15), (22, .aload_n 0), (23, .new 19), (26, .dup), (27, .invokespecial 21), (30, .putfield 22)], [(33, .aload_n 0), (34, .new 26), (37, .dup), (38, .aload_n 0), (39, .getfield 22), (42, .invokespecial 28), (45, .putfield 31), (48, .aload_n 0), (49, .new 35), (52, .dup), (53, .aload_n 0), (54, .getfield 22), (57, .invokespecial 37), (60, .putfield 38), (63, .aload_n 0)], [(64, .new 42), (67, .dup), (68, .invokespecial 44), (71, .putfield 45), (74, .aload_n 0), (75, .new 49), (78, .dup), (79, .invokespecial 51), (82, .putfield 52), (85, .aload_n 0), (86, .new 56), (89, .dup), (90, .invokespecial 58), (93, .putfield 59)], [(96, .aload_n 0), (97, .getfield 22), (100, .ldc 63), (102, .invokevirtual 65), (105, .ldc 63), (107, .invokevirtual 71), (110, .invokevirtual 75), (113, .aload_n 0), (114, .getfield 38), (117, .aload_n 0), (118, .getfield 52), (121, .getfield 79), (124, .invokevirtual 83), (127, .pop)], [(128, .return_)]]
def kF85 : List (Nat × Nat × Nat × Nat) := [(9, 10, 0, 28), (15, 10, 2, 42), (22, 10, 4, 14), (31, 10, 5, 13), (38, 10, 6, 7), (45, 10, 7, 9), (52, 10, 8, 5), (59, 10, 9, 11), (79, 0, 0, 6)]
def kM85 : List (Nat × MF) := [(21, 75, 2, 0, 1, 9, 0), (28, 62, 2, 1, 2, 8, 0), (37, 16, 2, 1, 2, 2, 0), (44, 29, 2, 0, 1, 4, 0), (51, 0, 2, 0, 2, 0, 0), (58, 45, 2, 0, 1, 6, 0), (65, 226, 1, 0, 1, 40, 28), (71, 228, 1, 0, 1, 40, 1), (75, 76, 1, 2, 3, 9, 0), (83, 17, 1, 1, 3, 2, 2)]
def kK85 : List (Nat × AV) := [(63, .inr (.inr (40, some 33)))]
set_option maxRecDepth 100000 in
theorem ok85 : okX 85 kc85 kF85 kM85 kK85 = true := by decide +kernel
def kc86 : List (List (Nat × Instr)) := [[(0, .iload_n 0), (1, .ifCond .lt (12)), (4, .iload_n 0), (5, .iconst 4), (6, .if_icmp .ge (7)), (9, .iconst 1), (10, .goto 4), (13, .iconst 0), (14, .ireturn)]]
def kF86 : List (Nat × Nat × Nat × Nat) := []
def kM86 : List (Nat × MF) := []
def kK86 : List (Nat × AV) := []
set_option maxRecDepth 100000 in
theorem ok86 : okX 86 kc86 kF86 kM86 kK86 = true := by decide +kernel
def kc87 : List (List (Nat × Instr)) := [[(0, .aload_n 0), (1, .getfield 87), (4, .bipush 20), (6, .iadd), (7, .sipush 240), (10, .if_icmp .le (5)), (13, .iconst (-1)), (14, .ireturn), (15, .aload_n 0), (16, .iload_n 1), (17, .invokevirtual 91), (20, .aload_n 0), (21, .iload_n 2), (22, .invokevirtual 91), (25, .aload_n 0), (26, .iload_n 3), (27, .invokevirtual 91), (30, .aload_n 0), (31, .iload 4)], [(33, .invokevirtual 91), (36, .aload_n 0), (37, .iload 5), (39, .invokevirtual 91), (42, .aload_n 0), (43, .getfield 87), (46, .ireturn)]]
def kF87 : List (Nat × Nat × Nat × Nat) := [(87, 10, 1, 0)]
def kM87 : List (Nat × MF) := [(91, 88, 1, 1, 3, 10, 0)]
def kK87 : List (Nat × AV) := []
set_option maxRecDepth 100000 in
theorem ok87 : okX 87 kc87 kF87 kM87 kK87 = true := by decide +kernel
def kc88 : List (List (Nat × Instr)) := [[(0, .bipush 24), (2, .istore_n 2), (3, .iload_n 2), (4, .ifCond .lt (46)), (7, .aload_n 0), (8, .getfield 87), (11, .sipush 240), (14, .if_icmp .ge (36)), (17, .aload_n 0), (18, .getfield 9), (21, .aload_n 0), (22, .getfield 87), (25, .iload_n 1), (26, .iload_n 2), (27, .iushr), (28, .sipush 255), (31, .iand)], [(32, .i2c), (33, .castore), (34, .aload_n 0), (35, .dup), (36, .getfield 87), (39, .iconst 1), (40, .iadd), (41, .putfield 87), (44, .iinc 2 (-8)), (47, .goto (-44)), (50, .return_)]]
def kF88 : List (Nat × Nat × Nat × Nat) := [(9, 10, 0, 28), (87, 10, 1, 0)]
def kM88 : List (Nat × MF) := []
def kK88 : List (Nat × AV) := []
set_option maxRecDepth 100000 in
theorem ok88 : okX 88 kc88 kF88 kM88 kK88 = true := by decide +kernel
def kc89 : List (List (Nat × Instr)) := [[(0, .iload_n 1), (1, .ifCond .lt (11)), (4, .iload_n 1), (5, .aload_n 0), (6, .getfield 87), (9, .if_icmp .le (5)), (12, .iconst (-1)), (13, .ireturn), (14, .aload_n 0), (15, .iconst 0), (16, .putfield 87), (19, .aload_n 0), (20, .getfield 22), (23, .aload_n 0), (24, .getfield 9), (27, .iload_n 1), (28, .invokevirtual 75), (31, .aload_n 0)], [(32, .getfield 31), (35, .invokevirtual 95), (38, .astore_n 2), (39, .aload_n 2), (40, .ifnonnull 10), (43, .aload_n 0), (44, .invokevirtual 99), (47, .goto 8), (50, .aload_n 0), (51, .aload_n 2), (52, .invokevirtual 102), (55, .ireturn)]]
def kF89 : List (Nat × Nat × Nat × Nat) := [(9, 10, 0, 28), (22, 10, 4, 14), (31, 10, 5, 13), (87, 10, 1, 0)]
def kM89 : List (Nat × MF) := [(75, 76, 1, 2, 3, 9, 0), (95, 63, 1, 0, 4, 8, 12), (99, 91, 1, 0, 1, 10, 1), (102, 92, 1, 1, 3, 10, 1)]
def kK89 : List (Nat × AV) := []
set_option maxRecDepth 100000 in
theorem ok89 : okX 89 kc89 kF89 kM89 kK89 = true := by decide +kernel
def kc90 : List (List (Nat × Instr)) := [[(0, .iload_n 0), (1, .bipush 16), (3, .if_icmp .lt (13)), (6, .iload_n 0), (7, .bipush 29), (9, .if_icmp .gt (7)), (12, .iconst 1), (13, .goto 4), (16, .iconst 0), (17, .ireturn)]]
def kF90 : List (Nat × Nat × Nat × Nat) := []
def kM90 : List (Nat × MF) := []
def kK90 : List (Nat × AV) := []
set_option maxRecDepth 100000 in
theorem ok90 : okX 90 kc90 kF90 kM90 kK90 = true := by decide +kernel
def kc91 : List (List (Nat × Instr)) := [[(0, .bipush (-2)), (2, .aload_n 0), (3, .getfield 22), (6, .getfield 198), (9, .isub), (10, .ireturn)]]
def kF91 : List (Nat × Nat × Nat × Nat) := [(22, 10, 4, 14), (198, 9, 3, 0)]
def kM91 : List (Nat × MF) := []
def kK91 : List (Nat × AV) := []
set_option maxRecDepth 100000 in
theorem ok91 : okX 91 kc91 kF91 kM91 kK91 = true := by decide +kernel
def kc92 : List (List (Nat × Instr)) := [[(0, .iconst 0), (1, .istore_n 2), (2, .iload_n 2), (3, .aload_n 0), (4, .getfield 192), (7, .if_icmp .ge (24)), (10, .aload_n 0), (11, .getfield 15), (14, .iload_n 2), (15, .aaload), (16, .aload_n 1), (17, .invokevirtual 174), (20, .ifCond .ne (5)), (23, .iload_n 2), (24, .ireturn), (25, .iinc 2 1), (28, .goto (-26)), (31, .aload_n 0)], [(32, .getfield 192), (35, .bipush 60), (37, .if_icmp .lt (5)), (40, .iconst (-1)), (41, .ireturn), (42, .aload_n 0), (43, .getfield 15), (46, .aload_n 0), (47, .getfield 192), (50, .aload_n 1), (51, .aastore), (52, .aload_n 0), (53, .dup), (54, .getfield 192), (57, .iconst 1), (58, .iadd), (59, .putfield 192), (62, .aload_n 0), (63, .getfield 192)], [(66, .iconst 1), (67, .isub), (68, .ireturn)]]
def kF92 : List (Nat × Nat × Nat × Nat) := [(15, 10, 2, 42), (192, 10, 3, 0)]
def kM92 : List (Nat × MF) := [(174, 54, 1, 1, 5, 7, 1)]
def kK92 : List (Nat × AV) := []
set_option maxRecDepth 100000 in
theorem ok92 : okX 92 kc92 kF92 kM92 kK92 = true := by decide +kernel
def kc93 : List (List (Nat × Instr)) := [[(0, .iload_n 1), (1, .invokestatic 106), (4, .ifCond .eq (15)), (7, .iload_n 2), (8, .ifCond .lt (11)), (11, .iload_n 2), (12, .aload_n 0), (13, .getfield 87), (16, .if_icmp .le (5)), (19, .iconst (-1)), (20, .ireturn), (21, .aload_n 0), (22, .iconst 0), (23, .putfield 87), (26, .aload_n 0), (27, .getfield 22), (30, .aload_n 0), (31, .getfield 9)], [(34, .iload_n 2), (35, .invokevirtual 75), (38, .aload_n 0), (39, .getfield 38), (42, .aload_n 0), (43, .getfield 52), (46, .getfield 110), (49, .invokevirtual 83), (52, .ifCond .ne (8)), (55, .aload_n 0), (56, .invokevirtual 99), (59, .ireturn), (60, .aload_n 0), (61, .getfield 52)], [(64, .iload_n 1), (65, .invokevirtual 113), (68, .aload_n 0), (69, .getfield 52), (72, .iload_n 1), (73, .invokevirtual 116), (76, .ireturn)]]
def kF93 : List (Nat × Nat × Nat × Nat) := [(9, 10, 0, 28), (22, 10, 4, 14), (38, 10, 6, 7), (52, 10, 8, 5), (87, 10, 1, 0), (110, 0, 2, 6)]
def kM93 : List (Nat × MF) := [(75, 76, 1, 2, 3, 9, 0), (83, 17, 1, 1, 3, 2, 2), (99, 91, 1, 0, 1, 10, 1), (106, 94, 0, 1, 1, 10, 2), (113, 1, 1, 1, 3, 0, 0), (116, 2, 1, 1, 2, 0, 1)]
def kK93 : List (Nat × AV) := []
set_option maxRecDepth 100000 in
theorem ok93 : okX 93 kc93 kF93 kM93 kK93 = true := by decide +kernel
def kc94 : List (List (Nat × Instr)) := [[(0, .iload_n 0), (1, .ifCond .lt (12)), (4, .iload_n 0), (5, .iconst 4), (6, .if_icmp .ge (7)), (9, .iconst 1), (10, .goto 4), (13, .iconst 0), (14, .ireturn)]]
def kF94 : List (Nat × Nat × Nat × Nat) := []
def kM94 : List (Nat × MF) := []
def kK94 : List (Nat × AV) := []
set_option maxRecDepth 100000 in
theorem ok94 : okX 94 kc94 kF94 kM94 kK94 = true := by decide +kernel
def kc95 : List (List (Nat × Instr)) := [[(0, .aload_n 0), (1, .iload_n 1), (2, .invokevirtual 120), (5, .astore_n 2), (6, .aload_n 2), (7, .ifnonnull 7), (10, .iconst (-1)), (11, .goto 11), (14, .aload_n 0), (15, .getfield 45), (18, .aload_n 2), (19, .invokevirtual 124), (22, .ireturn)]]
def kF95 : List (Nat × Nat × Nat × Nat) := [(45, 10, 7, 9)]
def kM95 : List (Nat × MF) := [(120, 96, 1, 1, 2, 10, 12), (124, 30, 1, 1, 4, 4, 1)]
def kK95 : List (Nat × AV) := []
set_option maxRecDepth 100000 in
theorem ok95 : okX 95 kc95 kF95 kM95 kK95 = true := by decide +kernel
def kc96 : List (List (Nat × Instr)) := [[(0, .iload_n 1), (1, .ifCond .lt (20)), (4, .iload_n 1), (5, .aload_n 0), (6, .getfield 192), (9, .if_icmp .ge (12)), (12, .aload_n 0), (13, .getfield 15), (16, .iload_n 1), (17, .aaload), (18, .goto 4), (21, .aconst_null), (22, .areturn)]]
def kF96 : List (Nat × Nat × Nat × Nat) := [(15, 10, 2, 42), (192, 10, 3, 0)]
def kM96 : List (Nat × MF) := []
def kK96 : List (Nat × AV) := []
set_option maxRecDepth 100000 in
theorem ok96 : okX 96 kc96 kF96 kM96 kK96 = true := by decide +kernel
def kc97 : List (List (Nat × Instr)) := [[(0, .aload_n 0), (1, .getfield 45), (4, .iload_n 1), (5, .invokevirtual 127), (8, .ireturn)]]
def kF97 : List (Nat × Nat × Nat × Nat) := [(45, 10, 7, 9)]
def kM97 : List (Nat × MF) := [(127, 37, 1, 1, 2, 4, 1)]
def kK97 : List (Nat × AV) := []
set_option maxRecDepth 100000 in
theorem ok97 : okX 97 kc97 kF97 kM97 kK97 = true := by decide +kernel
def kc98 : List (List (Nat × Instr)) := [[(0, .aload_n 0), (1, .iload_n 1), (2, .invokevirtual 120), (5, .astore_n 3), (6, .aload_n 3), (7, .ifnonnull 5), (10, .iconst (-1)), (11, .ireturn), (12, .iload_n 2), (13, .bipush 10), (15, .if_icmp .ge (9)), (18, .aload_n 3), (19, .iload_n 2), (20, .invokevirtual 130), (23, .ireturn), (24, .aload_n 3), (25, .iload_n 2), (26, .bipush 10), (28, .isub), (29, .bipush 8), (31, .idiv)], [(32, .invokevirtual 133), (35, .astore 4), (37, .aload 4), (39, .ifnonnull 7), (42, .iconst (-1)), (43, .goto 15), (46, .aload 4), (48, .iload_n 2), (49, .bipush 10), (51, .isub), (52, .bipush 8), (54, .irem), (55, .invokevirtual 137), (58, .ireturn)]]
def kF98 : List (Nat × Nat × Nat × Nat) := []
def kM98 : List (Nat × MF) := [(120, 96, 1, 1, 2, 10, 12), (130, 57, 1, 1, 2, 7, 1), (133, 59, 1, 1, 4, 7, 8), (137, 25, 1, 1, 2, 3, 1)]
def kK98 : List (Nat × AV) := []
set_option maxRecDepth 100000 in
theorem ok98 : okX 98 kc98 kF98 kM98 kK98 = true := by decide +kernel
def kc99 : List (List (Nat × Instr)) := [[(0, .aload_n 0), (1, .getfield 52), (4, .iconst 0), (5, .putfield 140), (8, .aload_n 0), (9, .iload_n 1), (10, .invokevirtual 120), (13, .astore 4), (15, .aload 4), (17, .ifnull 17), (20, .iload_n 2), (21, .invokestatic 143), (24, .ifCond .eq (10)), (27, .iload_n 3), (28, .invokestatic 106), (31, .ifCond .ne (5))], [(34, .iconst 0), (35, .ireturn), (36, .iconst 0), (37, .istore 5), (39, .iconst 0), (40, .istore 6), (42, .iload 6), (44, .bipush 7), (46, .if_icmp .ge (41)), (49, .aload 4), (51, .iload 6), (53, .invokevirtual 146), (56, .astore 7), (58, .aload 7), (60, .ifnull 21), (63, .iload 5)], [(65, .aload_n 0), (66, .getfield 52), (69, .aload 4), (71, .aload 7), (73, .iload_n 2), (74, .iload_n 3), (75, .invokevirtual 149), (78, .iadd), (79, .istore 5), (81, .iinc 6 1), (84, .goto (-42)), (87, .iload 5), (89, .ireturn)]]
def kF99 : List (Nat × Nat × Nat × Nat) := [(52, 10, 8, 5), (140, 0, 4, 0)]
def kM99 : List (Nat × MF) := [(106, 94, 0, 1, 1, 10, 2), (120, 96, 1, 1, 2, 10, 12), (143, 86, 0, 1, 1, 10, 2), (146, 56, 1, 1, 2, 7, 8), (149, 3, 1, 4, 10, 0, 1)]
def kK99 : List (Nat × AV) := []
set_option maxRecDepth 100000 in
theorem ok99 : okX 99 kc99 kF99 kM99 kK99 = true := by decide +kernel
def kc100 : List (List (Nat × Instr)) := [[(0, .getstatic 201), (3, .iload_n 0), (4, .invokestatic 170), (7, .ireturn)]]
def kF100 : List (Nat × Nat × Nat × Nat) := []
def kM100 : List (Nat × MF) := [(170, 101, 0, 2, 2, 10, 1)]
def kK100 : List (Nat × AV) := [(201, .inr (.inr (42, some 0)))]
set_option maxRecDepth 100000 in
theorem ok100 : okX 100 kc100 kF100 kM100 kK100 = true := by decide +kernel
def kc101 : List (List (Nat × Instr)) := [[(0, .iload_n 1), (1, .ifCond .lt (15)), (4, .iload_n 1), (5, .aload_n 0), (6, .arraylength), (7, .if_icmp .ge (9)), (10, .aload_n 0), (11, .iload_n 1), (12, .iaload), (13, .goto 4), (16, .iconst (-1)), (17, .ireturn)]]
def kF101 : List (Nat × Nat × Nat × Nat) := []
def kM101 : List (Nat × MF) := []
def kK101 : List (Nat × AV) := []
set_option maxRecDepth 100000 in
theorem ok101 : okX 101 kc101 kF101 kM101 kK101 = true := by decide +kernel
def kc102 : List (List (Nat × Instr)) := [[(0, .iload_n 0), (1, .iconst 2), (2, .if_icmp .ge (5)), (5, .iconst 1), (6, .ireturn), (7, .iload_n 0), (8, .bipush 7), (10, .if_icmp .ge (7)), (13, .iconst 2), (14, .goto 4), (17, .iconst 0), (18, .ireturn)]]
def kF102 : List (Nat × Nat × Nat × Nat) := []
def kM102 : List (Nat × MF) := []
def kK102 : List (Nat × AV) := []
set_option maxRecDepth 100000 in
theorem ok102 : okX 102 kc102 kF102 kM102 kK102 = true := by decide +kernel
def kc103 : List (List (Nat × Instr)) := [[(0, .aload_n 0), (1, .getfield 52), (4, .iconst 0), (5, .putfield 140), (8, .aload_n 0), (9, .iload_n 1), (10, .invokevirtual 120), (13, .astore 5), (15, .aload 5), (17, .ifnull 18), (20, .iload_n 3), (21, .invokestatic 143), (24, .ifCond .eq (11)), (27, .iload 4), (29, .invokestatic 106)], [(32, .ifCond .ne (5)), (35, .iconst 0), (36, .ireturn), (37, .aload 5), (39, .iload_n 2), (40, .invokevirtual 133), (43, .astore 6), (45, .aload 6), (47, .ifnonnull 7), (50, .iconst 0), (51, .goto 17), (54, .aload_n 0), (55, .getfield 52), (58, .aload 5), (60, .aload 6), (62, .iload_n 3), (63, .iload 4)], [(65, .invokevirtual 149), (68, .ireturn)]]
def kF103 : List (Nat × Nat × Nat × Nat) := [(52, 10, 8, 5), (140, 0, 4, 0)]
def kM103 : List (Nat × MF) := [(106, 94, 0, 1, 1, 10, 2), (120, 96, 1, 1, 2, 10, 12), (133, 59, 1, 1, 4, 7, 8), (143, 86, 0, 1, 1, 10, 2), (149, 3, 1, 4, 10, 0, 1)]
def kK103 : List (Nat × AV) := []
set_option maxRecDepth 100000 in
theorem ok103 : okX 103 kc103 kF103 kM103 kK103 = true := by decide +kernel
def kc104 : List (List (Nat × Instr)) := [[(0, .iload_n 1), (1, .ifCond .lt (27)), (4, .iload_n 1), (5, .bipush 31), (7, .if_icmp .ge (21)), (10, .iload_n 2), (11, .invokestatic 143), (14, .ifCond .eq (14)), (17, .iload_n 3), (18, .invokestatic 106), (21, .ifCond .eq (7)), (24, .iconst 1), (25, .goto 4), (28, .iconst 0), (29, .istore 4), (31, .iload 4)], [(33, .ifCond .eq (16)), (36, .aload_n 0), (37, .getfield 52), (40, .iload_n 1), (41, .iload_n 2), (42, .iload_n 3), (43, .invokevirtual 153), (46, .goto 4), (49, .iconst (-1)), (50, .ireturn)]]
def kF104 : List (Nat × Nat × Nat × Nat) := [(52, 10, 8, 5)]
def kM104 : List (Nat × MF) := [(106, 94, 0, 1, 1, 10, 2), (143, 86, 0, 1, 1, 10, 2), (153, 9, 1, 3, 6, 0, 1)]
def kK104 : List (Nat × AV) := []
set_option maxRecDepth 100000 in
theorem ok104 : okX 104 kc104 kF104 kM104 kK104 = true := by decide +kernel
def kc105 : List (List (Nat × Instr)) := [[(0, .aload_n 0), (1, .getfield 52), (4, .getfield 140), (7, .ireturn)]]
def kF105 : List (Nat × Nat × Nat × Nat) := [(52, 10, 8, 5), (140, 0, 4, 0)]
def kM105 : List (Nat × MF) := []
def kK105 : List (Nat × AV) := []
set_option maxRecDepth 100000 in
theorem ok105 : okX 105 kc105 kF105 kM105 kK105 = true := by decide +kernel
def kc106 : List (List (Nat × Instr)) := [[(0, .aload_n 0), (1, .iload_n 1), (2, .invokevirtual 120), (5, .astore 4), (7, .aload 4), (9, .ifnonnull 7), (12, .iconst (-1)), (13, .goto 10), (16, .aload 4), (18, .iload_n 2), (19, .iload_n 3), (20, .invokestatic 157), (23, .ireturn)]]
def kF106 : List (Nat × Nat × Nat × Nat) := []
def kM106 : List (Nat × MF) := [(120, 96, 1, 1, 2, 10, 12), (157, 213, 0, 3, 5, 12, 1)]
def kK106 : List (Nat × AV) := []
set_option maxRecDepth 100000 in
theorem ok106 : okX 106 kc106 kF106 kM106 kK106 = true := by decide +kernel
def kc107 : List (List (Nat × Instr)) := [[(0, .aload_n 0), (1, .iload_n 1), (2, .invokevirtual 120), (5, .astore_n 3), (6, .aload_n 3), (7, .ifnull 13), (10, .iload_n 2), (11, .ifCond .lt (9)), (14, .iload_n 2), (15, .bipush 9), (17, .if_icmp .lt (5)), (20, .iconst (-1)), (21, .ireturn), (22, .aload_n 3), (23, .getfield 163), (26, .ifnonnull 11), (29, .aload_n 3), (30, .aload_n 3), (31, .invokestatic 167)], [(34, .putfield 163), (37, .aload_n 3), (38, .getfield 163), (41, .iload_n 2), (42, .invokestatic 170), (45, .ireturn)]]
def kF107 : List (Nat × Nat × Nat × Nat) := [(163, 7, 4, 26)]
def kM107 : List (Nat × MF) := [(120, 96, 1, 1, 2, 10, 12), (167, 225, 0, 1, 5, 12, 26), (170, 101, 0, 2, 2, 10, 1)]
def kK107 : List (Nat × AV) := []
set_option maxRecDepth 100000 in
theorem ok107 : okX 107 kc107 kF107 kM107 kK107 = true := by decide +kernel
def kc108 : List (List (Nat × Instr)) := [[(0, .aload_n 0), (1, .iload_n 1), (2, .invokevirtual 120), (5, .astore_n 3), (6, .aload_n 0), (7, .iload_n 2), (8, .invokevirtual 120), (11, .astore 4), (13, .aload_n 3), (14, .ifnull 8), (17, .aload 4), (19, .ifnonnull 7), (22, .iconst (-1)), (23, .goto 9), (26, .aload_n 3), (27, .aload 4), (29, .invokevirtual 174)], [(32, .ireturn)]]
def kF108 : List (Nat × Nat × Nat × Nat) := []
def kM108 : List (Nat × MF) := [(120, 96, 1, 1, 2, 10, 12), (174, 54, 1, 1, 5, 7, 1)]
def kK108 : List (Nat × AV) := []
set_option maxRecDepth 100000 in
theorem ok108 : okX 108 kc108 kF108 kM108 kK108 = true := by decide +kernel
def kc109 : List (List (Nat × Instr)) := [[(0, .iload_n 2), (1, .iconst (-1)), (2, .if_icmp .ne (8)), (5, .iload_n 3), (6, .iconst (-1)), (7, .if_icmp .eq (14)), (10, .aload_n 0), (11, .getfield 59), (14, .iload_n 1), (15, .iload_n 2), (16, .iload_n 3), (17, .invokevirtual 177), (20, .ireturn), (21, .aload_n 0), (22, .iload 4), (24, .invokevirtual 120), (27, .ifnonnull 7), (30, .iconst (-1)), (31, .goto 13)], [(34, .aload_n 0), (35, .getfield 59), (38, .iload_n 1), (39, .iload 4), (41, .invokevirtual 181), (44, .ireturn)]]
def kF109 : List (Nat × Nat × Nat × Nat) := [(59, 10, 9, 11)]
def kM109 : List (Nat × MF) := [(120, 96, 1, 1, 2, 10, 12), (177, 46, 1, 3, 6, 6, 1), (181, 48, 1, 2, 3, 6, 1)]
def kK109 : List (Nat × AV) := []
set_option maxRecDepth 100000 in
theorem ok109 : okX 109 kc109 kF109 kM109 kK109 = true := by decide +kernel
def kc110 : List (List (Nat × Instr)) := [[(0, .aload_n 0), (1, .getfield 59), (4, .iload_n 1), (5, .iload_n 2), (6, .invokevirtual 185), (9, .ireturn)]]
def kF110 : List (Nat × Nat × Nat × Nat) := [(59, 10, 9, 11)]
def kM110 : List (Nat × MF) := [(185, 49, 1, 2, 5, 6, 2)]
def kK110 : List (Nat × AV) := []
set_option maxRecDepth 100000 in
theorem ok110 : okX 110 kc110 kF110 kM110 kK110 = true := by decide +kernel
def kc111 : List (List (Nat × Instr)) := [[(0, .aload_n 0), (1, .getfield 59), (4, .iload_n 1), (5, .iload_n 2), (6, .invokevirtual 189), (9, .ireturn)]]
def kF111 : List (Nat × Nat × Nat × Nat) := [(59, 10, 9, 11)]
def kM111 : List (Nat × MF) := [(189, 50, 1, 2, 4, 6, 1)]
def kK111 : List (Nat × AV) := []
set_option maxRecDepth 100000 in
theorem ok111 : okX 111 kc111 kF111 kM111 kK111 = true := by decide +kernel
def kc112 : List (List (Nat × Instr)) := [[(0, .iload_n 1), (1, .tableswitch (45) (0) (2) #[27, 32, 40]), (28, .aload_n 0), (29, .getfield 192)], [(32, .ireturn), (33, .aload_n 0), (34, .getfield 59), (37, .getfield 195), (40, .ireturn), (41, .aload_n 0), (42, .getfield 87), (45, .ireturn), (46, .iload_n 1), (47, .iconst 3), (48, .if_icmp .lt (22)), (51, .iload_n 1), (52, .bipush 7), (54, .if_icmp .ge (16)), (57, .aload_n 0), (58, .getfield 52), (61, .iload_n 1), (62, .iconst 3), (63, .isub)], [(64, .invokevirtual 116), (67, .goto 4), (70, .iconst (-1)), (71, .ireturn)]]
def kF112 : List (Nat × Nat × Nat × Nat) := [(52, 10, 8, 5), (59, 10, 9, 11), (87, 10, 1, 0), (192, 10, 3, 0), (195, 6, 1, 0)]
def kM112 : List (Nat × MF) := [(116, 2, 1, 1, 2, 0, 1)]
def kK112 : List (Nat × AV) := []
set_option maxRecDepth 100000 in
theorem ok112 : okX 112 kc112 kF112 kM112 kK112 = true := by decide +kernel
def kc113 : List (List (Nat × Instr)) := [[(0, .aload_n 0), (1, .invokespecial 1), (4, .aload_n 0), (5, .sipush 240), (8, .newarray .byte), (10, .putfield 7), (13, .aload_n 0), (14, .sipush 241), (17, .newarray .byte), (19, .putfield 13), (22, .aload_n 0), (23, .bipush 61), (25, .newarray .int), (27, .putfield 16), (30, .aload_n 0), (31, .bipush 61)], [(33, .newarray .int), (35, .putfield 20), (38, .aload_n 0), (39, .bipush 61), (41, .newarray .int), (43, .putfield 23), (46, .aload_n 0), (47, .sipush 3843), (50, .newarray .int), (52, .putfield 26), (55, .aload_n 0), (56, .sipush 700), (59, .newarray .byte), (61, .putfield 29)], [(64, .aload_n 0), (65, .bipush 6), (67, .newarray .int), (69, .putfield 32), (72, .aload_n 0), (73, .bipush 6), (75, .newarray .int), (77, .putfield 35), (80, .aload_n 0), (81, .bipush 72), (83, .newarray .int), (85, .putfield 38), (88, .aload_n 0), (89, .bipush 72), (91, .newarray .int), (93, .putfield 41)], [(96, .aload_n 0), (97, .bipush 72), (99, .newarray .int), (101, .putfield 44), (104, .aload_n 0), (105, .bipush 72), (107, .newarray .int), (109, .putfield 47), (112, .aload_n 0), (113, .sipush 1440), (116, .newarray .int), (118, .putfield 50), (121, .aload_n 0), (122, .sipush 1440), (125, .newarray .int), (127, .putfield 53)], [(130, .aload_n 0), (131, .sipush 250), (134, .newarray .int), (136, .putfield 56), (139, .aload_n 0), (140, .sipush 2200), (143, .newarray .int), (145, .putfield 59), (148, .aload_n 0), (149, .bipush 12), (151, .newarray .int), (153, .putfield 62), (156, .aload_n 0), (157, .bipush 12), (159, .newarray .int)], [(161, .putfield 65), (164, .aload_n 0), (165, .bipush 12), (167, .newarray .int), (169, .putfield 68), (172, .aload_n 0), (173, .bipush 12), (175, .newarray .int), (177, .putfield 71), (180, .aload_n 0), (181, .bipush 100), (183, .newarray .boolean), (185, .putfield 74), (188, .aload_n 0), (189, .bipush 100), (191, .newarray .int)], [(193, .putfield 78), (196, .aload_n 0), (197, .bipush 100), (199, .newarray .int), (201, .putfield 81), (204, .aload_n 0), (205, .bipush 100), (207, .newarray .int), (209, .putfield 84), (212, .aload_n 0), (213, .bipush 100), (215, .newarray .int), (217, .putfield 87), (220, .aload_n 0), (221, .sipush 3200)], [(224, .newarray .int), (226, .putfield 90), (229, .aload_n 0), (230, .bipush 100), (232, .newarray .int), (234, .putfield 93), (237, .aload_n 0), (238, .invokevirtual 96), (241, .return_)]]
def kF113 : List (Nat × Nat × Nat × Nat) := [(7, 11, 0, 27), (13, 11, 2, 27), (16, 11, 12, 26), (20, 11, 13, 26), (23, 11, 14, 26), (26, 11, 15, 26), (29, 11, 16, 27), (32, 11, 18, 26), (35, 11, 19, 26), (38, 11, 20, 26), (41, 11, 21, 26), (44, 11, 22, 26), (47, 11, 23, 26), (50, 11, 24, 26), (53, 11, 25, 26), (56, 11, 26, 26), (59, 11, 33, 26), (62, 11, 35, 26), (65, 11, 36, 26), (68, 11, 37, 26), (71, 11, 38, 26), (74, 11, 41, 29), (78, 11, 42, 26), (81, 11, 43, 26), (84, 11, 44, 26), (87, 11, 45, 26), (90, 11, 46, 26), (93, 11, 47, 26)]
def kM113 : List (Nat × MF) := [(96, 114, 1, 0, 1, 11, 0)]
def kK113 : List (Nat × AV) := []
set_option maxRecDepth 100000 in
theorem ok113 : okX 113 kc113 kF113 kM113 kK113 = true := by decide +kernel
def kc114 : List (List (Nat × Instr)) := [[(0, .aload_n 0), (1, .iconst 4), (2, .iconst 0), (3, .iconst 0), (4, .invokevirtual 445), (7, .aload_n 0), (8, .iconst 4), (9, .iconst 2), (10, .iconst 0), (11, .invokevirtual 448), (14, .aload_n 0), (15, .iconst 4), (16, .iconst 2), (17, .iconst 0), (18, .invokevirtual 448), (21, .aload_n 0), (22, .iconst 4), (23, .iconst 3), (24, .iconst 0), (25, .invokevirtual 448), (28, .aload_n 0), (29, .iconst 4), (30, .bipush 61)], [(32, .iconst 0), (33, .invokevirtual 448), (36, .aload_n 0), (37, .iconst 4), (38, .bipush 42), (40, .iconst 0), (41, .invokevirtual 448), (44, .aload_n 0), (45, .iconst 4), (46, .invokevirtual 451), (49, .aload_n 0), (50, .iconst 4), (51, .iconst 1), (52, .iconst 2), (53, .invokevirtual 445), (56, .aload_n 0), (57, .iconst 4), (58, .iconst 5), (59, .iconst 0), (60, .invokevirtual 448), (63, .aload_n 0)], [(64, .iconst 4), (65, .iconst 1), (66, .iconst 3), (67, .invokevirtual 448), (70, .aload_n 0), (71, .iconst 4), (72, .bipush 62), (74, .iconst 0), (75, .invokevirtual 448), (78, .aload_n 0), (79, .iconst 4), (80, .invokevirtual 451), (83, .aload_n 0), (84, .iconst 4), (85, .iconst 2), (86, .iconst 0), (87, .invokevirtual 445), (90, .aload_n 0), (91, .iconst 4), (92, .iconst 1), (93, .iconst 0), (94, .invokevirtual 448)], [(97, .aload_n 0), (98, .iconst 4), (99, .invokevirtual 451), (102, .aload_n 0), (103, .iconst 4), (104, .iconst 2), (105, .bipush 15), (107, .invokevirtual 445), (110, .aload_n 0), (111, .iconst 4), (112, .iconst 3), (113, .iconst 0), (114, .invokevirtual 448), (117, .aload_n 0), (118, .iconst 4), (119, .iconst 1), (120, .iconst 1), (121, .invokevirtual 448), (124, .aload_n 0), (125, .iconst 4), (126, .bipush 60)], [(128, .iconst 0), (129, .invokevirtual 448), (132, .aload_n 0), (133, .iconst 4), (134, .invokevirtual 451), (137, .aload_n 0), (138, .iconst 4), (139, .iconst 3), (140, .iconst 0), (141, .invokevirtual 445), (144, .aload_n 0), (145, .iconst 4), (146, .iconst 1), (147, .iconst 1), (148, .invokevirtual 448), (151, .aload_n 0), (152, .iconst 4), (153, .invokevirtual 451), (156, .aload_n 0), (157, .iconst 4), (158, .iconst 3), (159, .iconst 1)], [(160, .invokevirtual 445), (163, .aload_n 0), (164, .iconst 4), (165, .bipush 10), (167, .iconst 0), (168, .invokevirtual 448), (171, .aload_n 0), (172, .iconst 4), (173, .iconst 1), (174, .iconst 1), (175, .invokevirtual 448), (178, .aload_n 0), (179, .iconst 4), (180, .bipush 43), (182, .iconst 0), (183, .invokevirtual 448), (186, .aload_n 0), (187, .iconst 4), (188, .invokevirtual 451), (191, .return_)]]
def kF114 : List (Nat × Nat × Nat × Nat) := []
def kM114 : List (Nat × MF) := [(445, 115, 1, 3, 5, 11, 0), (448, 116, 1, 3, 4, 11, 0), (451, 117, 1, 1, 2, 11, 0)]
def kK114 : List (Nat × AV) := []
set_option maxRecDepth 100000 in
theorem ok114 : okX 114 kc114 kF114 kM114 kK114 = true := by decide +kernel
def kc115 : List (List (Nat × Instr)) := [[(0, .bipush 12), (2, .iload_n 1), (3, .imul), (4, .aload_n 0), (5, .getfield 32), (8, .iload_n 1), (9, .iaload), (10, .iadd), (11, .istore 4), (13, .aload_n 0), (14, .getfield 38), (17, .iload 4), (19, .iload_n 2), (20, .iastore), (21, .aload_n 0), (22, .getfield 41), (25, .iload 4), (27, .iload_n 3), (28, .iastore), (29, .aload_n 0), (30, .getfield 44)], [(33, .iload 4), (35, .aload_n 0), (36, .getfield 35), (39, .iload_n 1), (40, .iaload), (41, .iastore), (42, .aload_n 0), (43, .getfield 47), (46, .iload 4), (48, .aload_n 0), (49, .getfield 35), (52, .iload_n 1), (53, .iaload), (54, .iastore), (55, .aload_n 0), (56, .getfield 32), (59, .iload_n 1), (60, .aload_n 0), (61, .getfield 32)], [(64, .iload_n 1), (65, .iaload), (66, .iconst 1), (67, .iadd), (68, .iastore), (69, .return_)]]
def kF115 : List (Nat × Nat × Nat × Nat) := [(32, 11, 18, 26), (35, 11, 19, 26), (38, 11, 20, 26), (41, 11, 21, 26), (44, 11, 22, 26), (47, 11, 23, 26)]
def kM115 : List (Nat × MF) := []
def kK115 : List (Nat × AV) := []
set_option maxRecDepth 100000 in
theorem ok115 : okX 115 kc115 kF115 kM115 kK115 = true := by decide +kernel
def kc116 : List (List (Nat × Instr)) := [[(0, .aload_n 0), (1, .getfield 50), (4, .sipush 240), (7, .iload_n 1), (8, .imul), (9, .aload_n 0), (10, .getfield 35), (13, .iload_n 1), (14, .iaload), (15, .iadd), (16, .iload_n 2), (17, .iastore), (18, .aload_n 0), (19, .getfield 53), (22, .sipush 240), (25, .iload_n 1), (26, .imul), (27, .aload_n 0), (28, .getfield 35), (31, .iload_n 1)], [(32, .iaload), (33, .iadd), (34, .iload_n 3), (35, .iastore), (36, .aload_n 0), (37, .getfield 35), (40, .iload_n 1), (41, .aload_n 0), (42, .getfield 35), (45, .iload_n 1), (46, .iaload), (47, .iconst 1), (48, .iadd), (49, .iastore), (50, .return_)]]
def kF116 : List (Nat × Nat × Nat × Nat) := [(35, 11, 19, 26), (50, 11, 24, 26), (53, 11, 25, 26)]
def kM116 : List (Nat × MF) := []
def kK116 : List (Nat × AV) := []
set_option maxRecDepth 100000 in
theorem ok116 : okX 116 kc116 kF116 kM116 kK116 = true := by decide +kernel
def kc117 : List (List (Nat × Instr)) := [[(0, .aload_n 0), (1, .getfield 47), (4, .bipush 12), (6, .iload_n 1), (7, .imul), (8, .aload_n 0), (9, .getfield 32), (12, .iload_n 1), (13, .iaload), (14, .iadd), (15, .iconst 1), (16, .isub), (17, .aload_n 0), (18, .getfield 35), (21, .iload_n 1), (22, .iaload), (23, .iastore), (24, .return_)]]
def kF117 : List (Nat × Nat × Nat × Nat) := [(32, 11, 18, 26), (35, 11, 19, 26), (47, 11, 23, 26)]
def kM117 : List (Nat × MF) := []
def kK117 : List (Nat × AV) := []
set_option maxRecDepth 100000 in
theorem ok117 : okX 117 kc117 kF117 kM117 kK117 = true := by decide +kernel
def kc118 : List (List (Nat × Instr)) := [[(0, .aload_n 0), (1, .getfield 99), (4, .bipush 20), (6, .iadd), (7, .sipush 240), (10, .if_icmp .le (5)), (13, .iconst (-1)), (14, .ireturn), (15, .aload_n 0), (16, .iload_n 1), (17, .invokevirtual 103), (20, .aload_n 0), (21, .iload_n 2), (22, .invokevirtual 103), (25, .aload_n 0), (26, .iload_n 3), (27, .invokevirtual 103), (30, .aload_n 0), (31, .iload 4)], [(33, .invokevirtual 103), (36, .aload_n 0), (37, .iload 5), (39, .invokevirtual 103), (42, .aload_n 0), (43, .getfield 99), (46, .ireturn)]]
def kF118 : List (Nat × Nat × Nat × Nat) := [(99, 11, 1, 0)]
def kM118 : List (Nat × MF) := [(103, 119, 1, 1, 3, 11, 0)]
def kK118 : List (Nat × AV) := []
set_option maxRecDepth 100000 in
theorem ok118 : okX 118 kc118 kF118 kM118 kK118 = true := by decide +kernel
def kc119 : List (List (Nat × Instr)) := [[(0, .iconst 3), (1, .istore_n 2), (2, .iload_n 2), (3, .ifCond .lt (35)), (6, .aload_n 0), (7, .getfield 7), (10, .aload_n 0), (11, .getfield 99), (14, .iload_n 1), (15, .bipush 8), (17, .iload_n 2), (18, .imul), (19, .ishr), (20, .i2b), (21, .bastore), (22, .aload_n 0), (23, .aload_n 0), (24, .getfield 99), (27, .iconst 1), (28, .iadd), (29, .putfield 99)], [(32, .iinc 2 (-1)), (35, .goto (-33)), (38, .return_)]]
def kF119 : List (Nat × Nat × Nat × Nat) := [(7, 11, 0, 27), (99, 11, 1, 0)]
def kM119 : List (Nat × MF) := []
def kK119 : List (Nat × AV) := []
set_option maxRecDepth 100000 in
theorem ok119 : okX 119 kc119 kF119 kM119 kK119 = true := by decide +kernel
def kc120 : List (List (Nat × Instr)) := [[(0, .aload_n 0), (1, .iload_n 1), (2, .invokevirtual 393), (5, .ifCond .ne (5)), (8, .iconst (-1)), (9, .ireturn), (10, .aload_n 0), (11, .invokevirtual 396), (14, .ifCond .ne (11)), (17, .bipush (-2)), (19, .aload_n 0), (20, .getfield 117), (23, .isub), (24, .ireturn), (25, .iconst 0), (26, .istore_n 2), (27, .iload_n 2), (28, .aload_n 0), (29, .getfield 297)], [(32, .if_icmp .ge (23)), (35, .aload_n 0), (36, .iload_n 2), (37, .aload_n 0), (38, .getfield 297), (41, .invokevirtual 399), (44, .ifCond .eq (5)), (47, .iload_n 2), (48, .ireturn), (49, .iinc 2 1), (52, .goto (-25)), (55, .aload_n 0), (56, .getfield 297), (59, .bipush 60), (61, .if_icmp .ne (5))], [(64, .iconst (-1)), (65, .ireturn), (66, .aload_n 0), (67, .aload_n 0), (68, .getfield 297), (71, .iconst 1), (72, .iadd), (73, .putfield 297), (76, .aload_n 0), (77, .getfield 297), (80, .iconst 1), (81, .isub), (82, .ireturn)]]
def kF120 : List (Nat × Nat × Nat × Nat) := [(117, 11, 5, 0), (297, 11, 11, 0)]
def kM120 : List (Nat × MF) := [(393, 121, 1, 1, 3, 11, 2), (396, 122, 1, 0, 2, 11, 2), (399, 155, 1, 2, 3, 11, 2)]
def kK120 : List (Nat × AV) := []
set_option maxRecDepth 100000 in
theorem ok120 : okX 120 kc120 kF120 kM120 kK120 = true := by decide +kernel
def kc121 : List (List (Nat × Instr)) := [[(0, .iload_n 1), (1, .ifCond .lt (11)), (4, .iload_n 1), (5, .aload_n 0), (6, .getfield 99), (9, .if_icmp .le (5)), (12, .iconst 0), (13, .ireturn), (14, .iconst 0), (15, .istore_n 2), (16, .iload_n 2), (17, .iload_n 1), (18, .if_icmp .ge (21)), (21, .aload_n 0), (22, .getfield 13), (25, .iload_n 2), (26, .aload_n 0), (27, .getfield 7), (30, .iload_n 2), (31, .baload)], [(32, .bastore), (33, .iinc 2 1), (36, .goto (-20)), (39, .aload_n 0), (40, .iload_n 1), (41, .putfield 107), (44, .aload_n 0), (45, .iconst 0), (46, .putfield 99), (49, .aload_n 0), (50, .iconst 0), (51, .putfield 110), (54, .iconst 1), (55, .ireturn)]]
def kF121 : List (Nat × Nat × Nat × Nat) := [(7, 11, 0, 27), (13, 11, 2, 27), (99, 11, 1, 0), (107, 11, 3, 0), (110, 11, 6, 0)]
def kM121 : List (Nat × MF) := []
def kK121 : List (Nat × AV) := []
set_option maxRecDepth 100000 in
theorem ok121 : okX 121 kc121 kF121 kM121 kK121 = true := by decide +kernel
def kc122 : List (List (Nat × Instr)) := [[(0, .aload_n 0), (1, .aload_n 0), (2, .getfield 297), (5, .invokevirtual 377), (8, .aload_n 0), (9, .invokevirtual 304), (12, .aload_n 0), (13, .invokevirtual 380), (16, .ifCond .ne (5)), (19, .iconst 0), (20, .ireturn), (21, .iconst 0), (22, .istore_n 1), (23, .aload_n 0), (24, .getfield 130), (27, .bipush 44), (29, .if_icmp .ne (28))], [(32, .iload_n 1), (33, .bipush 6), (35, .if_icmp .ne (5)), (38, .iconst 0), (39, .ireturn), (40, .aload_n 0), (41, .invokevirtual 304), (44, .aload_n 0), (45, .iload_n 1), (46, .invokevirtual 384), (49, .istore_n 1), (50, .iload_n 1), (51, .iconst (-1)), (52, .if_icmp .ne (-29)), (55, .iconst 0), (56, .ireturn), (57, .aload_n 0), (58, .getfield 130), (61, .ifCond .ne (7))], [(64, .iconst 1), (65, .goto 4), (68, .iconst 0), (69, .ireturn)]]
def kF122 : List (Nat × Nat × Nat × Nat) := [(130, 11, 4, 0), (297, 11, 11, 0)]
def kM122 : List (Nat × MF) := [(304, 125, 1, 0, 5, 11, 0), (377, 123, 1, 1, 5, 11, 0), (380, 129, 1, 0, 4, 11, 2), (384, 137, 1, 1, 5, 11, 1)]
def kK122 : List (Nat × AV) := []
set_option maxRecDepth 100000 in
theorem ok122 : okX 122 kc122 kF122 kM122 kK122 = true := by decide +kernel
def kc123 : List (List (Nat × Instr)) := [[(0, .iconst 0), (1, .istore_n 2), (2, .iload_n 2), (3, .bipush 7), (5, .if_icmp .ge (51)), (8, .iload_n 1), (9, .iload_n 2), (10, .invokestatic 293), (13, .istore_n 3), (14, .iconst 0), (15, .istore 4), (17, .iload 4), (19, .bipush 9), (21, .if_icmp .ge (29)), (24, .aload_n 0), (25, .getfield 26), (28, .iload_n 3), (29, .iload 4), (31, .iadd)], [(32, .iload 4), (34, .iconst 4), (35, .if_icmp .ge (7)), (38, .iconst 0), (39, .goto 4), (42, .iconst (-1)), (43, .iastore), (44, .iinc 4 1), (47, .goto (-30)), (50, .iinc 2 1), (53, .goto (-51)), (56, .return_)]]
def kF123 : List (Nat × Nat × Nat × Nat) := [(26, 11, 15, 26)]
def kM123 : List (Nat × MF) := [(293, 124, 0, 2, 2, 11, 1)]
def kK123 : List (Nat × AV) := []
set_option maxRecDepth 100000 in
theorem ok123 : okX 123 kc123 kF123 kM123 kK123 = true := by decide +kernel
def kc124 : List (List (Nat × Instr)) := [[(0, .iload_n 0), (1, .bipush 7), (3, .imul), (4, .iload_n 1), (5, .iadd), (6, .bipush 9), (8, .imul), (9, .ireturn)]]
def kF124 : List (Nat × Nat × Nat × Nat) := []
def kM124 : List (Nat × MF) := []
def kK124 : List (Nat × AV) := []
set_option maxRecDepth 100000 in
theorem ok124 : okX 124 kc124 kF124 kM124 kK124 = true := by decide +kernel
def kc125 : List (List (Nat × Instr)) := [[(0, .aload_n 0), (1, .getfield 110), (4, .istore_n 1), (5, .aload_n 0), (6, .iload_n 1), (7, .invokevirtual 113), (10, .bipush 32), (12, .if_icmp .ne (18)), (15, .iload_n 1), (16, .aload_n 0), (17, .getfield 107), (20, .if_icmp .ge (10)), (23, .iload_n 1), (24, .iconst 1), (25, .iadd), (26, .istore_n 1), (27, .goto (-22)), (30, .aload_n 0), (31, .iload_n 1)], [(32, .putfield 117), (35, .aload_n 0), (36, .lconst 0), (37, .putfield 120), (40, .aload_n 0), (41, .lconst 0), (42, .putfield 124), (45, .aload_n 0), (46, .iconst 0), (47, .putfield 127), (50, .aload_n 0), (51, .iload_n 1), (52, .invokevirtual 113), (55, .istore_n 2), (56, .iload_n 1), (57, .aload_n 0), (58, .getfield 107), (61, .if_icmp .lt (14))], [(64, .aload_n 0), (65, .iconst 0), (66, .putfield 130), (69, .aload_n 0), (70, .iload_n 1), (71, .putfield 110), (74, .return_), (75, .iconst 0), (76, .istore_n 3), (77, .iload_n 2), (78, .invokestatic 133), (81, .ifCond .eq (92)), (84, .aload_n 0), (85, .iload_n 1), (86, .iload_n 3), (87, .iadd), (88, .invokevirtual 113), (91, .invokestatic 133), (94, .ifCond .eq (59))], [(97, .iload_n 3), (98, .bipush 8), (100, .if_icmp .ge (26)), (103, .aload_n 0), (104, .aload_n 0), (105, .getfield 120), (108, .bipush 8), (110, .lshl), (111, .aload_n 0), (112, .iload_n 1), (113, .iload_n 3), (114, .iadd), (115, .invokevirtual 113), (118, .i2l), (119, .lor), (120, .putfield 120), (123, .goto 23), (126, .aload_n 0), (127, .aload_n 0)], [(128, .getfield 124), (131, .bipush 8), (133, .lshl), (134, .aload_n 0), (135, .iload_n 1), (136, .iload_n 3), (137, .iadd), (138, .invokevirtual 113), (141, .i2l), (142, .lor), (143, .putfield 124), (146, .iload_n 3), (147, .iconst 1), (148, .iadd), (149, .istore_n 3), (150, .goto (-66)), (153, .aload_n 0), (154, .iload_n 3), (155, .bipush 12), (157, .if_icmp .le (8))], [(160, .bipush 63), (162, .goto 5), (165, .bipush 119), (167, .putfield 130), (170, .goto 178), (173, .iload_n 2), (174, .invokestatic 137), (177, .ifCond .eq (81)), (180, .aload_n 0), (181, .iload_n 1), (182, .iload_n 3), (183, .iadd), (184, .invokevirtual 113), (187, .invokestatic 137), (190, .ifCond .eq (44))], [(193, .aload_n 0), (194, .iload_n 3), (195, .iconst 4), (196, .if_icmp .ge (24)), (199, .bipush 10), (201, .aload_n 0), (202, .getfield 127), (205, .imul), (206, .aload_n 0), (207, .iload_n 1), (208, .iload_n 3), (209, .iadd), (210, .invokevirtual 113), (213, .iadd), (214, .bipush 48), (216, .isub), (217, .goto 7), (220, .aload_n 0), (221, .getfield 127)], [(224, .putfield 127), (227, .iload_n 3), (228, .iconst 1), (229, .iadd), (230, .istore_n 3), (231, .goto (-51)), (234, .aload_n 0), (235, .iload_n 3), (236, .iconst 4), (237, .if_icmp .le (8)), (240, .bipush 63), (242, .goto 5), (245, .bipush 100), (247, .putfield 130), (250, .aload_n 0), (251, .iload_n 3), (252, .putfield 140), (255, .goto 93)], [(258, .iconst 1), (259, .istore_n 3), (260, .iload_n 2), (261, .bipush 44), (263, .if_icmp .eq (63)), (266, .iload_n 2), (267, .bipush 43), (269, .if_icmp .eq (57)), (272, .iload_n 2), (273, .bipush 45), (275, .if_icmp .eq (51)), (278, .iload_n 2), (279, .bipush 42), (281, .if_icmp .eq (45)), (284, .iload_n 2), (285, .bipush 61), (287, .if_icmp .eq (39))], [(290, .iload_n 2), (291, .bipush 60), (293, .if_icmp .eq (33)), (296, .iload_n 2), (297, .bipush 62), (299, .if_icmp .eq (27)), (302, .iload_n 2), (303, .bipush 40), (305, .if_icmp .eq (21)), (308, .iload_n 2), (309, .bipush 41), (311, .if_icmp .eq (15)), (314, .iload_n 2), (315, .bipush 58), (317, .if_icmp .eq (9))], [(320, .iload_n 2), (321, .bipush 59), (323, .if_icmp .ne (7)), (326, .iconst 1), (327, .goto 4), (330, .iconst 0), (331, .istore 4), (333, .aload_n 0), (334, .iload 4), (336, .ifCond .eq (7)), (339, .iload_n 2), (340, .goto 5), (343, .bipush 63), (345, .putfield 130), (348, .aload_n 0), (349, .iload_n 1), (350, .iload_n 3), (351, .iadd)], [(352, .putfield 110), (355, .return_)]]
def kF125 : List (Nat × Nat × Nat × Nat) := [(107, 11, 3, 0), (110, 11, 6, 0), (117, 11, 5, 0), (120, 11, 8, 1), (124, 11, 9, 1), (127, 11, 7, 0), (130, 11, 4, 0), (140, 11, 10, 0)]
def kM125 : List (Nat × MF) := [(113, 126, 1, 1, 2, 11, 1), (133, 127, 0, 1, 1, 11, 2), (137, 128, 0, 1, 1, 11, 2)]
def kK125 : List (Nat × AV) := []
set_option maxRecDepth 100000 in
theorem ok125 : okX 125 kc125 kF125 kM125 kK125 = true := by decide +kernel
def kc126 : List (List (Nat × Instr)) := [[(0, .iload_n 1), (1, .aload_n 0), (2, .getfield 107), (5, .if_icmp .ge (16)), (8, .aload_n 0), (9, .getfield 13), (12, .iload_n 1), (13, .baload), (14, .sipush 255), (17, .iand), (18, .goto 4), (21, .iconst 0), (22, .ireturn)]]
def kF126 : List (Nat × Nat × Nat × Nat) := [(13, 11, 2, 27), (107, 11, 3, 0)]
def kM126 : List (Nat × MF) := []
def kK126 : List (Nat × AV) := []
set_option maxRecDepth 100000 in
theorem ok126 : okX 126 kc126 kF126 kM126 kK126 = true := by decide +kernel
def kc127 : List (List (Nat × Instr)) := [[(0, .iload_n 0), (1, .bipush 97), (3, .if_icmp .lt (13)), (6, .iload_n 0), (7, .bipush 122), (9, .if_icmp .gt (7)), (12, .iconst 1), (13, .goto 4), (16, .iconst 0), (17, .ireturn)]]
def kF127 : List (Nat × Nat × Nat × Nat) := []
def kM127 : List (Nat × MF) := []
def kK127 : List (Nat × AV) := []
set_option maxRecDepth 100000 in
theorem ok127 : okX 127 kc127 kF127 kM127 kK127 = true := by decide +kernel
def kc128 : List (List (Nat × Instr)) := [[(0, .iload_n 0), (1, .bipush 48), (3, .if_icmp .lt (13)), (6, .iload_n 0), (7, .bipush 57), (9, .if_icmp .gt (7)), (12, .iconst 1), (13, .goto 4), (16, .iconst 0), (17, .ireturn)]]
def kF128 : List (Nat × Nat × Nat × Nat) := []
def kM128 : List (Nat × MF) := []
def kK128 : List (Nat × AV) := []
set_option maxRecDepth 100000 in
theorem ok128 : okX 128 kc128 kF128 kM128 kK128 = true := by decide +kernel
def kc129 : List (List (Nat × Instr)) := [[(0, .aload_n 0), (1, .getfield 297), (4, .istore_n 1), (5, .aload_n 0), (6, .getfield 16), (9, .iload_n 1), (10, .iconst 0), (11, .iastore), (12, .aload_n 0), (13, .getfield 23), (16, .iload_n 1), (17, .iconst (-1)), (18, .iastore), (19, .aload_n 0), (20, .getfield 20), (23, .iload_n 1), (24, .aload_n 0), (25, .invokevirtual 307), (28, .iastore), (29, .aload_n 0), (30, .getfield 20)], [(33, .iload_n 1), (34, .iaload), (35, .iconst (-1)), (36, .if_icmp .eq (5)), (39, .iconst 1), (40, .ireturn), (41, .aload_n 0), (42, .ldc2_w 310), (45, .invokevirtual 312), (48, .istore_n 2), (49, .iload_n 2), (50, .ifCond .eq (7)), (53, .iconst 1), (54, .goto 5), (57, .bipush 6), (59, .istore_n 3), (60, .iload_n 3), (61, .iload_n 2), (62, .ifCond .eq (7))], [(65, .iconst 5), (66, .goto 5), (69, .bipush 10), (71, .if_icmp .gt (37)), (74, .aload_n 0), (75, .getfield 16), (78, .iload_n 1), (79, .iaload), (80, .ifCond .ne (28)), (83, .aload_n 0), (84, .getfield 16), (87, .iload_n 1), (88, .aload_n 0), (89, .iload_n 3), (90, .invokevirtual 315), (93, .ifCond .eq (7))], [(96, .iload_n 3), (97, .goto 4), (100, .iconst 0), (101, .iastore), (102, .iinc 3 1), (105, .goto (-45)), (108, .aload_n 0), (109, .getfield 16), (112, .iload_n 1), (113, .iaload), (114, .ifCond .ne (5)), (117, .iconst 0), (118, .ireturn), (119, .aload_n 0), (120, .invokevirtual 304), (123, .aload_n 0), (124, .getfield 20), (127, .iload_n 1)], [(128, .aload_n 0), (129, .invokevirtual 307), (132, .iastore), (133, .aload_n 0), (134, .getfield 20), (137, .iload_n 1), (138, .iaload), (139, .iconst (-1)), (140, .if_icmp .eq (13)), (143, .aload_n 0), (144, .ldc2_w 318), (147, .invokevirtual 312), (150, .ifCond .ne (5)), (153, .iconst 0), (154, .ireturn), (155, .aload_n 0), (156, .invokevirtual 300), (159, .istore_n 3)], [(160, .iload_n 3), (161, .iconst (-1)), (162, .if_icmp .eq (13)), (165, .iload_n 3), (166, .aload_n 0), (167, .getfield 20), (170, .iload_n 1), (171, .iaload), (172, .if_icmp .ne (5)), (175, .iconst 0), (176, .ireturn), (177, .aload_n 0), (178, .getfield 23), (181, .iload_n 1), (182, .iload_n 3), (183, .iastore), (184, .aload_n 0), (185, .invokevirtual 304), (188, .iconst 1), (189, .ireturn)]]
def kF129 : List (Nat × Nat × Nat × Nat) := [(16, 11, 12, 26), (20, 11, 13, 26), (23, 11, 14, 26), (297, 11, 11, 0)]
def kM129 : List (Nat × MF) := [(300, 131, 1, 0, 2, 11, 1), (304, 125, 1, 0, 5, 11, 0), (307, 130, 1, 0, 2, 11, 1), (312, 134, 1, 1, 3, 11, 2), (315, 135, 1, 1, 2, 11, 2)]
def kK129 : List (Nat × AV) := [(310, .inr (.inl 7366002)), (318, .inr (.inl 6385252))]
set_option maxRecDepth 100000 in
theorem ok129 : okX 129 kc129 kF129 kM129 kK129 = true := by decide +kernel
def kc130 : List (List (Nat × Instr)) := [[(0, .aload_n 0), (1, .invokevirtual 300), (4, .istore_n 1), (5, .iload_n 1), (6, .iconst (-1)), (7, .if_icmp .eq (7)), (10, .aload_n 0), (11, .invokevirtual 304), (14, .iload_n 1), (15, .ireturn)]]
def kF130 : List (Nat × Nat × Nat × Nat) := []
def kM130 : List (Nat × MF) := [(300, 131, 1, 0, 2, 11, 1), (304, 125, 1, 0, 5, 11, 0)]
def kK130 : List (Nat × AV) := []
set_option maxRecDepth 100000 in
theorem ok130 : okX 130 kc130 kF130 kM130 kK130 = true := by decide +kernel
def kc131 : List (List (Nat × Instr)) := [[(0, .iconst 0), (1, .istore_n 1), (2, .iload_n 1), (3, .bipush 9), (5, .if_icmp .ge (22)), (8, .aload_n 0), (9, .iload_n 1), (10, .invokestatic 226), (13, .invokevirtual 230), (16, .ifCond .eq (5)), (19, .iload_n 1), (20, .ireturn), (21, .iinc 1 1), (24, .goto (-22)), (27, .iconst (-1)), (28, .ireturn)]]
def kF131 : List (Nat × Nat × Nat × Nat) := []
def kM131 : List (Nat × MF) := [(226, 132, 0, 1, 1, 11, 3), (230, 133, 1, 1, 3, 11, 2)]
def kK131 : List (Nat × AV) := []
set_option maxRecDepth 100000 in
theorem ok131 : okX 131 kc131 kF131 kM131 kK131 = true := by decide +kernel
def kc132 : List (List (Nat × Instr)) := [[(0, .iload_n 0), (1, .tableswitch (79) (0) (7) #[47, 51, 55, 59, 63, 67, 71, 75])], [(48, .ldc2_w 143), (51, .lreturn), (52, .ldc2_w 145), (55, .lreturn), (56, .ldc2_w 147), (59, .lreturn), (60, .ldc2_w 149), (63, .lreturn)], [(64, .ldc2_w 151), (67, .lreturn), (68, .ldc2_w 153), (71, .lreturn), (72, .ldc2_w 155), (75, .lreturn), (76, .ldc2_w 157), (79, .lreturn), (80, .ldc2_w 159), (83, .lreturn)]]
def kF132 : List (Nat × Nat × Nat × Nat) := []
def kM132 : List (Nat × MF) := []
def kK132 : List (Nat × AV) := [(143, .inr (.inl 28530)), (145, .inr (.inl 107143988866676)), (147, .inr (.inl 444351669619)), (149, .inr (.inl 418666345061)), (151, .inr (.inl 495555079269)), (153, .inr (.inl 1986359924)), (155, .inr (.inl 31654331765060197)), (157, .inr (.inl 111542136303205)), (159, .inr (.inl 1986095474))]
set_option maxRecDepth 100000 in
theorem ok132 : okX 132 kc132 kF132 kM132 kK132 = true := by decide +kernel
def kc133 : List (List (Nat × Instr)) := [[(0, .aload_n 0), (1, .getfield 130), (4, .bipush 119), (6, .if_icmp .ne (25)), (9, .aload_n 0), (10, .getfield 124), (13, .lconst 0), (14, .lcmp), (15, .ifCond .ne (16)), (18, .aload_n 0), (19, .getfield 120), (22, .lload_n 1), (23, .lcmp), (24, .ifCond .ne (7)), (27, .iconst 1), (28, .goto 4), (31, .iconst 0)], [(32, .ireturn)]]
def kF133 : List (Nat × Nat × Nat × Nat) := [(120, 11, 8, 1), (124, 11, 9, 1), (130, 11, 4, 0)]
def kM133 : List (Nat × MF) := []
def kK133 : List (Nat × AV) := []
set_option maxRecDepth 100000 in
theorem ok133 : okX 133 kc133 kF133 kM133 kK133 = true := by decide +kernel
def kc134 : List (List (Nat × Instr)) := [[(0, .aload_n 0), (1, .lload_n 1), (2, .invokevirtual 230), (5, .ifCond .ne (5)), (8, .iconst 0), (9, .ireturn), (10, .aload_n 0), (11, .invokevirtual 304), (14, .iconst 1), (15, .ireturn)]]
def kF134 : List (Nat × Nat × Nat × Nat) := []
def kM134 : List (Nat × MF) := [(230, 133, 1, 1, 3, 11, 2), (304, 125, 1, 0, 5, 11, 0)]
def kK134 : List (Nat × AV) := []
set_option maxRecDepth 100000 in
theorem ok134 : okX 134 kc134 kF134 kM134 kK134 = true := by decide +kernel
def kc135 : List (List (Nat × Instr)) := [[(0, .iload_n 1), (1, .bipush 6), (3, .if_icmp .ne (44)), (6, .aload_n 0), (7, .getfield 130), (10, .bipush 119), (12, .if_icmp .ne (31)), (15, .aload_n 0), (16, .getfield 120), (19, .bipush 6), (21, .invokestatic 288), (24, .lcmp), (25, .ifCond .ne (18)), (28, .aload_n 0), (29, .getfield 124)], [(32, .ldc2_w 291), (35, .lcmp), (36, .ifCond .ne (7)), (39, .iconst 1), (40, .goto 15), (43, .iconst 0), (44, .goto 11), (47, .aload_n 0), (48, .iload_n 1), (49, .invokestatic 288), (52, .invokevirtual 230), (55, .ireturn)]]
def kF135 : List (Nat × Nat × Nat × Nat) := [(120, 11, 8, 1), (124, 11, 9, 1), (130, 11, 4, 0)]
def kM135 : List (Nat × MF) := [(230, 133, 1, 1, 3, 11, 2), (288, 136, 0, 1, 1, 11, 3)]
def kK135 : List (Nat × AV) := [(291, .inr (.inl 121))]
set_option maxRecDepth 100000 in
theorem ok135 : okX 135 kc135 kF135 kM135 kK135 = true := by decide +kernel
def kc136 : List (List (Nat × Instr)) := [[(0, .iload_n 0), (1, .tableswitch (87) (1) (9) #[51, 55, 59, 63, 67, 71, 75, 79, 83])], [(52, .ldc2_w 177), (55, .lreturn), (56, .ldc2_w 179), (59, .lreturn), (60, .ldc2_w 181), (63, .lreturn)], [(64, .ldc2_w 183), (67, .lreturn), (68, .ldc2_w 187), (71, .lreturn), (72, .ldc2_w 278), (75, .lreturn), (76, .ldc2_w 280), (79, .lreturn), (80, .ldc2_w 282), (83, .lreturn), (84, .ldc2_w 284), (87, .lreturn), (88, .ldc2_w 286), (91, .lreturn)]]
def kF136 : List (Nat × Nat × Nat × Nat) := []
def kM136 : List (Nat × MF) := []
def kK136 : List (Nat × AV) := [(177, .inr (.inl 1885432933)), (179, .inr (.inl 1717924723)), (181, .inr (.inl 1650814564)), (183, .inr (.inl 27980807682551662)), (187, .inr (.inl 32476740759155301)), (278, .inr (.inl 8175547842767975020)), (280, .inr (.inl 1885432953)), (282, .inr (.inl 422541685369)), (284, .inr (.inl 422608528505)), (286, .inr (.inl 109300029683065))]
set_option maxRecDepth 100000 in
theorem ok136 : okX 136 kc136 kF136 kM136 kK136 = true := by decide +kernel
def kc137 : List (List (Nat × Instr)) := [[(0, .aload_n 0), (1, .ldc2_w 353), (4, .invokevirtual 230), (7, .ifCond .eq (58)), (10, .iload_n 1), (11, .iconst 5), (12, .if_icmp .ge (53)), (15, .aload_n 0), (16, .invokevirtual 304), (19, .aload_n 0), (20, .ldc2_w 241), (23, .invokevirtual 312), (26, .ifCond .eq (13)), (29, .aload_n 0), (30, .ldc2_w 191)], [(33, .invokevirtual 312), (36, .ifCond .ne (5)), (39, .iconst (-1)), (40, .ireturn), (41, .aload_n 0), (42, .invokevirtual 307), (45, .istore_n 2), (46, .aload_n 0), (47, .iconst 5), (48, .bipush 15), (50, .iload_n 2), (51, .invokevirtual 355), (54, .iload_n 2), (55, .iconst (-1)), (56, .if_icmp .ne (7)), (59, .iconst (-1)), (60, .goto 4), (63, .iconst 5)], [(64, .ireturn), (65, .aload_n 0), (66, .ldc2_w 359), (69, .invokevirtual 230), (72, .ifCond .eq (14)), (75, .iload_n 1), (76, .bipush 6), (78, .if_icmp .ge (8)), (81, .aload_n 0), (82, .invokevirtual 361), (85, .ireturn), (86, .aload_n 0), (87, .invokevirtual 343), (90, .istore_n 2), (91, .iload_n 2), (92, .ifCond .eq (18)), (95, .iload_n 1)], [(96, .iconst 4), (97, .if_icmp .ge (13)), (100, .iload_n 1), (101, .iconst 3), (102, .if_icmp .lt (10)), (105, .iload_n 2), (106, .iconst 1), (107, .if_icmp .le (5)), (110, .iconst (-1)), (111, .ireturn), (112, .aload_n 0), (113, .invokevirtual 304), (116, .iload_n 2), (117, .iconst 1), (118, .if_icmp .ne (10)), (121, .aload_n 0), (122, .invokevirtual 364), (125, .goto 4)], [(128, .iconst (-1)), (129, .istore_n 3), (130, .iload_n 2), (131, .iconst 1), (132, .if_icmp .ne (58)), (135, .iload_n 3), (136, .bipush 8), (138, .if_icmp .lt (52)), (141, .iload_n 3), (142, .bipush 14), (144, .if_icmp .gt (46)), (147, .iload_n 1), (148, .iconst 1), (149, .if_icmp .ge (41)), (152, .aload_n 0), (153, .invokevirtual 304), (156, .aload_n 0), (157, .invokevirtual 307)], [(160, .istore 4), (162, .aload_n 0), (163, .iconst 0), (164, .iload_n 3), (165, .iload 4), (167, .invokevirtual 355), (170, .iload 4), (172, .iconst (-1)), (173, .if_icmp .eq (15)), (176, .aload_n 0), (177, .iconst 1), (178, .invokevirtual 367), (181, .ifCond .eq (7)), (184, .iconst 1), (185, .goto 4), (188, .iconst (-1)), (189, .ireturn), (190, .iload_n 2), (191, .iconst 1)], [(192, .if_icmp .ne (48)), (195, .iload_n 3), (196, .bipush 7), (198, .if_icmp .ne (42)), (201, .aload_n 0), (202, .invokevirtual 304), (205, .aload_n 0), (206, .invokevirtual 307), (209, .istore 4), (211, .aload_n 0), (212, .iconst 3), (213, .bipush 7), (215, .iload 4), (217, .invokevirtual 355), (220, .iload 4), (222, .iconst (-1)), (223, .if_icmp .eq (15))], [(226, .aload_n 0), (227, .iconst 4), (228, .invokevirtual 367), (231, .ifCond .eq (7)), (234, .iconst 4), (235, .goto 4), (238, .iconst (-1)), (239, .ireturn), (240, .aload_n 0), (241, .iload_n 2), (242, .invokevirtual 346), (245, .istore 4), (247, .iload 4), (249, .iconst (-1)), (250, .if_icmp .eq (23)), (253, .iload_n 1), (254, .iconst 3), (255, .if_icmp .ge (18))], [(258, .aload_n 0), (259, .iconst 2), (260, .iload_n 2), (261, .iload 4), (263, .invokevirtual 349), (266, .ifCond .eq (7)), (269, .iconst 3), (270, .goto 4), (273, .iconst (-1)), (274, .ireturn)]]
def kF137 : List (Nat × Nat × Nat × Nat) := []
def kM137 : List (Nat × MF) := [(230, 133, 1, 1, 3, 11, 2), (304, 125, 1, 0, 5, 11, 0), (307, 130, 1, 0, 2, 11, 1), (312, 134, 1, 1, 3, 11, 2), (343, 142, 1, 0, 2, 11, 1), (346, 146, 1, 1, 3, 11, 1), (349, 148, 1, 3, 8, 11, 2), (355, 138, 1, 3, 5, 11, 0), (361, 139, 1, 0, 3, 11, 1), (364, 144, 1, 0, 2, 11, 1), (367, 145, 1, 1, 4, 11, 2)]
def kK137 : List (Nat × AV) := [(191, .inr (.inl 27707084820017765)), (241, .inr (.inl 97)), (353, .inr (.inl 131294808271214)), (359, .inr (.inl 6713202))]
set_option maxRecDepth 100000 in
theorem ok137 : okX 137 kc137 kF137 kM137 kK137 = true := by decide +kernel
def kc138 : List (List (Nat × Instr)) := [[(0, .aload_n 0), (1, .getfield 297), (4, .iload_n 1), (5, .invokestatic 293), (8, .istore 4), (10, .aload_n 0), (11, .getfield 26), (14, .iload 4), (16, .iload_n 2), (17, .iastore), (18, .aload_n 0), (19, .getfield 26), (22, .iload 4), (24, .iconst 1), (25, .iadd), (26, .iload_n 3), (27, .iastore), (28, .aload_n 0), (29, .getfield 26)], [(32, .iload 4), (34, .iconst 2), (35, .iadd), (36, .iconst 1), (37, .iastore), (38, .return_)]]
def kF138 : List (Nat × Nat × Nat × Nat) := [(26, 11, 15, 26), (297, 11, 11, 0)]
def kM138 : List (Nat × MF) := [(293, 124, 0, 2, 2, 11, 1)]
def kK138 : List (Nat × AV) := []
set_option maxRecDepth 100000 in
theorem ok138 : okX 138 kc138 kF138 kM138 kK138 = true := by decide +kernel
def kc139 : List (List (Nat × Instr)) := [[(0, .aload_n 0), (1, .invokevirtual 304), (4, .aload_n 0), (5, .getfield 130), (8, .bipush 119), (10, .if_icmp .ne (25)), (13, .aload_n 0), (14, .getfield 120), (17, .ldc2_w 370), (20, .lcmp), (21, .ifCond .ne (14)), (24, .aload_n 0), (25, .getfield 124), (28, .ldc2_w 372), (31, .lcmp)], [(32, .ifCond .eq (5)), (35, .iconst (-1)), (36, .ireturn), (37, .aload_n 0), (38, .invokevirtual 304), (41, .aload_n 0), (42, .ldc2_w 241), (45, .invokevirtual 312), (48, .ifCond .ne (5)), (51, .iconst (-1)), (52, .ireturn), (53, .iconst (-1)), (54, .istore_n 1), (55, .iconst 0), (56, .istore_n 2), (57, .iload_n 2), (58, .bipush 7), (60, .if_icmp .ge (28)), (63, .aload_n 0)], [(64, .iload_n 2), (65, .invokestatic 374), (68, .invokestatic 234), (71, .invokevirtual 230), (74, .ifCond .eq (8)), (77, .iload_n 2), (78, .invokestatic 374), (81, .istore_n 1), (82, .iinc 2 1), (85, .goto (-28)), (88, .iload_n 1), (89, .iconst (-1)), (90, .if_icmp .ne (5)), (93, .iconst (-1)), (94, .ireturn), (95, .aload_n 0)], [(96, .invokevirtual 304), (99, .aload_n 0), (100, .invokevirtual 307), (103, .istore_n 2), (104, .aload_n 0), (105, .bipush 6), (107, .iload_n 1), (108, .iload_n 2), (109, .invokevirtual 355), (112, .iload_n 2), (113, .iconst (-1)), (114, .if_icmp .ne (7)), (117, .iconst (-1)), (118, .goto 5), (121, .bipush 6), (123, .ireturn)]]
def kF139 : List (Nat × Nat × Nat × Nat) := [(120, 11, 8, 1), (124, 11, 9, 1), (130, 11, 4, 0)]
def kM139 : List (Nat × MF) := [(230, 133, 1, 1, 3, 11, 2), (234, 141, 0, 1, 1, 11, 3), (304, 125, 1, 0, 5, 11, 0), (307, 130, 1, 0, 2, 11, 1), (312, 134, 1, 1, 3, 11, 2), (355, 138, 1, 3, 5, 11, 0), (374, 140, 0, 1, 1, 11, 1)]
def kK139 : List (Nat × AV) := [(241, .inr (.inl 97)), (370, .inr (.inl 7235426866322105710)), (372, .inr (.inl 25445))]
set_option maxRecDepth 100000 in
theorem ok139 : okX 139 kc139 kF139 kM139 kK139 = true := by decide +kernel
def kc140 : List (List (Nat × Instr)) := [[(0, .iload_n 0), (1, .tableswitch (57) (0) (5) #[39, 42, 45, 48, 51, 54])], [(40, .bipush 30), (42, .ireturn), (43, .bipush 25), (45, .ireturn), (46, .bipush 24), (48, .ireturn), (49, .bipush 20), (51, .ireturn), (52, .bipush 26), (54, .ireturn), (55, .bipush 22), (57, .ireturn), (58, .bipush 21), (60, .ireturn)]]
def kF140 : List (Nat × Nat × Nat × Nat) := []
def kM140 : List (Nat × MF) := []
def kK140 : List (Nat × AV) := []
set_option maxRecDepth 100000 in
theorem ok140 : okX 140 kc140 kF140 kM140 kK140 = true := by decide +kernel
def kc141 : List (List (Nat × Instr)) := [[(0, .iload_n 0), (1, .tableswitch (255) (0) (29) #[135, 139, 143, 147, 151, 155, 159, 163, 167, 171, 175, 179, 183, 187, 191, 195, 199, 203, 207, 211, 215, 219, 223, 227, 231, 235, 239, 243, 247, 251])], [], [], [], [(136, .ldc2_w 161), (139, .lreturn), (140, .ldc2_w 163), (143, .lreturn), (144, .ldc2_w 165), (147, .lreturn), (148, .ldc2_w 167), (151, .lreturn), (152, .ldc2_w 169), (155, .lreturn), (156, .ldc2_w 171), (159, .lreturn)], [(160, .ldc2_w 173), (163, .lreturn), (164, .ldc2_w 175), (167, .lreturn), (168, .ldc2_w 177), (171, .lreturn), (172, .ldc2_w 179), (175, .lreturn), (176, .ldc2_w 181), (179, .lreturn), (180, .ldc2_w 183), (183, .lreturn), (184, .ldc2_w 185), (187, .lreturn), (188, .ldc2_w 187), (191, .lreturn)], [(192, .ldc2_w 189), (195, .lreturn), (196, .ldc2_w 191), (199, .lreturn), (200, .ldc2_w 193), (203, .lreturn), (204, .ldc2_w 195), (207, .lreturn), (208, .ldc2_w 197), (211, .lreturn), (212, .ldc2_w 199), (215, .lreturn), (216, .ldc2_w 201), (219, .lreturn), (220, .ldc2_w 203), (223, .lreturn)], [(224, .ldc2_w 205), (227, .lreturn), (228, .ldc2_w 207), (231, .lreturn), (232, .ldc2_w 209), (235, .lreturn), (236, .ldc2_w 211), (239, .lreturn), (240, .ldc2_w 213), (243, .lreturn), (244, .ldc2_w 215), (247, .lreturn), (248, .ldc2_w 217), (251, .lreturn), (252, .ldc2_w 219), (255, .lreturn)], [(256, .ldc2_w 221), (259, .lreturn)]]
def kF141 : List (Nat × Nat × Nat × Nat) := []
def kM141 : List (Nat × MF) := []
def kK141 : List (Nat × AV) := [(161, .inr (.inl 1885434484)), (163, .inr (.inl 8030591489541239417)), (165, .inr (.inl 109299962636133)), (167, .inr (.inl 422607680372)), (169, .inr (.inl 1651077732)), (171, .inr (.inl 482854661748)), (173, .inr (.inl 499967946343)), (175, .inr (.inl 426953500006)), (177, .inr (.inl 1885432933)), (179, .inr (.inl 1717924723)), (181, .inr (.inl 1650814564)), (183, .inr (.inl 27980807682551662)), (185, .inr (.inl 427121668979)), (187, .inr (.inl 32476740759155301)), (189, .inr (.inl 1885957221)), (191, .inr (.inl 27707084820017765)), (193, .inr (.inl 1818849134)), (195, .inr (.inl 1651466610)), (197, .inr (.inl 1937006951)), (199, .inr (.inl 435425864805)), (201, .inr (.inl 30787916668888436)), (203, .inr (.inl 1919906661)), (205, .inr (.inl 1818848377)), (207, .inr (.inl 32776877134276972)), (209, .inr (.inl 120351097644404)), (211, .inr (.inl 7165901503363116660)), (213, .inr (.inl 27424493436429684)), (215, .inr (.inl 32210697498944876)), (217, .inr (.inl 108204930131316)), (219, .inr (.inl 500086302066)), (221, .inr (.inl 465490306412))]
set_option maxRecDepth 100000 in
theorem ok141 : okX 141 kc141 kF141 kM141 kK141 = true := by decide +kernel
def kc142 : List (List (Nat × Instr)) := [[(0, .iconst 1), (1, .istore_n 1), (2, .iload_n 1), (3, .bipush 6), (5, .if_icmp .gt (22)), (8, .aload_n 0), (9, .iload_n 1), (10, .invokestatic 333), (13, .invokevirtual 230), (16, .ifCond .eq (5)), (19, .iload_n 1), (20, .ireturn), (21, .iinc 1 1), (24, .goto (-22)), (27, .iconst 0), (28, .ireturn)]]
def kF142 : List (Nat × Nat × Nat × Nat) := []
def kM142 : List (Nat × MF) := [(230, 133, 1, 1, 3, 11, 2), (333, 143, 0, 1, 1, 11, 3)]
def kK142 : List (Nat × AV) := []
set_option maxRecDepth 100000 in
theorem ok142 : okX 142 kc142 kF142 kM142 kK142 = true := by decide +kernel
def kc143 : List (List (Nat × Instr)) := [[(0, .iload_n 0), (1, .tableswitch (55) (1) (5) #[35, 39, 43, 47, 51])], [(36, .ldc2_w 241), (39, .lreturn), (40, .ldc2_w 243), (43, .lreturn), (44, .ldc2_w 245), (47, .lreturn), (48, .ldc2_w 247), (51, .lreturn), (52, .ldc2_w 249), (55, .lreturn), (56, .ldc2_w 251), (59, .lreturn)]]
def kF143 : List (Nat × Nat × Nat × Nat) := []
def kM143 : List (Nat × MF) := []
def kK143 : List (Nat × AV) := [(241, .inr (.inl 97)), (243, .inr (.inl 7632751)), (245, .inr (.inl 499968533861)), (247, .inr (.inl 1718580594)), (249, .inr (.inl 1718187621)), (251, .inr (.inl 7563640))]
set_option maxRecDepth 100000 in
theorem ok143 : okX 143 kc143 kF143 kM143 kK143 = true := by decide +kernel
def kc144 : List (List (Nat × Instr)) := [[(0, .iconst 0), (1, .istore_n 1), (2, .iload_n 1), (3, .bipush 30), (5, .if_icmp .gt (22)), (8, .aload_n 0), (9, .iload_n 1), (10, .invokestatic 234), (13, .invokevirtual 230), (16, .ifCond .eq (5)), (19, .iload_n 1), (20, .ireturn), (21, .iinc 1 1), (24, .goto (-22)), (27, .iconst (-1)), (28, .ireturn)]]
def kF144 : List (Nat × Nat × Nat × Nat) := []
def kM144 : List (Nat × MF) := [(230, 133, 1, 1, 3, 11, 2), (234, 141, 0, 1, 1, 11, 3)]
def kK144 : List (Nat × AV) := []
set_option maxRecDepth 100000 in
theorem ok144 : okX 144 kc144 kF144 kM144 kK144 = true := by decide +kernel
def kc145 : List (List (Nat × Instr)) := [[(0, .aload_n 0), (1, .ldc2_w 339), (4, .invokevirtual 312), (7, .ifCond .ne (5)), (10, .iconst 1), (11, .ireturn), (12, .aload_n 0), (13, .ldc2_w 341), (16, .invokevirtual 312), (19, .ifCond .ne (5)), (22, .iconst 0), (23, .ireturn), (24, .aload_n 0), (25, .invokevirtual 343), (28, .istore_n 2), (29, .iload_n 2), (30, .ifCond .ne (5))], [(33, .iconst 0), (34, .ireturn), (35, .aload_n 0), (36, .invokevirtual 304), (39, .aload_n 0), (40, .iload_n 2), (41, .invokevirtual 346), (44, .istore_n 3), (45, .iload_n 3), (46, .iconst (-1)), (47, .if_icmp .eq (17)), (50, .aload_n 0), (51, .iload_n 1), (52, .iload_n 2), (53, .iload_n 3), (54, .invokevirtual 349), (57, .ifCond .eq (7)), (60, .iconst 1), (61, .goto 4)], [(64, .iconst 0), (65, .ireturn)]]
def kF145 : List (Nat × Nat × Nat × Nat) := []
def kM145 : List (Nat × MF) := [(304, 125, 1, 0, 5, 11, 0), (312, 134, 1, 1, 3, 11, 2), (343, 142, 1, 0, 2, 11, 1), (346, 146, 1, 1, 3, 11, 1), (349, 148, 1, 3, 8, 11, 2)]
def kK145 : List (Nat × AV) := [(339, .inr (.inl 27980790434850148)), (341, .inr (.inl 2003399784))]
set_option maxRecDepth 100000 in
theorem ok145 : okX 145 kc145 kF145 kM145 kK145 = true := by decide +kernel
def kc146 : List (List (Nat × Instr)) := [[(0, .bipush 16), (2, .istore_n 2), (3, .iload_n 2), (4, .bipush 30), (6, .if_icmp .ge (38)), (9, .iload_n 1), (10, .iconst 1), (11, .if_icmp .ne (17)), (14, .aload_n 0), (15, .iload_n 2), (16, .invokestatic 234), (19, .invokevirtual 230), (22, .ifCond .eq (16)), (25, .goto 11), (28, .aload_n 0), (29, .iload_n 2), (30, .invokevirtual 336)], [(33, .ifCond .eq (5)), (36, .iload_n 2), (37, .ireturn), (38, .iinc 2 1), (41, .goto (-38)), (44, .iconst (-1)), (45, .ireturn)]]
def kF146 : List (Nat × Nat × Nat × Nat) := []
def kM146 : List (Nat × MF) := [(230, 133, 1, 1, 3, 11, 2), (234, 141, 0, 1, 1, 11, 3), (336, 147, 1, 1, 4, 11, 2)]
def kK146 : List (Nat × AV) := []
set_option maxRecDepth 100000 in
theorem ok146 : okX 146 kc146 kF146 kM146 kK146 = true := by decide +kernel
def kc147 : List (List (Nat × Instr)) := [[(0, .aload_n 0), (1, .getfield 130), (4, .bipush 119), (6, .if_icmp .eq (5)), (9, .iconst 0), (10, .ireturn), (11, .iload_n 1), (12, .bipush 22), (14, .if_icmp .ne (11)), (17, .aload_n 0), (18, .ldc2_w 237), (21, .invokevirtual 230), (24, .ireturn), (25, .iload_n 1), (26, .invokestatic 234), (29, .lstore_n 2), (30, .lload_n 2), (31, .bipush 56)], [(33, .lshr), (34, .lconst 0), (35, .lcmp), (36, .ifCond .ne (16)), (39, .aload_n 0), (40, .lload_n 2), (41, .bipush 8), (43, .lshl), (44, .ldc2_w 239), (47, .lor), (48, .invokevirtual 230), (51, .ireturn), (52, .aload_n 0), (53, .getfield 120), (56, .lload_n 2), (57, .lcmp), (58, .ifCond .ne (18)), (61, .aload_n 0), (62, .getfield 124)], [(65, .ldc2_w 239), (68, .lcmp), (69, .ifCond .ne (7)), (72, .iconst 1), (73, .goto 4), (76, .iconst 0), (77, .ireturn)]]
def kF147 : List (Nat × Nat × Nat × Nat) := [(120, 11, 8, 1), (124, 11, 9, 1), (130, 11, 4, 0)]
def kM147 : List (Nat × MF) := [(230, 133, 1, 1, 3, 11, 2), (234, 141, 0, 1, 1, 11, 3)]
def kK147 : List (Nat × AV) := [(237, .inr (.inl 119200046212467)), (239, .inr (.inl 115))]
set_option maxRecDepth 100000 in
theorem ok147 : okX 147 kc147 kF147 kM147 kK147 = true := by decide +kernel
def kc148 : List (List (Nat × Instr)) := [[(0, .aload_n 0), (1, .invokevirtual 304), (4, .aload_n 0), (5, .getfield 297), (8, .iload_n 1), (9, .invokestatic 293), (12, .istore 4), (14, .aload_n 0), (15, .getfield 26), (18, .iload 4), (20, .iload_n 3), (21, .iastore), (22, .aload_n 0), (23, .getfield 26), (26, .iload 4), (28, .iconst 2), (29, .iadd), (30, .iload_n 2), (31, .iastore)], [(32, .iload_n 3), (33, .iconst 3), (34, .invokestatic 320), (37, .ifCond .eq (7)), (40, .iconst 1), (41, .goto 14), (44, .iload_n 3), (45, .bipush 19), (47, .if_icmp .ne (7)), (50, .iconst 4), (51, .goto 4), (54, .iconst 0), (55, .istore 5), (57, .iload_n 3), (58, .iconst 3), (59, .invokestatic 320), (62, .ifCond .eq (7))], [(65, .iconst 3), (66, .goto 14), (69, .iload_n 3), (70, .bipush 19), (72, .if_icmp .ne (7)), (75, .iconst 5), (76, .goto 4), (79, .iconst (-1)), (80, .istore 6), (82, .iload 5), (84, .ifCond .le (58)), (87, .iload 5), (89, .istore 7), (91, .iload 7), (93, .iload 6), (95, .if_icmp .gt (29))], [(98, .aload_n 0), (99, .iload 7), (101, .invokevirtual 324), (104, .ifCond .eq (14)), (107, .aload_n 0), (108, .getfield 26), (111, .iload 4), (113, .iconst 3), (114, .iadd), (115, .iload 7), (117, .iastore), (118, .iinc 7 1), (121, .goto (-30)), (124, .aload_n 0), (125, .getfield 26)], [(128, .iload 4), (130, .iconst 3), (131, .iadd), (132, .iaload), (133, .ifCond .ne (5)), (136, .iconst 0), (137, .ireturn), (138, .aload_n 0), (139, .invokevirtual 304), (142, .aload_n 0), (143, .getfield 26), (146, .iload 4), (148, .iconst 1), (149, .iadd), (150, .aload_n 0), (151, .invokevirtual 307), (154, .iastore), (155, .aload_n 0), (156, .getfield 26), (159, .iload 4)], [(161, .iconst 1), (162, .iadd), (163, .iaload), (164, .iconst (-1)), (165, .if_icmp .ne (5)), (168, .iconst 0), (169, .ireturn), (170, .iconst 0), (171, .istore 7), (173, .iload 7), (175, .iconst 5), (176, .if_icmp .ge (67)), (179, .iload_n 3), (180, .iload 7), (182, .invokestatic 327), (185, .ifCond .eq (52)), (188, .aload_n 0), (189, .iload 7), (191, .invokestatic 330)], [(194, .invokevirtual 312), (197, .ifCond .ne (6)), (200, .goto 37), (203, .aload_n 0), (204, .getfield 26), (207, .iload 4), (209, .iconst 4), (210, .iadd), (211, .iload 7), (213, .iadd), (214, .aload_n 0), (215, .invokevirtual 307), (218, .iastore), (219, .aload_n 0), (220, .getfield 26), (223, .iload 4)], [(225, .iconst 4), (226, .iadd), (227, .iload 7), (229, .iadd), (230, .iaload), (231, .iconst (-1)), (232, .if_icmp .ne (5)), (235, .iconst 0), (236, .ireturn), (237, .iinc 7 1), (240, .goto (-67)), (243, .iconst 1), (244, .ireturn)]]
def kF148 : List (Nat × Nat × Nat × Nat) := [(26, 11, 15, 26), (297, 11, 11, 0)]
def kM148 : List (Nat × MF) := [(293, 124, 0, 2, 2, 11, 1), (304, 125, 1, 0, 5, 11, 0), (307, 130, 1, 0, 2, 11, 1), (312, 134, 1, 1, 3, 11, 2), (320, 149, 0, 2, 3, 11, 2), (324, 151, 1, 1, 2, 11, 2), (327, 153, 0, 2, 2, 11, 2), (330, 154, 0, 1, 1, 11, 3)]
def kK148 : List (Nat × AV) := []
set_option maxRecDepth 100000 in
theorem ok148 : okX 148 kc148 kF148 kM148 kK148 = true := by decide +kernel
def kc149 : List (List (Nat × Instr)) := [[(0, .iload_n 0), (1, .istore_n 2), (2, .iload_n 2), (3, .iconst (-1)), (4, .if_icmp .eq (16)), (7, .iload_n 2), (8, .iload_n 1), (9, .if_icmp .eq (11)), (12, .iload_n 2), (13, .invokestatic 223), (16, .istore_n 2), (17, .goto (-15)), (20, .iload_n 2), (21, .iload_n 1), (22, .if_icmp .ne (7)), (25, .iconst 1), (26, .goto 4), (29, .iconst 0), (30, .ireturn)]]
def kF149 : List (Nat × Nat × Nat × Nat) := []
def kM149 : List (Nat × MF) := [(223, 150, 0, 1, 1, 11, 1)]
def kK149 : List (Nat × AV) := []
set_option maxRecDepth 100000 in
theorem ok149 : okX 149 kc149 kF149 kM149 kK149 = true := by decide +kernel
def kc150 : List (List (Nat × Instr)) := [[(0, .iload_n 0), (1, .ifCond .ne (5)), (4, .iconst (-1)), (5, .ireturn), (6, .iload_n 0), (7, .iconst 3), (8, .if_icmp .ge (5)), (11, .iconst 0), (12, .ireturn), (13, .iload_n 0), (14, .bipush 7), (16, .if_icmp .ge (5)), (19, .iconst 2), (20, .ireturn), (21, .iload_n 0), (22, .bipush 16), (24, .if_icmp .ge (5)), (27, .iconst 1), (28, .ireturn), (29, .iload_n 0), (30, .bipush 19)], [(32, .if_icmp .ge (5)), (35, .iconst 3), (36, .ireturn), (37, .iload_n 0), (38, .bipush 21), (40, .if_icmp .ge (5)), (43, .iconst 4), (44, .ireturn), (45, .iload_n 0), (46, .bipush 24), (48, .if_icmp .ge (7)), (51, .iconst 5), (52, .goto 5), (55, .bipush 6), (57, .ireturn)]]
def kF150 : List (Nat × Nat × Nat × Nat) := []
def kM150 : List (Nat × MF) := []
def kK150 : List (Nat × AV) := []
set_option maxRecDepth 100000 in
theorem ok150 : okX 150 kc150 kF150 kM150 kK150 = true := by decide +kernel
def kc151 : List (List (Nat × Instr)) := [[(0, .iload_n 1), (1, .iconst 4), (2, .if_icmp .ne (43)), (5, .aload_n 0), (6, .getfield 130), (9, .bipush 119), (11, .if_icmp .ne (30)), (14, .aload_n 0), (15, .getfield 120), (18, .iconst 4), (19, .invokestatic 263), (22, .lcmp), (23, .ifCond .ne (18)), (26, .aload_n 0), (27, .getfield 124), (30, .ldc2_w 266)], [(33, .lcmp), (34, .ifCond .ne (7)), (37, .iconst 1), (38, .goto 15), (41, .iconst 0), (42, .goto 11), (45, .aload_n 0), (46, .iload_n 1), (47, .invokestatic 263), (50, .invokevirtual 230), (53, .ireturn)]]
def kF151 : List (Nat × Nat × Nat × Nat) := [(120, 11, 8, 1), (124, 11, 9, 1), (130, 11, 4, 0)]
def kM151 : List (Nat × MF) := [(230, 133, 1, 1, 3, 11, 2), (263, 152, 0, 1, 1, 11, 3)]
def kK151 : List (Nat × AV) := [(266, .inr (.inl 100))]
set_option maxRecDepth 100000 in
theorem ok151 : okX 151 kc151 kF151 kM151 kK151 = true := by decide +kernel
def kc152 : List (List (Nat × Instr)) := [[(0, .iload_n 0), (1, .tableswitch (47) (1) (4) #[31, 35, 39, 43])], [(32, .ldc2_w 253), (35, .lreturn), (36, .ldc2_w 255), (39, .lreturn), (40, .ldc2_w 257), (43, .lreturn), (44, .ldc2_w 259), (47, .lreturn), (48, .ldc2_w 261), (51, .lreturn)]]
def kF152 : List (Nat × Nat × Nat × Nat) := []
def kM152 : List (Nat × MF) := []
def kK152 : List (Nat × AV) := [(253, .inr (.inl 32195270009777780)), (255, .inr (.inl 31632345876491892)), (257, .inr (.inl 126879413661300)), (259, .inr (.inl 7235441203039271269)), (261, .inr (.inl 427021005669))]
set_option maxRecDepth 100000 in
theorem ok152 : okX 152 kc152 kF152 kM152 kK152 = true := by decide +kernel
def kc153 : List (List (Nat × Instr)) := [[(0, .iload_n 1), (1, .tableswitch (97) (0) (3) #[31, 55, 67, 85])], [(32, .iload_n 0), (33, .bipush 16), (35, .if_icmp .eq (15)), (38, .iload_n 0), (39, .bipush 17), (41, .if_icmp .eq (9)), (44, .iload_n 0), (45, .bipush 19), (47, .if_icmp .ne (7)), (50, .iconst 1), (51, .goto 4), (54, .iconst 0), (55, .ireturn), (56, .iload_n 0), (57, .bipush 18), (59, .if_icmp .ne (7)), (62, .iconst 1), (63, .goto 4)], [(66, .iconst 0), (67, .ireturn), (68, .iload_n 0), (69, .bipush 16), (71, .if_icmp .eq (9)), (74, .iload_n 0), (75, .bipush 19), (77, .if_icmp .ne (7)), (80, .iconst 1), (81, .goto 4), (84, .iconst 0), (85, .ireturn), (86, .iload_n 0), (87, .bipush 21), (89, .if_icmp .ne (7)), (92, .iconst 1), (93, .goto 4)], [(96, .iconst 0), (97, .ireturn), (98, .iload_n 0), (99, .bipush 29), (101, .if_icmp .ne (7)), (104, .iconst 1), (105, .goto 4), (108, .iconst 0), (109, .ireturn)]]
def kF153 : List (Nat × Nat × Nat × Nat) := []
def kM153 : List (Nat × MF) := []
def kK153 : List (Nat × AV) := []
set_option maxRecDepth 100000 in
theorem ok153 : okX 153 kc153 kF153 kM153 kK153 = true := by decide +kernel
def kc154 : List (List (Nat × Instr)) := [[(0, .iload_n 0), (1, .tableswitch (47) (0) (3) #[31, 35, 39, 43])], [(32, .ldc2_w 268), (35, .lreturn), (36, .ldc2_w 270), (39, .lreturn), (40, .ldc2_w 272), (43, .lreturn), (44, .ldc2_w 274), (47, .lreturn), (48, .ldc2_w 276), (51, .lreturn)]]
def kF154 : List (Nat × Nat × Nat × Nat) := []
def kM154 : List (Nat × MF) := []
def kK154 : List (Nat × AV) := [(268, .inr (.inl 418531599716)), (270, .inr (.inl 27431116075066724)), (272, .inr (.inl 27991845765014884)), (274, .inr (.inl 126879329969508)), (276, .inr (.inl 30787920880100708))]
set_option maxRecDepth 100000 in
theorem ok154 : okX 154 kc154 kF154 kM154 kK154 = true := by decide +kernel
def kc155 : List (List (Nat × Instr)) := [[(0, .aload_n 0), (1, .iload_n 1), (2, .iload_n 2), (3, .invokevirtual 387), (6, .ifCond .eq (16)), (9, .aload_n 0), (10, .iload_n 1), (11, .iload_n 2), (12, .invokevirtual 390), (15, .ifCond .ne (7)), (18, .iconst 1), (19, .goto 4), (22, .iconst 0), (23, .ireturn)]]
def kF155 : List (Nat × Nat × Nat × Nat) := []
def kM155 : List (Nat × MF) := [(387, 156, 1, 2, 3, 11, 2), (390, 157, 1, 2, 7, 11, 1)]
def kK155 : List (Nat × AV) := []
set_option maxRecDepth 100000 in
theorem ok155 : okX 155 kc155 kF155 kM155 kK155 = true := by decide +kernel
def kc156 : List (List (Nat × Instr)) := [[(0, .aload_n 0), (1, .getfield 16), (4, .iload_n 1), (5, .iaload), (6, .aload_n 0), (7, .getfield 16), (10, .iload_n 2), (11, .iaload), (12, .if_icmp .ne (37)), (15, .aload_n 0), (16, .getfield 20), (19, .iload_n 1), (20, .iaload), (21, .aload_n 0), (22, .getfield 20), (25, .iload_n 2), (26, .iaload), (27, .if_icmp .ne (22)), (30, .aload_n 0), (31, .getfield 23)], [(34, .iload_n 1), (35, .iaload), (36, .aload_n 0), (37, .getfield 23), (40, .iload_n 2), (41, .iaload), (42, .if_icmp .ne (7)), (45, .iconst 1), (46, .goto 4), (49, .iconst 0), (50, .ireturn)]]
def kF156 : List (Nat × Nat × Nat × Nat) := [(16, 11, 12, 26), (20, 11, 13, 26), (23, 11, 14, 26)]
def kM156 : List (Nat × MF) := []
def kK156 : List (Nat × AV) := []
set_option maxRecDepth 100000 in
theorem ok156 : okX 156 kc156 kF156 kM156 kK156 = true := by decide +kernel
def kc157 : List (List (Nat × Instr)) := [[(0, .iconst 0), (1, .istore_n 3), (2, .iconst 0), (3, .istore 4), (5, .iload 4), (7, .bipush 7), (9, .if_icmp .ge (84)), (12, .iconst 1), (13, .istore 5), (15, .iconst 0), (16, .istore 6), (18, .iload 6), (20, .bipush 9), (22, .if_icmp .ge (52)), (25, .iload 5), (27, .ifCond .eq (38)), (30, .aload_n 0), (31, .getfield 26)], [(34, .iload_n 1), (35, .iload 4), (37, .invokestatic 293), (40, .iload 6), (42, .iadd), (43, .iaload), (44, .aload_n 0), (45, .getfield 26), (48, .iload_n 2), (49, .iload 4), (51, .invokestatic 293), (54, .iload 6), (56, .iadd), (57, .iaload), (58, .if_icmp .ne (7)), (61, .iconst 1), (62, .goto 4)], [(65, .iconst 0), (66, .istore 5), (68, .iinc 6 1), (71, .goto (-53)), (74, .iload_n 3), (75, .iload 5), (77, .ifCond .eq (7)), (80, .iconst 0), (81, .goto 4), (84, .iconst 1), (85, .iadd), (86, .istore_n 3), (87, .iinc 4 1), (90, .goto (-85)), (93, .iload_n 3), (94, .ireturn)]]
def kF157 : List (Nat × Nat × Nat × Nat) := [(26, 11, 15, 26)]
def kM157 : List (Nat × MF) := [(293, 124, 0, 2, 2, 11, 1)]
def kK157 : List (Nat × AV) := []
set_option maxRecDepth 100000 in
theorem ok157 : okX 157 kc157 kF157 kM157 kK157 = true := by decide +kernel
def kc158 : List (List (Nat × Instr)) := [[(0, .aload_n 0), (1, .iload_n 1), (2, .invokevirtual 420), (5, .ifCond .ne (5)), (8, .iconst (-1)), (9, .ireturn), (10, .aload_n 0), (11, .iconst 0), (12, .putfield 404), (15, .aload_n 0), (16, .getfield 16), (19, .iload_n 1), (20, .iaload), (21, .istore_n 2), (22, .iload_n 2), (23, .ifCond .le (20)), (26, .iload_n 2), (27, .bipush 6), (29, .if_icmp .ge (14))], [(32, .aload_n 0), (33, .ldc2_w 310), (36, .invokevirtual 410), (39, .aload_n 0), (40, .invokevirtual 407), (43, .iload_n 2), (44, .ifCond .le (60)), (47, .aload_n 0), (48, .iload_n 2), (49, .invokestatic 288), (52, .invokevirtual 410), (55, .iload_n 2), (56, .bipush 6), (58, .if_icmp .ne (10)), (61, .aload_n 0), (62, .ldc2_w 291)], [(65, .invokevirtual 410), (68, .aload_n 0), (69, .aload_n 0), (70, .getfield 20), (73, .iload_n 1), (74, .iaload), (75, .invokestatic 226), (78, .invokevirtual 414), (81, .aload_n 0), (82, .ldc2_w 318), (85, .invokevirtual 414), (88, .aload_n 0), (89, .aload_n 0), (90, .getfield 23), (93, .iload_n 1), (94, .iaload), (95, .invokestatic 226)], [(98, .invokevirtual 414), (101, .goto 16), (104, .aload_n 0), (105, .aload_n 0), (106, .getfield 20), (109, .iload_n 1), (110, .iaload), (111, .invokestatic 226), (114, .invokevirtual 410), (117, .iconst 0), (118, .istore_n 3), (119, .iload_n 3), (120, .bipush 7), (122, .if_icmp .ge (44)), (125, .iload_n 1), (126, .iload_n 3), (127, .invokestatic 293)], [(130, .istore 4), (132, .aload_n 0), (133, .getfield 26), (136, .iload 4), (138, .iaload), (139, .ifCond .eq (21)), (142, .iload_n 3), (143, .iconst 1), (144, .if_icmp .eq (16)), (147, .iload_n 3), (148, .iconst 4), (149, .if_icmp .eq (11)), (152, .aload_n 0), (153, .iload_n 1), (154, .iload_n 3), (155, .iload 4), (157, .invokevirtual 423)], [(160, .iinc 3 1), (163, .goto (-44)), (166, .aload_n 0), (167, .getfield 404), (170, .ireturn)]]
def kF158 : List (Nat × Nat × Nat × Nat) := [(16, 11, 12, 26), (20, 11, 13, 26), (23, 11, 14, 26), (26, 11, 15, 26), (404, 11, 17, 0)]
def kM158 : List (Nat × MF) := [(226, 132, 0, 1, 1, 11, 3), (288, 136, 0, 1, 1, 11, 3), (293, 124, 0, 2, 2, 11, 1), (407, 161, 1, 0, 1, 11, 0), (410, 160, 1, 1, 5, 11, 0), (414, 162, 1, 1, 3, 11, 0), (420, 159, 1, 1, 2, 11, 2), (423, 163, 1, 3, 4, 11, 0)]
def kK158 : List (Nat × AV) := [(291, .inr (.inl 121)), (310, .inr (.inl 7366002)), (318, .inr (.inl 6385252))]
set_option maxRecDepth 100000 in
theorem ok158 : okX 158 kc158 kF158 kM158 kK158 = true := by decide +kernel
def kc159 : List (List (Nat × Instr)) := [[(0, .iload_n 1), (1, .ifCond .lt (15)), (4, .iload_n 1), (5, .aload_n 0), (6, .getfield 297), (9, .if_icmp .ge (7)), (12, .iconst 1), (13, .goto 4), (16, .iconst 0), (17, .ireturn)]]
def kF159 : List (Nat × Nat × Nat × Nat) := [(297, 11, 11, 0)]
def kM159 : List (Nat × MF) := []
def kK159 : List (Nat × AV) := []
set_option maxRecDepth 100000 in
theorem ok159 : okX 159 kc159 kF159 kM159 kK159 = true := by decide +kernel
def kc160 : List (List (Nat × Instr)) := [[(0, .bipush 56), (2, .istore_n 3), (3, .iload_n 3), (4, .ifCond .lt (46)), (7, .lload_n 1), (8, .iload_n 3), (9, .lshr), (10, .ldc2_w 402), (13, .land), (14, .l2i), (15, .istore 4), (17, .iload 4), (19, .ifCond .eq (25)), (22, .aload_n 0), (23, .getfield 29), (26, .aload_n 0), (27, .getfield 404), (30, .iload 4)], [(32, .i2b), (33, .bastore), (34, .aload_n 0), (35, .aload_n 0), (36, .getfield 404), (39, .iconst 1), (40, .iadd), (41, .putfield 404), (44, .iinc 3 (-8)), (47, .goto (-44)), (50, .return_)]]
def kF160 : List (Nat × Nat × Nat × Nat) := [(29, 11, 16, 27), (404, 11, 17, 0)]
def kM160 : List (Nat × MF) := []
def kK160 : List (Nat × AV) := [(402, .inr (.inl 255))]
set_option maxRecDepth 100000 in
theorem ok160 : okX 160 kc160 kF160 kM160 kK160 = true := by decide +kernel
def kc161 : List (List (Nat × Instr)) := [[(0, .aload_n 0), (1, .getfield 29), (4, .aload_n 0), (5, .getfield 404), (8, .bipush 32), (10, .bastore), (11, .aload_n 0), (12, .aload_n 0), (13, .getfield 404), (16, .iconst 1), (17, .iadd), (18, .putfield 404), (21, .return_)]]
def kF161 : List (Nat × Nat × Nat × Nat) := [(29, 11, 16, 27), (404, 11, 17, 0)]
def kM161 : List (Nat × MF) := []
def kK161 : List (Nat × AV) := []
set_option maxRecDepth 100000 in
theorem ok161 : okX 161 kc161 kF161 kM161 kK161 = true := by decide +kernel
def kc162 : List (List (Nat × Instr)) := [[(0, .aload_n 0), (1, .invokevirtual 407), (4, .aload_n 0), (5, .lload_n 1), (6, .invokevirtual 410), (9, .return_)]]
def kF162 : List (Nat × Nat × Nat × Nat) := []
def kM162 : List (Nat × MF) := [(407, 161, 1, 0, 1, 11, 0), (410, 160, 1, 1, 5, 11, 0)]
def kK162 : List (Nat × AV) := []
set_option maxRecDepth 100000 in
theorem ok162 : okX 162 kc162 kF162 kM162 kK162 = true := by decide +kernel
def kc163 : List (List (Nat × Instr)) := [[(0, .aload_n 0), (1, .invokevirtual 426), (4, .iload_n 2), (5, .iconst 2), (6, .if_icmp .ne (9)), (9, .aload_n 0), (10, .iload_n 3), (11, .invokevirtual 417), (14, .return_), (15, .iload_n 2), (16, .iconst 5), (17, .if_icmp .ne (10)), (20, .aload_n 0), (21, .ldc2_w 353), (24, .invokevirtual 414), (27, .iload_n 2), (28, .bipush 6), (30, .if_icmp .ne (24))], [(33, .aload_n 0), (34, .ldc2_w 359), (37, .invokevirtual 414), (40, .aload_n 0), (41, .ldc2_w 370), (44, .invokevirtual 414), (47, .aload_n 0), (48, .ldc2_w 372), (51, .invokevirtual 410), (54, .aload_n 0), (55, .ldc2_w 241), (58, .invokevirtual 414), (61, .aload_n 0), (62, .aload_n 0), (63, .getfield 26)], [(66, .iload_n 3), (67, .iaload), (68, .invokestatic 234), (71, .invokevirtual 414), (74, .aload_n 0), (75, .aload_n 0), (76, .getfield 26), (79, .iload_n 3), (80, .iconst 1), (81, .iadd), (82, .iaload), (83, .invokestatic 226), (86, .invokevirtual 414), (89, .iload_n 2), (90, .ifCond .eq (8)), (93, .iload_n 2), (94, .iconst 3), (95, .if_icmp .ne (14))], [(98, .aload_n 0), (99, .iload_n 1), (100, .iload_n 2), (101, .iconst 1), (102, .iadd), (103, .invokestatic 293), (106, .invokevirtual 429), (109, .return_)]]
def kF163 : List (Nat × Nat × Nat × Nat) := [(26, 11, 15, 26)]
def kM163 : List (Nat × MF) := [(226, 132, 0, 1, 1, 11, 3), (234, 141, 0, 1, 1, 11, 3), (293, 124, 0, 2, 2, 11, 1), (410, 160, 1, 1, 5, 11, 0), (414, 162, 1, 1, 3, 11, 0), (417, 165, 1, 1, 6, 11, 0), (426, 164, 1, 0, 1, 11, 0), (429, 166, 1, 1, 2, 11, 0)]
def kK163 : List (Nat × AV) := [(241, .inr (.inl 97)), (353, .inr (.inl 131294808271214)), (359, .inr (.inl 6713202)), (370, .inr (.inl 7235426866322105710)), (372, .inr (.inl 25445))]
set_option maxRecDepth 100000 in
theorem ok163 : okX 163 kc163 kF163 kM163 kK163 = true := by decide +kernel
def kc164 : List (List (Nat × Instr)) := [[(0, .aload_n 0), (1, .getfield 29), (4, .aload_n 0), (5, .getfield 404), (8, .bipush 44), (10, .bastore), (11, .aload_n 0), (12, .aload_n 0), (13, .getfield 404), (16, .iconst 1), (17, .iadd), (18, .putfield 404), (21, .return_)]]
def kF164 : List (Nat × Nat × Nat × Nat) := [(29, 11, 16, 27), (404, 11, 17, 0)]
def kM164 : List (Nat × MF) := []
def kK164 : List (Nat × AV) := []
set_option maxRecDepth 100000 in
theorem ok164 : okX 164 kc164 kF164 kM164 kK164 = true := by decide +kernel
def kc165 : List (List (Nat × Instr)) := [[(0, .aload_n 0), (1, .getfield 26), (4, .iload_n 1), (5, .iconst 2), (6, .iadd), (7, .iaload), (8, .istore_n 2), (9, .aload_n 0), (10, .getfield 26), (13, .iload_n 1), (14, .iaload), (15, .istore_n 3), (16, .aload_n 0), (17, .iload_n 2), (18, .invokestatic 333), (21, .invokevirtual 414), (24, .aload_n 0), (25, .iload_n 2), (26, .iconst 1), (27, .if_icmp .le (15)), (30, .iload_n 3), (31, .bipush 22)], [(33, .if_icmp .ne (9)), (36, .ldc2_w 237), (39, .goto 7), (42, .iload_n 3), (43, .invokestatic 234), (46, .invokevirtual 414), (49, .iload_n 2), (50, .iconst 1), (51, .if_icmp .le (16)), (54, .iload_n 3), (55, .bipush 22), (57, .if_icmp .eq (10)), (60, .aload_n 0), (61, .ldc2_w 239)], [(64, .invokevirtual 410), (67, .aload_n 0), (68, .getfield 26), (71, .iload_n 1), (72, .iconst 3), (73, .iadd), (74, .iaload), (75, .istore 4), (77, .iload 4), (79, .ifCond .le (12)), (82, .aload_n 0), (83, .iload 4), (85, .invokestatic 263), (88, .invokevirtual 414), (91, .iload 4), (93, .iconst 4), (94, .if_icmp .ne (10))], [(97, .aload_n 0), (98, .ldc2_w 266), (101, .invokevirtual 410), (104, .aload_n 0), (105, .aload_n 0), (106, .getfield 26), (109, .iload_n 1), (110, .iconst 1), (111, .iadd), (112, .iaload), (113, .invokestatic 226), (116, .invokevirtual 414), (119, .iconst 0), (120, .istore 5), (122, .iload 5), (124, .iconst 5), (125, .if_icmp .ge (54))], [(128, .aload_n 0), (129, .getfield 26), (132, .iload_n 1), (133, .iconst 4), (134, .iadd), (135, .iload 5), (137, .iadd), (138, .iaload), (139, .iconst (-1)), (140, .if_icmp .ne (6)), (143, .goto 30), (146, .aload_n 0), (147, .iload 5), (149, .invokestatic 330), (152, .invokevirtual 414), (155, .aload_n 0), (156, .aload_n 0), (157, .getfield 26)], [(160, .iload_n 1), (161, .iconst 4), (162, .iadd), (163, .iload 5), (165, .iadd), (166, .iaload), (167, .invokestatic 226), (170, .invokevirtual 414), (173, .iinc 5 1), (176, .goto (-54)), (179, .return_)]]
def kF165 : List (Nat × Nat × Nat × Nat) := [(26, 11, 15, 26)]
def kM165 : List (Nat × MF) := [(226, 132, 0, 1, 1, 11, 3), (234, 141, 0, 1, 1, 11, 3), (263, 152, 0, 1, 1, 11, 3), (330, 154, 0, 1, 1, 11, 3), (333, 143, 0, 1, 1, 11, 3), (410, 160, 1, 1, 5, 11, 0), (414, 162, 1, 1, 3, 11, 0)]
def kK165 : List (Nat × AV) := [(237, .inr (.inl 119200046212467)), (239, .inr (.inl 115)), (266, .inr (.inl 100))]
set_option maxRecDepth 100000 in
theorem ok165 : okX 165 kc165 kF165 kM165 kK165 = true := by decide +kernel
def kc166 : List (List (Nat × Instr)) := [[(0, .aload_n 0), (1, .getfield 26), (4, .iload_n 1), (5, .iaload), (6, .ifCond .ne (4)), (9, .return_), (10, .aload_n 0), (11, .ldc2_w 339), (14, .invokevirtual 414), (17, .aload_n 0), (18, .ldc2_w 341), (21, .invokevirtual 414), (24, .aload_n 0), (25, .iload_n 1), (26, .invokevirtual 417), (29, .return_)]]
def kF166 : List (Nat × Nat × Nat × Nat) := [(26, 11, 15, 26)]
def kM166 : List (Nat × MF) := [(414, 162, 1, 1, 3, 11, 0), (417, 165, 1, 1, 6, 11, 0)]
def kK166 : List (Nat × AV) := [(339, .inr (.inl 27980790434850148)), (341, .inr (.inl 2003399784))]
set_option maxRecDepth 100000 in
theorem ok166 : okX 166 kc166 kF166 kM166 kK166 = true := by decide +kernel
def kc167 : List (List (Nat × Instr)) := [[(0, .iload_n 1), (1, .ifCond .lt (24)), (4, .iload_n 1), (5, .aload_n 0), (6, .getfield 404), (9, .if_icmp .ge (16)), (12, .aload_n 0), (13, .getfield 29), (16, .iload_n 1), (17, .baload), (18, .sipush 255), (21, .iand), (22, .goto 4), (25, .iconst (-1)), (26, .ireturn)]]
def kF167 : List (Nat × Nat × Nat × Nat) := [(29, 11, 16, 27), (404, 11, 17, 0)]
def kM167 : List (Nat × MF) := []
def kK167 : List (Nat × AV) := []
set_option maxRecDepth 100000 in
theorem ok167 : okX 167 kc167 kF167 kM167 kK167 = true := by decide +kernel
def kc168 : List (List (Nat × Instr)) := [[(0, .aload_n 0), (1, .iload_n 1), (2, .invokevirtual 420), (5, .ifCond .ne (5)), (8, .iconst (-1)), (9, .ireturn), (10, .iload_n 2), (11, .ifCond .ne (10)), (14, .aload_n 0), (15, .getfield 16), (18, .iload_n 1), (19, .iaload), (20, .ireturn), (21, .iload_n 2), (22, .iconst 1), (23, .if_icmp .ne (10)), (26, .aload_n 0), (27, .getfield 20), (30, .iload_n 1), (31, .iaload)], [(32, .ireturn), (33, .iload_n 2), (34, .iconst 2), (35, .if_icmp .ne (10)), (38, .aload_n 0), (39, .getfield 23), (42, .iload_n 1), (43, .iaload), (44, .ireturn), (45, .iload_n 2), (46, .iconst 3), (47, .if_icmp .ne (9)), (50, .aload_n 0), (51, .iload_n 1), (52, .invokevirtual 432), (55, .ireturn), (56, .iload_n 2), (57, .bipush 10), (59, .if_icmp .ge (5)), (62, .iconst (-1)), (63, .ireturn)], [(64, .aload_n 0), (65, .iload_n 1), (66, .iload_n 2), (67, .bipush 10), (69, .isub), (70, .bipush 8), (72, .idiv), (73, .invokevirtual 435), (76, .istore_n 3), (77, .iload_n 3), (78, .iconst (-1)), (79, .if_icmp .ne (5)), (82, .iconst (-1)), (83, .ireturn), (84, .iload_n 1), (85, .iload_n 3), (86, .invokestatic 293), (89, .istore 4), (91, .iload_n 2), (92, .bipush 10), (94, .isub), (95, .bipush 8)], [(97, .irem), (98, .tableswitch (97) (0) (6) #[42, 50, 60, 70, 80, 82, 89])], [(140, .aload_n 0), (141, .getfield 26), (144, .iload 4), (146, .iaload), (147, .ireturn), (148, .aload_n 0), (149, .getfield 26), (152, .iload 4), (154, .iconst 1), (155, .iadd), (156, .iaload), (157, .ireturn), (158, .aload_n 0), (159, .getfield 26)], [(162, .iload 4), (164, .iconst 2), (165, .iadd), (166, .iaload), (167, .ireturn), (168, .aload_n 0), (169, .getfield 26), (172, .iload 4), (174, .iconst 3), (175, .iadd), (176, .iaload), (177, .ireturn), (178, .iload_n 3), (179, .ireturn), (180, .aload_n 0), (181, .iload 4), (183, .invokevirtual 438), (186, .ireturn), (187, .aload_n 0), (188, .iload 4), (190, .iconst 0), (191, .invokevirtual 441)], [(194, .ireturn), (195, .aload_n 0), (196, .iload 4), (198, .iconst 1), (199, .invokevirtual 441), (202, .ireturn)]]
def kF168 : List (Nat × Nat × Nat × Nat) := [(16, 11, 12, 26), (20, 11, 13, 26), (23, 11, 14, 26), (26, 11, 15, 26)]
def kM168 : List (Nat × MF) := [(293, 124, 0, 2, 2, 11, 1), (420, 159, 1, 1, 2, 11, 2), (432, 169, 1, 1, 4, 11, 1), (435, 170, 1, 2, 5, 11, 1), (438, 171, 1, 1, 4, 11, 1), (441, 172, 1, 2, 6, 11, 1)]
def kK168 : List (Nat × AV) := []
set_option maxRecDepth 100000 in
theorem ok168 : okX 168 kc168 kF168 kM168 kK168 = true := by decide +kernel
def kc169 : List (List (Nat × Instr)) := [[(0, .iconst 0), (1, .istore_n 2), (2, .iconst 0), (3, .istore_n 3), (4, .iload_n 3), (5, .bipush 7), (7, .if_icmp .ge (30)), (10, .iload_n 2), (11, .aload_n 0), (12, .getfield 26), (15, .iload_n 1), (16, .iload_n 3), (17, .invokestatic 293), (20, .iaload), (21, .ifCond .eq (7)), (24, .iconst 1), (25, .goto 4), (28, .iconst 0), (29, .iadd), (30, .istore_n 2), (31, .iinc 3 1)], [(34, .goto (-30)), (37, .iload_n 2), (38, .ireturn)]]
def kF169 : List (Nat × Nat × Nat × Nat) := [(26, 11, 15, 26)]
def kM169 : List (Nat × MF) := [(293, 124, 0, 2, 2, 11, 1)]
def kK169 : List (Nat × AV) := []
set_option maxRecDepth 100000 in
theorem ok169 : okX 169 kc169 kF169 kM169 kK169 = true := by decide +kernel
def kc170 : List (List (Nat × Instr)) := [[(0, .iconst 0), (1, .istore_n 3), (2, .iconst 0), (3, .istore 4), (5, .iload 4), (7, .bipush 7), (9, .if_icmp .ge (38)), (12, .aload_n 0), (13, .getfield 26), (16, .iload_n 1), (17, .iload 4), (19, .invokestatic 293), (22, .iaload), (23, .ifCond .ne (6)), (26, .goto 15), (29, .iload_n 3), (30, .iload_n 2), (31, .if_icmp .ne (6))], [(34, .iload 4), (36, .ireturn), (37, .iload_n 3), (38, .iconst 1), (39, .iadd), (40, .istore_n 3), (41, .iinc 4 1), (44, .goto (-39)), (47, .iconst (-1)), (48, .ireturn)]]
def kF170 : List (Nat × Nat × Nat × Nat) := [(26, 11, 15, 26)]
def kM170 : List (Nat × MF) := [(293, 124, 0, 2, 2, 11, 1)]
def kK170 : List (Nat × AV) := []
set_option maxRecDepth 100000 in
theorem ok170 : okX 170 kc170 kF170 kM170 kK170 = true := by decide +kernel
def kc171 : List (List (Nat × Instr)) := [[(0, .iconst 0), (1, .istore_n 2), (2, .iconst 0), (3, .istore_n 3), (4, .iload_n 3), (5, .iconst 5), (6, .if_icmp .ge (31)), (9, .iload_n 2), (10, .aload_n 0), (11, .getfield 26), (14, .iload_n 1), (15, .iconst 4), (16, .iadd), (17, .iload_n 3), (18, .iadd), (19, .iaload), (20, .iconst (-1)), (21, .if_icmp .eq (7)), (24, .iconst 1), (25, .goto 4), (28, .iconst 0), (29, .iadd), (30, .istore_n 2), (31, .iinc 3 1)], [(34, .goto (-30)), (37, .iload_n 2), (38, .ireturn)]]
def kF171 : List (Nat × Nat × Nat × Nat) := [(26, 11, 15, 26)]
def kM171 : List (Nat × MF) := []
def kK171 : List (Nat × AV) := []
set_option maxRecDepth 100000 in
theorem ok171 : okX 171 kc171 kF171 kM171 kK171 = true := by decide +kernel
def kc172 : List (List (Nat × Instr)) := [[(0, .iconst (-1)), (1, .istore_n 3), (2, .iconst 0), (3, .istore 4), (5, .iload 4), (7, .iconst 5), (8, .if_icmp .ge (40)), (11, .aload_n 0), (12, .getfield 26), (15, .iload_n 1), (16, .iconst 4), (17, .iadd), (18, .iload 4), (20, .iadd), (21, .iaload), (22, .istore 5), (24, .iload 5), (26, .iconst (-1)), (27, .if_icmp .eq (15)), (30, .iload_n 2), (31, .ifCond .ne (8))], [(34, .iload_n 3), (35, .iconst (-1)), (36, .if_icmp .ne (6)), (39, .iload 5), (41, .istore_n 3), (42, .iinc 4 1), (45, .goto (-40)), (48, .iload_n 3), (49, .ireturn)]]
def kF172 : List (Nat × Nat × Nat × Nat) := [(26, 11, 15, 26)]
def kM172 : List (Nat × MF) := []
def kK172 : List (Nat × AV) := []
set_option maxRecDepth 100000 in
theorem ok172 : okX 172 kc172 kF172 kM172 kK172 = true := by decide +kernel
def kc173 : List (List (Nat × Instr)) := [[(0, .aload_n 0), (1, .iload_n 1), (2, .invokevirtual 420), (5, .ifCond .eq (11)), (8, .aload_n 0), (9, .iload_n 2), (10, .invokevirtual 420), (13, .ifCond .ne (5)), (16, .iconst (-1)), (17, .ireturn), (18, .aload_n 0), (19, .iload_n 1), (20, .iload_n 2), (21, .invokevirtual 390), (24, .aload_n 0), (25, .iload_n 1), (26, .iload_n 2), (27, .invokevirtual 387), (30, .ifCond .eq (7))], [(33, .iconst 0), (34, .goto 4), (37, .iconst 1), (38, .iadd), (39, .ireturn)]]
def kF173 : List (Nat × Nat × Nat × Nat) := []
def kM173 : List (Nat × MF) := [(387, 156, 1, 2, 3, 11, 2), (390, 157, 1, 2, 7, 11, 1), (420, 159, 1, 1, 2, 11, 2)]
def kK173 : List (Nat × AV) := []
set_option maxRecDepth 100000 in
theorem ok173 : okX 173 kc173 kF173 kM173 kK173 = true := by decide +kernel
def kc174 : List (List (Nat × Instr)) := [[(0, .iload_n 1), (1, .invokestatic 499), (4, .ifCond .eq (11)), (7, .aload_n 0), (8, .iload_n 2), (9, .invokevirtual 393), (12, .ifCond .ne (5)), (15, .iconst (-1)), (16, .ireturn), (17, .aload_n 0), (18, .invokevirtual 502), (21, .ifCond .ne (11)), (24, .bipush (-2)), (26, .aload_n 0), (27, .getfield 117), (30, .isub), (31, .ireturn)], [(32, .aload_n 0), (33, .getfield 32), (36, .iload_n 1), (37, .aload_n 0), (38, .getfield 32), (41, .iconst 5), (42, .iaload), (43, .iastore), (44, .aload_n 0), (45, .getfield 35), (48, .iload_n 1), (49, .aload_n 0), (50, .getfield 35), (53, .iconst 5), (54, .iaload), (55, .iastore), (56, .iconst 0), (57, .istore_n 3), (58, .iload_n 3), (59, .aload_n 0), (60, .getfield 32), (63, .iconst 5)], [(64, .iaload), (65, .if_icmp .ge (89)), (68, .aload_n 0), (69, .getfield 38), (72, .bipush 12), (74, .iload_n 1), (75, .imul), (76, .iload_n 3), (77, .iadd), (78, .aload_n 0), (79, .getfield 38), (82, .bipush 60), (84, .iload_n 3), (85, .iadd), (86, .iaload), (87, .iastore), (88, .aload_n 0), (89, .getfield 41), (92, .bipush 12), (94, .iload_n 1), (95, .imul)], [(96, .iload_n 3), (97, .iadd), (98, .aload_n 0), (99, .getfield 41), (102, .bipush 60), (104, .iload_n 3), (105, .iadd), (106, .iaload), (107, .iastore), (108, .aload_n 0), (109, .getfield 44), (112, .bipush 12), (114, .iload_n 1), (115, .imul), (116, .iload_n 3), (117, .iadd), (118, .aload_n 0), (119, .getfield 44), (122, .bipush 60), (124, .iload_n 3), (125, .iadd), (126, .iaload), (127, .iastore)], [(128, .aload_n 0), (129, .getfield 47), (132, .bipush 12), (134, .iload_n 1), (135, .imul), (136, .iload_n 3), (137, .iadd), (138, .aload_n 0), (139, .getfield 47), (142, .bipush 60), (144, .iload_n 3), (145, .iadd), (146, .iaload), (147, .iastore), (148, .iinc 3 1), (151, .goto (-93)), (154, .iconst 0), (155, .istore_n 3), (156, .iload_n 3), (157, .aload_n 0), (158, .getfield 35)], [(161, .iconst 5), (162, .iaload), (163, .if_icmp .ge (53)), (166, .aload_n 0), (167, .getfield 50), (170, .sipush 240), (173, .iload_n 1), (174, .imul), (175, .iload_n 3), (176, .iadd), (177, .aload_n 0), (178, .getfield 50), (181, .sipush 1200), (184, .iload_n 3), (185, .iadd), (186, .iaload), (187, .iastore), (188, .aload_n 0), (189, .getfield 53)], [(192, .sipush 240), (195, .iload_n 1), (196, .imul), (197, .iload_n 3), (198, .iadd), (199, .aload_n 0), (200, .getfield 53), (203, .sipush 1200), (206, .iload_n 3), (207, .iadd), (208, .iaload), (209, .iastore), (210, .iinc 3 1), (213, .goto (-57)), (216, .aload_n 0), (217, .getfield 32), (220, .iload_n 1), (221, .iaload), (222, .ireturn)]]
def kF174 : List (Nat × Nat × Nat × Nat) := [(32, 11, 18, 26), (35, 11, 19, 26), (38, 11, 20, 26), (41, 11, 21, 26), (44, 11, 22, 26), (47, 11, 23, 26), (50, 11, 24, 26), (53, 11, 25, 26), (117, 11, 5, 0)]
def kM174 : List (Nat × MF) := [(393, 121, 1, 1, 3, 11, 2), (499, 175, 0, 1, 1, 11, 2), (502, 176, 1, 0, 3, 11, 2)]
def kK174 : List (Nat × AV) := []
set_option maxRecDepth 100000 in
theorem ok174 : okX 174 kc174 kF174 kM174 kK174 = true := by decide +kernel
def kc175 : List (List (Nat × Instr)) := [[(0, .iload_n 0), (1, .ifCond .lt (12)), (4, .iload_n 0), (5, .iconst 4), (6, .if_icmp .ge (7)), (9, .iconst 1), (10, .goto 4), (13, .iconst 0), (14, .ireturn)]]
def kF175 : List (Nat × Nat × Nat × Nat) := []
def kM175 : List (Nat × MF) := []
def kK175 : List (Nat × AV) := []
set_option maxRecDepth 100000 in
theorem ok175 : okX 175 kc175 kF175 kM175 kK175 = true := by decide +kernel
def kc176 : List (List (Nat × Instr)) := [[(0, .aload_n 0), (1, .getfield 32), (4, .iconst 5), (5, .iconst 0), (6, .iastore), (7, .aload_n 0), (8, .getfield 35), (11, .iconst 5), (12, .iconst 0), (13, .iastore), (14, .aload_n 0), (15, .invokevirtual 304), (18, .aload_n 0), (19, .getfield 130), (22, .ifCond .eq (148)), (25, .aload_n 0), (26, .ldc2_w 490), (29, .invokevirtual 230)], [(32, .ifCond .eq (14)), (35, .aload_n 0), (36, .getfield 32), (39, .iconst 5), (40, .iaload), (41, .bipush 12), (43, .if_icmp .ne (5)), (46, .iconst 0), (47, .ireturn), (48, .aload_n 0), (49, .invokevirtual 304), (52, .aload_n 0), (53, .getfield 130), (56, .bipush 100), (58, .if_icmp .ne (19)), (61, .aload_n 0), (62, .getfield 140)], [(65, .iconst 1), (66, .if_icmp .ne (11)), (69, .aload_n 0), (70, .getfield 127), (73, .iconst 3), (74, .if_icmp .le (5)), (77, .iconst 0), (78, .ireturn), (79, .aload_n 0), (80, .getfield 127), (83, .istore_n 1), (84, .aload_n 0), (85, .invokevirtual 304), (88, .aload_n 0), (89, .ldc2_w 359), (92, .invokevirtual 312), (95, .ifCond .ne (5))], [(98, .iconst 0), (99, .ireturn), (100, .aload_n 0), (101, .invokevirtual 364), (104, .istore_n 2), (105, .iload_n 2), (106, .iconst (-1)), (107, .if_icmp .eq (14)), (110, .aload_n 0), (111, .iconst 5), (112, .iload_n 1), (113, .iload_n 2), (114, .invokevirtual 492), (117, .iconst (-1)), (118, .if_icmp .eq (5)), (121, .iconst 0), (122, .ireturn), (123, .aload_n 0), (124, .invokevirtual 304), (127, .aload_n 0)], [(128, .getfield 130), (131, .bipush 58), (133, .if_icmp .eq (5)), (136, .iconst 0), (137, .ireturn), (138, .aload_n 0), (139, .invokevirtual 304), (142, .aload_n 0), (143, .iconst 5), (144, .iload_n 1), (145, .iload_n 2), (146, .invokevirtual 445), (149, .aload_n 0), (150, .invokevirtual 496), (153, .ifCond .ne (5)), (156, .iconst 0), (157, .ireturn), (158, .aload_n 0), (159, .iconst 5)], [(160, .invokevirtual 451), (163, .aload_n 0), (164, .invokevirtual 304), (167, .goto (-149)), (170, .iconst 1), (171, .ireturn)]]
def kF176 : List (Nat × Nat × Nat × Nat) := [(32, 11, 18, 26), (35, 11, 19, 26), (127, 11, 7, 0), (130, 11, 4, 0), (140, 11, 10, 0)]
def kM176 : List (Nat × MF) := [(230, 133, 1, 1, 3, 11, 2), (304, 125, 1, 0, 5, 11, 0), (312, 134, 1, 1, 3, 11, 2), (364, 144, 1, 0, 2, 11, 1), (445, 115, 1, 3, 5, 11, 0), (451, 117, 1, 1, 2, 11, 0), (492, 177, 1, 3, 5, 11, 1), (496, 178, 1, 0, 4, 11, 2)]
def kK176 : List (Nat × AV) := [(359, .inr (.inl 6713202)), (490, .inr (.inl 1920298085))]
set_option maxRecDepth 100000 in
theorem ok176 : okX 176 kc176 kF176 kM176 kK176 = true := by decide +kernel
def kc177 : List (List (Nat × Instr)) := [[(0, .iconst 0), (1, .istore 4), (3, .iload 4), (5, .aload_n 0), (6, .getfield 32), (9, .iload_n 1), (10, .iaload), (11, .if_icmp .ge (44)), (14, .aload_n 0), (15, .getfield 38), (18, .bipush 12), (20, .iload_n 1), (21, .imul), (22, .iload 4), (24, .iadd), (25, .iaload), (26, .iload_n 2), (27, .if_icmp .ne (22)), (30, .aload_n 0), (31, .getfield 41)], [(34, .bipush 12), (36, .iload_n 1), (37, .imul), (38, .iload 4), (40, .iadd), (41, .iaload), (42, .iload_n 3), (43, .if_icmp .ne (6)), (46, .iload 4), (48, .ireturn), (49, .iinc 4 1), (52, .goto (-49)), (55, .iconst (-1)), (56, .ireturn)]]
def kF177 : List (Nat × Nat × Nat × Nat) := [(32, 11, 18, 26), (38, 11, 20, 26), (41, 11, 21, 26)]
def kM177 : List (Nat × MF) := []
def kK177 : List (Nat × AV) := []
set_option maxRecDepth 100000 in
theorem ok177 : okX 177 kc177 kF177 kM177 kK177 = true := by decide +kernel
def kc178 : List (List (Nat × Instr)) := [[(0, .aload_n 0), (1, .iconst 0), (2, .putfield 472), (5, .aload_n 0), (6, .iconst 0), (7, .putfield 478), (10, .iconst 1), (11, .istore_n 1), (12, .iload_n 1), (13, .ifCond .eq (112)), (16, .iconst 0), (17, .istore_n 2), (18, .iconst 2), (19, .istore_n 3), (20, .iload_n 3), (21, .bipush 10), (23, .if_icmp .gt (22)), (26, .aload_n 0), (27, .iload_n 3), (28, .invokestatic 481), (31, .invokevirtual 230)], [(34, .ifCond .eq (5)), (37, .iload_n 3), (38, .istore_n 2), (39, .iinc 3 1), (42, .goto (-22)), (45, .aload_n 0), (46, .getfield 130), (49, .bipush 40), (51, .if_icmp .ne (33)), (54, .aload_n 0), (55, .getfield 478), (58, .bipush 9), (60, .if_icmp .ne (5)), (63, .iconst 0)], [(64, .ireturn), (65, .aload_n 0), (66, .aload_n 0), (67, .getfield 478), (70, .iconst 1), (71, .iadd), (72, .putfield 478), (75, .aload_n 0), (76, .bipush 40), (78, .invokevirtual 484), (81, .goto 41), (84, .aload_n 0), (85, .getfield 130), (88, .bipush 100), (90, .if_icmp .eq (7)), (93, .iload_n 2), (94, .ifCond .eq (26))], [(97, .aload_n 0), (98, .iconst 5), (99, .iload_n 2), (100, .ifCond .ne (7)), (103, .iconst 1), (104, .goto 4), (107, .iload_n 2), (108, .aload_n 0), (109, .getfield 127), (112, .invokevirtual 448), (115, .iconst 0), (116, .istore_n 1), (117, .goto 5), (120, .iconst 0), (121, .ireturn), (122, .goto 150), (125, .aload_n 0), (126, .getfield 130)], [(129, .bipush 43), (131, .if_icmp .eq (48)), (134, .aload_n 0), (135, .getfield 130), (138, .bipush 45), (140, .if_icmp .eq (39)), (143, .aload_n 0), (144, .getfield 130), (147, .bipush 42), (149, .if_icmp .eq (30)), (152, .aload_n 0), (153, .getfield 130), (156, .bipush 61), (158, .if_icmp .eq (21))], [(161, .aload_n 0), (162, .getfield 130), (165, .bipush 60), (167, .if_icmp .eq (12)), (170, .aload_n 0), (171, .getfield 130), (174, .bipush 62), (176, .if_icmp .ne (27)), (179, .aload_n 0), (180, .aload_n 0), (181, .getfield 130), (184, .invokestatic 475), (187, .invokevirtual 487), (190, .aload_n 0), (191, .aload_n 0)], [(192, .getfield 130), (195, .invokevirtual 484), (198, .iconst 1), (199, .istore_n 1), (200, .goto 72), (203, .aload_n 0), (204, .getfield 130), (207, .bipush 41), (209, .if_icmp .ne (38)), (212, .aload_n 0), (213, .getfield 478), (216, .ifCond .le (31)), (219, .aload_n 0), (220, .iconst 1), (221, .invokevirtual 487)], [(224, .aload_n 0), (225, .aload_n 0), (226, .getfield 472), (229, .iconst 1), (230, .isub), (231, .putfield 472), (234, .aload_n 0), (235, .aload_n 0), (236, .getfield 478), (239, .iconst 1), (240, .isub), (241, .putfield 478), (244, .goto 28), (247, .aload_n 0), (248, .getfield 130), (251, .bipush 59), (253, .if_icmp .ne (17))], [(256, .aload_n 0), (257, .getfield 478), (260, .ifCond .ne (10)), (263, .aload_n 0), (264, .iconst 1), (265, .invokevirtual 487), (268, .iconst 1), (269, .ireturn), (270, .iconst 0), (271, .ireturn), (272, .aload_n 0), (273, .invokevirtual 304), (276, .goto (-264))]]
def kF178 : List (Nat × Nat × Nat × Nat) := [(127, 11, 7, 0), (130, 11, 4, 0), (472, 11, 27, 0), (478, 11, 28, 0)]
def kM178 : List (Nat × MF) := [(230, 133, 1, 1, 3, 11, 2), (304, 125, 1, 0, 5, 11, 0), (448, 116, 1, 3, 4, 11, 0), (475, 181, 0, 1, 1, 11, 1), (481, 179, 0, 1, 1, 11, 3), (484, 180, 1, 1, 2, 11, 0), (487, 182, 1, 1, 2, 11, 0)]
def kK178 : List (Nat × AV) := []
set_option maxRecDepth 100000 in
theorem ok178 : okX 178 kc178 kF178 kM178 kK178 = true := by decide +kernel
def kc179 : List (List (Nat × Instr)) := [[(0, .iload_n 0), (1, .tableswitch (79) (2) (9) #[47, 51, 55, 59, 63, 67, 71, 75])], [(48, .ldc2_w 454), (51, .lreturn), (52, .ldc2_w 456), (55, .lreturn), (56, .ldc2_w 458), (59, .lreturn), (60, .ldc2_w 460), (63, .lreturn)], [(64, .ldc2_w 462), (67, .lreturn), (68, .ldc2_w 464), (71, .lreturn), (72, .ldc2_w 466), (75, .lreturn), (76, .ldc2_w 468), (79, .lreturn), (80, .ldc2_w 470), (83, .lreturn)]]
def kF179 : List (Nat × Nat × Nat × Nat) := []
def kM179 : List (Nat × MF) := []
def kK179 : List (Nat × AV) := [(454, .inr (.inl 1936683636)), (456, .inr (.inl 422608400247)), (458, .inr (.inl 8388357154388931173)), (460, .inr (.inl 121450625394034)), (462, .inr (.inl 7022365715251684453)), (464, .inr (.inl 110455627015539)), (466, .inr (.inl 1802071652)), (468, .inr (.inl 482854658917)), (470, .inr (.inl 1852143732))]
set_option maxRecDepth 100000 in
theorem ok179 : okX 179 kc179 kF179 kM179 kK179 = true := by decide +kernel
def kc180 : List (List (Nat × Instr)) := [[(0, .aload_n 0), (1, .getfield 56), (4, .aload_n 0), (5, .getfield 472), (8, .iload_n 1), (9, .iastore), (10, .aload_n 0), (11, .aload_n 0), (12, .getfield 472), (15, .iconst 1), (16, .iadd), (17, .putfield 472), (20, .return_)]]
def kF180 : List (Nat × Nat × Nat × Nat) := [(56, 11, 26, 26), (472, 11, 27, 0)]
def kM180 : List (Nat × MF) := []
def kK180 : List (Nat × AV) := []
set_option maxRecDepth 100000 in
theorem ok180 : okX 180 kc180 kF180 kM180 kK180 = true := by decide +kernel
def kc181 : List (List (Nat × Instr)) := [[(0, .iload_n 0), (1, .bipush 40), (3, .if_icmp .ne (7)), (6, .iconst 0), (7, .goto 20), (10, .iload_n 0), (11, .bipush 43), (13, .if_icmp .eq (9)), (16, .iload_n 0), (17, .bipush 45), (19, .if_icmp .ne (7)), (22, .iconst 1), (23, .goto 4), (26, .iconst 2), (27, .ireturn)]]
def kF181 : List (Nat × Nat × Nat × Nat) := []
def kM181 : List (Nat × MF) := []
def kK181 : List (Nat × AV) := []
set_option maxRecDepth 100000 in
theorem ok181 : okX 181 kc181 kF181 kM181 kK181 = true := by decide +kernel
def kc182 : List (List (Nat × Instr)) := [[(0, .aload_n 0), (1, .getfield 472), (4, .ifCond .le (49)), (7, .aload_n 0), (8, .getfield 56), (11, .aload_n 0), (12, .getfield 472), (15, .iconst 1), (16, .isub), (17, .iaload), (18, .invokestatic 475), (21, .iload_n 1), (22, .if_icmp .lt (31)), (25, .aload_n 0), (26, .aload_n 0), (27, .getfield 472), (30, .iconst 1), (31, .isub)], [(32, .putfield 472), (35, .aload_n 0), (36, .iconst 5), (37, .aload_n 0), (38, .getfield 56), (41, .aload_n 0), (42, .getfield 472), (45, .iaload), (46, .iconst 0), (47, .invokevirtual 448), (50, .goto (-50)), (53, .return_)]]
def kF182 : List (Nat × Nat × Nat × Nat) := [(56, 11, 26, 26), (472, 11, 27, 0)]
def kM182 : List (Nat × MF) := [(448, 116, 1, 3, 4, 11, 0), (475, 181, 0, 1, 1, 11, 1)]
def kK182 : List (Nat × AV) := []
set_option maxRecDepth 100000 in
theorem ok182 : okX 182 kc182 kF182 kM182 kK182 = true := by decide +kernel
def kc183 : List (List (Nat × Instr)) := [[(0, .iload_n 1), (1, .ifCond .lt (25)), (4, .iload_n 1), (5, .bipush 30), (7, .if_icmp .gt (19)), (10, .iload_n 2), (11, .ifCond .lt (15)), (14, .iload_n 2), (15, .iconst 3), (16, .if_icmp .gt (10)), (19, .iload_n 3), (20, .invokestatic 499), (23, .ifCond .ne (5)), (26, .iconst (-1)), (27, .ireturn), (28, .aload_n 0), (29, .iconst 0), (30, .iload_n 1), (31, .iload_n 2)], [(32, .iload_n 3), (33, .invokevirtual 515), (36, .iconst (-1)), (37, .if_icmp .ne (7)), (40, .iconst (-1)), (41, .goto 21), (44, .aload_n 0), (45, .getfield 505), (48, .aload_n 0), (49, .getfield 508), (52, .ifCond .eq (8)), (55, .bipush 32), (57, .goto 4), (60, .iconst 0), (61, .iadd), (62, .ireturn)]]
def kF183 : List (Nat × Nat × Nat × Nat) := [(505, 11, 29, 0), (508, 11, 31, 2)]
def kM183 : List (Nat × MF) := [(499, 175, 0, 1, 1, 11, 2), (515, 184, 1, 4, 9, 11, 1)]
def kK183 : List (Nat × AV) := []
set_option maxRecDepth 100000 in
theorem ok183 : okX 183 kc183 kF183 kM183 kK183 = true := by decide +kernel
def kc184 : List (List (Nat × Instr)) := [[(0, .iload_n 2), (1, .istore 5), (3, .iconst 0), (4, .istore 6), (6, .iload 5), (8, .iconst (-1)), (9, .if_icmp .eq (104)), (12, .iconst 0), (13, .istore 7), (15, .iload 7), (17, .iconst 2), (18, .if_icmp .ge (82)), (21, .iload 6), (23, .iload 7), (25, .iadd), (26, .iload_n 1), (27, .if_icmp .ge (6)), (30, .goto 64)], [(33, .aload_n 0), (34, .iload 7), (36, .ifCond .ne (8)), (39, .iload 4), (41, .goto 4), (44, .iconst 4), (45, .iload_n 3), (46, .iload 5), (48, .invokevirtual 492), (51, .istore 8), (53, .iload 8), (55, .iconst (-1)), (56, .if_icmp .ne (6)), (59, .goto 35), (62, .aload_n 0), (63, .iload 5)], [(65, .putfield 505), (68, .aload_n 0), (69, .iload 7), (71, .ifCond .ne (7)), (74, .iconst 1), (75, .goto 4), (78, .iconst 0), (79, .putfield 508), (82, .aload_n 0), (83, .iload 8), (85, .putfield 512), (88, .iload 6), (90, .iload 7), (92, .iadd), (93, .ireturn), (94, .iinc 7 1)], [(97, .goto (-82)), (100, .iload 5), (102, .invokestatic 223), (105, .istore 5), (107, .iinc 6 2), (110, .goto (-104)), (113, .iconst (-1)), (114, .ireturn)]]
def kF184 : List (Nat × Nat × Nat × Nat) := [(505, 11, 29, 0), (508, 11, 31, 2), (512, 11, 30, 0)]
def kM184 : List (Nat × MF) := [(223, 150, 0, 1, 1, 11, 1), (492, 177, 1, 3, 5, 11, 1)]
def kK184 : List (Nat × AV) := []
set_option maxRecDepth 100000 in
theorem ok184 : okX 184 kc184 kF184 kM184 kK184 = true := by decide +kernel
def kc185 : List (List (Nat × Instr)) := [[(0, .aload_n 0), (1, .iconst 0), (2, .putfield 528), (5, .aload_n 0), (6, .iload_n 1), (7, .invokevirtual 420), (10, .ifCond .eq (19)), (13, .iload_n 2), (14, .ifCond .lt (15)), (17, .iload_n 2), (18, .iconst 3), (19, .if_icmp .gt (10)), (22, .iload_n 3), (23, .invokestatic 499), (26, .ifCond .ne (5)), (29, .iconst 0), (30, .ireturn), (31, .iconst 0)], [(32, .istore 4), (34, .iconst 0), (35, .istore 5), (37, .iload 5), (39, .bipush 7), (41, .if_icmp .ge (37)), (44, .aload_n 0), (45, .getfield 26), (48, .iload_n 1), (49, .iload 5), (51, .invokestatic 293), (54, .iaload), (55, .ifCond .eq (17)), (58, .iload 4), (60, .aload_n 0), (61, .iload_n 1), (62, .iload 5)], [(64, .iload_n 2), (65, .iload_n 3), (66, .invokevirtual 547), (69, .iadd), (70, .istore 4), (72, .iinc 5 1), (75, .goto (-38)), (78, .iload 4), (80, .ireturn)]]
def kF185 : List (Nat × Nat × Nat × Nat) := [(26, 11, 15, 26), (528, 11, 32, 0)]
def kM185 : List (Nat × MF) := [(293, 124, 0, 2, 2, 11, 1), (420, 159, 1, 1, 2, 11, 2), (499, 175, 0, 1, 1, 11, 2), (547, 186, 1, 4, 11, 11, 1)]
def kK185 : List (Nat × AV) := []
set_option maxRecDepth 100000 in
theorem ok185 : okX 185 kc185 kF185 kM185 kK185 = true := by decide +kernel
def kc186 : List (List (Nat × Instr)) := [[(0, .aload_n 0), (1, .getfield 26), (4, .iload_n 1), (5, .iload_n 2), (6, .invokestatic 293), (9, .iaload), (10, .istore 5), (12, .aload_n 0), (13, .iconst 0), (14, .putfield 525), (17, .aload_n 0), (18, .iconst 0), (19, .putfield 522), (22, .aload_n 0), (23, .iconst 0), (24, .iload 5), (26, .iload_n 3), (27, .iload 4), (29, .invokevirtual 515)], [(32, .istore 6), (34, .iload 6), (36, .iconst (-1)), (37, .if_icmp .ne (5)), (40, .iconst 0), (41, .ireturn), (42, .aload_n 0), (43, .iload 6), (45, .iload 4), (47, .invokevirtual 534), (50, .aload_n 0), (51, .getfield 525), (54, .ifCond .le (226)), (57, .aload_n 0), (58, .getfield 525), (61, .iconst 1), (62, .isub), (63, .istore 7)], [(65, .aload_n 0), (66, .getfield 62), (69, .iload 7), (71, .iaload), (72, .aload_n 0), (73, .getfield 65), (76, .iload 7), (78, .iaload), (79, .if_icmp .ne (12)), (82, .aload_n 0), (83, .iload 7), (85, .putfield 525), (88, .goto (-38)), (91, .sipush 240), (94, .aload_n 0), (95, .getfield 68)], [(98, .iload 7), (100, .iaload), (101, .imul), (102, .aload_n 0), (103, .getfield 62), (106, .iload 7), (108, .iaload), (109, .iadd), (110, .istore 8), (112, .aload_n 0), (113, .getfield 62), (116, .iload 7), (118, .aload_n 0), (119, .getfield 62), (122, .iload 7), (124, .iaload), (125, .iconst 1), (126, .iadd), (127, .iastore)], [(128, .aload_n 0), (129, .getfield 50), (132, .iload 8), (134, .iaload), (135, .istore 9), (137, .iload 9), (139, .bipush 10), (141, .if_icmp .ne (48)), (144, .aload_n 0), (145, .aload_n 0), (146, .getfield 71), (149, .iload 7), (151, .iaload), (152, .iconst 1), (153, .iadd), (154, .iload 5), (156, .iload_n 3), (157, .iload 4), (159, .invokevirtual 515)], [(162, .istore 10), (164, .iload 10), (166, .iconst (-1)), (167, .if_icmp .ne (11)), (170, .aload_n 0), (171, .iconst 0), (172, .invokevirtual 538), (175, .goto 11), (178, .aload_n 0), (179, .iload 10), (181, .iload 4), (183, .invokevirtual 534), (186, .goto 91), (189, .iload 9), (191, .iconst 1)], [(192, .if_icmp .ne (17)), (195, .aload_n 0), (196, .aload_n 0), (197, .getfield 53), (200, .iload 8), (202, .iaload), (203, .invokevirtual 538), (206, .goto 71), (209, .iload 9), (211, .bipush 9), (213, .if_icmp .gt (18)), (216, .aload_n 0), (217, .aload_n 0), (218, .iload 9), (220, .iload_n 1), (221, .iload_n 2), (222, .invokevirtual 541)], [(225, .invokevirtual 538), (228, .goto 49), (231, .aload_n 0), (232, .aload_n 0), (233, .getfield 522), (236, .iconst 1), (237, .isub), (238, .putfield 522), (241, .aload_n 0), (242, .getfield 59), (245, .aload_n 0), (246, .getfield 522), (249, .iconst 1), (250, .isub), (251, .iload 9), (253, .aload_n 0), (254, .getfield 59)], [(257, .aload_n 0), (258, .getfield 522), (261, .iconst 1), (262, .isub), (263, .iaload), (264, .aload_n 0), (265, .getfield 59), (268, .aload_n 0), (269, .getfield 522), (272, .iaload), (273, .invokestatic 544), (276, .iastore), (277, .goto (-227)), (280, .aload_n 0), (281, .getfield 59), (284, .iconst 0), (285, .iaload), (286, .ireturn)]]
def kF186 : List (Nat × Nat × Nat × Nat) := [(26, 11, 15, 26), (50, 11, 24, 26), (53, 11, 25, 26), (59, 11, 33, 26), (62, 11, 35, 26), (65, 11, 36, 26), (68, 11, 37, 26), (71, 11, 38, 26), (522, 11, 34, 0), (525, 11, 39, 0)]
def kM186 : List (Nat × MF) := [(293, 124, 0, 2, 2, 11, 1), (515, 184, 1, 4, 9, 11, 1), (534, 187, 1, 2, 4, 11, 0), (538, 188, 1, 1, 2, 11, 0), (541, 189, 1, 3, 5, 11, 1), (544, 192, 0, 3, 3, 11, 1)]
def kK186 : List (Nat × AV) := []
set_option maxRecDepth 100000 in
theorem ok186 : okX 186 kc186 kF186 kM186 kK186 = true := by decide +kernel
def kc187 : List (List (Nat × Instr)) := [[(0, .aload_n 0), (1, .getfield 508), (4, .ifCond .eq (7)), (7, .iload_n 2), (8, .goto 4), (11, .iconst 4), (12, .istore_n 3), (13, .aload_n 0), (14, .getfield 62), (17, .aload_n 0), (18, .getfield 525), (21, .aload_n 0), (22, .getfield 44), (25, .bipush 12), (27, .iload_n 3), (28, .imul), (29, .aload_n 0), (30, .getfield 512)], [(33, .iadd), (34, .iaload), (35, .iastore), (36, .aload_n 0), (37, .getfield 65), (40, .aload_n 0), (41, .getfield 525), (44, .aload_n 0), (45, .getfield 47), (48, .bipush 12), (50, .iload_n 3), (51, .imul), (52, .aload_n 0), (53, .getfield 512), (56, .iadd), (57, .iaload), (58, .iastore), (59, .aload_n 0), (60, .getfield 68), (63, .aload_n 0)], [(64, .getfield 525), (67, .iload_n 3), (68, .iastore), (69, .aload_n 0), (70, .getfield 71), (73, .aload_n 0), (74, .getfield 525), (77, .iload_n 1), (78, .iastore), (79, .aload_n 0), (80, .aload_n 0), (81, .getfield 525), (84, .iconst 1), (85, .iadd), (86, .putfield 525), (89, .aload_n 0), (90, .aload_n 0), (91, .getfield 528), (94, .iconst 1), (95, .iadd)], [(96, .putfield 528), (99, .return_)]]
def kF187 : List (Nat × Nat × Nat × Nat) := [(44, 11, 22, 26), (47, 11, 23, 26), (62, 11, 35, 26), (65, 11, 36, 26), (68, 11, 37, 26), (71, 11, 38, 26), (508, 11, 31, 2), (512, 11, 30, 0), (525, 11, 39, 0), (528, 11, 32, 0)]
def kM187 : List (Nat × MF) := []
def kK187 : List (Nat × AV) := []
set_option maxRecDepth 100000 in
theorem ok187 : okX 187 kc187 kF187 kM187 kK187 = true := by decide +kernel
def kc188 : List (List (Nat × Instr)) := [[(0, .aload_n 0), (1, .getfield 59), (4, .aload_n 0), (5, .getfield 522), (8, .iload_n 1), (9, .iastore), (10, .aload_n 0), (11, .aload_n 0), (12, .getfield 522), (15, .iconst 1), (16, .iadd), (17, .putfield 522), (20, .return_)]]
def kF188 : List (Nat × Nat × Nat × Nat) := [(59, 11, 33, 26), (522, 11, 34, 0)]
def kM188 : List (Nat × MF) := []
def kK188 : List (Nat × AV) := []
set_option maxRecDepth 100000 in
theorem ok188 : okX 188 kc188 kF188 kM188 kK188 = true := by decide +kernel
def kc189 : List (List (Nat × Instr)) := [[(0, .iload_n 2), (1, .iload_n 3), (2, .invokestatic 293), (5, .istore 4), (7, .iload_n 1), (8, .tableswitch (109) (2) (8) #[44, 57, 64, 74, 84, 94, 101])], [(52, .aload_n 0), (53, .getfield 26), (56, .iload 4), (58, .iconst 1), (59, .iadd), (60, .iaload), (61, .invokestatic 519)], [(64, .ireturn), (65, .aload_n 0), (66, .iload_n 2), (67, .iload_n 3), (68, .invokevirtual 531), (71, .ireturn), (72, .aload_n 0), (73, .getfield 26), (76, .iload 4), (78, .iconst 1), (79, .iadd), (80, .iaload), (81, .ireturn), (82, .aload_n 0), (83, .getfield 26), (86, .iload 4), (88, .iconst 2), (89, .iadd), (90, .iaload), (91, .ireturn), (92, .aload_n 0), (93, .getfield 26)], [(96, .iload 4), (98, .iconst 3), (99, .iadd), (100, .iaload), (101, .ireturn), (102, .aload_n 0), (103, .iload 4), (105, .invokevirtual 438), (108, .ireturn), (109, .aload_n 0), (110, .getfield 26), (113, .iload 4), (115, .iaload), (116, .ireturn), (117, .iload_n 3), (118, .ireturn)]]
def kF189 : List (Nat × Nat × Nat × Nat) := [(26, 11, 15, 26)]
def kM189 : List (Nat × MF) := [(293, 124, 0, 2, 2, 11, 1), (438, 171, 1, 1, 4, 11, 1), (519, 190, 0, 1, 1, 11, 1), (531, 191, 1, 2, 4, 11, 1)]
def kK189 : List (Nat × AV) := []
set_option maxRecDepth 100000 in
theorem ok189 : okX 189 kc189 kF189 kM189 kK189 = true := by decide +kernel
def kc190 : List (List (Nat × Instr)) := [[(0, .iload_n 0), (1, .bipush 6), (3, .if_icmp .le (7)), (6, .iconst 0), (7, .goto 13), (10, .iload_n 0), (11, .iconst 2), (12, .if_icmp .ge (7)), (15, .iconst 1), (16, .goto 4), (19, .iconst 2), (20, .ireturn)]]
def kF190 : List (Nat × Nat × Nat × Nat) := []
def kM190 : List (Nat × MF) := []
def kK190 : List (Nat × AV) := []
set_option maxRecDepth 100000 in
theorem ok190 : okX 190 kc190 kF190 kM190 kK190 = true := by decide +kernel
def kc191 : List (List (Nat × Instr)) := [[(0, .iload_n 2), (1, .iconst 1), (2, .if_icmp .eq (8)), (5, .iload_n 2), (6, .iconst 4), (7, .if_icmp .ne (21)), (10, .aload_n 0), (11, .getfield 26), (14, .iload_n 1), (15, .iload_n 2), (16, .iconst 1), (17, .isub), (18, .invokestatic 293), (21, .iconst 1), (22, .iadd), (23, .iaload), (24, .invokestatic 519), (27, .ireturn), (28, .aload_n 0), (29, .getfield 20)], [(32, .iload_n 1), (33, .iaload), (34, .invokestatic 519), (37, .istore_n 3), (38, .aload_n 0), (39, .getfield 23), (42, .iload_n 1), (43, .iaload), (44, .iconst (-1)), (45, .if_icmp .eq (16)), (48, .aload_n 0), (49, .getfield 23), (52, .iload_n 1), (53, .iaload), (54, .invokestatic 519), (57, .iload_n 3), (58, .if_icmp .ne (7)), (61, .iload_n 3), (62, .goto 4)], [(65, .iconst 0), (66, .ireturn)]]
def kF191 : List (Nat × Nat × Nat × Nat) := [(20, 11, 13, 26), (23, 11, 14, 26), (26, 11, 15, 26)]
def kM191 : List (Nat × MF) := [(293, 124, 0, 2, 2, 11, 1), (519, 190, 0, 1, 1, 11, 1)]
def kK191 : List (Nat × AV) := []
set_option maxRecDepth 100000 in
theorem ok191 : okX 191 kc191 kF191 kM191 kK191 = true := by decide +kernel
def kc192 : List (List (Nat × Instr)) := [[(0, .iload_n 0), (1, .lookupswitch (85) #[(42, 59), (43, 51), (45, 55), (60, 74), (61, 63)])], [(52, .iload_n 1), (53, .iload_n 2), (54, .iadd), (55, .ireturn), (56, .iload_n 1), (57, .iload_n 2), (58, .isub), (59, .ireturn), (60, .iload_n 1), (61, .iload_n 2), (62, .imul), (63, .ireturn)], [(64, .iload_n 1), (65, .iload_n 2), (66, .if_icmp .ne (7)), (69, .iconst 1), (70, .goto 4), (73, .iconst 0), (74, .ireturn), (75, .iload_n 1), (76, .iload_n 2), (77, .if_icmp .ge (7)), (80, .iconst 1), (81, .goto 4), (84, .iconst 0), (85, .ireturn), (86, .iload_n 1), (87, .iload_n 2), (88, .if_icmp .le (7)), (91, .iconst 1), (92, .goto 4), (95, .iconst 0)], [(96, .ireturn)]]
def kF192 : List (Nat × Nat × Nat × Nat) := []
def kM192 : List (Nat × MF) := []
def kK192 : List (Nat × AV) := []
set_option maxRecDepth 100000 in
theorem ok192 : okX 192 kc192 kF192 kM192 kK192 = true := by decide +kernel
def kc193 : List (List (Nat × Instr)) := [[(0, .aload_n 0), (1, .iconst 0), (2, .putfield 528), (5, .aload_n 0), (6, .iload_n 1), (7, .invokevirtual 420), (10, .ifCond .eq (20)), (13, .iload_n 3), (14, .ifCond .lt (16)), (17, .iload_n 3), (18, .iconst 3), (19, .if_icmp .gt (11)), (22, .iload 4), (24, .invokestatic 499), (27, .ifCond .ne (5)), (30, .iconst 0), (31, .ireturn)], [(32, .iload_n 2), (33, .ifCond .ge (7)), (36, .iconst (-1)), (37, .goto 9), (40, .aload_n 0), (41, .iload_n 1), (42, .iload_n 2), (43, .invokevirtual 435), (46, .istore 5), (48, .iload 5), (50, .iconst (-1)), (51, .if_icmp .ne (7)), (54, .iconst 0), (55, .goto 13), (58, .aload_n 0), (59, .iload_n 1), (60, .iload 5), (62, .iload_n 3), (63, .iload 4)], [(65, .invokevirtual 547), (68, .ireturn)]]
def kF193 : List (Nat × Nat × Nat × Nat) := [(528, 11, 32, 0)]
def kM193 : List (Nat × MF) := [(420, 159, 1, 1, 2, 11, 2), (435, 170, 1, 2, 5, 11, 1), (499, 175, 0, 1, 1, 11, 2), (547, 186, 1, 4, 11, 11, 1)]
def kK193 : List (Nat × AV) := []
set_option maxRecDepth 100000 in
theorem ok193 : okX 193 kc193 kF193 kM193 kK193 = true := by decide +kernel
def kc194 : List (List (Nat × Instr)) := [[(0, .aload_n 0), (1, .getfield 528), (4, .ireturn)]]
def kF194 : List (Nat × Nat × Nat × Nat) := [(528, 11, 32, 0)]
def kM194 : List (Nat × MF) := []
def kK194 : List (Nat × AV) := []
set_option maxRecDepth 100000 in
theorem ok194 : okX 194 kc194 kF194 kM194 kK194 = true := by decide +kernel
def kc195 : List (List (Nat × Instr)) := [[(0, .aload_n 0), (1, .iload_n 1), (2, .invokevirtual 420), (5, .ifCond .eq (11)), (8, .iload_n 2), (9, .iload_n 3), (10, .invokestatic 553), (13, .ifCond .ne (5)), (16, .iconst (-1)), (17, .ireturn), (18, .bipush 6), (20, .istore 4), (22, .iload 4), (24, .ifCond .lt (108)), (27, .iload_n 1), (28, .iload 4), (30, .invokestatic 293)], [(33, .istore 5), (35, .aload_n 0), (36, .getfield 26), (39, .iload 5), (41, .iaload), (42, .ifCond .ne (6)), (45, .goto 81), (48, .iload 4), (50, .iconst 1), (51, .if_icmp .eq (22)), (54, .iload 4), (56, .iconst 2), (57, .if_icmp .eq (16)), (60, .iload 4), (62, .iconst 4), (63, .if_icmp .eq (10))], [(66, .iload 4), (68, .bipush 6), (70, .if_icmp .ne (7)), (73, .iconst 1), (74, .goto 4), (77, .iconst 0), (78, .istore 6), (80, .iload 6), (82, .ifCond .eq (19)), (85, .aload_n 0), (86, .iload 5), (88, .iload 4), (90, .iload_n 2), (91, .iload_n 3), (92, .invokevirtual 566), (95, .ifCond .eq (31))], [(98, .goto 18), (101, .aload_n 0), (102, .getfield 26), (105, .iload 5), (107, .iaload), (108, .iload_n 2), (109, .iload_n 3), (110, .invokestatic 569), (113, .ifCond .eq (13)), (116, .aload_n 0), (117, .getfield 26), (120, .iload 5), (122, .iconst 1), (123, .iadd), (124, .iaload), (125, .ireturn), (126, .iinc 4 (-1))], [(129, .goto (-107)), (132, .aload_n 0), (133, .iload_n 1), (134, .iload_n 2), (135, .iload_n 3), (136, .invokevirtual 572), (139, .ireturn)]]
def kF195 : List (Nat × Nat × Nat × Nat) := [(26, 11, 15, 26)]
def kM195 : List (Nat × MF) := [(293, 124, 0, 2, 2, 11, 1), (420, 159, 1, 1, 2, 11, 2), (553, 196, 0, 2, 2, 11, 2), (566, 198, 1, 4, 12, 11, 2), (569, 202, 0, 3, 5, 11, 2), (572, 203, 1, 3, 7, 11, 1)]
def kK195 : List (Nat × AV) := []
set_option maxRecDepth 100000 in
theorem ok195 : okX 195 kc195 kF195 kM195 kK195 = true := by decide +kernel
def kc196 : List (List (Nat × Instr)) := [[(0, .iload_n 0), (1, .ifCond .lt (19)), (4, .iload_n 0), (5, .bipush 59), (7, .if_icmp .gt (13)), (10, .iload_n 1), (11, .ifCond .lt (9)), (14, .iload_n 1), (15, .bipush 71), (17, .if_icmp .le (5)), (20, .iconst 0), (21, .ireturn), (22, .iload_n 1), (23, .bipush 36), (25, .if_icmp .lt (30)), (28, .iconst 2), (29, .iload_n 0), (30, .imul), (31, .bipush 59)], [(33, .isub), (34, .invokestatic 550), (37, .bipush 59), (39, .iload_n 1), (40, .bipush 36), (42, .isub), (43, .iload_n 1), (44, .bipush 36), (46, .isub), (47, .imul), (48, .bipush 22), (50, .idiv), (51, .isub), (52, .if_icmp .gt (7)), (55, .iconst 1), (56, .goto 4), (59, .iconst 0), (60, .ireturn)]]
def kF196 : List (Nat × Nat × Nat × Nat) := []
def kM196 : List (Nat × MF) := [(550, 197, 0, 1, 1, 11, 1)]
def kK196 : List (Nat × AV) := []
set_option maxRecDepth 100000 in
theorem ok196 : okX 196 kc196 kF196 kM196 kK196 = true := by decide +kernel
def kc197 : List (List (Nat × Instr)) := [[(0, .iload_n 0), (1, .ifCond .ge (8)), (4, .iload_n 0), (5, .ineg), (6, .goto 4), (9, .iload_n 0), (10, .ireturn)]]
def kF197 : List (Nat × Nat × Nat × Nat) := []
def kM197 : List (Nat × MF) := []
def kK197 : List (Nat × AV) := []
set_option maxRecDepth 100000 in
theorem ok197 : okX 197 kc197 kF197 kM197 kK197 = true := by decide +kernel
def kc198 : List (List (Nat × Instr)) := [[(0, .aload_n 0), (1, .getfield 26), (4, .iload_n 1), (5, .iconst 2), (6, .iadd), (7, .iaload), (8, .istore 5), (10, .iload_n 2), (11, .bipush 6), (13, .if_icmp .ne (8)), (16, .bipush 8), (18, .goto 27), (21, .iload 5), (23, .iconst 1), (24, .if_icmp .ne (8)), (27, .bipush 16), (29, .goto 16)], [(32, .iload 5), (34, .iconst 4), (35, .if_icmp .ge (8)), (38, .bipush 12), (40, .goto 5), (43, .bipush 10), (45, .istore 6), (47, .iconst 2), (48, .iload_n 3), (49, .imul), (50, .bipush 59), (52, .isub), (53, .istore 7), (55, .iconst 2), (56, .iload 4), (58, .imul), (59, .bipush 71), (61, .isub), (62, .istore 8)], [(64, .iconst 0), (65, .istore 9), (67, .iload 9), (69, .iload 5), (71, .if_icmp .ge (108)), (74, .iload 5), (76, .iload 9), (78, .invokestatic 556), (81, .istore 10), (83, .iload 5), (85, .iload 9), (87, .invokestatic 559), (90, .istore 11), (92, .iload_n 2), (93, .iconst 1), (94, .if_icmp .eq (8))], [(97, .iload_n 2), (98, .iconst 4), (99, .if_icmp .ne (35)), (102, .iconst 2), (103, .iload 9), (105, .imul), (106, .iload 5), (108, .isub), (109, .iconst 1), (110, .iadd), (111, .iload 6), (113, .iconst 2), (114, .iadd), (115, .imul), (116, .istore 10), (118, .iload_n 2), (119, .iconst 4), (120, .if_icmp .ne (8)), (123, .bipush (-49)), (125, .goto 4)], [(128, .iconst 0), (129, .istore 11), (131, .goto 16), (134, .iload_n 2), (135, .bipush 6), (137, .if_icmp .ne (10)), (140, .iconst 0), (141, .istore 10), (143, .bipush (-30)), (145, .istore 11), (147, .aload_n 0), (148, .getfield 26), (151, .iload_n 1), (152, .iaload), (153, .iload 7), (155, .iload 10), (157, .isub), (158, .iload 8)], [(160, .iload 11), (162, .isub), (163, .iload 6), (165, .invokestatic 562), (168, .ifCond .eq (5)), (171, .iconst 1), (172, .ireturn), (173, .iinc 9 1), (176, .goto (-109)), (179, .iconst 0), (180, .ireturn)]]
def kF198 : List (Nat × Nat × Nat × Nat) := [(26, 11, 15, 26)]
def kM198 : List (Nat × MF) := [(556, 199, 0, 2, 2, 11, 1), (559, 200, 0, 2, 2, 11, 1), (562, 201, 0, 4, 7, 11, 2)]
def kK198 : List (Nat × AV) := []
set_option maxRecDepth 100000 in
theorem ok198 : okX 198 kc198 kF198 kM198 kK198 = true := by decide +kernel
def kc199 : List (List (Nat × Instr)) := [[(0, .iload_n 0), (1, .iconst 1), (2, .if_icmp .ne (5)), (5, .iconst 0), (6, .ireturn), (7, .iload_n 0), (8, .iconst 2), (9, .if_icmp .ne (15)), (12, .iload_n 1), (13, .ifCond .ne (8)), (16, .bipush (-20)), (18, .goto 5), (21, .bipush 20), (23, .ireturn), (24, .iload_n 0), (25, .iconst 3), (26, .if_icmp .ne (24)), (29, .iload_n 1), (30, .iconst 2), (31, .if_icmp .ne (7))], [(34, .iconst 0), (35, .goto 14), (38, .iload_n 1), (39, .ifCond .ne (8)), (42, .bipush (-20)), (44, .goto 5), (47, .bipush 20), (49, .ireturn), (50, .iload_n 0), (51, .bipush 6), (53, .if_icmp .ge (26)), (56, .iload_n 1), (57, .iconst 4), (58, .if_icmp .ne (7)), (61, .iconst 0), (62, .goto 16)], [(65, .iload_n 1), (66, .iconst 2), (67, .irem), (68, .ifCond .ne (8)), (71, .bipush (-20)), (73, .goto 5), (76, .bipush 20), (78, .ireturn), (79, .iload_n 1), (80, .iconst 3), (81, .if_icmp .ge (12)), (84, .bipush 24), (86, .iload_n 1), (87, .iconst 1), (88, .isub), (89, .imul), (90, .goto 21), (93, .iload_n 1), (94, .iconst 5), (95, .if_icmp .ne (7))], [(98, .iconst 0), (99, .goto 12), (102, .bipush 28), (104, .iload_n 1), (105, .iconst 3), (106, .isub), (107, .imul), (108, .bipush 14), (110, .isub), (111, .ireturn)]]
def kF199 : List (Nat × Nat × Nat × Nat) := []
def kM199 : List (Nat × MF) := []
def kK199 : List (Nat × AV) := []
set_option maxRecDepth 100000 in
theorem ok199 : okX 199 kc199 kF199 kM199 kK199 = true := by decide +kernel
def kc200 : List (List (Nat × Instr)) := [[(0, .iload_n 0), (1, .iconst 3), (2, .if_icmp .ge (5)), (5, .iconst 0), (6, .ireturn), (7, .iload_n 0), (8, .iconst 3), (9, .if_icmp .ne (16)), (12, .iload_n 1), (13, .iconst 2), (14, .if_icmp .ne (8)), (17, .bipush 20), (19, .goto 5), (22, .bipush (-30)), (24, .ireturn), (25, .iload_n 0), (26, .bipush 6), (28, .if_icmp .ge (26)), (31, .iload_n 1)], [(32, .iconst 4), (33, .if_icmp .ne (8)), (36, .bipush (-5)), (38, .goto 15), (41, .iload_n 1), (42, .iconst 2), (43, .if_icmp .ge (8)), (46, .bipush (-30)), (48, .goto 5), (51, .bipush 20), (53, .ireturn), (54, .iload_n 1), (55, .iconst 3), (56, .if_icmp .ge (8)), (59, .bipush (-30)), (61, .goto 14)], [(64, .iload_n 1), (65, .iconst 5), (66, .if_icmp .ne (8)), (69, .bipush 30), (71, .goto 4), (74, .iconst 0), (75, .ireturn)]]
def kF200 : List (Nat × Nat × Nat × Nat) := []
def kM200 : List (Nat × MF) := []
def kK200 : List (Nat × AV) := []
set_option maxRecDepth 100000 in
theorem ok200 : okX 200 kc200 kF200 kM200 kK200 = true := by decide +kernel
def kc201 : List (List (Nat × Instr)) := [[(0, .iload_n 3), (1, .iconst 2), (2, .idiv), (3, .istore 4), (5, .iload_n 1), (6, .invokestatic 550), (9, .iload_n 3), (10, .if_icmp .ge (15)), (13, .iload_n 2), (14, .invokestatic 550), (17, .iload_n 3), (18, .if_icmp .ge (7)), (21, .iconst 1), (22, .goto 4), (25, .iconst 0), (26, .istore 5), (28, .iload_n 1), (29, .iload_n 1), (30, .imul), (31, .iload_n 2)], [(32, .iload_n 2), (33, .imul), (34, .iadd), (35, .iload_n 3), (36, .iload_n 3), (37, .imul), (38, .if_icmp .ge (7)), (41, .iconst 1), (42, .goto 4), (45, .iconst 0), (46, .istore 6), (48, .iload_n 0), (49, .iconst 3), (50, .invokestatic 320), (53, .ifCond .eq (6)), (56, .iload 5), (58, .ireturn), (59, .iload_n 0), (60, .iconst 4), (61, .invokestatic 320)], [(64, .ifCond .eq (22)), (67, .iload_n 1), (68, .invokestatic 550), (71, .iload_n 2), (72, .invokestatic 550), (75, .iadd), (76, .iload_n 3), (77, .if_icmp .ge (7)), (80, .iconst 1), (81, .goto 4), (84, .iconst 0), (85, .ireturn), (86, .iload_n 0), (87, .iconst 5), (88, .invokestatic 320), (91, .ifCond .eq (6)), (94, .iload 6)], [(96, .ireturn), (97, .iload_n 0), (98, .tableswitch (187) (24) (29) #[38, 75, 107, 133, 136, 160])], [(136, .iload_n 1), (137, .invokestatic 550), (140, .iload_n 2), (141, .invokestatic 550), (144, .iadd), (145, .iload_n 3), (146, .if_icmp .lt (21)), (149, .iload_n 1), (150, .invokestatic 550), (153, .iload 4), (155, .if_icmp .ge (16)), (158, .iload_n 2), (159, .invokestatic 550)], [(162, .iload 4), (164, .if_icmp .ge (7)), (167, .iconst 1), (168, .goto 4), (171, .iconst 0), (172, .ireturn), (173, .iload 6), (175, .ifCond .eq (28)), (178, .iload_n 1), (179, .iload_n 1), (180, .imul), (181, .iload_n 2), (182, .iload 4), (184, .iadd), (185, .iload_n 2), (186, .iload 4), (188, .iadd), (189, .imul), (190, .iadd), (191, .iload_n 3)], [(192, .iload_n 3), (193, .imul), (194, .iconst 2), (195, .idiv), (196, .if_icmp .lt (7)), (199, .iconst 1), (200, .goto 4), (203, .iconst 0), (204, .ireturn), (205, .iload 6), (207, .ifCond .eq (22)), (210, .iload_n 1), (211, .iload_n 1), (212, .imul), (213, .iload_n 2), (214, .iload_n 2), (215, .imul), (216, .iadd), (217, .iload_n 3), (218, .iload_n 3), (219, .imul), (220, .iconst 4), (221, .idiv), (222, .if_icmp .lt (7))], [(225, .iconst 1), (226, .goto 4), (229, .iconst 0), (230, .ireturn), (231, .iload 6), (233, .ireturn), (234, .iconst 2), (235, .iload_n 1), (236, .invokestatic 550), (239, .imul), (240, .iload_n 3), (241, .if_icmp .ge (15)), (244, .iload_n 2), (245, .invokestatic 550), (248, .iload_n 3), (249, .if_icmp .ge (7)), (252, .iconst 1), (253, .goto 4)], [(256, .iconst 0), (257, .ireturn), (258, .iload 5), (260, .ifCond .eq (23)), (263, .iload_n 2), (264, .ifCond .gt (15)), (267, .iload_n 1), (268, .bipush 64), (270, .iadd), (271, .iconst 4), (272, .idiv), (273, .iconst 1), (274, .iand), (275, .iconst 1), (276, .if_icmp .ne (7)), (279, .iconst 1), (280, .goto 4), (283, .iconst 0), (284, .ireturn), (285, .iload_n 1), (286, .invokestatic 550)], [(289, .iload_n 3), (290, .if_icmp .ge (31)), (293, .iload_n 2), (294, .invokestatic 550), (297, .iconst 2), (298, .if_icmp .lt (19)), (301, .iload_n 2), (302, .ifCond .le (19)), (305, .iload_n 1), (306, .bipush 64), (308, .iadd), (309, .iconst 4), (310, .idiv), (311, .iconst 1), (312, .iand), (313, .iconst 1), (314, .if_icmp .ne (7)), (317, .iconst 1), (318, .goto 4)], [(321, .iconst 0), (322, .ireturn)]]
def kF201 : List (Nat × Nat × Nat × Nat) := []
def kM201 : List (Nat × MF) := [(320, 149, 0, 2, 3, 11, 2), (550, 197, 0, 1, 1, 11, 1)]
def kK201 : List (Nat × AV) := []
set_option maxRecDepth 100000 in
theorem ok201 : okX 201 kc201 kF201 kM201 kK201 = true := by decide +kernel
def kc202 : List (List (Nat × Instr)) := [[(0, .iconst 2), (1, .iload_n 1), (2, .imul), (3, .bipush 59), (5, .isub), (6, .istore_n 3), (7, .iconst 2), (8, .iload_n 2), (9, .imul), (10, .bipush 71), (12, .isub), (13, .istore 4), (15, .iload_n 0), (16, .tableswitch (219) (7) (14) #[48, 60, 75, 91, 109, 137, 162, 192])], [], [(64, .iload_n 2), (65, .bipush 22), (67, .if_icmp .ge (7)), (70, .iconst 1), (71, .goto 4), (74, .iconst 0), (75, .ireturn), (76, .iload_n 3), (77, .invokestatic 550), (80, .bipush 20), (82, .if_icmp .ge (7)), (85, .iconst 1), (86, .goto 4), (89, .iconst 0), (90, .ireturn), (91, .iload 4), (93, .invokestatic 550)], [(96, .bipush 24), (98, .if_icmp .ge (7)), (101, .iconst 1), (102, .goto 4), (105, .iconst 0), (106, .ireturn), (107, .iload_n 3), (108, .iload 4), (110, .isub), (111, .invokestatic 550), (114, .bipush 24), (116, .if_icmp .ge (7)), (119, .iconst 1), (120, .goto 4), (123, .iconst 0), (124, .ireturn), (125, .iload 4), (127, .iload_n 3)], [(128, .invokestatic 550), (131, .isub), (132, .invokestatic 550), (135, .bipush 20), (137, .if_icmp .ge (14)), (140, .iload 4), (142, .bipush (-30)), (144, .if_icmp .le (7)), (147, .iconst 1), (148, .goto 4), (151, .iconst 0), (152, .ireturn), (153, .iload_n 3), (154, .invokestatic 550), (157, .bipush 14), (159, .if_icmp .lt (13))], [(162, .iload 4), (164, .invokestatic 550), (167, .bipush 14), (169, .if_icmp .ge (7)), (172, .iconst 1), (173, .goto 4), (176, .iconst 0), (177, .ireturn), (178, .iload_n 3), (179, .iload 4), (181, .isub), (182, .invokestatic 550), (185, .bipush 18), (187, .if_icmp .lt (15)), (190, .iload_n 3), (191, .iload 4)], [(193, .iadd), (194, .invokestatic 550), (197, .bipush 18), (199, .if_icmp .ge (7)), (202, .iconst 1), (203, .goto 4), (206, .iconst 0), (207, .ireturn), (208, .iconst 3), (209, .iload_n 3), (210, .invokestatic 550), (213, .imul), (214, .bipush 71), (216, .iload 4), (218, .isub), (219, .if_icmp .ge (14)), (222, .iload 4)], [(224, .bipush 50), (226, .if_icmp .ge (7)), (229, .iconst 1), (230, .goto 4), (233, .iconst 0), (234, .ireturn), (235, .iload_n 1), (236, .iconst 5), (237, .isub), (238, .iload_n 2), (239, .invokestatic 553), (242, .ifCond .eq (33)), (245, .iload_n 1), (246, .iconst 5), (247, .iadd), (248, .iload_n 2), (249, .invokestatic 553), (252, .ifCond .eq (23)), (255, .iload_n 1)], [(256, .iload_n 2), (257, .iconst 5), (258, .isub), (259, .invokestatic 553), (262, .ifCond .eq (13)), (265, .iload_n 1), (266, .iload_n 2), (267, .iconst 5), (268, .iadd), (269, .invokestatic 553), (272, .ifCond .ne (7)), (275, .iconst 1), (276, .goto 4), (279, .iconst 0), (280, .ireturn)]]
def kF202 : List (Nat × Nat × Nat × Nat) := []
def kM202 : List (Nat × MF) := [(550, 197, 0, 1, 1, 11, 1), (553, 196, 0, 2, 2, 11, 2)]
def kK202 : List (Nat × AV) := []
set_option maxRecDepth 100000 in
theorem ok202 : okX 202 kc202 kF202 kM202 kK202 = true := by decide +kernel
def kc203 : List (List (Nat × Instr)) := [[(0, .iconst 2), (1, .iload_n 2), (2, .imul), (3, .bipush 59), (5, .isub), (6, .istore 4), (8, .iconst 2), (9, .iload_n 3), (10, .imul), (11, .bipush 71), (13, .isub), (14, .istore 5), (16, .aload_n 0), (17, .getfield 16), (20, .iload_n 1), (21, .iaload), (22, .tableswitch (245) (0) (9) #[54, 60, 75, 90, 107, 127, 150, 183, 203, 223])], [], [(76, .iconst 0), (77, .istore 6), (79, .goto 210), (82, .iload 4), (84, .ifCond .le (7)), (87, .iconst 1), (88, .goto 4), (91, .iconst 0), (92, .istore 6), (94, .goto 195)], [(97, .iload 5), (99, .ifCond .le (7)), (102, .iconst 1), (103, .goto 4), (106, .iconst 0), (107, .istore 6), (109, .goto 180), (112, .iload 4), (114, .iload 5), (116, .if_icmp .le (7)), (119, .iconst 1), (120, .goto 4), (123, .iconst 0), (124, .istore 6), (126, .goto 163)], [(129, .iload 5), (131, .iload 4), (133, .invokestatic 550), (136, .if_icmp .le (7)), (139, .iconst 1), (140, .goto 4), (143, .iconst 0), (144, .istore 6), (146, .goto 143), (149, .iload 4), (151, .invokestatic 550), (154, .iload 5), (156, .invokestatic 550), (159, .if_icmp .le (7))], [(162, .iconst 1), (163, .goto 4), (166, .iconst 0), (167, .istore 6), (169, .goto 120), (172, .iload 4), (174, .ifCond .le (7)), (177, .iconst 1), (178, .goto 4), (181, .iconst 0), (182, .iload 5), (184, .ifCond .le (7)), (187, .iconst 1), (188, .goto 4), (191, .iconst 0)], [(192, .if_icmp .eq (7)), (195, .iconst 1), (196, .goto 4), (199, .iconst 0), (200, .istore 6), (202, .goto 87), (205, .iload_n 2), (206, .bipush 10), (208, .idiv), (209, .iconst 1), (210, .iand), (211, .iconst 1), (212, .if_icmp .ne (7)), (215, .iconst 1), (216, .goto 4), (219, .iconst 0), (220, .istore 6), (222, .goto 67)], [(225, .iload_n 3), (226, .bipush 12), (228, .idiv), (229, .iconst 1), (230, .iand), (231, .iconst 1), (232, .if_icmp .ne (7)), (235, .iconst 1), (236, .goto 4), (239, .iconst 0), (240, .istore 6), (242, .goto 47), (245, .iload_n 2), (246, .iload_n 3), (247, .iadd), (248, .bipush 12), (250, .idiv), (251, .iconst 1), (252, .iand), (253, .iconst 1), (254, .if_icmp .ne (7))], [(257, .iconst 1), (258, .goto 4), (261, .iconst 0), (262, .istore 6), (264, .goto 25), (267, .iload_n 2), (268, .bipush 10), (270, .idiv), (271, .iload_n 3), (272, .bipush 12), (274, .idiv), (275, .iadd), (276, .iconst 1), (277, .iand), (278, .iconst 1), (279, .if_icmp .ne (7)), (282, .iconst 1), (283, .goto 4), (286, .iconst 0), (287, .istore 6)], [(289, .iload 6), (291, .ifCond .eq (12)), (294, .aload_n 0), (295, .getfield 23), (298, .iload_n 1), (299, .iaload), (300, .goto 9), (303, .aload_n 0), (304, .getfield 20), (307, .iload_n 1), (308, .iaload), (309, .ireturn)]]
def kF203 : List (Nat × Nat × Nat × Nat) := [(16, 11, 12, 26), (20, 11, 13, 26), (23, 11, 14, 26)]
def kM203 : List (Nat × MF) := [(550, 197, 0, 1, 1, 11, 1)]
def kK203 : List (Nat × AV) := []
set_option maxRecDepth 100000 in
theorem ok203 : okX 203 kc203 kF203 kM203 kK203 = true := by decide +kernel
def kc204 : List (List (Nat × Instr)) := [[(0, .aload_n 0), (1, .iload_n 1), (2, .invokevirtual 420), (5, .ifCond .eq (13)), (8, .iload_n 2), (9, .ifCond .lt (9)), (12, .iload_n 2), (13, .bipush 8), (15, .if_icmp .le (5)), (18, .iconst (-1)), (19, .ireturn), (20, .iconst 0), (21, .istore_n 3), (22, .iconst 0), (23, .istore 4), (25, .iload 4), (27, .bipush 72), (29, .if_icmp .ge (46))], [(32, .iconst 0), (33, .istore 5), (35, .iload 5), (37, .bipush 60), (39, .if_icmp .ge (30)), (42, .iload_n 3), (43, .aload_n 0), (44, .iload_n 1), (45, .iload 5), (47, .iload 4), (49, .invokevirtual 575), (52, .iload_n 2), (53, .if_icmp .ne (7)), (56, .iconst 1), (57, .goto 4), (60, .iconst 0), (61, .iadd), (62, .istore_n 3), (63, .iinc 5 1)], [(66, .goto (-31)), (69, .iinc 4 1), (72, .goto (-47)), (75, .iload_n 3), (76, .ireturn)]]
def kF204 : List (Nat × Nat × Nat × Nat) := []
def kM204 : List (Nat × MF) := [(420, 159, 1, 1, 2, 11, 2), (575, 195, 1, 3, 7, 11, 1)]
def kK204 : List (Nat × AV) := []
set_option maxRecDepth 100000 in
theorem ok204 : okX 204 kc204 kF204 kM204 kK204 = true := by decide +kernel
def kc205 : List (List (Nat × Instr)) := [[(0, .aload_n 0), (1, .getfield 578), (4, .bipush 100), (6, .if_icmp .ne (5)), (9, .iconst (-1)), (10, .ireturn), (11, .iload_n 2), (12, .iconst (-1)), (13, .if_icmp .ne (12)), (16, .iload_n 3), (17, .iconst (-1)), (18, .if_icmp .ne (7)), (21, .iconst 1), (22, .goto 4), (25, .iconst 0), (26, .istore 5), (28, .iload 5), (30, .ifCond .eq (15))], [(33, .aload_n 0), (34, .iload 4), (36, .invokevirtual 420), (39, .ifCond .ne (52)), (42, .goto 47), (45, .aload_n 0), (46, .iload_n 2), (47, .invokevirtual 581), (50, .ifCond .eq (39)), (53, .aload_n 0), (54, .iload_n 3), (55, .invokevirtual 581), (58, .ifCond .eq (31)), (61, .aload_n 0), (62, .getfield 74)], [(65, .iload_n 2), (66, .baload), (67, .ifCond .eq (22)), (70, .aload_n 0), (71, .getfield 74), (74, .iload_n 3), (75, .baload), (76, .ifCond .ne (13)), (79, .aload_n 0), (80, .getfield 87), (83, .iload_n 2), (84, .iaload), (85, .iload_n 3), (86, .if_icmp .eq (5)), (89, .iconst (-1)), (90, .ireturn), (91, .aload_n 0), (92, .getfield 74), (95, .aload_n 0)], [(96, .getfield 578), (99, .iload_n 1), (100, .bastore), (101, .aload_n 0), (102, .getfield 78), (105, .aload_n 0), (106, .getfield 578), (109, .iload_n 2), (110, .iastore), (111, .aload_n 0), (112, .getfield 81), (115, .aload_n 0), (116, .getfield 578), (119, .iload_n 3), (120, .iastore), (121, .aload_n 0), (122, .getfield 84), (125, .aload_n 0), (126, .getfield 578)], [(129, .iload 5), (131, .ifCond .eq (8)), (134, .iload 4), (136, .goto 4), (139, .iconst (-1)), (140, .iastore), (141, .aload_n 0), (142, .getfield 87), (145, .aload_n 0), (146, .getfield 578), (149, .iconst (-1)), (150, .iastore), (151, .aload_n 0), (152, .aload_n 0), (153, .getfield 578), (156, .iconst 1), (157, .iadd), (158, .putfield 578)], [(161, .aload_n 0), (162, .getfield 578), (165, .iconst 1), (166, .isub), (167, .ireturn)]]
def kF205 : List (Nat × Nat × Nat × Nat) := [(74, 11, 41, 29), (78, 11, 42, 26), (81, 11, 43, 26), (84, 11, 44, 26), (87, 11, 45, 26), (578, 11, 40, 0)]
def kM205 : List (Nat × MF) := [(420, 159, 1, 1, 2, 11, 2), (581, 206, 1, 1, 2, 11, 2)]
def kK205 : List (Nat × AV) := []
set_option maxRecDepth 100000 in
theorem ok205 : okX 205 kc205 kF205 kM205 kK205 = true := by decide +kernel
def kc206 : List (List (Nat × Instr)) := [[(0, .iload_n 1), (1, .ifCond .lt (15)), (4, .iload_n 1), (5, .aload_n 0), (6, .getfield 578), (9, .if_icmp .ge (7)), (12, .iconst 1), (13, .goto 4), (16, .iconst 0), (17, .ireturn)]]
def kF206 : List (Nat × Nat × Nat × Nat) := [(578, 11, 40, 0)]
def kM206 : List (Nat × MF) := []
def kK206 : List (Nat × AV) := []
set_option maxRecDepth 100000 in
theorem ok206 : okX 206 kc206 kF206 kM206 kK206 = true := by decide +kernel
def kc207 : List (List (Nat × Instr)) := [[(0, .aload_n 0), (1, .iload_n 1), (2, .invokevirtual 581), (5, .ifCond .eq (49)), (8, .aload_n 0), (9, .iload_n 2), (10, .invokevirtual 581), (13, .ifCond .eq (41)), (16, .aload_n 0), (17, .getfield 74), (20, .iload_n 1), (21, .baload), (22, .ifCond .eq (32)), (25, .aload_n 0), (26, .getfield 74), (29, .iload_n 2), (30, .baload), (31, .ifCond .ne (23))], [(34, .aload_n 0), (35, .getfield 87), (38, .iload_n 1), (39, .iaload), (40, .iconst (-1)), (41, .if_icmp .ne (13)), (44, .aload_n 0), (45, .getfield 87), (48, .iload_n 2), (49, .iaload), (50, .iconst (-1)), (51, .if_icmp .eq (5)), (54, .iconst 0), (55, .ireturn), (56, .aload_n 0), (57, .getfield 87), (60, .iload_n 1), (61, .iload_n 2), (62, .iastore), (63, .aload_n 0)], [(64, .getfield 87), (67, .iload_n 2), (68, .iload_n 1), (69, .iastore), (70, .iconst 1), (71, .ireturn)]]
def kF207 : List (Nat × Nat × Nat × Nat) := [(74, 11, 41, 29), (87, 11, 45, 26)]
def kM207 : List (Nat × MF) := [(581, 206, 1, 1, 2, 11, 2)]
def kK207 : List (Nat × AV) := []
set_option maxRecDepth 100000 in
theorem ok207 : okX 207 kc207 kF207 kM207 kK207 = true := by decide +kernel
def kc208 : List (List (Nat × Instr)) := [[(0, .aload_n 0), (1, .iload_n 1), (2, .invokevirtual 581), (5, .ifCond .ne (5)), (8, .iconst (-1)), (9, .ireturn), (10, .iconst 0), (11, .istore_n 3), (12, .iload_n 2), (13, .tableswitch (224) (0) (5) #[39, 51, 65, 135, 167, 174])], [(52, .aload_n 0), (53, .iload_n 1), (54, .invokevirtual 590), (57, .aload_n 0), (58, .getfield 93), (61, .iload_n 1), (62, .iaload), (63, .ireturn)], [(64, .aload_n 0), (65, .iload_n 1), (66, .invokevirtual 587), (69, .ifCond .eq (7)), (72, .iconst 1), (73, .goto 4), (76, .iconst 0), (77, .ireturn), (78, .iconst 0), (79, .istore 4), (81, .iload 4), (83, .iload_n 1), (84, .if_icmp .ge (62)), (87, .aload_n 0), (88, .getfield 74), (91, .iload_n 1), (92, .baload), (93, .ifCond .eq (53))], [(96, .aload_n 0), (97, .getfield 78), (100, .iload_n 1), (101, .iaload), (102, .iconst (-1)), (103, .if_icmp .eq (43)), (106, .iload_n 3), (107, .aload_n 0), (108, .getfield 74), (111, .iload 4), (113, .baload), (114, .ifCond .eq (23)), (117, .aload_n 0), (118, .getfield 78), (121, .iload 4), (123, .iaload), (124, .aload_n 0), (125, .getfield 78)], [(128, .iload_n 1), (129, .iaload), (130, .if_icmp .ne (7)), (133, .iconst 1), (134, .goto 4), (137, .iconst 0), (138, .iadd), (139, .istore_n 3), (140, .iinc 4 1), (143, .goto (-62)), (146, .iload_n 3), (147, .ireturn), (148, .iload_n 1), (149, .istore 4), (151, .aload_n 0), (152, .getfield 78), (155, .iload 4), (157, .iaload), (158, .iconst (-1)), (159, .if_icmp .eq (19))], [(162, .iload_n 3), (163, .iconst 1), (164, .iadd), (165, .istore_n 3), (166, .aload_n 0), (167, .getfield 78), (170, .iload 4), (172, .iaload), (173, .istore 4), (175, .goto (-24)), (178, .iload_n 3), (179, .ireturn), (180, .aload_n 0), (181, .getfield 87), (184, .iload_n 1), (185, .iaload), (186, .ireturn), (187, .iconst 0), (188, .istore 4), (190, .iload 4)], [(192, .aload_n 0), (193, .getfield 578), (196, .if_icmp .ge (39)), (199, .iload_n 3), (200, .aload_n 0), (201, .getfield 78), (204, .iload 4), (206, .iaload), (207, .iload_n 1), (208, .if_icmp .eq (14)), (211, .aload_n 0), (212, .getfield 81), (215, .iload 4), (217, .iaload), (218, .iload_n 1), (219, .if_icmp .ne (7)), (222, .iconst 1), (223, .goto 4)], [(226, .iconst 0), (227, .iadd), (228, .istore_n 3), (229, .iinc 4 1), (232, .goto (-42)), (235, .iload_n 3), (236, .ireturn), (237, .iload_n 2), (238, .bipush 100), (240, .if_icmp .ge (5)), (243, .iconst (-1)), (244, .ireturn), (245, .aload_n 0), (246, .iload_n 1), (247, .invokevirtual 590), (250, .iload_n 2), (251, .bipush 100), (253, .isub), (254, .aload_n 0), (255, .getfield 93)], [(258, .iload_n 1), (259, .iaload), (260, .if_icmp .ge (20)), (263, .aload_n 0), (264, .getfield 90), (267, .bipush 32), (269, .iload_n 1), (270, .imul), (271, .iload_n 2), (272, .iadd), (273, .bipush 100), (275, .isub), (276, .iaload), (277, .goto 4), (280, .iconst (-1)), (281, .ireturn)]]
def kF208 : List (Nat × Nat × Nat × Nat) := [(74, 11, 41, 29), (78, 11, 42, 26), (81, 11, 43, 26), (87, 11, 45, 26), (90, 11, 46, 26), (93, 11, 47, 26), (578, 11, 40, 0)]
def kM208 : List (Nat × MF) := [(581, 206, 1, 1, 2, 11, 2), (587, 211, 1, 1, 3, 11, 2), (590, 209, 1, 1, 3, 11, 0)]
def kK208 : List (Nat × AV) := []
set_option maxRecDepth 100000 in
theorem ok208 : okX 208 kc208 kF208 kM208 kK208 = true := by decide +kernel
def kc209 : List (List (Nat × Instr)) := [[(0, .iconst 0), (1, .istore_n 2), (2, .iload_n 2), (3, .iload_n 1), (4, .if_icmp .gt (86)), (7, .aload_n 0), (8, .getfield 93), (11, .iload_n 2), (12, .iconst 0), (13, .iastore), (14, .aload_n 0), (15, .getfield 78), (18, .iload_n 2), (19, .iaload), (20, .iconst (-1)), (21, .if_icmp .ne (28)), (24, .aload_n 0), (25, .getfield 90), (28, .bipush 32), (30, .iload_n 2), (31, .imul)], [(32, .aload_n 0), (33, .getfield 84), (36, .iload_n 2), (37, .iaload), (38, .iastore), (39, .aload_n 0), (40, .getfield 93), (43, .iload_n 2), (44, .iconst 1), (45, .iastore), (46, .goto 38), (49, .aload_n 0), (50, .iload_n 2), (51, .aload_n 0), (52, .getfield 78), (55, .iload_n 2), (56, .iaload), (57, .invokevirtual 584), (60, .aload_n 0), (61, .aload_n 0), (62, .getfield 81)], [(65, .iload_n 2), (66, .iaload), (67, .invokevirtual 587), (70, .ifCond .eq (14)), (73, .aload_n 0), (74, .iload_n 2), (75, .aload_n 0), (76, .getfield 81), (79, .iload_n 2), (80, .iaload), (81, .invokevirtual 584), (84, .iinc 2 1), (87, .goto (-85)), (90, .return_)]]
def kF209 : List (Nat × Nat × Nat × Nat) := [(78, 11, 42, 26), (81, 11, 43, 26), (84, 11, 44, 26), (90, 11, 46, 26), (93, 11, 47, 26)]
def kM209 : List (Nat × MF) := [(584, 210, 1, 2, 7, 11, 0), (587, 211, 1, 1, 3, 11, 2)]
def kK209 : List (Nat × AV) := []
set_option maxRecDepth 100000 in
theorem ok209 : okX 209 kc209 kF209 kM209 kK209 = true := by decide +kernel
def kc210 : List (List (Nat × Instr)) := [[(0, .iconst 0), (1, .istore_n 3), (2, .iload_n 3), (3, .aload_n 0), (4, .getfield 93), (7, .iload_n 2), (8, .iaload), (9, .if_icmp .ge (125)), (12, .aload_n 0), (13, .getfield 90), (16, .bipush 32), (18, .iload_n 2), (19, .imul), (20, .iload_n 3), (21, .iadd), (22, .iaload), (23, .istore 4), (25, .iconst 0), (26, .istore 5), (28, .iconst 0), (29, .istore 6), (31, .iload 6)], [(33, .aload_n 0), (34, .getfield 93), (37, .iload_n 1), (38, .iaload), (39, .if_icmp .ge (38)), (42, .iload 5), (44, .ifCond .ne (20)), (47, .aload_n 0), (48, .getfield 90), (51, .bipush 32), (53, .iload_n 1), (54, .imul), (55, .iload 6), (57, .iadd), (58, .iaload), (59, .iload 4), (61, .if_icmp .ne (7))], [(64, .iconst 1), (65, .goto 4), (68, .iconst 0), (69, .istore 5), (71, .iinc 6 1), (74, .goto (-43)), (77, .iload 5), (79, .ifCond .ne (49)), (82, .aload_n 0), (83, .getfield 93), (86, .iload_n 1), (87, .iaload), (88, .bipush 32), (90, .if_icmp .ne (6)), (93, .goto 35)], [(96, .aload_n 0), (97, .getfield 90), (100, .bipush 32), (102, .iload_n 1), (103, .imul), (104, .aload_n 0), (105, .getfield 93), (108, .iload_n 1), (109, .iaload), (110, .iadd), (111, .iload 4), (113, .iastore), (114, .aload_n 0), (115, .getfield 93), (118, .iload_n 1), (119, .aload_n 0), (120, .getfield 93), (123, .iload_n 1), (124, .iaload), (125, .iconst 1), (126, .iadd), (127, .iastore)], [(128, .iinc 3 1), (131, .goto (-129)), (134, .return_)]]
def kF210 : List (Nat × Nat × Nat × Nat) := [(90, 11, 46, 26), (93, 11, 47, 26)]
def kM210 : List (Nat × MF) := []
def kK210 : List (Nat × AV) := []
set_option maxRecDepth 100000 in
theorem ok210 : okX 210 kc210 kF210 kM210 kK210 = true := by decide +kernel
def kc211 : List (List (Nat × Instr)) := [[(0, .aload_n 0), (1, .getfield 74), (4, .iload_n 1), (5, .baload), (6, .ifCond .ne (13)), (9, .aload_n 0), (10, .getfield 78), (13, .iload_n 1), (14, .iaload), (15, .iconst (-1)), (16, .if_icmp .ne (5)), (19, .iconst 0), (20, .ireturn), (21, .iconst 0), (22, .istore_n 2), (23, .iload_n 2), (24, .aload_n 0), (25, .getfield 578), (28, .if_icmp .ge (35)), (31, .aload_n 0)], [(32, .getfield 74), (35, .iload_n 2), (36, .baload), (37, .ifCond .eq (20)), (40, .aload_n 0), (41, .getfield 78), (44, .iload_n 2), (45, .iaload), (46, .aload_n 0), (47, .getfield 78), (50, .iload_n 1), (51, .iaload), (52, .if_icmp .ne (5)), (55, .iconst 0), (56, .ireturn), (57, .iinc 2 1), (60, .goto (-37)), (63, .iconst 1)], [(64, .ireturn)]]
def kF211 : List (Nat × Nat × Nat × Nat) := [(74, 11, 41, 29), (78, 11, 42, 26), (578, 11, 40, 0)]
def kM211 : List (Nat × MF) := []
def kK211 : List (Nat × AV) := []
set_option maxRecDepth 100000 in
theorem ok211 : okX 211 kc211 kF211 kM211 kK211 = true := by decide +kernel
def kc212 : List (List (Nat × Instr)) := [[(0, .iload_n 1), (1, .ifCond .ne (8)), (4, .aload_n 0), (5, .getfield 297), (8, .ireturn), (9, .iload_n 1), (10, .iconst 1), (11, .if_icmp .ne (8)), (14, .aload_n 0), (15, .getfield 578), (18, .ireturn), (19, .iload_n 1), (20, .iconst 2), (21, .if_icmp .ne (8)), (24, .aload_n 0), (25, .getfield 99), (28, .ireturn), (29, .iload_n 1), (30, .iconst 3), (31, .if_icmp .lt (20))], [(34, .iload_n 1), (35, .bipush 7), (37, .if_icmp .ge (14)), (40, .aload_n 0), (41, .getfield 32), (44, .iload_n 1), (45, .iconst 3), (46, .isub), (47, .iaload), (48, .goto 4), (51, .iconst (-1)), (52, .ireturn)]]
def kF212 : List (Nat × Nat × Nat × Nat) := [(32, 11, 18, 26), (99, 11, 1, 0), (297, 11, 11, 0), (578, 11, 40, 0)]
def kM212 : List (Nat × MF) := []
def kK212 : List (Nat × AV) := []
set_option maxRecDepth 100000 in
theorem ok212 : okX 212 kc212 kF212 kM212 kK212 = true := by decide +kernel
def kc213 : List (List (Nat × Instr)) := [[(0, .iload_n 1), (1, .iload_n 2), (2, .invokestatic 15), (5, .ifCond .ne (5)), (8, .iconst (-1)), (9, .ireturn), (10, .bipush 6), (12, .istore_n 3), (13, .iload_n 3), (14, .ifCond .lt (37)), (17, .aload_n 0), (18, .iload_n 3), (19, .invokevirtual 19), (22, .astore 4), (24, .aload 4), (26, .ifnull 19), (29, .aload 4), (31, .iload_n 1)], [(32, .iload_n 2), (33, .invokestatic 25), (36, .ifCond .eq (9)), (39, .aload 4), (41, .getfield 29), (44, .ireturn), (45, .iinc 3 (-1)), (48, .goto (-35)), (51, .aload_n 0), (52, .getfield 35), (55, .iload_n 1), (56, .iload_n 2), (57, .invokestatic 38), (60, .ifCond .eq (10)), (63, .aload_n 0)], [(64, .getfield 42), (67, .goto 7), (70, .aload_n 0), (71, .getfield 45), (74, .ireturn)]]
def kF213 : List (Nat × Nat × Nat × Nat) := [(29, 3, 4, 0), (35, 7, 0, 0), (42, 7, 2, 0), (45, 7, 1, 0)]
def kM213 : List (Nat × MF) := [(15, 214, 0, 2, 2, 12, 2), (19, 56, 1, 1, 2, 7, 8), (25, 215, 0, 3, 3, 12, 2), (38, 224, 0, 3, 5, 12, 2)]
def kK213 : List (Nat × AV) := []
set_option maxRecDepth 100000 in
theorem ok213 : okX 213 kc213 kF213 kM213 kK213 = true := by decide +kernel
def kc214 : List (List (Nat × Instr)) := [[(0, .iload_n 0), (1, .ifCond .lt (19)), (4, .iload_n 0), (5, .bipush 60), (7, .if_icmp .ge (13)), (10, .iload_n 1), (11, .ifCond .lt (9)), (14, .iload_n 1), (15, .bipush 72), (17, .if_icmp .lt (5)), (20, .iconst 0), (21, .ireturn), (22, .iload_n 1), (23, .bipush 36), (25, .if_icmp .lt (30)), (28, .iconst 2), (29, .iload_n 0), (30, .imul), (31, .bipush 59)], [(33, .isub), (34, .invokestatic 48), (37, .bipush 59), (39, .iload_n 1), (40, .bipush 36), (42, .isub), (43, .iload_n 1), (44, .bipush 36), (46, .isub), (47, .imul), (48, .bipush 22), (50, .idiv), (51, .isub), (52, .if_icmp .gt (7)), (55, .iconst 1), (56, .goto 4), (59, .iconst 0), (60, .ireturn)]]
def kF214 : List (Nat × Nat × Nat × Nat) := []
def kM214 : List (Nat × MF) := []
def kK214 : List (Nat × AV) := []
set_option maxRecDepth 100000 in
theorem ok214 : okX 214 kc214 kF214 kM214 kK214 = true := by decide +kernel
def kc215 : List (List (Nat × Instr)) := [[(0, .aload_n 0), (1, .getfield 58), (4, .lookupswitch (114) #[(0, 36), (3, 56), (5, 68)])], [(40, .aload_n 0), (41, .getfield 61), (44, .iconst 2), (45, .iload_n 1), (46, .imul), (47, .bipush 59), (49, .isub), (50, .iconst 2), (51, .iload_n 2), (52, .imul), (53, .bipush 71), (55, .isub), (56, .invokestatic 64), (59, .ireturn), (60, .iload_n 2), (61, .bipush 22), (63, .if_icmp .ge (7))], [(66, .iconst 1), (67, .goto 4), (70, .iconst 0), (71, .ireturn), (72, .iload_n 1), (73, .iconst 5), (74, .isub), (75, .iload_n 2), (76, .invokestatic 15), (79, .ifCond .eq (33)), (82, .iload_n 1), (83, .iconst 5), (84, .iadd), (85, .iload_n 2), (86, .invokestatic 15), (89, .ifCond .eq (23)), (92, .iload_n 1), (93, .iload_n 2), (94, .iconst 5), (95, .isub)], [(96, .invokestatic 15), (99, .ifCond .eq (13)), (102, .iload_n 1), (103, .iload_n 2), (104, .iconst 5), (105, .iadd), (106, .invokestatic 15), (109, .ifCond .ne (7)), (112, .iconst 1), (113, .goto 4), (116, .iconst 0), (117, .ireturn), (118, .aload_n 0), (119, .iconst 2), (120, .iload_n 1), (121, .imul), (122, .bipush 59), (124, .isub), (125, .iconst 2), (126, .iload_n 2), (127, .imul)], [(128, .bipush 71), (130, .isub), (131, .invokestatic 67), (134, .ireturn)]]
def kF215 : List (Nat × Nat × Nat × Nat) := [(58, 3, 0, 0), (61, 3, 1, 0)]
def kM215 : List (Nat × MF) := [(15, 214, 0, 2, 2, 12, 2), (64, 216, 0, 3, 3, 12, 2), (67, 217, 0, 3, 5, 12, 2)]
def kK215 : List (Nat × AV) := []
set_option maxRecDepth 100000 in
theorem ok215 : okX 215 kc215 kF215 kM215 kK215 = true := by decide +kernel
def kc216 : List (List (Nat × Instr)) := [[(0, .iload_n 0), (1, .tableswitch (193) (8) (14) #[43, 58, 73, 90, 116, 140, 168])], [(44, .iload_n 1), (45, .invokestatic 48), (48, .bipush 20), (50, .if_icmp .ge (7)), (53, .iconst 1), (54, .goto 4), (57, .iconst 0), (58, .ireturn), (59, .iload_n 2), (60, .invokestatic 48), (63, .bipush 24)], [(65, .if_icmp .ge (7)), (68, .iconst 1), (69, .goto 4), (72, .iconst 0), (73, .ireturn), (74, .iload_n 1), (75, .iload_n 2), (76, .isub), (77, .invokestatic 48), (80, .bipush 24), (82, .if_icmp .ge (7)), (85, .iconst 1), (86, .goto 4), (89, .iconst 0), (90, .ireturn), (91, .iload_n 2), (92, .iload_n 1), (93, .invokestatic 48)], [(96, .isub), (97, .invokestatic 48), (100, .bipush 20), (102, .if_icmp .ge (13)), (105, .iload_n 2), (106, .bipush (-30)), (108, .if_icmp .le (7)), (111, .iconst 1), (112, .goto 4), (115, .iconst 0), (116, .ireturn), (117, .iload_n 1), (118, .invokestatic 48), (121, .bipush 14), (123, .if_icmp .lt (12)), (126, .iload_n 2), (127, .invokestatic 48)], [(130, .bipush 14), (132, .if_icmp .ge (7)), (135, .iconst 1), (136, .goto 4), (139, .iconst 0), (140, .ireturn), (141, .iload_n 1), (142, .iload_n 2), (143, .isub), (144, .invokestatic 48), (147, .bipush 18), (149, .if_icmp .lt (14)), (152, .iload_n 1), (153, .iload_n 2), (154, .iadd), (155, .invokestatic 48), (158, .bipush 18)], [(160, .if_icmp .ge (7)), (163, .iconst 1), (164, .goto 4), (167, .iconst 0), (168, .ireturn), (169, .iconst 3), (170, .iload_n 1), (171, .invokestatic 48), (174, .imul), (175, .bipush 71), (177, .iload_n 2), (178, .isub), (179, .if_icmp .ge (13)), (182, .iload_n 2), (183, .bipush 50), (185, .if_icmp .ge (7)), (188, .iconst 1), (189, .goto 4)], [(192, .iconst 0), (193, .ireturn), (194, .iconst 0), (195, .ireturn)]]
def kF216 : List (Nat × Nat × Nat × Nat) := []
def kM216 : List (Nat × MF) := []
def kK216 : List (Nat × AV) := []
set_option maxRecDepth 100000 in
theorem ok216 : okX 216 kc216 kF216 kM216 kK216 = true := by decide +kernel
def kc217 : List (List (Nat × Instr)) := [[(0, .aload_n 0), (1, .invokestatic 70), (4, .istore_n 3), (5, .iconst 0), (6, .istore 4), (8, .iload 4), (10, .aload_n 0), (11, .getfield 74), (14, .if_icmp .ge (39)), (17, .aload_n 0), (18, .getfield 61), (21, .iload_n 3), (22, .iload_n 1), (23, .aload_n 0), (24, .iload_n 3), (25, .iload 4), (27, .invokestatic 77), (30, .isub), (31, .iload_n 2)], [(32, .aload_n 0), (33, .iload 4), (35, .invokestatic 81), (38, .isub), (39, .invokestatic 85), (42, .ifCond .eq (5)), (45, .iconst 1), (46, .ireturn), (47, .iinc 4 1), (50, .goto (-42)), (53, .iconst 0), (54, .ireturn)]]
def kF217 : List (Nat × Nat × Nat × Nat) := [(61, 3, 1, 0), (74, 3, 2, 0)]
def kM217 : List (Nat × MF) := [(70, 218, 0, 1, 1, 12, 1), (77, 219, 0, 3, 3, 12, 1), (81, 220, 0, 2, 2, 12, 1), (85, 221, 0, 4, 4, 12, 2)]
def kK217 : List (Nat × AV) := []
set_option maxRecDepth 100000 in
theorem ok217 : okX 217 kc217 kF217 kM217 kK217 = true := by decide +kernel
def kc218 : List (List (Nat × Instr)) := [[(0, .aload_n 0), (1, .getfield 58), (4, .bipush 6), (6, .if_icmp .ne (6)), (9, .bipush 8), (11, .ireturn), (12, .aload_n 0), (13, .getfield 74), (16, .iconst 1), (17, .if_icmp .ne (6)), (20, .bipush 16), (22, .ireturn), (23, .aload_n 0), (24, .getfield 74), (27, .iconst 3), (28, .if_icmp .gt (8)), (31, .bipush 12)], [(33, .goto 5), (36, .bipush 10), (38, .ireturn)]]
def kF218 : List (Nat × Nat × Nat × Nat) := [(58, 3, 0, 0), (74, 3, 2, 0)]
def kM218 : List (Nat × MF) := []
def kK218 : List (Nat × AV) := []
set_option maxRecDepth 100000 in
theorem ok218 : okX 218 kc218 kF218 kM218 kK218 = true := by decide +kernel
def kc219 : List (List (Nat × Instr)) := [[(0, .aload_n 0), (1, .getfield 58), (4, .iconst 2), (5, .if_icmp .ne (25)), (8, .getstatic 89), (11, .aload_n 0), (12, .getfield 74), (15, .aload_n 0), (16, .getfield 74), (19, .iconst 1), (20, .isub), (21, .imul), (22, .iconst 2), (23, .idiv), (24, .iload_n 2), (25, .iadd), (26, .invokestatic 93), (29, .ireturn), (30, .iconst 2), (31, .iload_n 2)], [(32, .imul), (33, .aload_n 0), (34, .getfield 74), (37, .iconst 1), (38, .isub), (39, .isub), (40, .iload_n 1), (41, .iconst 2), (42, .iadd), (43, .imul), (44, .ireturn)]]
def kF219 : List (Nat × Nat × Nat × Nat) := [(58, 3, 0, 0), (74, 3, 2, 0)]
def kM219 : List (Nat × MF) := [(93, 101, 0, 2, 2, 10, 1)]
def kK219 : List (Nat × AV) := [(89, .inr (.inr (42, some 1)))]
set_option maxRecDepth 100000 in
theorem ok219 : okX 219 kc219 kF219 kM219 kK219 = true := by decide +kernel
def kc220 : List (List (Nat × Instr)) := [[(0, .aload_n 0), (1, .getfield 58), (4, .tableswitch (64) (2) (6) #[36, 64, 58, 64, 61])], [(40, .getstatic 97), (43, .aload_n 0), (44, .getfield 74), (47, .aload_n 0), (48, .getfield 74), (51, .iconst 1), (52, .isub), (53, .imul), (54, .iconst 2), (55, .idiv), (56, .iload_n 1), (57, .iadd), (58, .invokestatic 93), (61, .ireturn), (62, .bipush (-49))], [(64, .ireturn), (65, .bipush (-30)), (67, .ireturn), (68, .iconst 0), (69, .ireturn)]]
def kF220 : List (Nat × Nat × Nat × Nat) := [(58, 3, 0, 0), (74, 3, 2, 0)]
def kM220 : List (Nat × MF) := [(93, 101, 0, 2, 2, 10, 1)]
def kK220 : List (Nat × AV) := [(97, .inr (.inr (42, some 2)))]
set_option maxRecDepth 100000 in
theorem ok220 : okX 220 kc220 kF220 kM220 kK220 = true := by decide +kernel
def kc221 : List (List (Nat × Instr)) := [[(0, .iload_n 0), (1, .invokestatic 100), (4, .tableswitch (88) (3) (5) #[28, 50, 69])], [(32, .iload_n 2), (33, .invokestatic 48), (36, .iload_n 1), (37, .if_icmp .ge (15)), (40, .iload_n 3), (41, .invokestatic 48), (44, .iload_n 1), (45, .if_icmp .ge (7)), (48, .iconst 1), (49, .goto 4), (52, .iconst 0), (53, .ireturn), (54, .iload_n 2), (55, .invokestatic 48), (58, .iload_n 3), (59, .invokestatic 48), (62, .iadd), (63, .iload_n 1)], [(64, .if_icmp .ge (7)), (67, .iconst 1), (68, .goto 4), (71, .iconst 0), (72, .ireturn), (73, .iload_n 2), (74, .iload_n 2), (75, .imul), (76, .iload_n 3), (77, .iload_n 3), (78, .imul), (79, .iadd), (80, .iload_n 1), (81, .iload_n 1), (82, .imul), (83, .if_icmp .ge (7)), (86, .iconst 1), (87, .goto 4), (90, .iconst 0), (91, .ireturn), (92, .iload_n 0), (93, .iload_n 1), (94, .iload_n 2), (95, .iload_n 3)], [(96, .invokestatic 103), (99, .ireturn)]]
def kF221 : List (Nat × Nat × Nat × Nat) := []
def kM221 : List (Nat × MF) := [(100, 100, 0, 1, 1, 10, 1), (103, 222, 0, 4, 8, 12, 2)]
def kK221 : List (Nat × AV) := []
set_option maxRecDepth 100000 in
theorem ok221 : okX 221 kc221 kF221 kM221 kK221 = true := by decide +kernel
def kc222 : List (List (Nat × Instr)) := [[(0, .iload_n 2), (1, .invokestatic 48), (4, .istore 4), (6, .iload_n 3), (7, .invokestatic 48), (10, .istore 5), (12, .iload_n 2), (13, .iload_n 2), (14, .imul), (15, .iload_n 3), (16, .iload_n 3), (17, .imul), (18, .iadd), (19, .istore 6), (21, .iload_n 3), (22, .iload_n 1), (23, .iconst 2), (24, .idiv), (25, .iadd), (26, .istore 7), (28, .iload_n 0), (29, .tableswitch (231) (24) (30) #[43, 74, 105, 129, 143, 163, 197])], [], [(72, .iload 4), (74, .iload 5), (76, .iadd), (77, .iload_n 1), (78, .if_icmp .lt (19)), (81, .iload 4), (83, .iload_n 1), (84, .iconst 2), (85, .idiv), (86, .if_icmp .ge (15)), (89, .iload 5), (91, .iload_n 1), (92, .iconst 2), (93, .idiv), (94, .if_icmp .ge (7))], [(97, .iconst 1), (98, .goto 4), (101, .iconst 0), (102, .ireturn), (103, .iload 6), (105, .iload_n 1), (106, .iload_n 1), (107, .imul), (108, .if_icmp .ge (24)), (111, .iload_n 2), (112, .iload_n 2), (113, .imul), (114, .iload 7), (116, .iload 7), (118, .imul), (119, .iadd), (120, .iload_n 1), (121, .iload_n 1), (122, .imul), (123, .iconst 2), (124, .idiv), (125, .if_icmp .lt (7))], [(128, .iconst 1), (129, .goto 4), (132, .iconst 0), (133, .ireturn), (134, .iload 6), (136, .iload_n 1), (137, .iload_n 1), (138, .imul), (139, .if_icmp .ge (17)), (142, .iload 6), (144, .iload_n 1), (145, .iload_n 1), (146, .imul), (147, .iconst 4), (148, .idiv), (149, .if_icmp .lt (7)), (152, .iconst 1), (153, .goto 4), (156, .iconst 0), (157, .ireturn), (158, .iload 6)], [(160, .iload_n 1), (161, .iload_n 1), (162, .imul), (163, .if_icmp .ge (7)), (166, .iconst 1), (167, .goto 4), (170, .iconst 0), (171, .ireturn), (172, .iconst 2), (173, .iload 4), (175, .imul), (176, .iload_n 1), (177, .if_icmp .ge (13)), (180, .iload 5), (182, .iload_n 1), (183, .if_icmp .ge (7)), (186, .iconst 1), (187, .goto 4), (190, .iconst 0), (191, .ireturn)], [(192, .iload 4), (194, .iload_n 1), (195, .if_icmp .ge (29)), (198, .iload 5), (200, .iload_n 1), (201, .if_icmp .ge (23)), (204, .iload_n 3), (205, .ifCond .gt (15)), (208, .iload_n 2), (209, .bipush 64), (211, .iadd), (212, .iconst 4), (213, .idiv), (214, .invokestatic 54), (217, .ifCond .eq (7)), (220, .iconst 1), (221, .goto 4)], [(224, .iconst 0), (225, .ireturn), (226, .iload 4), (228, .iload_n 1), (229, .if_icmp .ge (29)), (232, .iload 5), (234, .iconst 2), (235, .if_icmp .lt (19)), (238, .iload_n 3), (239, .ifCond .le (19)), (242, .iload_n 2), (243, .bipush 64), (245, .iadd), (246, .iconst 4), (247, .idiv), (248, .invokestatic 54), (251, .ifCond .eq (7)), (254, .iconst 1), (255, .goto 4)], [(258, .iconst 0), (259, .ireturn), (260, .iconst 0), (261, .ireturn)]]
def kF222 : List (Nat × Nat × Nat × Nat) := []
def kM222 : List (Nat × MF) := [(54, 223, 0, 1, 1, 12, 2)]
def kK222 : List (Nat × AV) := []
set_option maxRecDepth 100000 in
theorem ok222 : okX 222 kc222 kF222 kM222 kK222 = true := by decide +kernel
def kc223 : List (List (Nat × Instr)) := [[(0, .iload_n 0), (1, .iconst 1), (2, .iand), (3, .iconst 1), (4, .if_icmp .ne (7)), (7, .iconst 1), (8, .goto 4), (11, .iconst 0), (12, .ireturn)]]
def kF223 : List (Nat × Nat × Nat × Nat) := []
def kM223 : List (Nat × MF) := []
def kK223 : List (Nat × AV) := []
set_option maxRecDepth 100000 in
theorem ok223 : okX 223 kc223 kF223 kM223 kK223 = true := by decide +kernel
def kc224 : List (List (Nat × Instr)) := [[(0, .iconst 2), (1, .iload_n 1), (2, .imul), (3, .bipush 59), (5, .isub), (6, .istore_n 3), (7, .iconst 2), (8, .iload_n 2), (9, .imul), (10, .bipush 71), (12, .isub), (13, .istore 4), (15, .iload_n 0), (16, .tableswitch (189) (1) (10) #[56, 66, 77, 89, 104, 122, 150, 158, 166, 176])], [], [(72, .iload_n 3), (73, .ifCond .le (7)), (76, .iconst 1), (77, .goto 4), (80, .iconst 0), (81, .ireturn), (82, .iload 4), (84, .ifCond .le (7)), (87, .iconst 1), (88, .goto 4), (91, .iconst 0), (92, .ireturn), (93, .iload_n 3), (94, .iload 4)], [(96, .if_icmp .le (7)), (99, .iconst 1), (100, .goto 4), (103, .iconst 0), (104, .ireturn), (105, .iload 4), (107, .iload_n 3), (108, .invokestatic 48), (111, .if_icmp .le (7)), (114, .iconst 1), (115, .goto 4), (118, .iconst 0), (119, .ireturn), (120, .iload_n 3), (121, .invokestatic 48), (124, .iload 4), (126, .invokestatic 48)], [(129, .if_icmp .le (7)), (132, .iconst 1), (133, .goto 4), (136, .iconst 0), (137, .ireturn), (138, .iload_n 3), (139, .ifCond .le (7)), (142, .iconst 1), (143, .goto 4), (146, .iconst 0), (147, .iload 4), (149, .ifCond .le (7)), (152, .iconst 1), (153, .goto 4), (156, .iconst 0), (157, .if_icmp .eq (7))], [(160, .iconst 1), (161, .goto 4), (164, .iconst 0), (165, .ireturn), (166, .iload_n 1), (167, .bipush 10), (169, .idiv), (170, .invokestatic 54), (173, .ireturn), (174, .iload_n 2), (175, .bipush 12), (177, .idiv), (178, .invokestatic 54), (181, .ireturn), (182, .iload_n 1), (183, .iload_n 2), (184, .iadd), (185, .bipush 12), (187, .idiv), (188, .invokestatic 54), (191, .ireturn)], [(192, .iload_n 1), (193, .bipush 10), (195, .idiv), (196, .iload_n 2), (197, .bipush 12), (199, .idiv), (200, .iadd), (201, .invokestatic 54), (204, .ireturn), (205, .iconst 0), (206, .ireturn)]]
def kF224 : List (Nat × Nat × Nat × Nat) := []
def kM224 : List (Nat × MF) := [(54, 223, 0, 1, 1, 12, 2)]
def kK224 : List (Nat × AV) := []
set_option maxRecDepth 100000 in
theorem ok224 : okX 224 kc224 kF224 kM224 kK224 = true := by decide +kernel
def kc225 : List (List (Nat × Instr)) := [[(0, .bipush 9), (2, .newarray .int), (4, .astore_n 1), (5, .iconst 0), (6, .istore_n 2), (7, .iload_n 2), (8, .bipush 72), (10, .if_icmp .ge (51)), (13, .iconst 0), (14, .istore_n 3), (15, .iload_n 3), (16, .bipush 60), (18, .if_icmp .ge (37)), (21, .aload_n 0), (22, .iload_n 3), (23, .iload_n 2), (24, .invokestatic 11), (27, .istore 4), (29, .iload 4), (31, .ifCond .lt (18))], [(34, .iload 4), (36, .bipush 9), (38, .if_icmp .ge (11)), (41, .aload_n 1), (42, .iload 4), (44, .dup2), (45, .iaload), (46, .iconst 1), (47, .iadd), (48, .iastore), (49, .iinc 3 1), (52, .goto (-37)), (55, .iinc 2 1), (58, .goto (-51)), (61, .aload_n 1), (62, .areturn)]]
def kF225 : List (Nat × Nat × Nat × Nat) := []
def kM225 : List (Nat × MF) := [(11, 213, 0, 3, 5, 12, 1)]
def kK225 : List (Nat × AV) := []
set_option maxRecDepth 100000 in
theorem ok225 : okX 225 kc225 kF225 kM225 kK225 = true := by decide +kernel
def kc226 : List (List (Nat × Instr)) := [[(0, .aload_n 0), (1, .invokevirtual 492), (4, .ifCond .eq (13)), (7, .aload_n 0), (8, .getfield 9), (11, .invokestatic 299), (14, .goto 10), (17, .aload_n 0), (18, .getfield 9), (21, .invokestatic 303), (24, .areturn)]]
def kF226 : List (Nat × Nat × Nat × Nat) := [(9, 40, 0, 3)]
def kM226 : List (Nat × MF) := [(299, 233, 0, 1, 2, 44, 28), (492, 227, 1, 0, 1, 40, 2)]
def kK226 : List (Nat × AV) := []
set_option maxRecDepth 100000 in
theorem ok226 : okX 226 kc226 kF226 kM226 kK226 = true := by decide +kernel
def kc227 : List (List (Nat × Instr)) := [[(0, .getstatic 38), (3, .ifCond .eq (14)), (6, .aload_n 0), (7, .getfield 15), (10, .ifCond .ne (7)), (13, .iconst 1), (14, .goto 4), (17, .iconst 0), (18, .ireturn)]]
def kF227 : List (Nat × Nat × Nat × Nat) := [(15, 40, 1, 4)]
def kM227 : List (Nat × MF) := []
def kK227 : List (Nat × AV) := [(38, .inl 1)]
set_option maxRecDepth 100000 in
theorem ok227 : okX 227 kc227 kF227 kM227 kK227 = true := by decide +kernel
def kc228 : List (List (Nat × Instr)) := [[(0, .aload_n 0), (1, .getfield 9), (4, .arraylength), (5, .aload_n 0), (6, .invokevirtual 335), (9, .ishr), (10, .ireturn)]]
def kF228 : List (Nat × Nat × Nat × Nat) := [(9, 40, 0, 3)]
def kM228 : List (Nat × MF) := [(335, 229, 1, 0, 1, 40, 2)]
def kK228 : List (Nat × AV) := []
set_option maxRecDepth 100000 in
theorem ok228 : okX 228 kc228 kF228 kM228 kK228 = true := by decide +kernel
def kc229 : List (List (Nat × Instr)) := [[(0, .getstatic 38), (3, .ifCond .eq (10)), (6, .aload_n 0), (7, .getfield 15), (10, .goto 4), (13, .iconst 1), (14, .ireturn)]]
def kF229 : List (Nat × Nat × Nat × Nat) := [(15, 40, 1, 4)]
def kM229 : List (Nat × MF) := []
def kK229 : List (Nat × AV) := [(38, .inl 1)]
set_option maxRecDepth 100000 in
theorem ok229 : okX 229 kc229 kF229 kM229 kK229 = true := by decide +kernel
def kc230 : List (List (Nat × Instr)) := [[(0, .aload_n 0), (1, .invokevirtual 492), (4, .ifCond .eq (12)), (7, .aload_n 0), (8, .getfield 9), (11, .iload_n 1), (12, .invokestatic 495), (15, .ireturn), (16, .aload_n 0), (17, .getfield 9), (20, .iload_n 1), (21, .invokestatic 498), (24, .ireturn)]]
def kF230 : List (Nat × Nat × Nat × Nat) := [(9, 40, 0, 3)]
def kM230 : List (Nat × MF) := [(492, 227, 1, 0, 1, 40, 2), (495, 235, 0, 2, 2, 44, 2)]
def kK230 : List (Nat × AV) := []
set_option maxRecDepth 100000 in
theorem ok230 : okX 230 kc230 kF230 kM230 kK230 = true := by decide +kernel
def kc231 : List (List (Nat × Instr)) := [[(0, .aload_n 0), (1, .iload_n 1), (2, .iconst 0), (3, .invokevirtual 633), (6, .ireturn)]]
def kF231 : List (Nat × Nat × Nat × Nat) := []
def kM231 : List (Nat × MF) := [(633, 232, 1, 2, 3, 40, 1)]
def kK231 : List (Nat × AV) := []
set_option maxRecDepth 100000 in
theorem ok231 : okX 231 kc231 kF231 kM231 kK231 = true := by decide +kernel
def kc232 : List (List (Nat × Instr)) := [[(0, .aload_n 0), (1, .invokevirtual 492), (4, .ifCond .eq (19)), (7, .aload_n 0), (8, .getfield 9), (11, .iload_n 1), (12, .iload_n 2), (13, .aload_n 0), (14, .invokevirtual 505), (17, .invokestatic 637), (20, .goto 16), (23, .aload_n 0), (24, .getfield 9), (27, .iload_n 1), (28, .iload_n 2), (29, .aload_n 0), (30, .invokevirtual 505)], [(33, .invokestatic 640), (36, .ireturn)]]
def kF232 : List (Nat × Nat × Nat × Nat) := [(9, 40, 0, 3)]
def kM232 : List (Nat × MF) := [(492, 227, 1, 0, 1, 40, 2), (505, 228, 1, 0, 1, 40, 1), (637, 236, 0, 4, 4, 44, 1)]
def kK232 : List (Nat × AV) := []
set_option maxRecDepth 100000 in
theorem ok232 : okX 232 kc232 kF232 kM232 kK232 = true := by decide +kernel
def kc233 : List (List (Nat × Instr)) := [[(0, .aload_n 0), (1, .arraylength), (2, .newarray .char), (4, .astore_n 1), (5, .aload_n 0), (6, .iconst 0), (7, .aload_n 1), (8, .iconst 0), (9, .aload_n 0), (10, .arraylength), (11, .invokestatic 13), (14, .aload_n 1), (15, .areturn)]]
def kF233 : List (Nat × Nat × Nat × Nat) := []
def kM233 : List (Nat × MF) := [(13, 234, 0, 5, 6, 44, 0)]
def kK233 : List (Nat × AV) := []
set_option maxRecDepth 100000 in
theorem ok233 : okX 233 kc233 kF233 kM233 kK233 = true := by decide +kernel
def kc234 : List (List (Nat × Instr)) := [[(0, .iconst 0), (1, .istore 5), (3, .iload 5), (5, .iload 4), (7, .if_icmp .ge (26)), (10, .aload_n 2), (11, .iload_n 3), (12, .iinc 3 1), (15, .aload_n 0), (16, .iload_n 1), (17, .iinc 1 1), (20, .baload), (21, .sipush 255), (24, .iand), (25, .i2c), (26, .castore), (27, .iinc 5 1), (30, .goto (-27))], [(33, .return_)]]
def kF234 : List (Nat × Nat × Nat × Nat) := []
def kM234 : List (Nat × MF) := []
def kK234 : List (Nat × AV) := []
set_option maxRecDepth 100000 in
theorem ok234 : okX 234 kc234 kF234 kM234 kK234 = true := by decide +kernel
def kc235 : List (List (Nat × Instr)) := [[(0, .iload_n 1), (1, .aload_n 0), (2, .arraylength), (3, .invokestatic 9), (6, .aload_n 0), (7, .iload_n 1), (8, .baload), (9, .sipush 255), (12, .iand), (13, .i2c), (14, .ireturn)]]
def kF235 : List (Nat × Nat × Nat × Nat) := []
def kM235 : List (Nat × MF) := []
def kK235 : List (Nat × AV) := []
set_option maxRecDepth 100000 in
theorem ok235 : okX 235 kc235 kF235 kM235 kK235 = true := by decide +kernel
def kc236 : List (List (Nat × Instr)) := [[(0, .iload_n 1), (1, .invokestatic 88), (4, .ifCond .ne (5)), (7, .iconst (-1)), (8, .ireturn), (9, .iload_n 2), (10, .iconst 0), (11, .invokestatic 92), (14, .istore_n 2), (15, .iload_n 3), (16, .aload_n 0), (17, .arraylength), (18, .invokestatic 38), (21, .istore_n 3), (22, .iload_n 2), (23, .iload_n 3), (24, .if_icmp .lt (5)), (27, .iconst (-1)), (28, .ireturn), (29, .aload_n 0), (30, .iload_n 1), (31, .iload_n 2)], [(32, .iload_n 3), (33, .invokestatic 95), (36, .ireturn)]]
def kF236 : List (Nat × Nat × Nat × Nat) := []
def kM236 : List (Nat × MF) := [(88, 237, 0, 1, 1, 44, 2), (95, 238, 0, 4, 6, 44, 1)]
def kK236 : List (Nat × AV) := []
set_option maxRecDepth 100000 in
theorem ok236 : okX 236 kc236 kF236 kM236 kK236 = true := by decide +kernel
def kc237 : List (List (Nat × Instr)) := [[(0, .iload_n 0), (1, .ifCond .lt (14)), (4, .iload_n 0), (5, .sipush 255), (8, .if_icmp .gt (7)), (11, .iconst 1), (12, .goto 4), (15, .iconst 0), (16, .ireturn)]]
def kF237 : List (Nat × Nat × Nat × Nat) := []
def kM237 : List (Nat × MF) := []
def kK237 : List (Nat × AV) := []
set_option maxRecDepth 100000 in
theorem ok237 : okX 237 kc237 kF237 kM237 kK237 = true := by decide +kernel
def kc238 : List (List (Nat × Instr)) := [[(0, .iload_n 1), (1, .i2b), (2, .istore 4), (4, .iload_n 2), (5, .istore 5), (7, .iload 5), (9, .iload_n 3), (10, .if_icmp .ge (21)), (13, .aload_n 0), (14, .iload 5), (16, .baload), (17, .iload 4), (19, .if_icmp .ne (6)), (22, .iload 5), (24, .ireturn), (25, .iinc 5 1), (28, .goto (-21)), (31, .iconst (-1))], [(32, .ireturn)]]
def kF238 : List (Nat × Nat × Nat × Nat) := []
def kM238 : List (Nat × MF) := []
def kK238 : List (Nat × AV) := []
set_option maxRecDepth 100000 in
theorem ok238 : okX 238 kc238 kF238 kM238 kK238 = true := by decide +kernel
