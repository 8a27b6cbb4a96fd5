/-- DeafArray$Plan.<init>()V -/
noncomputable def cd_0 : List mm_E := [
  (0, .aload_n 0, 1, 0, []), (1, .invokespecial 3, 3, 0, [124, 111, 112]), (4, .aload_n 0, 1, 0, []), (5, .iconst 5, 1, 0, [5]), (6, .newarray .int, 2, 0, [172]), (8, .putfield 9, 3, 0, [5, 0, 125, 0]),
  (11, .aload_n 0, 1, 0, []), (12, .iconst 4, 1, 0, [4]), (13, .newarray .int, 2, 0, [172]), (15, .putfield 15, 3, 0, [5, 1, 129, 0]), (18, .aload_n 0, 1, 0, []), (19, .iconst (-1), 1, 0, [4294967295]),
  (20, .putfield 18, 3, 0, [5, 4, 139, 0]), (23, .return_, 1, 2, [0])]
noncomputable def mt_0 : mm_M := (⟨"DeafArray$Plan", "<init>", "()V"⟩, prog_7_method_1_code, 1, none, 1, 12, 5, 0, true)
/-- DeafArray$Reader.<init>()V -/
noncomputable def cd_1 : List mm_E := [
  (0, .aload_n 0, 1, 0, []), (1, .invokespecial 3, 3, 0, [118, 111, 112]), (4, .aload_n 0, 1, 0, []), (5, .sipush 300, 3, 0, [300]), (8, .newarray .int, 2, 0, [172]), (10, .putfield 9, 3, 0, [6, 0, 173, 0]),
  (13, .aload_n 0, 1, 0, []), (14, .new 15, 3, 0, [5, 8, 119, 120, 91]), (17, .dup, 1, 0, []), (18, .invokespecial 17, 3, 1, [0, 1, 6, 1, 123, 91, 121, 122, 0, 0]), (21, .putfield 18, 3, 0, [6, 1, 174, 0]), (24, .aload_n 0, 1, 0, []),
  (25, .iconst (-1), 1, 0, [4294967295]), (26, .putfield 22, 3, 0, [6, 8, 184, 0]), (29, .return_, 1, 2, [0])]
noncomputable def mt_1 : mm_M := (⟨"DeafArray$Reader", "<init>", "()V"⟩, prog_8_method_1_code, 1, none, 2, 32, 6, 0, true)
/-- java/lang/Math.max(II)I -/
noncomputable def cd_2 : List mm_E := [
  (0, .iload_n 0, 1, 0, []), (1, .iload_n 1, 1, 0, []), (2, .if_icmp .lt 7, 3, 0, [5, 9]), (5, .iload_n 0, 1, 0, []), (6, .goto 4, 3, 0, [6, 10]), (9, .iload_n 1, 1, 0, []),
  (10, .ireturn, 1, 2, [1])]
noncomputable def mt_2 : mm_M := (⟨"java/lang/Math", "max", "(II)I"⟩, prog_13_method_65_code, 2, (some (.int)), 0, 0, 11, 2, false)
/-- DeafArray$Num.<init>()V -/
noncomputable def cd_3 : List mm_E := [
  (0, .aload_n 0, 1, 0, []), (1, .invokespecial 1, 3, 0, [225, 111, 112]), (4, .return_, 1, 2, [0])]
noncomputable def mt_3 : mm_M := (⟨"DeafArray$Num", "<init>", "()V"⟩, prog_5_method_1_code, 1, none, 1, 12, 3, 0, true)
/-- DeafArray$Solver.makeNums(I)[LDeafArray$Num; -/
noncomputable def cd_4 : List mm_E := [
  (0, .iconst 0, 1, 0, [0]), (1, .iload_n 0, 1, 0, []), (2, .invokestatic 197, 3, 1, [2, 2, 0, 2, 218, 93, 216, 217, 0, 0]), (5, .anewarray 50, 3, 0, [219]), (8, .astore_n 1, 1, 0, []), (9, .iconst 0, 1, 0, [0]),
  (10, .istore_n 2, 1, 0, []), (11, .iload_n 2, 1, 0, []), (12, .aload_n 1, 1, 0, []), (13, .arraylength, 1, 0, []), (14, .if_icmp .ge 19, 3, 0, [19, 33]), (17, .aload_n 1, 1, 0, []),
  (18, .iload_n 2, 1, 0, []), (19, .new 50, 3, 0, [3, 4, 219, 221, 94]), (22, .dup, 1, 0, []), (23, .invokespecial 52, 3, 1, [3, 1, 4, 1, 224, 94, 222, 223, 0, 1]), (26, .aastore, 1, 0, []), (27, .iinc 2 1, 3, 0, []),
  (30, .goto (-19), 3, 0, [7, 11]), (33, .aload_n 1, 1, 0, []), (34, .areturn, 1, 2, [4])]
noncomputable def mt_4 : mm_M := (⟨"DeafArray$Solver", "makeNums", "(I)[LDeafArray$Num;"⟩, prog_9_method_18_code, 3, (some ((.array (.object "DeafArray$Num")))), 2, 32, 7, 1, false)
/-- DeafArray$Solver.<init>()V -/
noncomputable def cd_5 : List mm_E := [
  (0, .aload_n 0, 1, 0, []), (1, .invokespecial 3, 3, 0, [210, 111, 112]), (4, .aload_n 0, 1, 0, []), (5, .new 9, 3, 0, [5, 8, 211, 120, 91]), (8, .dup, 1, 0, []), (9, .invokespecial 11, 3, 1, [0, 1, 6, 1, 123, 91, 212, 122, 0, 0]),
  (12, .putfield 12, 3, 0, [7, 0, 244, 0]), (15, .aload_n 0, 1, 0, []), (16, .iconst 5, 1, 0, [5]), (17, .newarray .int, 2, 0, [172]), (19, .putfield 18, 3, 0, [7, 1, 247, 0]), (22, .aload_n 0, 1, 0, []),
  (23, .iconst 5, 1, 0, [5]), (24, .newarray .boolean, 2, 0, [243]), (26, .putfield 22, 3, 0, [7, 2, 249, 0]), (29, .aload_n 0, 1, 0, []), (30, .bipush 30, 2, 0, [30]), (32, .invokestatic 26, 3, 1, [4, 1, 0, 3, 215, 92, 213, 214, 0, 0]),
  (35, .putfield 30, 3, 0, [7, 3, 251, 0]), (38, .aload_n 0, 1, 0, []), (39, .iconst 5, 1, 0, [5]), (40, .invokestatic 26, 3, 1, [4, 1, 0, 3, 215, 92, 213, 214, 0, 0]), (43, .putfield 34, 3, 0, [7, 4, 252, 0]), (46, .aload_n 0, 1, 0, []),
  (47, .iconst 5, 1, 0, [5]), (48, .invokestatic 26, 3, 1, [4, 1, 0, 3, 215, 92, 213, 214, 0, 0]), (51, .putfield 37, 3, 0, [7, 5, 254, 0]), (54, .aload_n 0, 1, 0, []), (55, .bipush 12, 2, 0, [12]), (57, .invokestatic 26, 3, 1, [4, 1, 0, 3, 215, 92, 213, 214, 0, 0]),
  (60, .putfield 40, 3, 0, [7, 6, 257, 0]), (63, .aload_n 0, 1, 0, []), (64, .bipush 12, 2, 0, [12]), (66, .newarray .long, 2, 0, [315]), (68, .putfield 43, 3, 0, [7, 7, 260, 0]), (71, .aload_n 0, 1, 0, []),
  (72, .bipush 12, 2, 0, [12]), (74, .newarray .long, 2, 0, [315]), (76, .putfield 47, 3, 0, [7, 8, 262, 0]), (79, .aload_n 0, 1, 0, []), (80, .new 50, 3, 0, [3, 4, 219, 221, 94]), (83, .dup, 1, 0, []),
  (84, .invokespecial 52, 3, 1, [3, 1, 4, 1, 224, 94, 222, 223, 0, 1]), (87, .putfield 53, 3, 0, [7, 9, 264, 0]), (90, .aload_n 0, 1, 0, []), (91, .new 50, 3, 0, [3, 4, 219, 221, 94]), (94, .dup, 1, 0, []), (95, .invokespecial 52, 3, 1, [3, 1, 4, 1, 224, 94, 222, 223, 0, 1]),
  (98, .putfield 57, 3, 0, [7, 10, 265, 0]), (101, .return_, 1, 2, [0])]
noncomputable def mt_5 : mm_M := (⟨"DeafArray$Solver", "<init>", "()V"⟩, prog_9_method_1_code, 1, none, 3, 54, 7, 0, true)
/-- DeafArray$Cutter.<init>()V -/
noncomputable def cd_6 : List mm_E := [
  (0, .aload_n 0, 1, 0, []), (1, .invokespecial 3, 3, 0, [321, 111, 112]), (4, .aload_n 0, 1, 0, []), (5, .iconst 5, 1, 0, [5]), (6, .invokestatic 9, 3, 1, [4, 1, 0, 3, 215, 92, 322, 214, 0, 1]), (9, .putfield 15, 3, 0, [0, 0, 325, 0]),
  (12, .aload_n 0, 1, 0, []), (13, .iconst 4, 1, 0, [4]), (14, .invokestatic 9, 3, 1, [4, 1, 0, 3, 215, 92, 322, 214, 0, 1]), (17, .putfield 21, 3, 0, [0, 1, 327, 0]), (20, .aload_n 0, 1, 0, []), (21, .new 24, 3, 0, [3, 4, 323, 221, 94]),
  (24, .dup, 1, 0, []), (25, .invokespecial 26, 3, 1, [3, 1, 4, 1, 224, 94, 324, 223, 0, 1]), (28, .putfield 27, 3, 0, [0, 2, 328, 0]), (31, .return_, 1, 2, [0])]
noncomputable def mt_6 : mm_M := (⟨"DeafArray$Cutter", "<init>", "()V"⟩, prog_2_method_1_code, 1, none, 3, 54, 0, 0, true)
/-- DeafArray$Least.<init>()V -/
noncomputable def cd_7 : List mm_E := [
  (0, .aload_n 0, 1, 0, []), (1, .invokespecial 3, 3, 0, [367, 111, 112]), (4, .return_, 1, 2, [0])]
noncomputable def mt_7 : mm_M := (⟨"DeafArray$Least", "<init>", "()V"⟩, prog_4_method_1_code, 1, none, 1, 12, 2, 0, true)
/-- DeafArray$Greatest.<init>()V -/
noncomputable def cd_8 : List mm_E := [
  (0, .aload_n 0, 1, 0, []), (1, .invokespecial 3, 3, 0, [387, 111, 112]), (4, .return_, 1, 2, [0])]
noncomputable def mt_8 : mm_M := (⟨"DeafArray$Greatest", "<init>", "()V"⟩, prog_3_method_1_code, 1, none, 1, 12, 1, 0, true)
/-- DeafArray$Out.<init>()V -/
noncomputable def cd_9 : List mm_E := [
  (0, .aload_n 0, 1, 0, []), (1, .invokespecial 3, 3, 0, [404, 111, 112]), (4, .aload_n 0, 1, 0, []), (5, .sipush 160, 3, 0, [160]), (8, .newarray .int, 2, 0, [172]), (10, .putfield 9, 3, 0, [4, 0, 405, 0]),
  (13, .return_, 1, 2, [0])]
noncomputable def mt_9 : mm_M := (⟨"DeafArray$Out", "<init>", "()V"⟩, prog_6_method_1_code, 1, none, 1, 12, 4, 0, true)
/-- DeafArray.<init>()V -/
noncomputable def cd_10 : List mm_E := [
  (0, .aload_n 0, 1, 0, []), (1, .invokespecial 3, 3, 0, [110, 111, 112]), (4, .aload_n 0, 1, 0, []), (5, .new 9, 3, 0, [6, 9, 113, 114, 90]), (8, .dup, 1, 0, []), (9, .invokespecial 11, 3, 1, [1, 1, 7, 1, 117, 90, 115, 116, 0, 0]),
  (12, .putfield 12, 3, 0, [8, 0, 416, 0]), (15, .aload_n 0, 1, 0, []), (16, .new 18, 3, 0, [7, 17, 205, 206, 92]), (19, .dup, 1, 0, []), (20, .invokespecial 20, 3, 1, [5, 1, 8, 1, 209, 92, 207, 208, 0, 0]), (23, .putfield 21, 3, 0, [8, 1, 417, 0]),
  (26, .aload_n 0, 1, 0, []), (27, .new 18, 3, 0, [7, 17, 205, 206, 92]), (30, .dup, 1, 0, []), (31, .invokespecial 20, 3, 1, [5, 1, 8, 1, 209, 92, 207, 208, 0, 0]), (34, .putfield 25, 3, 0, [8, 2, 418, 0]), (37, .aload_n 0, 1, 0, []),
  (38, .new 28, 3, 0, [0, 10, 316, 317, 95]), (41, .dup, 1, 0, []), (42, .invokespecial 30, 3, 1, [6, 1, 1, 1, 320, 95, 318, 319, 0, 0]), (45, .putfield 31, 3, 0, [8, 3, 419, 0]), (48, .aload_n 0, 1, 0, []), (49, .new 35, 3, 0, [2, 4, 362, 363, 96]),
  (52, .dup, 1, 0, []), (53, .invokespecial 37, 3, 1, [7, 1, 3, 1, 366, 96, 364, 365, 0, 1]), (56, .putfield 38, 3, 0, [8, 4, 420, 0]), (59, .aload_n 0, 1, 0, []), (60, .new 42, 3, 0, [1, 3, 382, 383, 97]), (63, .dup, 1, 0, []),
  (64, .invokespecial 44, 3, 1, [8, 1, 2, 1, 386, 97, 384, 385, 0, 1]), (67, .putfield 45, 3, 0, [8, 5, 421, 0]), (70, .aload_n 0, 1, 0, []), (71, .new 49, 3, 0, [4, 2, 399, 400, 98]), (74, .dup, 1, 0, []), (75, .invokespecial 51, 3, 1, [9, 1, 5, 1, 403, 98, 401, 402, 0, 0]),
  (78, .putfield 52, 3, 0, [8, 6, 422, 0]), (81, .aload_n 0, 1, 0, []), (82, .new 56, 3, 0, [3, 4, 414, 221, 94]), (85, .dup, 1, 0, []), (86, .invokespecial 58, 3, 1, [3, 1, 4, 1, 224, 94, 415, 223, 0, 1]), (89, .putfield 59, 3, 0, [8, 7, 423, 0]),
  (92, .aload_n 0, 1, 0, []), (93, .iconst 5, 1, 0, [5]), (94, .newarray .long, 2, 0, [315]), (96, .putfield 63, 3, 0, [8, 8, 424, 0]), (99, .aload_n 0, 1, 0, []), (100, .iconst 1, 1, 0, [1]),
  (101, .putfield 67, 3, 0, [8, 9, 425, 0]), (104, .return_, 1, 2, [0])]
noncomputable def mt_10 : mm_M := (⟨"DeafArray", "<init>", "()V"⟩, prog_1_method_1_code, 1, none, 4, 74, 8, 0, true)
/-- DeafArrayModel.<init>()V -/
noncomputable def cd_11 : List mm_E := [
  (0, .aload_n 0, 1, 0, []), (1, .invokespecial 5, 3, 0, [1219, 111, 112]), (4, .aload_n 0, 1, 0, []), (5, .sipush 352, 3, 0, [352]), (8, .newarray .long, 2, 0, [315]), (10, .putfield 11, 3, 0, [9, 1, 1220, 0]),
  (13, .aload_n 0, 1, 0, []), (14, .bipush 7, 2, 0, [7]), (16, .newarray .long, 2, 0, [315]), (18, .putfield 15, 3, 0, [9, 2, 1221, 0]), (21, .aload_n 0, 1, 0, []), (22, .bipush 19, 2, 0, [19]),
  (24, .newarray .int, 2, 0, [172]), (26, .putfield 18, 3, 0, [9, 5, 1224, 0]), (29, .aload_n 0, 1, 0, []), (30, .bipush 19, 2, 0, [19]), (32, .newarray .int, 2, 0, [172]), (34, .putfield 22, 3, 0, [9, 6, 1225, 0]),
  (37, .aload_n 0, 1, 0, []), (38, .iconst 5, 1, 0, [5]), (39, .newarray .int, 2, 0, [172]), (41, .putfield 25, 3, 0, [9, 7, 1226, 0]), (44, .aload_n 0, 1, 0, []), (45, .iconst 5, 1, 0, [5]),
  (46, .newarray .int, 2, 0, [172]), (48, .putfield 28, 3, 0, [9, 9, 1228, 0]), (51, .aload_n 0, 1, 0, []), (52, .iconst 5, 1, 0, [5]), (53, .newarray .boolean, 2, 0, [243]), (55, .putfield 31, 3, 0, [9, 12, 1231, 0]),
  (58, .aload_n 0, 1, 0, []), (59, .iconst 5, 1, 0, [5]), (60, .newarray .int, 2, 0, [172]), (62, .putfield 35, 3, 0, [9, 13, 1232, 0]), (65, .aload_n 0, 1, 0, []), (66, .iconst 5, 1, 0, [5]),
  (67, .newarray .int, 2, 0, [172]), (69, .putfield 38, 3, 0, [9, 19, 1238, 0]), (72, .aload_n 0, 1, 0, []), (73, .sipush 300, 3, 0, [300]), (76, .newarray .byte, 2, 0, [606]), (78, .putfield 41, 3, 0, [9, 20, 1239, 0]),
  (81, .aload_n 0, 1, 0, []), (82, .iconst 5, 1, 0, [5]), (83, .newarray .int, 2, 0, [172]), (85, .putfield 45, 3, 0, [9, 22, 1241, 0]), (88, .aload_n 0, 1, 0, []), (89, .iconst (-1), 1, 0, [4294967295]),
  (90, .putfield 48, 3, 0, [9, 29, 1248, 0]), (93, .aload_n 0, 1, 0, []), (94, .bipush 12, 2, 0, [12]), (96, .newarray .long, 2, 0, [315]), (98, .putfield 52, 3, 0, [9, 30, 1249, 0]), (101, .aload_n 0, 1, 0, []),
  (102, .bipush 12, 2, 0, [12]), (104, .newarray .long, 2, 0, [315]), (106, .putfield 55, 3, 0, [9, 31, 1250, 0]), (109, .aload_n 0, 1, 0, []), (110, .sipush 200, 3, 0, [200]), (113, .newarray .byte, 2, 0, [606]),
  (115, .putfield 58, 3, 0, [9, 37, 1256, 0]), (118, .return_, 1, 2, [0])]
noncomputable def mt_11 : mm_M := (⟨"DeafArrayModel", "<init>", "()V"⟩, prog_11_method_1_code, 1, none, 1, 12, 9, 0, true)
/-- DeafArray$Reader.take(I)V -/
noncomputable def cd_12 : List mm_E := [
  (0, .bipush 24, 2, 0, [24]), (2, .istore_n 2, 1, 0, []), (3, .iload_n 2, 1, 0, []), (4, .ifCond .lt 45, 3, 0, [26, 49]), (7, .aload_n 0, 1, 0, []), (8, .getfield 26, 3, 0, [6, 2, 177, 0]),
  (11, .sipush 300, 3, 0, [300]), (14, .if_icmp .ge 35, 3, 0, [26, 49]), (17, .aload_n 0, 1, 0, []), (18, .getfield 9, 3, 0, [6, 0, 173, 0]), (21, .aload_n 0, 1, 0, []), (22, .getfield 26, 3, 0, [6, 2, 177, 0]),
  (25, .iload_n 1, 1, 0, []), (26, .iload_n 2, 1, 0, []), (27, .ishr, 1, 0, []), (28, .sipush 255, 3, 0, [255]), (31, .iand, 1, 0, []), (32, .iastore, 1, 0, []),
  (33, .aload_n 0, 1, 0, []), (34, .dup, 1, 0, []), (35, .getfield 26, 3, 0, [6, 2, 177, 0]), (38, .iconst 1, 1, 0, [1]), (39, .iadd, 1, 0, []), (40, .putfield 26, 3, 0, [6, 2, 177, 0]),
  (43, .iinc 2 (-8), 3, 0, []), (46, .goto (-43), 3, 0, [2, 3]), (49, .return_, 1, 2, [0])]
noncomputable def mt_12 : mm_M := (⟨"DeafArray$Reader", "take", "(I)V"⟩, prog_8_method_2_code, 3, none, 0, 0, 6, 1, false)
/-- DeafArray.feed(IIIII)I -/
noncomputable def cd_13 : List mm_E := [
  (0, .aload_n 0, 1, 0, []), (1, .getfield 12, 3, 0, [8, 0, 416, 0]), (4, .getfield 71, 3, 0, [6, 2, 176, 1]), (7, .bipush 20, 2, 0, [20]), (9, .iadd, 1, 0, []), (10, .sipush 300, 3, 0, [300]),
  (13, .if_icmp .le 5, 3, 0, [9, 18]), (16, .iconst (-1), 1, 0, [4294967295]), (17, .ireturn, 1, 2, [1]), (18, .aload_n 0, 1, 0, []), (19, .getfield 12, 3, 0, [8, 0, 416, 0]), (22, .iload_n 1, 1, 0, []),
  (23, .invokevirtual 75, 3, 1, [12, 2, 7, 3, 454, 90, 451, 452, 453, 0]), (26, .aload_n 0, 1, 0, []), (27, .getfield 12, 3, 0, [8, 0, 416, 0]), (30, .iload_n 2, 1, 0, []), (31, .invokevirtual 75, 3, 1, [12, 2, 7, 3, 454, 90, 451, 452, 453, 0]), (34, .aload_n 0, 1, 0, []),
  (35, .getfield 12, 3, 0, [8, 0, 416, 0]), (38, .iload_n 3, 1, 0, []), (39, .invokevirtual 75, 3, 1, [12, 2, 7, 3, 454, 90, 451, 452, 453, 0]), (42, .aload_n 0, 1, 0, []), (43, .getfield 12, 3, 0, [8, 0, 416, 0]), (46, .iload 4, 2, 0, []),
  (48, .invokevirtual 75, 3, 1, [12, 2, 7, 3, 454, 90, 451, 452, 453, 0]), (51, .aload_n 0, 1, 0, []), (52, .getfield 12, 3, 0, [8, 0, 416, 0]), (55, .iload 5, 2, 0, []), (57, .invokevirtual 75, 3, 1, [12, 2, 7, 3, 454, 90, 451, 452, 453, 0]), (60, .aload_n 0, 1, 0, []),
  (61, .getfield 12, 3, 0, [8, 0, 416, 0]), (64, .getfield 71, 3, 0, [6, 2, 176, 1]), (67, .ireturn, 1, 2, [1])]
noncomputable def mt_13 : mm_M := (⟨"DeafArray", "feed", "(IIIII)I"⟩, prog_1_method_2_code, 6, (some (.int)), 1, 22, 8, 5, false)
/-- DeafArrayModel.feed(IIIII)I -/
noncomputable def cd_14 : List mm_E := [
  (0, .aload_n 0, 1, 0, []), (1, .getfield 191, 3, 0, [9, 21, 1240, 0]), (4, .bipush 20, 2, 0, [20]), (6, .iadd, 1, 0, []), (7, .sipush 300, 3, 0, [300]), (10, .if_icmp .le 5, 3, 0, [8, 15]),
  (13, .iconst (-1), 1, 0, [4294967295]), (14, .ireturn, 1, 2, [1]), (15, .aload_n 0, 1, 0, []), (16, .getfield 45, 3, 0, [9, 22, 1241, 0]), (19, .iconst 0, 1, 0, [0]), (20, .iload_n 1, 1, 0, []),
  (21, .iastore, 1, 0, []), (22, .aload_n 0, 1, 0, []), (23, .getfield 45, 3, 0, [9, 22, 1241, 0]), (26, .iconst 1, 1, 0, [1]), (27, .iload_n 2, 1, 0, []), (28, .iastore, 1, 0, []),
  (29, .aload_n 0, 1, 0, []), (30, .getfield 45, 3, 0, [9, 22, 1241, 0]), (33, .iconst 2, 1, 0, [2]), (34, .iload_n 3, 1, 0, []), (35, .iastore, 1, 0, []), (36, .aload_n 0, 1, 0, []),
  (37, .getfield 45, 3, 0, [9, 22, 1241, 0]), (40, .iconst 3, 1, 0, [3]), (41, .iload 4, 2, 0, []), (43, .iastore, 1, 0, []), (44, .aload_n 0, 1, 0, []), (45, .getfield 45, 3, 0, [9, 22, 1241, 0]),
  (48, .iconst 4, 1, 0, [4]), (49, .iload 5, 2, 0, []), (51, .iastore, 1, 0, []), (52, .iconst 0, 1, 0, [0]), (53, .istore 6, 2, 0, []), (55, .iload 6, 2, 0, []),
  (57, .bipush 20, 2, 0, [20]), (59, .if_icmp .ge 42, 3, 0, [62, 101]), (62, .aload_n 0, 1, 0, []), (63, .getfield 41, 3, 0, [9, 20, 1239, 0]), (66, .aload_n 0, 1, 0, []), (67, .getfield 191, 3, 0, [9, 21, 1240, 0]),
  (70, .iload 6, 2, 0, []), (72, .iadd, 1, 0, []), (73, .aload_n 0, 1, 0, []), (74, .getfield 45, 3, 0, [9, 22, 1241, 0]), (77, .iload 6, 2, 0, []), (79, .iconst 4, 1, 0, [4]),
  (80, .idiv, 1, 0, []), (81, .iaload, 1, 0, []), (82, .bipush 24, 2, 0, [24]), (84, .bipush 8, 2, 0, [8]), (86, .iload 6, 2, 0, []), (88, .iconst 4, 1, 0, [4]),
  (89, .irem, 1, 0, []), (90, .imul, 1, 0, []), (91, .isub, 1, 0, []), (92, .ishr, 1, 0, []), (93, .i2b, 1, 0, []), (94, .bastore, 1, 0, []),
  (95, .iinc 6 1, 3, 0, []), (98, .goto (-43), 3, 0, [35, 55]), (101, .aload_n 0, 1, 0, []), (102, .dup, 1, 0, []), (103, .getfield 191, 3, 0, [9, 21, 1240, 0]), (106, .bipush 20, 2, 0, [20]),
  (108, .iadd, 1, 0, []), (109, .putfield 191, 3, 0, [9, 21, 1240, 0]), (112, .aload_n 0, 1, 0, []), (113, .getfield 191, 3, 0, [9, 21, 1240, 0]), (116, .ireturn, 1, 2, [1])]
noncomputable def mt_14 : mm_M := (⟨"DeafArrayModel", "feed", "(IIIII)I"⟩, prog_11_method_32_code, 7, (some (.int)), 0, 0, 9, 5, false)
/-- DeafArray.end(I)I -/
noncomputable def cd_15 : List mm_E := [
  (0, .iload_n 1, 1, 0, []), (1, .ifCond .lt 14, 3, 0, [7, 15]), (4, .iload_n 1, 1, 0, []), (5, .aload_n 0, 1, 0, []), (6, .getfield 12, 3, 0, [8, 0, 416, 0]), (9, .getfield 71, 3, 0, [6, 2, 176, 1]),
  (12, .if_icmp .le 5, 3, 0, [9, 17]), (15, .iconst (-1), 1, 0, [4294967295]), (16, .ireturn, 1, 2, [1]), (17, .aload_n 0, 1, 0, []), (18, .getfield 12, 3, 0, [8, 0, 416, 0]), (21, .iload_n 1, 1, 0, []),
  (22, .putfield 71, 3, 0, [6, 2, 176, 1]), (25, .iload_n 1, 1, 0, []), (26, .ireturn, 1, 2, [1])]
noncomputable def mt_15 : mm_M := (⟨"DeafArray", "end", "(I)I"⟩, prog_1_method_3_code, 2, (some (.int)), 0, 0, 8, 1, false)
/-- DeafArrayModel.in(JJJ)Z -/
noncomputable def cd_16 : List mm_E := [
  (0, .lload_n 0, 1, 0, []), (1, .lload_n 2, 1, 0, []), (2, .lcmp, 1, 0, []), (3, .ifCond .lt 14, 3, 0, [10, 17]), (6, .lload_n 0, 1, 0, []), (7, .lload 4, 2, 0, []),
  (9, .lcmp, 1, 0, []), (10, .ifCond .gt 7, 3, 0, [10, 17]), (13, .iconst 1, 1, 0, [1]), (14, .goto 4, 3, 0, [11, 18]), (17, .iconst 0, 1, 0, [0]), (18, .ireturn, 1, 2, [2])]
noncomputable def mt_16 : mm_M := (⟨"DeafArrayModel", "in", "(JJJ)Z"⟩, prog_11_method_3_code, 6, (some (.boolean)), 0, 0, 9, 3, false)
/-- DeafArrayModel.end(I)I -/
noncomputable def cd_17 : List mm_E := [
  (0, .iload_n 1, 1, 0, []), (1, .i2l, 1, 0, []), (2, .lconst 0, 1, 0, [0]), (3, .aload_n 0, 1, 0, []), (4, .getfield 191, 3, 0, [9, 21, 1240, 0]), (7, .i2l, 1, 0, []),
  (8, .invokestatic 108, 3, 1, [16, 3, 0, 6, 1347, 99, 1345, 1346, 0, 0]), (11, .ifCond .ne 5, 3, 0, [10, 16]), (14, .iconst (-1), 1, 0, [4294967295]), (15, .ireturn, 1, 2, [1]), (16, .aload_n 0, 1, 0, []), (17, .iload_n 1, 1, 0, []),
  (18, .putfield 191, 3, 0, [9, 21, 1240, 0]), (21, .iload_n 1, 1, 0, []), (22, .ireturn, 1, 2, [1])]
noncomputable def mt_17 : mm_M := (⟨"DeafArrayModel", "end", "(I)I"⟩, prog_11_method_33_code, 2, (some (.int)), 1, 25, 9, 1, false)
/-- DeafArray$Plan.clear()V -/
noncomputable def cd_18 : List mm_E := [
  (0, .aload_n 0, 1, 0, []), (1, .iconst 0, 1, 0, [0]), (2, .putfield 22, 3, 0, [5, 2, 132, 0]), (5, .aload_n 0, 1, 0, []), (6, .iconst 0, 1, 0, [0]), (7, .putfield 25, 3, 0, [5, 3, 137, 0]),
  (10, .aload_n 0, 1, 0, []), (11, .iconst (-1), 1, 0, [4294967295]), (12, .putfield 18, 3, 0, [5, 4, 139, 0]), (15, .aload_n 0, 1, 0, []), (16, .iconst 0, 1, 0, [0]), (17, .putfield 28, 3, 0, [5, 5, 143, 0]),
  (20, .aload_n 0, 1, 0, []), (21, .iconst 0, 1, 0, [0]), (22, .putfield 31, 3, 0, [5, 6, 148, 0]), (25, .aload_n 0, 1, 0, []), (26, .iconst 0, 1, 0, [0]), (27, .putfield 34, 3, 0, [5, 7, 152, 0]),
  (30, .return_, 1, 2, [0])]
noncomputable def mt_18 : mm_M := (⟨"DeafArray$Plan", "clear", "()V"⟩, prog_7_method_2_code, 1, none, 0, 0, 5, 0, false)
/-- DeafArray$Reader.isLetter(I)Z -/
noncomputable def cd_19 : List mm_E := [
  (0, .iload_n 0, 1, 0, []), (1, .bipush 97, 2, 0, [97]), (3, .if_icmp .lt 13, 3, 0, [8, 16]), (6, .iload_n 0, 1, 0, []), (7, .bipush 122, 2, 0, [122]), (9, .if_icmp .gt 7, 3, 0, [8, 16]),
  (12, .iconst 1, 1, 0, [1]), (13, .goto 4, 3, 0, [9, 17]), (16, .iconst 0, 1, 0, [0]), (17, .ireturn, 1, 2, [2])]
noncomputable def mt_19 : mm_M := (⟨"DeafArray$Reader", "isLetter", "(I)Z"⟩, prog_8_method_16_code, 1, (some (.boolean)), 0, 0, 6, 1, false)
/-- DeafArray$Reader.isDigit(I)Z -/
noncomputable def cd_20 : List mm_E := [
  (0, .iload_n 0, 1, 0, []), (1, .bipush 48, 2, 0, [48]), (3, .if_icmp .lt 13, 3, 0, [8, 16]), (6, .iload_n 0, 1, 0, []), (7, .bipush 57, 2, 0, [57]), (9, .if_icmp .gt 7, 3, 0, [8, 16]),
  (12, .iconst 1, 1, 0, [1]), (13, .goto 4, 3, 0, [9, 17]), (16, .iconst 0, 1, 0, [0]), (17, .ireturn, 1, 2, [2])]
noncomputable def mt_20 : mm_M := (⟨"DeafArray$Reader", "isDigit", "(I)Z"⟩, prog_8_method_17_code, 1, (some (.boolean)), 0, 0, 6, 1, false)
/-- java/lang/Math.min(II)I -/
noncomputable def cd_21 : List mm_E := [
  (0, .iload_n 0, 1, 0, []), (1, .iload_n 1, 1, 0, []), (2, .if_icmp .gt 7, 3, 0, [5, 9]), (5, .iload_n 0, 1, 0, []), (6, .goto 4, 3, 0, [6, 10]), (9, .iload_n 1, 1, 0, []),
  (10, .ireturn, 1, 2, [1])]
noncomputable def mt_21 : mm_M := (⟨"java/lang/Math", "min", "(II)I"⟩, prog_13_method_69_code, 2, (some (.int)), 0, 0, 11, 2, false)
/-- DeafArray$Reader.nextToken()V -/
noncomputable def cd_22_0 : List mm_E := [
  (0, .aload_n 0, 1, 0, []), (1, .getfield 35, 3, 0, [6, 3, 178, 0]), (4, .aload_n 0, 1, 0, []), (5, .getfield 26, 3, 0, [6, 2, 177, 0]), (8, .if_icmp .ge 44, 3, 0, [26, 52]), (11, .aload_n 0, 1, 0, []),
  (12, .getfield 9, 3, 0, [6, 0, 173, 0]), (15, .aload_n 0, 1, 0, []), (16, .getfield 35, 3, 0, [6, 3, 178, 0]), (19, .iaload, 1, 0, []), (20, .bipush 32, 2, 0, [32]), (22, .if_icmp .eq 17, 3, 0, [19, 39]),
  (25, .aload_n 0, 1, 0, []), (26, .getfield 9, 3, 0, [6, 0, 173, 0]), (29, .aload_n 0, 1, 0, []), (30, .getfield 35, 3, 0, [6, 3, 178, 0]), (33, .iaload, 1, 0, []), (34, .bipush 10, 2, 0, [10]),
  (36, .if_icmp .ne 16, 3, 0, [26, 52]), (39, .aload_n 0, 1, 0, []), (40, .dup, 1, 0, []), (41, .getfield 35, 3, 0, [6, 3, 178, 0]), (44, .iconst 1, 1, 0, [1]), (45, .iadd, 1, 0, []),
  (46, .putfield 35, 3, 0, [6, 3, 178, 0]), (49, .goto (-49), 3, 0, [0, 0]), (52, .aload_n 0, 1, 0, []), (53, .aload_n 0, 1, 0, []), (54, .getfield 35, 3, 0, [6, 3, 178, 0]), (57, .putfield 124, 3, 0, [6, 4, 179, 0]),
  (60, .aload_n 0, 1, 0, []), (61, .iconst 0, 1, 0, [0]), (62, .putfield 68, 3, 0, [6, 6, 181, 0]), (65, .aload_n 0, 1, 0, []), (66, .getfield 35, 3, 0, [6, 3, 178, 0]), (69, .aload_n 0, 1, 0, []),
  (70, .getfield 26, 3, 0, [6, 2, 177, 0]), (73, .if_icmp .lt 11, 3, 0, [42, 84]), (76, .aload_n 0, 1, 0, []), (77, .iconst 0, 1, 0, [0]), (78, .putfield 41, 3, 0, [6, 5, 180, 0]), (81, .goto 184, 3, 0, [134, 265]),
  (84, .aload_n 0, 1, 0, []), (85, .getfield 9, 3, 0, [6, 0, 173, 0]), (88, .aload_n 0, 1, 0, []), (89, .getfield 35, 3, 0, [6, 3, 178, 0]), (92, .iaload, 1, 0, []), (93, .invokestatic 136, 3, 1, [19, 1, 0, 1, 477, 90, 475, 476, 0, 0]),
  (96, .ifCond .eq 47, 3, 0, [71, 143]), (99, .aload_n 0, 1, 0, []), (100, .iconst 1, 1, 0, [1]), (101, .putfield 41, 3, 0, [6, 5, 180, 0]), (104, .aload_n 0, 1, 0, []), (105, .getfield 35, 3, 0, [6, 3, 178, 0]),
  (108, .aload_n 0, 1, 0, []), (109, .getfield 26, 3, 0, [6, 2, 177, 0]), (112, .if_icmp .ge 153, 3, 0, [134, 265]), (115, .aload_n 0, 1, 0, []), (116, .getfield 9, 3, 0, [6, 0, 173, 0]), (119, .aload_n 0, 1, 0, []),
  (120, .getfield 35, 3, 0, [6, 3, 178, 0]), (123, .iaload, 1, 0, []), (124, .invokestatic 136, 3, 1, [19, 1, 0, 1, 477, 90, 475, 476, 0, 0]), (127, .ifCond .eq 138, 3, 0, [134, 265]), (130, .aload_n 0, 1, 0, []), (131, .dup, 1, 0, []),
  (132, .getfield 35, 3, 0, [6, 3, 178, 0]), (135, .iconst 1, 1, 0, [1]), (136, .iadd, 1, 0, []), (137, .putfield 35, 3, 0, [6, 3, 178, 0]), (140, .goto (-36), 3, 0, [52, 104]), (143, .aload_n 0, 1, 0, []),
  (144, .getfield 9, 3, 0, [6, 0, 173, 0]), (147, .aload_n 0, 1, 0, []), (148, .getfield 35, 3, 0, [6, 3, 178, 0]), (151, .iaload, 1, 0, []), (152, .invokestatic 140, 3, 1, [20, 1, 0, 1, 480, 90, 478, 479, 0, 0]), (155, .ifCond .eq 77, 3, 0, [116, 232]),
  (158, .aload_n 0, 1, 0, []), (159, .iconst 2, 1, 0, [2]), (160, .putfield 41, 3, 0, [6, 5, 180, 0]), (163, .aload_n 0, 1, 0, []), (164, .getfield 35, 3, 0, [6, 3, 178, 0]), (167, .aload_n 0, 1, 0, []),
  (168, .getfield 26, 3, 0, [6, 2, 177, 0]), (171, .if_icmp .ge 94, 3, 0, [134, 265]), (174, .aload_n 0, 1, 0, []), (175, .getfield 9, 3, 0, [6, 0, 173, 0]), (178, .aload_n 0, 1, 0, []), (179, .getfield 35, 3, 0, [6, 3, 178, 0]),
  (182, .iaload, 1, 0, []), (183, .invokestatic 140, 3, 1, [20, 1, 0, 1, 480, 90, 478, 479, 0, 0]), (186, .ifCond .eq 79, 3, 0, [134, 265]), (189, .aload_n 0, 1, 0, []), (190, .sipush 1000, 3, 0, [1000]), (193, .aload_n 0, 1, 0, []),
  (194, .getfield 68, 3, 0, [6, 6, 181, 0]), (197, .bipush 10, 2, 0, [10]), (199, .imul, 1, 0, []), (200, .aload_n 0, 1, 0, [])]
noncomputable def cd_22_1 : List mm_E := [
  (201, .getfield 9, 3, 0, [6, 0, 173, 0]), (204, .aload_n 0, 1, 0, []), (205, .getfield 35, 3, 0, [6, 3, 178, 0]), (208, .iaload, 1, 0, []), (209, .iadd, 1, 0, []), (210, .bipush 48, 2, 0, [48]),
  (212, .isub, 1, 0, []), (213, .invokestatic 143, 3, 1, [21, 2, 0, 2, 483, 93, 481, 482, 0, 0]), (216, .putfield 68, 3, 0, [6, 6, 181, 0]), (219, .aload_n 0, 1, 0, []), (220, .dup, 1, 0, []), (221, .getfield 35, 3, 0, [6, 3, 178, 0]),
  (224, .iconst 1, 1, 0, [1]), (225, .iadd, 1, 0, []), (226, .putfield 35, 3, 0, [6, 3, 178, 0]), (229, .goto (-66), 3, 0, [81, 163]), (232, .aload_n 0, 1, 0, []), (233, .aload_n 0, 1, 0, []),
  (234, .getfield 9, 3, 0, [6, 0, 173, 0]), (237, .aload_n 0, 1, 0, []), (238, .getfield 35, 3, 0, [6, 3, 178, 0]), (241, .iaload, 1, 0, []), (242, .bipush 59, 2, 0, [59]), (244, .if_icmp .ne 7, 3, 0, [126, 251]),
  (247, .iconst 3, 1, 0, [3]), (248, .goto 4, 3, 0, [127, 252]), (251, .iconst 4, 1, 0, [4]), (252, .putfield 41, 3, 0, [6, 5, 180, 0]), (255, .aload_n 0, 1, 0, []), (256, .dup, 1, 0, []),
  (257, .getfield 35, 3, 0, [6, 3, 178, 0]), (260, .iconst 1, 1, 0, [1]), (261, .iadd, 1, 0, []), (262, .putfield 35, 3, 0, [6, 3, 178, 0]), (265, .return_, 1, 2, [0])]
noncomputable def cd_22 : List mm_E := cd_22_0 ++ (cd_22_1)
noncomputable def mt_22 : mm_M := (⟨"DeafArray$Reader", "nextToken", "()V"⟩, prog_8_method_15_code, 1, none, 1, 21, 6, 0, false)
/-- DeafArray$Reader.isWord(Ljava/lang/String;)Z -/
noncomputable def cd_23 : List mm_E := [
  (0, .aload_n 0, 1, 0, []), (1, .getfield 41, 3, 0, [6, 5, 180, 0]), (4, .iconst 1, 1, 0, [1]), (5, .if_icmp .ne 19, 3, 0, [12, 24]), (8, .aload_n 0, 1, 0, []), (9, .getfield 35, 3, 0, [6, 3, 178, 0]),
  (12, .aload_n 0, 1, 0, []), (13, .getfield 124, 3, 0, [6, 4, 179, 0]), (16, .isub, 1, 0, []), (17, .aload_n 1, 1, 0, []), (18, .invokevirtual 127, 3, 0, [0, 497]), (21, .if_icmp .eq 5, 3, 0, [14, 26]),
  (24, .iconst 0, 1, 0, [0]), (25, .ireturn, 1, 2, [2]), (26, .aload_n 0, 1, 0, []), (27, .getfield 124, 3, 0, [6, 4, 179, 0]), (30, .istore_n 2, 1, 0, []), (31, .iload_n 2, 1, 0, []),
  (32, .aload_n 0, 1, 0, []), (33, .getfield 35, 3, 0, [6, 3, 178, 0]), (36, .if_icmp .ge 30, 3, 0, [36, 66]), (39, .aload_n 0, 1, 0, []), (40, .getfield 9, 3, 0, [6, 0, 173, 0]), (43, .iload_n 2, 1, 0, []),
  (44, .iaload, 1, 0, []), (45, .aload_n 1, 1, 0, []), (46, .iload_n 2, 1, 0, []), (47, .aload_n 0, 1, 0, []), (48, .getfield 124, 3, 0, [6, 4, 179, 0]), (51, .isub, 1, 0, []),
  (52, .invokevirtual 132, 3, 0, [1, 507]), (55, .if_icmp .eq 5, 3, 0, [34, 60]), (58, .iconst 0, 1, 0, [0]), (59, .ireturn, 1, 2, [2]), (60, .iinc 2 1, 3, 0, []), (63, .goto (-32), 3, 0, [17, 31]),
  (66, .iconst 1, 1, 0, [1]), (67, .ireturn, 1, 2, [2])]
noncomputable def mt_23 : mm_M := (⟨"DeafArray$Reader", "isWord", "(Ljava/lang/String;)Z"⟩, prog_8_method_14_code, 3, (some (.boolean)), 5, 100, 6, 1, false)
/-- DeafArray$Reader.blame(I)V -/
noncomputable def cd_24 : List mm_E := [
  (0, .aload_n 0, 1, 0, []), (1, .getfield 32, 3, 0, [6, 7, 182, 0]), (4, .ifCond .ne 16, 3, 0, [10, 20]), (7, .aload_n 0, 1, 0, []), (8, .iload_n 1, 1, 0, []), (9, .putfield 32, 3, 0, [6, 7, 182, 0]),
  (12, .aload_n 0, 1, 0, []), (13, .aload_n 0, 1, 0, []), (14, .getfield 124, 3, 0, [6, 4, 179, 0]), (17, .putfield 22, 3, 0, [6, 8, 184, 0]), (20, .return_, 1, 2, [0])]
noncomputable def mt_24 : mm_M := (⟨"DeafArray$Reader", "blame", "(I)V"⟩, prog_8_method_13_code, 2, none, 0, 0, 6, 1, false)
/-- DeafArray$Reader.expectWord(Ljava/lang/String;)V -/
noncomputable def cd_25 : List mm_E := [
  (0, .aload_n 0, 1, 0, []), (1, .aload_n 1, 1, 0, []), (2, .invokevirtual 75, 3, 1, [23, 2, 7, 3, 496, 90, 493, 495, 3, 0]), (5, .ifCond .ne 8, 3, 0, [7, 13]), (8, .aload_n 0, 1, 0, []), (9, .iconst 1, 1, 0, [1]),
  (10, .invokevirtual 95, 3, 1, [24, 2, 7, 2, 548, 90, 545, 547, 4, 0]), (13, .aload_n 0, 1, 0, []), (14, .invokevirtual 38, 3, 1, [22, 1, 7, 1, 474, 90, 471, 473, 0, 0]), (17, .return_, 1, 2, [0])]
noncomputable def mt_25 : mm_M := (⟨"DeafArray$Reader", "expectWord", "(Ljava/lang/String;)V"⟩, prog_8_method_10_code, 2, none, 6, 122, 6, 1, false)
/-- DeafArray$Reader.expectNumber(II)Z -/
noncomputable def cd_26 : List mm_E := [
  (0, .aload_n 0, 1, 0, []), (1, .getfield 41, 3, 0, [6, 5, 180, 0]), (4, .iconst 2, 1, 0, [2]), (5, .if_icmp .eq 11, 3, 0, [8, 16]), (8, .aload_n 0, 1, 0, []), (9, .iconst 1, 1, 0, [1]),
  (10, .invokevirtual 95, 3, 1, [24, 2, 7, 2, 548, 90, 545, 547, 4, 0]), (13, .goto 24, 3, 0, [19, 37]), (16, .aload_n 0, 1, 0, []), (17, .getfield 68, 3, 0, [6, 6, 181, 0]), (20, .iload_n 1, 1, 0, []), (21, .if_icmp .lt 11, 3, 0, [16, 32]),
  (24, .aload_n 0, 1, 0, []), (25, .getfield 68, 3, 0, [6, 6, 181, 0]), (28, .iload_n 2, 1, 0, []), (29, .if_icmp .le 8, 3, 0, [19, 37]), (32, .aload_n 0, 1, 0, []), (33, .iconst 2, 1, 0, [2]),
  (34, .invokevirtual 95, 3, 1, [24, 2, 7, 2, 548, 90, 545, 547, 4, 0]), (37, .aload_n 0, 1, 0, []), (38, .getfield 32, 3, 0, [6, 7, 182, 0]), (41, .ifCond .ne 7, 3, 0, [24, 48]), (44, .iconst 1, 1, 0, [1]), (45, .goto 4, 3, 0, [25, 49]),
  (48, .iconst 0, 1, 0, [0]), (49, .ireturn, 1, 2, [2])]
noncomputable def mt_26 : mm_M := (⟨"DeafArray$Reader", "expectNumber", "(II)Z"⟩, prog_8_method_12_code, 3, (some (.boolean)), 1, 21, 6, 2, false)
/-- DeafArray$Reader.readFirstLine()V -/
noncomputable def cd_27 : List mm_E := [
  (0, .aload_n 0, 1, 0, []), (1, .ldc 56, 2, 0, [1003, 1, 0]), (3, .invokevirtual 58, 3, 1, [25, 2, 7, 2, 492, 90, 489, 491, 2, 0]), (6, .aload_n 0, 1, 0, []), (7, .ldc 62, 2, 0, [1004, 1, 1]), (9, .invokevirtual 58, 3, 1, [25, 2, 7, 2, 492, 90, 489, 491, 2, 0]),
  (12, .aload_n 0, 1, 0, []), (13, .iconst 1, 1, 0, [1]), (14, .bipush 99, 2, 0, [99]), (16, .invokevirtual 64, 3, 1, [26, 3, 7, 3, 553, 90, 550, 552, 5, 0]), (19, .ifCond .eq 18, 3, 0, [18, 37]), (22, .aload_n 0, 1, 0, []),
  (23, .getfield 18, 3, 0, [6, 1, 174, 0]), (26, .aload_n 0, 1, 0, []), (27, .getfield 68, 3, 0, [6, 6, 181, 0]), (30, .putfield 71, 3, 0, [5, 6, 149, 1]), (33, .aload_n 0, 1, 0, []), (34, .invokevirtual 38, 3, 1, [22, 1, 7, 1, 474, 90, 471, 473, 0, 0]),
  (37, .return_, 1, 2, [0])]
noncomputable def mt_27 : mm_M := (⟨"DeafArray$Reader", "readFirstLine", "()V"⟩, prog_8_method_4_code, 1, none, 7, 143, 6, 0, false)
/-- DeafArray$Plan.elementAt(I)I -/
noncomputable def cd_28 : List mm_E := [
  (0, .iconst 0, 1, 0, [0]), (1, .istore_n 2, 1, 0, []), (2, .iload_n 2, 1, 0, []), (3, .aload_n 0, 1, 0, []), (4, .getfield 22, 3, 0, [5, 2, 132, 0]), (7, .if_icmp .ge 21, 3, 0, [16, 28]),
  (10, .aload_n 0, 1, 0, []), (11, .getfield 9, 3, 0, [5, 0, 125, 0]), (14, .iload_n 2, 1, 0, []), (15, .iaload, 1, 0, []), (16, .iload_n 1, 1, 0, []), (17, .if_icmp .ne 5, 3, 0, [14, 22]),
  (20, .iload_n 2, 1, 0, []), (21, .ireturn, 1, 2, [1]), (22, .iinc 2 1, 3, 0, []), (25, .goto (-23), 3, 0, [2, 2]), (28, .iconst (-1), 1, 0, [4294967295]), (29, .ireturn, 1, 2, [1])]
noncomputable def mt_28 : mm_M := (⟨"DeafArray$Plan", "elementAt", "(I)I"⟩, prog_7_method_9_code, 3, (some (.int)), 0, 0, 5, 1, false)
/-- DeafArray$Plan.addElement(IZ)V -/
noncomputable def cd_29 : List mm_E := [
  (0, .aload_n 0, 1, 0, []), (1, .getfield 22, 3, 0, [5, 2, 132, 0]), (4, .iconst 5, 1, 0, [5]), (5, .if_icmp .ge 42, 3, 0, [27, 47]), (8, .aload_n 0, 1, 0, []), (9, .getfield 9, 3, 0, [5, 0, 125, 0]),
  (12, .aload_n 0, 1, 0, []), (13, .getfield 22, 3, 0, [5, 2, 132, 0]), (16, .iload_n 1, 1, 0, []), (17, .iastore, 1, 0, []), (18, .iload_n 2, 1, 0, []), (19, .ifCond .eq 18, 3, 0, [21, 37]),
  (22, .aload_n 0, 1, 0, []), (23, .dup, 1, 0, []), (24, .getfield 25, 3, 0, [5, 3, 137, 0]), (27, .iconst 1, 1, 0, [1]), (28, .aload_n 0, 1, 0, []), (29, .getfield 22, 3, 0, [5, 2, 132, 0]),
  (32, .ishl, 1, 0, []), (33, .ior, 1, 0, []), (34, .putfield 25, 3, 0, [5, 3, 137, 0]), (37, .aload_n 0, 1, 0, []), (38, .dup, 1, 0, []), (39, .getfield 22, 3, 0, [5, 2, 132, 0]),
  (42, .iconst 1, 1, 0, [1]), (43, .iadd, 1, 0, []), (44, .putfield 22, 3, 0, [5, 2, 132, 0]), (47, .return_, 1, 2, [0])]
noncomputable def mt_29 : mm_M := (⟨"DeafArray$Plan", "addElement", "(IZ)V"⟩, prog_7_method_10_code, 3, none, 0, 0, 5, 2, false)
/-- DeafArray$Reader.readElement(Z)V -/
noncomputable def cd_30 : List mm_E := [
  (0, .aload_n 0, 1, 0, []), (1, .getfield 18, 3, 0, [6, 1, 174, 0]), (4, .getfield 99, 3, 0, [5, 2, 134, 1]), (7, .iconst 5, 1, 0, [5]), (8, .if_icmp .ne 8, 3, 0, [8, 16]), (11, .aload_n 0, 1, 0, []),
  (12, .iconst 3, 1, 0, [3]), (13, .invokevirtual 95, 3, 1, [24, 2, 7, 2, 548, 90, 545, 547, 4, 0]), (16, .aload_n 0, 1, 0, []), (17, .invokevirtual 38, 3, 1, [22, 1, 7, 1, 474, 90, 471, 473, 0, 0]), (20, .aload_n 0, 1, 0, []), (21, .iconst 0, 1, 0, [0]),
  (22, .bipush 11, 2, 0, [11]), (24, .invokevirtual 64, 3, 1, [26, 3, 7, 3, 553, 90, 550, 552, 5, 0]), (27, .ifCond .eq 39, 3, 0, [33, 66]), (30, .aload_n 0, 1, 0, []), (31, .getfield 18, 3, 0, [6, 1, 174, 0]), (34, .aload_n 0, 1, 0, []),
  (35, .getfield 68, 3, 0, [6, 6, 181, 0]), (38, .invokevirtual 100, 3, 1, [28, 2, 6, 3, 567, 91, 564, 565, 566, 0]), (41, .iconst (-1), 1, 0, [4294967295]), (42, .if_icmp .eq 8, 3, 0, [25, 50]), (45, .aload_n 0, 1, 0, []), (46, .iconst 2, 1, 0, [2]),
  (47, .invokevirtual 95, 3, 1, [24, 2, 7, 2, 548, 90, 545, 547, 4, 0]), (50, .aload_n 0, 1, 0, []), (51, .getfield 18, 3, 0, [6, 1, 174, 0]), (54, .aload_n 0, 1, 0, []), (55, .getfield 68, 3, 0, [6, 6, 181, 0]), (58, .iload_n 1, 1, 0, []),
  (59, .invokevirtual 104, 3, 1, [29, 3, 6, 3, 571, 91, 568, 569, 570, 0]), (62, .aload_n 0, 1, 0, []), (63, .invokevirtual 38, 3, 1, [22, 1, 7, 1, 474, 90, 471, 473, 0, 0]), (66, .return_, 1, 2, [0])]
noncomputable def mt_30 : mm_M := (⟨"DeafArray$Reader", "readElement", "(Z)V"⟩, prog_8_method_6_code, 2, none, 2, 43, 6, 1, false)
/-- DeafArray$Plan.deafBits()I -/
noncomputable def cd_31 : List mm_E := [
  (0, .iconst 0, 1, 0, [0]), (1, .istore_n 1, 1, 0, []), (2, .iconst 0, 1, 0, [0]), (3, .istore_n 2, 1, 0, []), (4, .iload_n 2, 1, 0, []), (5, .aload_n 0, 1, 0, []),
  (6, .getfield 28, 3, 0, [5, 5, 143, 0]), (9, .if_icmp .ge 20, 3, 0, [19, 29]), (12, .iload_n 1, 1, 0, []), (13, .iconst 1, 1, 0, [1]), (14, .aload_n 0, 1, 0, []), (15, .getfield 15, 3, 0, [5, 1, 129, 0]),
  (18, .iload_n 2, 1, 0, []), (19, .iaload, 1, 0, []), (20, .ishl, 1, 0, []), (21, .ior, 1, 0, []), (22, .istore_n 1, 1, 0, []), (23, .iinc 2 1, 3, 0, []),
  (26, .goto (-22), 3, 0, [4, 4]), (29, .iload_n 1, 1, 0, []), (30, .ireturn, 1, 2, [1])]
noncomputable def mt_31 : mm_M := (⟨"DeafArray$Plan", "deafBits", "()I"⟩, prog_7_method_12_code, 3, (some (.int)), 0, 0, 5, 0, false)
/-- DeafArray$Plan.wishBits()I -/
noncomputable def cd_32 : List mm_E := [
  (0, .aload_n 0, 1, 0, []), (1, .getfield 18, 3, 0, [5, 4, 139, 0]), (4, .iconst (-1), 1, 0, [4294967295]), (5, .if_icmp .ne 10, 3, 0, [7, 15]), (8, .aload_n 0, 1, 0, []), (9, .invokevirtual 55, 3, 1, [31, 1, 6, 3, 588, 91, 585, 586, 587, 0]),
  (12, .goto 14, 3, 0, [14, 26]), (15, .aload_n 0, 1, 0, []), (16, .invokevirtual 55, 3, 1, [31, 1, 6, 3, 588, 91, 585, 586, 587, 0]), (19, .iconst 1, 1, 0, [1]), (20, .aload_n 0, 1, 0, []), (21, .getfield 18, 3, 0, [5, 4, 139, 0]),
  (24, .ishl, 1, 0, []), (25, .ior, 1, 0, []), (26, .ireturn, 1, 2, [1])]
noncomputable def mt_32 : mm_M := (⟨"DeafArray$Plan", "wishBits", "()I"⟩, prog_7_method_13_code, 1, (some (.int)), 1, 22, 5, 0, false)
/-- DeafArray$Reader.expectDirection()Z -/
noncomputable def cd_33 : List mm_E := [
  (0, .aload_n 0, 1, 0, []), (1, .iconst 0, 1, 0, [0]), (2, .bipush 11, 2, 0, [11]), (4, .invokevirtual 64, 3, 1, [26, 3, 7, 3, 553, 90, 550, 552, 5, 0]), (7, .ifCond .ne 5, 3, 0, [7, 12]), (10, .iconst 0, 1, 0, [0]),
  (11, .ireturn, 1, 2, [2]), (12, .aload_n 0, 1, 0, []), (13, .getfield 18, 3, 0, [6, 1, 174, 0]), (16, .invokevirtual 120, 3, 1, [32, 1, 6, 1, 584, 91, 581, 582, 583, 0]), (19, .aload_n 0, 1, 0, []), (20, .getfield 68, 3, 0, [6, 6, 181, 0]),
  (23, .ishr, 1, 0, []), (24, .iconst 1, 1, 0, [1]), (25, .iand, 1, 0, []), (26, .ifCond .eq 8, 3, 0, [19, 34]), (29, .aload_n 0, 1, 0, []), (30, .iconst 2, 1, 0, [2]),
  (31, .invokevirtual 95, 3, 1, [24, 2, 7, 2, 548, 90, 545, 547, 4, 0]), (34, .aload_n 0, 1, 0, []), (35, .getfield 32, 3, 0, [6, 7, 182, 0]), (38, .ifCond .ne 7, 3, 0, [24, 45]), (41, .iconst 1, 1, 0, [1]), (42, .goto 4, 3, 0, [25, 46]),
  (45, .iconst 0, 1, 0, [0]), (46, .ireturn, 1, 2, [2])]
noncomputable def mt_33 : mm_M := (⟨"DeafArray$Reader", "expectDirection", "()Z"⟩, prog_8_method_11_code, 1, (some (.boolean)), 2, 43, 6, 0, false)
/-- DeafArray$Reader.readLook()V -/
noncomputable def cd_34 : List mm_E := [
  (0, .aload_n 0, 1, 0, []), (1, .getfield 18, 3, 0, [6, 1, 174, 0]), (4, .getfield 108, 3, 0, [5, 4, 142, 1]), (7, .iconst (-1), 1, 0, [4294967295]), (8, .if_icmp .eq 8, 3, 0, [8, 16]), (11, .aload_n 0, 1, 0, []),
  (12, .iconst 3, 1, 0, [3]), (13, .invokevirtual 95, 3, 1, [24, 2, 7, 2, 548, 90, 545, 547, 4, 0]), (16, .aload_n 0, 1, 0, []), (17, .invokevirtual 38, 3, 1, [22, 1, 7, 1, 474, 90, 471, 473, 0, 0]), (20, .aload_n 0, 1, 0, []), (21, .invokevirtual 110, 3, 1, [33, 1, 7, 1, 580, 90, 577, 579, 9, 0]),
  (24, .ifCond .eq 18, 3, 0, [20, 42]), (27, .aload_n 0, 1, 0, []), (28, .getfield 18, 3, 0, [6, 1, 174, 0]), (31, .aload_n 0, 1, 0, []), (32, .getfield 68, 3, 0, [6, 6, 181, 0]), (35, .putfield 108, 3, 0, [5, 4, 142, 1]),
  (38, .aload_n 0, 1, 0, []), (39, .invokevirtual 38, 3, 1, [22, 1, 7, 1, 474, 90, 471, 473, 0, 0]), (42, .return_, 1, 2, [0])]
noncomputable def mt_34 : mm_M := (⟨"DeafArray$Reader", "readLook", "()V"⟩, prog_8_method_7_code, 1, none, 3, 63, 6, 0, false)
/-- DeafArray$Plan.addDeaf(I)V -/
noncomputable def cd_35 : List mm_E := [
  (0, .aload_n 0, 1, 0, []), (1, .getfield 28, 3, 0, [5, 5, 143, 0]), (4, .iconst 4, 1, 0, [4]), (5, .if_icmp .ge 23, 3, 0, [16, 28]), (8, .aload_n 0, 1, 0, []), (9, .getfield 15, 3, 0, [5, 1, 129, 0]),
  (12, .aload_n 0, 1, 0, []), (13, .getfield 28, 3, 0, [5, 5, 143, 0]), (16, .iload_n 1, 1, 0, []), (17, .iastore, 1, 0, []), (18, .aload_n 0, 1, 0, []), (19, .dup, 1, 0, []),
  (20, .getfield 28, 3, 0, [5, 5, 143, 0]), (23, .iconst 1, 1, 0, [1]), (24, .iadd, 1, 0, []), (25, .putfield 28, 3, 0, [5, 5, 143, 0]), (28, .return_, 1, 2, [0])]
noncomputable def mt_35 : mm_M := (⟨"DeafArray$Plan", "addDeaf", "(I)V"⟩, prog_7_method_15_code, 2, none, 0, 0, 5, 1, false)
/-- DeafArray$Reader.readDeaf()V -/
noncomputable def cd_36 : List mm_E := [
  (0, .aload_n 0, 1, 0, []), (1, .getfield 18, 3, 0, [6, 1, 174, 0]), (4, .getfield 114, 3, 0, [5, 5, 146, 1]), (7, .iconst 4, 1, 0, [4]), (8, .if_icmp .ne 8, 3, 0, [8, 16]), (11, .aload_n 0, 1, 0, []),
  (12, .iconst 3, 1, 0, [3]), (13, .invokevirtual 95, 3, 1, [24, 2, 7, 2, 548, 90, 545, 547, 4, 0]), (16, .aload_n 0, 1, 0, []), (17, .invokevirtual 38, 3, 1, [22, 1, 7, 1, 474, 90, 471, 473, 0, 0]), (20, .aload_n 0, 1, 0, []), (21, .invokevirtual 110, 3, 1, [33, 1, 7, 1, 580, 90, 577, 579, 9, 0]),
  (24, .ifCond .eq 18, 3, 0, [20, 42]), (27, .aload_n 0, 1, 0, []), (28, .getfield 18, 3, 0, [6, 1, 174, 0]), (31, .aload_n 0, 1, 0, []), (32, .getfield 68, 3, 0, [6, 6, 181, 0]), (35, .invokevirtual 117, 3, 1, [35, 2, 6, 2, 597, 91, 594, 595, 596, 0]),
  (38, .aload_n 0, 1, 0, []), (39, .invokevirtual 38, 3, 1, [22, 1, 7, 1, 474, 90, 471, 473, 0, 0]), (42, .return_, 1, 2, [0])]
noncomputable def mt_36 : mm_M := (⟨"DeafArray$Reader", "readDeaf", "()V"⟩, prog_8_method_8_code, 1, none, 3, 63, 6, 0, false)
/-- DeafArray$Reader.readLine()V -/
noncomputable def cd_37 : List mm_E := [
  (0, .aload_n 0, 1, 0, []), (1, .ldc 73, 2, 0, [1005, 1, 2]), (3, .invokevirtual 75, 3, 1, [23, 2, 7, 3, 496, 90, 493, 495, 3, 0]), (6, .ifCond .ne 12, 3, 0, [8, 18]), (9, .aload_n 0, 1, 0, []), (10, .ldc 79, 2, 0, [1006, 1, 3]),
  (12, .invokevirtual 75, 3, 1, [23, 2, 7, 3, 496, 90, 493, 495, 3, 0]), (15, .ifCond .eq 16, 3, 0, [14, 31]), (18, .aload_n 0, 1, 0, []), (19, .aload_n 0, 1, 0, []), (20, .ldc 79, 2, 0, [1006, 1, 3]), (22, .invokevirtual 75, 3, 1, [23, 2, 7, 3, 496, 90, 493, 495, 3, 0]),
  (25, .invokevirtual 81, 3, 1, [30, 2, 7, 2, 563, 90, 560, 562, 7, 0]), (28, .goto 40, 3, 0, [31, 68]), (31, .aload_n 0, 1, 0, []), (32, .ldc 85, 2, 0, [1007, 1, 4]), (34, .invokevirtual 75, 3, 1, [23, 2, 7, 3, 496, 90, 493, 495, 3, 0]), (37, .ifCond .eq 10, 3, 0, [21, 47]),
  (40, .aload_n 0, 1, 0, []), (41, .invokevirtual 87, 3, 1, [34, 1, 7, 1, 576, 90, 573, 575, 8, 0]), (44, .goto 24, 3, 0, [31, 68]), (47, .aload_n 0, 1, 0, []), (48, .ldc 90, 2, 0, [1008, 1, 5]), (50, .invokevirtual 75, 3, 1, [23, 2, 7, 3, 496, 90, 493, 495, 3, 0]),
  (53, .ifCond .eq 10, 3, 0, [28, 63]), (56, .aload_n 0, 1, 0, []), (57, .invokevirtual 92, 3, 1, [36, 1, 7, 1, 593, 90, 590, 592, 10, 0]), (60, .goto 8, 3, 0, [31, 68]), (63, .aload_n 0, 1, 0, []), (64, .iconst 1, 1, 0, [1]),
  (65, .invokevirtual 95, 3, 1, [24, 2, 7, 2, 548, 90, 545, 547, 4, 0]), (68, .return_, 1, 2, [0])]
noncomputable def mt_37 : mm_M := (⟨"DeafArray$Reader", "readLine", "()V"⟩, prog_8_method_5_code, 1, none, 6, 122, 6, 0, false)
/-- DeafArray$Reader.expectSign()V -/
noncomputable def cd_38 : List mm_E := [
  (0, .aload_n 0, 1, 0, []), (1, .getfield 41, 3, 0, [6, 5, 180, 0]), (4, .iconst 3, 1, 0, [3]), (5, .if_icmp .eq 8, 3, 0, [7, 13]), (8, .aload_n 0, 1, 0, []), (9, .iconst 1, 1, 0, [1]),
  (10, .invokevirtual 95, 3, 1, [24, 2, 7, 2, 548, 90, 545, 547, 4, 0]), (13, .aload_n 0, 1, 0, []), (14, .getfield 18, 3, 0, [6, 1, 174, 0]), (17, .dup, 1, 0, []), (18, .getfield 44, 3, 0, [5, 7, 153, 1]), (21, .iconst 1, 1, 0, [1]),
  (22, .iadd, 1, 0, []), (23, .putfield 44, 3, 0, [5, 7, 153, 1]), (26, .aload_n 0, 1, 0, []), (27, .invokevirtual 38, 3, 1, [22, 1, 7, 1, 474, 90, 471, 473, 0, 0]), (30, .return_, 1, 2, [0])]
noncomputable def mt_38 : mm_M := (⟨"DeafArray$Reader", "expectSign", "()V"⟩, prog_8_method_9_code, 1, none, 2, 41, 6, 0, false)
/-- DeafArray$Reader.readText()V -/
noncomputable def cd_39 : List mm_E := [
  (0, .aload_n 0, 1, 0, []), (1, .getfield 18, 3, 0, [6, 1, 174, 0]), (4, .invokevirtual 29, 3, 1, [18, 1, 6, 1, 470, 91, 467, 468, 469, 0]), (7, .aload_n 0, 1, 0, []), (8, .iconst 0, 1, 0, [0]), (9, .putfield 32, 3, 0, [6, 7, 182, 0]),
  (12, .aload_n 0, 1, 0, []), (13, .iconst (-1), 1, 0, [4294967295]), (14, .putfield 22, 3, 0, [6, 8, 184, 0]), (17, .aload_n 0, 1, 0, []), (18, .iconst 0, 1, 0, [0]), (19, .putfield 35, 3, 0, [6, 3, 178, 0]),
  (22, .aload_n 0, 1, 0, []), (23, .invokevirtual 38, 3, 1, [22, 1, 7, 1, 474, 90, 471, 473, 0, 0]), (26, .iconst 0, 1, 0, [0]), (27, .istore_n 1, 1, 0, []), (28, .iload_n 1, 1, 0, []), (29, .sipush 300, 3, 0, [300]),
  (32, .if_icmp .gt 48, 3, 0, [38, 80]), (35, .aload_n 0, 1, 0, []), (36, .getfield 32, 3, 0, [6, 7, 182, 0]), (39, .ifCond .ne 41, 3, 0, [38, 80]), (42, .aload_n 0, 1, 0, []), (43, .getfield 41, 3, 0, [6, 5, 180, 0]),
  (46, .ifCond .eq 34, 3, 0, [38, 80]), (49, .aload_n 0, 1, 0, []), (50, .getfield 18, 3, 0, [6, 1, 174, 0]), (53, .getfield 44, 3, 0, [5, 7, 153, 1]), (56, .ifCond .ne 10, 3, 0, [32, 66]), (59, .aload_n 0, 1, 0, []),
  (60, .invokevirtual 47, 3, 1, [27, 1, 7, 1, 487, 90, 484, 486, 1, 0]), (63, .goto 7, 3, 0, [34, 70]), (66, .aload_n 0, 1, 0, []), (67, .invokevirtual 50, 3, 1, [37, 1, 7, 1, 557, 90, 554, 556, 6, 0]), (70, .aload_n 0, 1, 0, []), (71, .invokevirtual 53, 3, 1, [38, 1, 7, 1, 601, 90, 598, 600, 11, 0]),
  (74, .iinc 1 1, 3, 0, []), (77, .goto (-49), 3, 0, [16, 28]), (80, .return_, 1, 2, [0])]
noncomputable def mt_39 : mm_M := (⟨"DeafArray$Reader", "readText", "()V"⟩, prog_8_method_3_code, 2, none, 8, 163, 6, 0, false)
/-- DeafArray$Plan.copy(LDeafArray$Plan;)V -/
noncomputable def cd_40 : List mm_E := [
  (0, .iconst 0, 1, 0, [0]), (1, .istore_n 2, 1, 0, []), (2, .iload_n 2, 1, 0, []), (3, .iconst 5, 1, 0, [5]), (4, .if_icmp .ge 21, 3, 0, [15, 25]), (7, .aload_n 0, 1, 0, []),
  (8, .getfield 9, 3, 0, [5, 0, 125, 0]), (11, .iload_n 2, 1, 0, []), (12, .aload_n 1, 1, 0, []), (13, .getfield 9, 3, 0, [5, 0, 125, 0]), (16, .iload_n 2, 1, 0, []), (17, .iaload, 1, 0, []),
  (18, .iastore, 1, 0, []), (19, .iinc 2 1, 3, 0, []), (22, .goto (-20), 3, 0, [2, 2]), (25, .iconst 0, 1, 0, [0]), (26, .istore_n 2, 1, 0, []), (27, .iload_n 2, 1, 0, []),
  (28, .iconst 4, 1, 0, [4]), (29, .if_icmp .ge 21, 3, 0, [30, 50]), (32, .aload_n 0, 1, 0, []), (33, .getfield 15, 3, 0, [5, 1, 129, 0]), (36, .iload_n 2, 1, 0, []), (37, .aload_n 1, 1, 0, []),
  (38, .getfield 15, 3, 0, [5, 1, 129, 0]), (41, .iload_n 2, 1, 0, []), (42, .iaload, 1, 0, []), (43, .iastore, 1, 0, []), (44, .iinc 2 1, 3, 0, []), (47, .goto (-20), 3, 0, [17, 27]),
  (50, .aload_n 0, 1, 0, []), (51, .aload_n 1, 1, 0, []), (52, .getfield 22, 3, 0, [5, 2, 132, 0]), (55, .putfield 22, 3, 0, [5, 2, 132, 0]), (58, .aload_n 0, 1, 0, []), (59, .aload_n 1, 1, 0, []),
  (60, .getfield 25, 3, 0, [5, 3, 137, 0]), (63, .putfield 25, 3, 0, [5, 3, 137, 0]), (66, .aload_n 0, 1, 0, []), (67, .aload_n 1, 1, 0, []), (68, .getfield 18, 3, 0, [5, 4, 139, 0]), (71, .putfield 18, 3, 0, [5, 4, 139, 0]),
  (74, .aload_n 0, 1, 0, []), (75, .aload_n 1, 1, 0, []), (76, .getfield 28, 3, 0, [5, 5, 143, 0]), (79, .putfield 28, 3, 0, [5, 5, 143, 0]), (82, .aload_n 0, 1, 0, []), (83, .aload_n 1, 1, 0, []),
  (84, .getfield 31, 3, 0, [5, 6, 148, 0]), (87, .putfield 31, 3, 0, [5, 6, 148, 0]), (90, .aload_n 0, 1, 0, []), (91, .aload_n 1, 1, 0, []), (92, .getfield 34, 3, 0, [5, 7, 152, 0]), (95, .putfield 34, 3, 0, [5, 7, 152, 0]),
  (98, .return_, 1, 2, [0])]
noncomputable def mt_40 : mm_M := (⟨"DeafArray$Plan", "copy", "(LDeafArray$Plan;)V"⟩, prog_7_method_3_code, 3, none, 0, 0, 5, 1, false)
/-- DeafArray.array()I -/
noncomputable def cd_41 : List mm_E := [
  (0, .aload_n 0, 1, 0, []), (1, .getfield 12, 3, 0, [8, 0, 416, 0]), (4, .invokevirtual 79, 3, 1, [39, 1, 7, 2, 466, 90, 463, 464, 465, 0]), (7, .aload_n 0, 1, 0, []), (8, .getfield 12, 3, 0, [8, 0, 416, 0]), (11, .iconst 0, 1, 0, [0]),
  (12, .putfield 71, 3, 0, [6, 2, 176, 1]), (15, .aload_n 0, 1, 0, []), (16, .getfield 12, 3, 0, [8, 0, 416, 0]), (19, .getfield 82, 3, 0, [6, 7, 183, 1]), (22, .ifCond .eq 6, 3, 0, [13, 28]), (25, .bipush (-4), 2, 0, [4294967292]),
  (27, .ireturn, 1, 2, [1]), (28, .aload_n 0, 1, 0, []), (29, .getfield 21, 3, 0, [8, 1, 417, 0]), (32, .getfield 85, 3, 0, [7, 0, 246, 1]), (35, .aload_n 0, 1, 0, []), (36, .getfield 12, 3, 0, [8, 0, 416, 0]),
  (39, .getfield 89, 3, 0, [6, 1, 175, 1]), (42, .invokevirtual 92, 3, 1, [40, 2, 6, 3, 605, 91, 602, 603, 604, 0]), (45, .aload_n 0, 1, 0, []), (46, .iconst 1, 1, 0, [1]), (47, .putfield 67, 3, 0, [8, 9, 425, 0]), (50, .aload_n 0, 1, 0, []),
  (51, .getfield 21, 3, 0, [8, 1, 417, 0]), (54, .getfield 85, 3, 0, [7, 0, 246, 1]), (57, .getfield 98, 3, 0, [5, 7, 154, 1]), (60, .ireturn, 1, 2, [1])]
noncomputable def mt_41 : mm_M := (⟨"DeafArray", "array", "()I"⟩, prog_1_method_4_code, 1, (some (.int)), 9, 184, 8, 0, false)
/-- DeafArrayModel.see(I)I -/
noncomputable def cd_42 : List mm_E := [
  (0, .iload_n 1, 1, 0, []), (1, .aload_n 0, 1, 0, []), (2, .getfield 194, 3, 0, [9, 23, 1242, 0]), (5, .if_icmp .ge 16, 3, 0, [11, 21]), (8, .aload_n 0, 1, 0, []), (9, .getfield 41, 3, 0, [9, 20, 1239, 0]),
  (12, .iload_n 1, 1, 0, []), (13, .baload, 1, 0, []), (14, .sipush 255, 3, 0, [255]), (17, .iand, 1, 0, []), (18, .goto 4, 3, 0, [12, 22]), (21, .iconst (-1), 1, 0, [4294967295]),
  (22, .ireturn, 1, 2, [1])]
noncomputable def mt_42 : mm_M := (⟨"DeafArrayModel", "see", "(I)I"⟩, prog_11_method_34_code, 2, (some (.int)), 0, 0, 9, 1, false)
/-- DeafArrayModel.advance()V -/
noncomputable def cd_43 : List mm_E := [
  (0, .aload_n 0, 1, 0, []), (1, .aload_n 0, 1, 0, []), (2, .getfield 197, 3, 0, [9, 24, 1243, 0]), (5, .invokevirtual 200, 3, 1, [42, 2, 10, 2, 1363, 99, 1360, 1362, 33, 0]), (8, .bipush 32, 2, 0, [32]), (10, .if_icmp .eq 16, 3, 0, [12, 26]),
  (13, .aload_n 0, 1, 0, []), (14, .aload_n 0, 1, 0, []), (15, .getfield 197, 3, 0, [9, 24, 1243, 0]), (18, .invokevirtual 200, 3, 1, [42, 2, 10, 2, 1363, 99, 1360, 1362, 33, 0]), (21, .bipush 10, 2, 0, [10]), (23, .if_icmp .ne 16, 3, 0, [19, 39]),
  (26, .aload_n 0, 1, 0, []), (27, .dup, 1, 0, []), (28, .getfield 197, 3, 0, [9, 24, 1243, 0]), (31, .iconst 1, 1, 0, [1]), (32, .iadd, 1, 0, []), (33, .putfield 197, 3, 0, [9, 24, 1243, 0]),
  (36, .goto (-36), 3, 0, [0, 0]), (39, .aload_n 0, 1, 0, []), (40, .aload_n 0, 1, 0, []), (41, .getfield 197, 3, 0, [9, 24, 1243, 0]), (44, .putfield 203, 3, 0, [9, 25, 1244, 0]), (47, .aload_n 0, 1, 0, []),
  (48, .aload_n 0, 1, 0, []), (49, .getfield 197, 3, 0, [9, 24, 1243, 0]), (52, .invokevirtual 200, 3, 1, [42, 2, 10, 2, 1363, 99, 1360, 1362, 33, 0]), (55, .istore_n 1, 1, 0, []), (56, .iload_n 1, 1, 0, []), (57, .iconst (-1), 1, 0, [4294967295]),
  (58, .if_icmp .ne 11, 3, 0, [35, 69]), (61, .aload_n 0, 1, 0, []), (62, .iconst 0, 1, 0, [0]), (63, .putfield 206, 3, 0, [9, 26, 1245, 0]), (66, .goto 173, 3, 0, [119, 239]), (69, .iload_n 1, 1, 0, []),
  (70, .i2l, 1, 0, []), (71, .ldc2_w 209, 3, 0, [97, 0, 1364]), (74, .ldc2_w 211, 3, 0, [122, 0, 1365]), (77, .invokestatic 108, 3, 1, [16, 3, 0, 6, 1347, 99, 1345, 1346, 0, 0]), (80, .ifCond .eq 45, 3, 0, [61, 125]), (83, .aload_n 0, 1, 0, []),
  (84, .aload_n 0, 1, 0, []), (85, .getfield 197, 3, 0, [9, 24, 1243, 0]), (88, .invokevirtual 200, 3, 1, [42, 2, 10, 2, 1363, 99, 1360, 1362, 33, 0]), (91, .i2l, 1, 0, []), (92, .ldc2_w 209, 3, 0, [97, 0, 1364]), (95, .ldc2_w 211, 3, 0, [122, 0, 1365]),
  (98, .invokestatic 108, 3, 1, [16, 3, 0, 6, 1347, 99, 1345, 1346, 0, 0]), (101, .ifCond .eq 16, 3, 0, [57, 117]), (104, .aload_n 0, 1, 0, []), (105, .dup, 1, 0, []), (106, .getfield 197, 3, 0, [9, 24, 1243, 0]), (109, .iconst 1, 1, 0, [1]),
  (110, .iadd, 1, 0, []), (111, .putfield 197, 3, 0, [9, 24, 1243, 0]), (114, .goto (-31), 3, 0, [41, 83]), (117, .aload_n 0, 1, 0, []), (118, .iconst 1, 1, 0, [1]), (119, .putfield 206, 3, 0, [9, 26, 1245, 0]),
  (122, .goto 117, 3, 0, [119, 239]), (125, .iload_n 1, 1, 0, []), (126, .i2l, 1, 0, []), (127, .ldc2_w 213, 3, 0, [48, 0, 1366]), (130, .ldc2_w 215, 3, 0, [57, 0, 1367]), (133, .invokestatic 108, 3, 1, [16, 3, 0, 6, 1347, 99, 1345, 1346, 0, 0]),
  (136, .ifCond .eq 78, 3, 0, [105, 214]), (139, .aload_n 0, 1, 0, []), (140, .iconst 0, 1, 0, [0]), (141, .putfield 217, 3, 0, [9, 27, 1246, 0]), (144, .aload_n 0, 1, 0, []), (145, .aload_n 0, 1, 0, []),
  (146, .getfield 197, 3, 0, [9, 24, 1243, 0]), (149, .invokevirtual 200, 3, 1, [42, 2, 10, 2, 1363, 99, 1360, 1362, 33, 0]), (152, .i2l, 1, 0, []), (153, .ldc2_w 213, 3, 0, [48, 0, 1366]), (156, .ldc2_w 215, 3, 0, [57, 0, 1367]), (159, .invokestatic 108, 3, 1, [16, 3, 0, 6, 1347, 99, 1345, 1346, 0, 0]),
  (162, .ifCond .eq 44, 3, 0, [101, 206]), (165, .aload_n 0, 1, 0, []), (166, .ldc 220, 2, 0, [99999, 0, 1368]), (168, .bipush 10, 2, 0, [10]), (170, .aload_n 0, 1, 0, []), (171, .getfield 217, 3, 0, [9, 27, 1246, 0]),
  (174, .imul, 1, 0, []), (175, .aload_n 0, 1, 0, []), (176, .aload_n 0, 1, 0, []), (177, .getfield 197, 3, 0, [9, 24, 1243, 0]), (180, .invokevirtual 200, 3, 1, [42, 2, 10, 2, 1363, 99, 1360, 1362, 33, 0]), (183, .iadd, 1, 0, []),
  (184, .bipush 48, 2, 0, [48]), (186, .isub, 1, 0, []), (187, .invokestatic 221, 3, 1, [21, 2, 0, 2, 483, 93, 1369, 482, 0, 0]), (190, .putfield 217, 3, 0, [9, 27, 1246, 0]), (193, .aload_n 0, 1, 0, []), (194, .dup, 1, 0, []),
  (195, .getfield 197, 3, 0, [9, 24, 1243, 0]), (198, .iconst 1, 1, 0, [1]), (199, .iadd, 1, 0, []), (200, .putfield 197, 3, 0, [9, 24, 1243, 0]), (203, .goto (-59), 3, 0, [70, 144]), (206, .aload_n 0, 1, 0, []),
  (207, .iconst 2, 1, 0, [2]), (208, .putfield 206, 3, 0, [9, 26, 1245, 0]), (211, .goto 28, 3, 0, [119, 239]), (214, .aload_n 0, 1, 0, []), (215, .iload_n 1, 1, 0, []), (216, .bipush 59, 2, 0, [59]),
  (218, .if_icmp .ne 7, 3, 0, [111, 225]), (221, .iconst 3, 1, 0, [3]), (222, .goto 4, 3, 0, [112, 226]), (225, .iconst 4, 1, 0, [4]), (226, .putfield 206, 3, 0, [9, 26, 1245, 0]), (229, .aload_n 0, 1, 0, []),
  (230, .dup, 1, 0, []), (231, .getfield 197, 3, 0, [9, 24, 1243, 0]), (234, .iconst 1, 1, 0, [1]), (235, .iadd, 1, 0, []), (236, .putfield 197, 3, 0, [9, 24, 1243, 0]), (239, .return_, 1, 2, [0])]
noncomputable def mt_43 : mm_M := (⟨"DeafArrayModel", "advance", "()V"⟩, prog_11_method_35_code, 2, none, 1, 25, 9, 0, false)
/-- DeafArrayModel.good()Z -/
noncomputable def cd_44 : List mm_E := [
  (0, .aload_n 0, 1, 0, []), (1, .getfield 224, 3, 0, [9, 28, 1247, 0]), (4, .ifCond .ne 7, 3, 0, [5, 11]), (7, .iconst 1, 1, 0, [1]), (8, .goto 4, 3, 0, [6, 12]), (11, .iconst 0, 1, 0, [0]),
  (12, .ireturn, 1, 2, [2])]
noncomputable def mt_44 : mm_M := (⟨"DeafArrayModel", "good", "()Z"⟩, prog_11_method_36_code, 1, (some (.boolean)), 0, 0, 9, 0, false)
/-- DeafArrayModel.is(Ljava/lang/String;)Z -/
noncomputable def cd_45 : List mm_E := [
  (0, .aload_n 0, 1, 0, []), (1, .invokevirtual 227, 3, 1, [44, 1, 10, 1, 1373, 99, 1370, 1372, 34, 0]), (4, .ifCond .eq 31, 3, 0, [17, 35]), (7, .aload_n 0, 1, 0, []), (8, .getfield 206, 3, 0, [9, 26, 1245, 0]), (11, .iconst 1, 1, 0, [1]),
  (12, .if_icmp .ne 23, 3, 0, [17, 35]), (15, .aload_n 0, 1, 0, []), (16, .getfield 197, 3, 0, [9, 24, 1243, 0]), (19, .aload_n 0, 1, 0, []), (20, .getfield 203, 3, 0, [9, 25, 1244, 0]), (23, .isub, 1, 0, []),
  (24, .aload_n 1, 1, 0, []), (25, .invokevirtual 231, 3, 0, [0, 1387]), (28, .if_icmp .ne 7, 3, 0, [17, 35]), (31, .iconst 1, 1, 0, [1]), (32, .goto 4, 3, 0, [18, 36]), (35, .iconst 0, 1, 0, [0]),
  (36, .istore_n 2, 1, 0, []), (37, .iconst 0, 1, 0, [0]), (38, .istore_n 3, 1, 0, []), (39, .iload_n 3, 1, 0, []), (40, .aload_n 1, 1, 0, []), (41, .invokevirtual 231, 3, 0, [0, 1387]),
  (44, .if_icmp .ge 38, 3, 0, [44, 82]), (47, .iload_n 2, 1, 0, []), (48, .ifCond .eq 34, 3, 0, [44, 82]), (51, .aload_n 0, 1, 0, []), (52, .getfield 41, 3, 0, [9, 20, 1239, 0]), (55, .aload_n 0, 1, 0, []),
  (56, .getfield 203, 3, 0, [9, 25, 1244, 0]), (59, .iload_n 3, 1, 0, []), (60, .iadd, 1, 0, []), (61, .baload, 1, 0, []), (62, .aload_n 1, 1, 0, []), (63, .iload_n 3, 1, 0, []),
  (64, .invokevirtual 236, 3, 0, [1, 1388]), (67, .if_icmp .ne 7, 3, 0, [40, 74]), (70, .iconst 1, 1, 0, [1]), (71, .goto 4, 3, 0, [41, 75]), (74, .iconst 0, 1, 0, [0]), (75, .istore_n 2, 1, 0, []),
  (76, .iinc 3 1, 3, 0, []), (79, .goto (-40), 3, 0, [21, 39]), (82, .iload_n 2, 1, 0, []), (83, .ireturn, 1, 2, [2])]
noncomputable def mt_45 : mm_M := (⟨"DeafArrayModel", "is", "(Ljava/lang/String;)Z"⟩, prog_11_method_38_code, 4, (some (.boolean)), 5, 100, 9, 1, false)
/-- DeafArrayModel.errs(I)V -/
noncomputable def cd_46 : List mm_E := [
  (0, .aload_n 0, 1, 0, []), (1, .invokevirtual 227, 3, 1, [44, 1, 10, 1, 1373, 99, 1370, 1372, 34, 0]), (4, .ifCond .ne 4, 3, 0, [4, 8]), (7, .return_, 1, 2, [0]), (8, .aload_n 0, 1, 0, []), (9, .iload_n 1, 1, 0, []),
  (10, .putfield 224, 3, 0, [9, 28, 1247, 0]), (13, .aload_n 0, 1, 0, []), (14, .aload_n 0, 1, 0, []), (15, .getfield 203, 3, 0, [9, 25, 1244, 0]), (18, .putfield 48, 3, 0, [9, 29, 1248, 0]), (21, .return_, 1, 2, [0])]
noncomputable def mt_46 : mm_M := (⟨"DeafArrayModel", "errs", "(I)V"⟩, prog_11_method_37_code, 2, none, 1, 20, 9, 1, false)
/-- DeafArrayModel.expects(Ljava/lang/String;)V -/
noncomputable def cd_47 : List mm_E := [
  (0, .aload_n 0, 1, 0, []), (1, .aload_n 1, 1, 0, []), (2, .invokevirtual 240, 3, 1, [45, 2, 10, 4, 1386, 99, 1383, 1385, 37, 0]), (5, .ifCond .eq 10, 3, 0, [7, 15]), (8, .aload_n 0, 1, 0, []), (9, .invokevirtual 244, 3, 1, [43, 1, 10, 2, 1359, 99, 1356, 1358, 32, 0]),
  (12, .goto 8, 3, 0, [10, 20]), (15, .aload_n 0, 1, 0, []), (16, .iconst 1, 1, 0, [1]), (17, .invokevirtual 247, 3, 1, [46, 2, 10, 2, 1392, 99, 1389, 1391, 38, 0]), (20, .return_, 1, 2, [0])]
noncomputable def mt_47 : mm_M := (⟨"DeafArrayModel", "expects", "(Ljava/lang/String;)V"⟩, prog_11_method_39_code, 2, none, 6, 123, 9, 1, false)
/-- DeafArrayModel.takes(II)I -/
noncomputable def cd_48 : List mm_E := [
  (0, .aload_n 0, 1, 0, []), (1, .invokevirtual 227, 3, 1, [44, 1, 10, 1, 1373, 99, 1370, 1372, 34, 0]), (4, .ifCond .eq 16, 3, 0, [10, 20]), (7, .aload_n 0, 1, 0, []), (8, .getfield 206, 3, 0, [9, 26, 1245, 0]), (11, .iconst 2, 1, 0, [2]),
  (12, .if_icmp .eq 8, 3, 0, [10, 20]), (15, .aload_n 0, 1, 0, []), (16, .iconst 1, 1, 0, [1]), (17, .invokevirtual 247, 3, 1, [46, 2, 10, 2, 1392, 99, 1389, 1391, 38, 0]), (20, .aload_n 0, 1, 0, []), (21, .invokevirtual 227, 3, 1, [44, 1, 10, 1, 1373, 99, 1370, 1372, 34, 0]),
  (24, .ifCond .eq 23, 3, 0, [25, 47]), (27, .aload_n 0, 1, 0, []), (28, .getfield 217, 3, 0, [9, 27, 1246, 0]), (31, .i2l, 1, 0, []), (32, .iload_n 1, 1, 0, []), (33, .i2l, 1, 0, []),
  (34, .iload_n 2, 1, 0, []), (35, .i2l, 1, 0, []), (36, .invokestatic 108, 3, 1, [16, 3, 0, 6, 1347, 99, 1345, 1346, 0, 0]), (39, .ifCond .ne 8, 3, 0, [25, 47]), (42, .aload_n 0, 1, 0, []), (43, .iconst 2, 1, 0, [2]),
  (44, .invokevirtual 247, 3, 1, [46, 2, 10, 2, 1392, 99, 1389, 1391, 38, 0]), (47, .aload_n 0, 1, 0, []), (48, .invokevirtual 227, 3, 1, [44, 1, 10, 1, 1373, 99, 1370, 1372, 34, 0]), (51, .ifCond .ne 5, 3, 0, [30, 56]), (54, .iconst 0, 1, 0, [0]), (55, .ireturn, 1, 2, [1]),
  (56, .aload_n 0, 1, 0, []), (57, .getfield 217, 3, 0, [9, 27, 1246, 0]), (60, .istore_n 3, 1, 0, []), (61, .aload_n 0, 1, 0, []), (62, .invokevirtual 244, 3, 1, [43, 1, 10, 2, 1359, 99, 1356, 1358, 32, 0]), (65, .iload_n 3, 1, 0, []),
  (66, .ireturn, 1, 2, [1])]
noncomputable def mt_48 : mm_M := (⟨"DeafArrayModel", "takes", "(II)I"⟩, prog_11_method_40_code, 4, (some (.int)), 2, 46, 9, 2, false)
/-- DeafArrayModel.readElement(I)V -/
noncomputable def cd_49 : List mm_E := [
  (0, .aload_n 0, 1, 0, []), (1, .getfield 22, 3, 0, [9, 6, 1225, 0]), (4, .iconst 1, 1, 0, [1]), (5, .iaload, 1, 0, []), (6, .istore_n 2, 1, 0, []), (7, .iload_n 2, 1, 0, []),
  (8, .iconst 5, 1, 0, [5]), (9, .if_icmp .ne 8, 3, 0, [11, 17]), (12, .aload_n 0, 1, 0, []), (13, .iconst 3, 1, 0, [3]), (14, .invokevirtual 247, 3, 1, [46, 2, 10, 2, 1392, 99, 1389, 1391, 38, 0]), (17, .aload_n 0, 1, 0, []),
  (18, .invokevirtual 227, 3, 1, [44, 1, 10, 1, 1373, 99, 1370, 1372, 34, 0]), (21, .ifCond .eq 7, 3, 0, [16, 28]), (24, .aload_n 0, 1, 0, []), (25, .invokevirtual 244, 3, 1, [43, 1, 10, 2, 1359, 99, 1356, 1358, 32, 0]), (28, .iconst 0, 1, 0, [0]), (29, .istore_n 3, 1, 0, []),
  (30, .iload_n 3, 1, 0, []), (31, .iload_n 2, 1, 0, []), (32, .if_icmp .ge 44, 3, 0, [42, 76]), (35, .aload_n 0, 1, 0, []), (36, .invokevirtual 227, 3, 1, [44, 1, 10, 1, 1373, 99, 1370, 1372, 34, 0]), (39, .ifCond .eq 31, 3, 0, [40, 70]),
  (42, .aload_n 0, 1, 0, []), (43, .getfield 206, 3, 0, [9, 26, 1245, 0]), (46, .iconst 2, 1, 0, [2]), (47, .if_icmp .ne 23, 3, 0, [40, 70]), (50, .aload_n 0, 1, 0, []), (51, .getfield 22, 3, 0, [9, 6, 1225, 0]),
  (54, .iconst 2, 1, 0, [2]), (55, .iload_n 3, 1, 0, []), (56, .iadd, 1, 0, []), (57, .iaload, 1, 0, []), (58, .aload_n 0, 1, 0, []), (59, .getfield 217, 3, 0, [9, 27, 1246, 0]),
  (62, .if_icmp .ne 8, 3, 0, [40, 70]), (65, .aload_n 0, 1, 0, []), (66, .iconst 2, 1, 0, [2]), (67, .invokevirtual 247, 3, 1, [46, 2, 10, 2, 1392, 99, 1389, 1391, 38, 0]), (70, .iinc 3 1, 3, 0, []), (73, .goto (-43), 3, 0, [18, 30]),
  (76, .aload_n 0, 1, 0, []), (77, .iconst 0, 1, 0, [0]), (78, .bipush 11, 2, 0, [11]), (80, .invokevirtual 250, 3, 1, [48, 3, 10, 4, 1397, 99, 1394, 1396, 39, 0]), (83, .istore_n 3, 1, 0, []), (84, .aload_n 0, 1, 0, []),
  (85, .invokevirtual 227, 3, 1, [44, 1, 10, 1, 1373, 99, 1370, 1372, 34, 0]), (88, .ifCond .ne 4, 3, 0, [51, 92]), (91, .return_, 1, 2, [0]), (92, .aload_n 0, 1, 0, []), (93, .getfield 22, 3, 0, [9, 6, 1225, 0]), (96, .iconst 2, 1, 0, [2]),
  (97, .iload_n 2, 1, 0, []), (98, .iadd, 1, 0, []), (99, .iload_n 3, 1, 0, []), (100, .iastore, 1, 0, []), (101, .aload_n 0, 1, 0, []), (102, .getfield 22, 3, 0, [9, 6, 1225, 0]),
  (105, .bipush 7, 2, 0, [7]), (107, .iload_n 2, 1, 0, []), (108, .iadd, 1, 0, []), (109, .iload_n 1, 1, 0, []), (110, .iastore, 1, 0, []), (111, .aload_n 0, 1, 0, []),
  (112, .getfield 22, 3, 0, [9, 6, 1225, 0]), (115, .iconst 1, 1, 0, [1]), (116, .dup2, 1, 0, []), (117, .iaload, 1, 0, []), (118, .iconst 1, 1, 0, [1]), (119, .iadd, 1, 0, []),
  (120, .iastore, 1, 0, []), (121, .return_, 1, 2, [0])]
noncomputable def mt_49 : mm_M := (⟨"DeafArrayModel", "readElement", "(I)V"⟩, prog_11_method_42_code, 4, none, 3, 69, 9, 1, false)
/-- DeafArrayModel.wasTold()Z -/
noncomputable def cd_50 : List mm_E := [
  (0, .aload_n 0, 1, 0, []), (1, .getfield 22, 3, 0, [9, 6, 1225, 0]), (4, .bipush 12, 2, 0, [12]), (6, .iaload, 1, 0, []), (7, .aload_n 0, 1, 0, []), (8, .getfield 217, 3, 0, [9, 27, 1246, 0]),
  (11, .iconst 1, 1, 0, [1]), (12, .iadd, 1, 0, []), (13, .if_icmp .ne 5, 3, 0, [11, 18]), (16, .iconst 1, 1, 0, [1]), (17, .ireturn, 1, 2, [2]), (18, .iconst 0, 1, 0, [0]),
  (19, .istore_n 1, 1, 0, []), (20, .iload_n 1, 1, 0, []), (21, .aload_n 0, 1, 0, []), (22, .getfield 22, 3, 0, [9, 6, 1225, 0]), (25, .bipush 13, 2, 0, [13]), (27, .iaload, 1, 0, []),
  (28, .if_icmp .ge 27, 3, 0, [32, 55]), (31, .aload_n 0, 1, 0, []), (32, .getfield 22, 3, 0, [9, 6, 1225, 0]), (35, .bipush 14, 2, 0, [14]), (37, .iload_n 1, 1, 0, []), (38, .iadd, 1, 0, []),
  (39, .iaload, 1, 0, []), (40, .aload_n 0, 1, 0, []), (41, .getfield 217, 3, 0, [9, 27, 1246, 0]), (44, .if_icmp .ne 5, 3, 0, [30, 49]), (47, .iconst 1, 1, 0, [1]), (48, .ireturn, 1, 2, [2]),
  (49, .iinc 1 1, 3, 0, []), (52, .goto (-32), 3, 0, [13, 20]), (55, .iconst 0, 1, 0, [0]), (56, .ireturn, 1, 2, [2])]
noncomputable def mt_50 : mm_M := (⟨"DeafArrayModel", "wasTold", "()Z"⟩, prog_11_method_43_code, 2, (some (.boolean)), 0, 0, 9, 0, false)
/-- DeafArrayModel.readDirection(Z)V -/
noncomputable def cd_51 : List mm_E := [
  (0, .iload_n 1, 1, 0, []), (1, .ifCond .eq 16, 3, 0, [8, 17]), (4, .aload_n 0, 1, 0, []), (5, .getfield 22, 3, 0, [9, 6, 1225, 0]), (8, .bipush 12, 2, 0, [12]), (10, .iaload, 1, 0, []),
  (11, .ifCond .le 22, 3, 0, [17, 33]), (14, .goto 14, 3, 0, [14, 28]), (17, .aload_n 0, 1, 0, []), (18, .getfield 22, 3, 0, [9, 6, 1225, 0]), (21, .bipush 13, 2, 0, [13]), (23, .iaload, 1, 0, []),
  (24, .iconst 4, 1, 0, [4]), (25, .if_icmp .ne 8, 3, 0, [17, 33]), (28, .aload_n 0, 1, 0, []), (29, .iconst 3, 1, 0, [3]), (30, .invokevirtual 247, 3, 1, [46, 2, 10, 2, 1392, 99, 1389, 1391, 38, 0]), (33, .aload_n 0, 1, 0, []),
  (34, .invokevirtual 227, 3, 1, [44, 1, 10, 1, 1373, 99, 1370, 1372, 34, 0]), (37, .ifCond .eq 7, 3, 0, [22, 44]), (40, .aload_n 0, 1, 0, []), (41, .invokevirtual 244, 3, 1, [43, 1, 10, 2, 1359, 99, 1356, 1358, 32, 0]), (44, .aload_n 0, 1, 0, []), (45, .invokevirtual 227, 3, 1, [44, 1, 10, 1, 1373, 99, 1370, 1372, 34, 0]),
  (48, .ifCond .eq 23, 3, 0, [35, 71]), (51, .aload_n 0, 1, 0, []), (52, .getfield 206, 3, 0, [9, 26, 1245, 0]), (55, .iconst 2, 1, 0, [2]), (56, .if_icmp .ne 15, 3, 0, [35, 71]), (59, .aload_n 0, 1, 0, []),
  (60, .invokevirtual 253, 3, 1, [50, 1, 10, 2, 1412, 99, 1409, 1411, 42, 0]), (63, .ifCond .eq 8, 3, 0, [35, 71]), (66, .aload_n 0, 1, 0, []), (67, .iconst 2, 1, 0, [2]), (68, .invokevirtual 247, 3, 1, [46, 2, 10, 2, 1392, 99, 1389, 1391, 38, 0]), (71, .aload_n 0, 1, 0, []),
  (72, .iconst 0, 1, 0, [0]), (73, .bipush 11, 2, 0, [11]), (75, .invokevirtual 250, 3, 1, [48, 3, 10, 4, 1397, 99, 1394, 1396, 39, 0]), (78, .istore_n 2, 1, 0, []), (79, .aload_n 0, 1, 0, []), (80, .invokevirtual 227, 3, 1, [44, 1, 10, 1, 1373, 99, 1370, 1372, 34, 0]),
  (83, .ifCond .ne 4, 3, 0, [44, 87]), (86, .return_, 1, 2, [0]), (87, .iload_n 1, 1, 0, []), (88, .ifCond .eq 16, 3, 0, [54, 104]), (91, .aload_n 0, 1, 0, []), (92, .getfield 22, 3, 0, [9, 6, 1225, 0]),
  (95, .bipush 12, 2, 0, [12]), (97, .iload_n 2, 1, 0, []), (98, .iconst 1, 1, 0, [1]), (99, .iadd, 1, 0, []), (100, .iastore, 1, 0, []), (101, .goto 30, 3, 0, [72, 131]),
  (104, .aload_n 0, 1, 0, []), (105, .getfield 22, 3, 0, [9, 6, 1225, 0]), (108, .bipush 14, 2, 0, [14]), (110, .aload_n 0, 1, 0, []), (111, .getfield 22, 3, 0, [9, 6, 1225, 0]), (114, .bipush 13, 2, 0, [13]),
  (116, .iaload, 1, 0, []), (117, .iadd, 1, 0, []), (118, .iload_n 2, 1, 0, []), (119, .iastore, 1, 0, []), (120, .aload_n 0, 1, 0, []), (121, .getfield 22, 3, 0, [9, 6, 1225, 0]),
  (124, .bipush 13, 2, 0, [13]), (126, .dup2, 1, 0, []), (127, .iaload, 1, 0, []), (128, .iconst 1, 1, 0, [1]), (129, .iadd, 1, 0, []), (130, .iastore, 1, 0, []),
  (131, .return_, 1, 2, [0])]
noncomputable def mt_51 : mm_M := (⟨"DeafArrayModel", "readDirection", "(Z)V"⟩, prog_11_method_44_code, 3, none, 3, 69, 9, 1, false)
/-- DeafArrayModel.readLine()V -/
noncomputable def cd_52 : List mm_E := [
  (0, .aload_n 0, 1, 0, []), (1, .getfield 22, 3, 0, [9, 6, 1225, 0]), (4, .bipush 18, 2, 0, [18]), (6, .iaload, 1, 0, []), (7, .ifCond .ne 33, 3, 0, [20, 40]), (10, .aload_n 0, 1, 0, []),
  (11, .ldc_w 256, 3, 0, [1003, 1, 6]), (14, .invokevirtual 258, 3, 1, [47, 2, 10, 2, 1382, 99, 1379, 1381, 36, 0]), (17, .aload_n 0, 1, 0, []), (18, .ldc_w 262, 3, 0, [1004, 1, 7]), (21, .invokevirtual 258, 3, 1, [47, 2, 10, 2, 1382, 99, 1379, 1381, 36, 0]), (24, .aload_n 0, 1, 0, []),
  (25, .getfield 22, 3, 0, [9, 6, 1225, 0]), (28, .iconst 0, 1, 0, [0]), (29, .aload_n 0, 1, 0, []), (30, .iconst 1, 1, 0, [1]), (31, .bipush 99, 2, 0, [99]), (33, .invokevirtual 250, 3, 1, [48, 3, 10, 4, 1397, 99, 1394, 1396, 39, 0]),
  (36, .iastore, 1, 0, []), (37, .goto 80, 3, 0, [55, 117]), (40, .aload_n 0, 1, 0, []), (41, .ldc_w 264, 3, 0, [1005, 1, 8]), (44, .invokevirtual 240, 3, 1, [45, 2, 10, 4, 1386, 99, 1383, 1385, 37, 0]), (47, .ifCond .eq 11, 3, 0, [28, 58]),
  (50, .aload_n 0, 1, 0, []), (51, .iconst 0, 1, 0, [0]), (52, .invokevirtual 266, 3, 1, [49, 2, 10, 4, 1402, 99, 1399, 1401, 40, 0]), (55, .goto 62, 3, 0, [55, 117]), (58, .aload_n 0, 1, 0, []), (59, .ldc_w 269, 3, 0, [1006, 1, 9]),
  (62, .invokevirtual 240, 3, 1, [45, 2, 10, 4, 1386, 99, 1383, 1385, 37, 0]), (65, .ifCond .eq 11, 3, 0, [36, 76]), (68, .aload_n 0, 1, 0, []), (69, .iconst 1, 1, 0, [1]), (70, .invokevirtual 266, 3, 1, [49, 2, 10, 4, 1402, 99, 1399, 1401, 40, 0]), (73, .goto 44, 3, 0, [55, 117]),
  (76, .aload_n 0, 1, 0, []), (77, .ldc_w 271, 3, 0, [1007, 1, 10]), (80, .invokevirtual 240, 3, 1, [45, 2, 10, 4, 1386, 99, 1383, 1385, 37, 0]), (83, .ifCond .eq 11, 3, 0, [44, 94]), (86, .aload_n 0, 1, 0, []), (87, .iconst 1, 1, 0, [1]),
  (88, .invokevirtual 273, 3, 1, [51, 2, 10, 3, 1408, 99, 1405, 1407, 41, 0]), (91, .goto 26, 3, 0, [55, 117]), (94, .aload_n 0, 1, 0, []), (95, .ldc_w 277, 3, 0, [1008, 1, 11]), (98, .invokevirtual 240, 3, 1, [45, 2, 10, 4, 1386, 99, 1383, 1385, 37, 0]), (101, .ifCond .eq 11, 3, 0, [52, 112]),
  (104, .aload_n 0, 1, 0, []), (105, .iconst 0, 1, 0, [0]), (106, .invokevirtual 273, 3, 1, [51, 2, 10, 3, 1408, 99, 1405, 1407, 41, 0]), (109, .goto 8, 3, 0, [55, 117]), (112, .aload_n 0, 1, 0, []), (113, .iconst 1, 1, 0, [1]),
  (114, .invokevirtual 247, 3, 1, [46, 2, 10, 2, 1392, 99, 1389, 1391, 38, 0]), (117, .aload_n 0, 1, 0, []), (118, .invokevirtual 227, 3, 1, [44, 1, 10, 1, 1373, 99, 1370, 1372, 34, 0]), (121, .ifCond .eq 16, 3, 0, [65, 137]), (124, .aload_n 0, 1, 0, []), (125, .getfield 206, 3, 0, [9, 26, 1245, 0]),
  (128, .iconst 3, 1, 0, [3]), (129, .if_icmp .eq 8, 3, 0, [65, 137]), (132, .aload_n 0, 1, 0, []), (133, .iconst 1, 1, 0, [1]), (134, .invokevirtual 247, 3, 1, [46, 2, 10, 2, 1392, 99, 1389, 1391, 38, 0]), (137, .aload_n 0, 1, 0, []),
  (138, .invokevirtual 227, 3, 1, [44, 1, 10, 1, 1373, 99, 1370, 1372, 34, 0]), (141, .ifCond .eq 7, 3, 0, [70, 148]), (144, .aload_n 0, 1, 0, []), (145, .invokevirtual 244, 3, 1, [43, 1, 10, 2, 1359, 99, 1356, 1358, 32, 0]), (148, .aload_n 0, 1, 0, []), (149, .getfield 22, 3, 0, [9, 6, 1225, 0]),
  (152, .bipush 18, 2, 0, [18]), (154, .dup2, 1, 0, []), (155, .iaload, 1, 0, []), (156, .iconst 1, 1, 0, [1]), (157, .iadd, 1, 0, []), (158, .iastore, 1, 0, []),
  (159, .return_, 1, 2, [0])]
noncomputable def mt_52 : mm_M := (⟨"DeafArrayModel", "readLine", "()V"⟩, prog_11_method_45_code, 1, none, 7, 144, 9, 0, false)
/-- DeafArrayModel.array()I -/
noncomputable def cd_53 : List mm_E := [
  (0, .aload_n 0, 1, 0, []), (1, .aload_n 0, 1, 0, []), (2, .getfield 191, 3, 0, [9, 21, 1240, 0]), (5, .putfield 194, 3, 0, [9, 23, 1242, 0]), (8, .aload_n 0, 1, 0, []), (9, .iconst 0, 1, 0, [0]),
  (10, .putfield 191, 3, 0, [9, 21, 1240, 0]), (13, .aload_n 0, 1, 0, []), (14, .iconst 0, 1, 0, [0]), (15, .putfield 197, 3, 0, [9, 24, 1243, 0]), (18, .aload_n 0, 1, 0, []), (19, .iconst 0, 1, 0, [0]),
  (20, .putfield 224, 3, 0, [9, 28, 1247, 0]), (23, .aload_n 0, 1, 0, []), (24, .iconst (-1), 1, 0, [4294967295]), (25, .putfield 48, 3, 0, [9, 29, 1248, 0]), (28, .iconst 0, 1, 0, [0]), (29, .istore_n 1, 1, 0, []),
  (30, .iload_n 1, 1, 0, []), (31, .bipush 19, 2, 0, [19]), (33, .if_icmp .ge 16, 3, 0, [28, 49]), (36, .aload_n 0, 1, 0, []), (37, .getfield 22, 3, 0, [9, 6, 1225, 0]), (40, .iload_n 1, 1, 0, []),
  (41, .iconst 0, 1, 0, [0]), (42, .iastore, 1, 0, []), (43, .iinc 1 1, 3, 0, []), (46, .goto (-16), 3, 0, [18, 30]), (49, .aload_n 0, 1, 0, []), (50, .invokevirtual 244, 3, 1, [43, 1, 10, 2, 1359, 99, 1356, 1358, 32, 0]),
  (53, .aload_n 0, 1, 0, []), (54, .invokevirtual 227, 3, 1, [44, 1, 10, 1, 1373, 99, 1370, 1372, 34, 0]), (57, .ifCond .eq 17, 3, 0, [39, 74]), (60, .aload_n 0, 1, 0, []), (61, .getfield 206, 3, 0, [9, 26, 1245, 0]), (64, .ifCond .eq 10, 3, 0, [39, 74]),
  (67, .aload_n 0, 1, 0, []), (68, .invokevirtual 279, 3, 1, [52, 1, 10, 1, 1377, 99, 1374, 1376, 35, 0]), (71, .goto (-18), 3, 0, [30, 53]), (74, .aload_n 0, 1, 0, []), (75, .invokevirtual 227, 3, 1, [44, 1, 10, 1, 1373, 99, 1370, 1372, 34, 0]), (78, .ifCond .ne 6, 3, 0, [44, 84]),
  (81, .bipush (-4), 2, 0, [4294967292]), (83, .ireturn, 1, 2, [1]), (84, .iconst 0, 1, 0, [0]), (85, .istore_n 1, 1, 0, []), (86, .iload_n 1, 1, 0, []), (87, .bipush 19, 2, 0, [19]),
  (89, .if_icmp .ge 21, 3, 0, [59, 110]), (92, .aload_n 0, 1, 0, []), (93, .getfield 18, 3, 0, [9, 5, 1224, 0]), (96, .iload_n 1, 1, 0, []), (97, .aload_n 0, 1, 0, []), (98, .getfield 22, 3, 0, [9, 6, 1225, 0]),
  (101, .iload_n 1, 1, 0, []), (102, .iaload, 1, 0, []), (103, .iastore, 1, 0, []), (104, .iinc 1 1, 3, 0, []), (107, .goto (-21), 3, 0, [46, 86]), (110, .aload_n 0, 1, 0, []),
  (111, .getfield 18, 3, 0, [9, 5, 1224, 0]), (114, .bipush 18, 2, 0, [18]), (116, .iaload, 1, 0, []), (117, .ireturn, 1, 2, [1])]
noncomputable def mt_53 : mm_M := (⟨"DeafArrayModel", "array", "()I"⟩, prog_11_method_46_code, 2, (some (.int)), 8, 164, 9, 0, false)
/-- DeafArray.fault(I)I -/
noncomputable def cd_54 : List mm_E := [
  (0, .iload_n 1, 1, 0, []), (1, .ifCond .ne 11, 3, 0, [6, 12]), (4, .aload_n 0, 1, 0, []), (5, .getfield 12, 3, 0, [8, 0, 416, 0]), (8, .getfield 82, 3, 0, [6, 7, 183, 1]), (11, .ireturn, 1, 2, [1]),
  (12, .iload_n 1, 1, 0, []), (13, .iconst 1, 1, 0, [1]), (14, .if_icmp .ne 13, 3, 0, [13, 27]), (17, .aload_n 0, 1, 0, []), (18, .getfield 12, 3, 0, [8, 0, 416, 0]), (21, .getfield 101, 3, 0, [6, 8, 185, 1]),
  (24, .goto 4, 3, 0, [14, 28]), (27, .iconst (-1), 1, 0, [4294967295]), (28, .ireturn, 1, 2, [1])]
noncomputable def mt_54 : mm_M := (⟨"DeafArray", "fault", "(I)I"⟩, prog_1_method_5_code, 2, (some (.int)), 0, 0, 8, 1, false)
/-- DeafArrayModel.fault(I)I -/
noncomputable def cd_55 : List mm_E := [
  (0, .iload_n 1, 1, 0, []), (1, .ifCond .ne 10, 3, 0, [5, 11]), (4, .aload_n 0, 1, 0, []), (5, .getfield 224, 3, 0, [9, 28, 1247, 0]), (8, .goto 16, 3, 0, [12, 24]), (11, .iload_n 1, 1, 0, []),
  (12, .iconst 1, 1, 0, [1]), (13, .if_icmp .ne 10, 3, 0, [11, 23]), (16, .aload_n 0, 1, 0, []), (17, .getfield 48, 3, 0, [9, 29, 1248, 0]), (20, .goto 4, 3, 0, [12, 24]), (23, .iconst (-1), 1, 0, [4294967295]),
  (24, .ireturn, 1, 2, [1])]
noncomputable def mt_55 : mm_M := (⟨"DeafArrayModel", "fault", "(I)I"⟩, prog_11_method_41_code, 2, (some (.int)), 0, 0, 9, 1, false)
/-- DeafArray$Plan.workingBits()I -/
noncomputable def cd_56 : List mm_E := [
  (0, .iconst 1, 1, 0, [1]), (1, .aload_n 0, 1, 0, []), (2, .getfield 22, 3, 0, [5, 2, 132, 0]), (5, .ishl, 1, 0, []), (6, .iconst 1, 1, 0, [1]), (7, .isub, 1, 0, []),
  (8, .aload_n 0, 1, 0, []), (9, .getfield 25, 3, 0, [5, 3, 137, 0]), (12, .iconst (-1), 1, 0, [4294967295]), (13, .ixor, 1, 0, []), (14, .iand, 1, 0, []), (15, .ireturn, 1, 2, [1])]
noncomputable def mt_56 : mm_M := (⟨"DeafArray$Plan", "workingBits", "()I"⟩, prog_7_method_7_code, 1, (some (.int)), 0, 0, 5, 0, false)
/-- java/lang/Integer.bitCount(I)I -/
noncomputable def cd_57 : List mm_E := [
  (0, .iload_n 0, 1, 0, []), (1, .iload_n 0, 1, 0, []), (2, .iconst 1, 1, 0, [1]), (3, .iushr, 1, 0, []), (4, .ldc_w 265, 3, 0, [1431655765, 0, 626]), (7, .iand, 1, 0, []),
  (8, .isub, 1, 0, []), (9, .istore_n 0, 1, 0, []), (10, .iload_n 0, 1, 0, []), (11, .ldc_w 266, 3, 0, [858993459, 0, 627]), (14, .iand, 1, 0, []), (15, .iload_n 0, 1, 0, []),
  (16, .iconst 2, 1, 0, [2]), (17, .iushr, 1, 0, []), (18, .ldc_w 266, 3, 0, [858993459, 0, 627]), (21, .iand, 1, 0, []), (22, .iadd, 1, 0, []), (23, .istore_n 0, 1, 0, []),
  (24, .iload_n 0, 1, 0, []), (25, .iload_n 0, 1, 0, []), (26, .iconst 4, 1, 0, [4]), (27, .iushr, 1, 0, []), (28, .iadd, 1, 0, []), (29, .ldc_w 267, 3, 0, [252645135, 0, 628]),
  (32, .iand, 1, 0, []), (33, .istore_n 0, 1, 0, []), (34, .iload_n 0, 1, 0, []), (35, .iload_n 0, 1, 0, []), (36, .bipush 8, 2, 0, [8]), (38, .iushr, 1, 0, []),
  (39, .iadd, 1, 0, []), (40, .istore_n 0, 1, 0, []), (41, .iload_n 0, 1, 0, []), (42, .iload_n 0, 1, 0, []), (43, .bipush 16, 2, 0, [16]), (45, .iushr, 1, 0, []),
  (46, .iadd, 1, 0, []), (47, .istore_n 0, 1, 0, []), (48, .iload_n 0, 1, 0, []), (49, .bipush 63, 2, 0, [63]), (51, .iand, 1, 0, []), (52, .ireturn, 1, 2, [1])]
noncomputable def mt_57 : mm_M := (⟨"java/lang/Integer", "bitCount", "(I)I"⟩, prog_12_method_49_code, 1, (some (.int)), 0, 0, 12, 1, false)
/-- DeafArray$Plan.working()I -/
noncomputable def cd_58 : List mm_E := [
  (0, .aload_n 0, 1, 0, []), (1, .invokevirtual 41, 3, 1, [56, 1, 6, 1, 622, 91, 619, 620, 621, 0]), (4, .invokestatic 45, 3, 1, [57, 1, 0, 1, 625, 104, 623, 624, 0, 0]), (7, .ireturn, 1, 2, [1])]
noncomputable def mt_58 : mm_M := (⟨"DeafArray$Plan", "working", "()I"⟩, prog_7_method_8_code, 1, (some (.int)), 1, 20, 5, 0, false)
/-- DeafArray$Plan.wishCount()I -/
noncomputable def cd_59 : List mm_E := [
  (0, .aload_n 0, 1, 0, []), (1, .getfield 18, 3, 0, [5, 4, 139, 0]), (4, .iconst (-1), 1, 0, [4294967295]), (5, .if_icmp .ne 10, 3, 0, [7, 15]), (8, .aload_n 0, 1, 0, []), (9, .getfield 28, 3, 0, [5, 5, 143, 0]),
  (12, .goto 9, 3, 0, [11, 21]), (15, .aload_n 0, 1, 0, []), (16, .getfield 28, 3, 0, [5, 5, 143, 0]), (19, .iconst 1, 1, 0, [1]), (20, .iadd, 1, 0, []), (21, .ireturn, 1, 2, [1])]
noncomputable def mt_59 : mm_M := (⟨"DeafArray$Plan", "wishCount", "()I"⟩, prog_7_method_14_code, 1, (some (.int)), 0, 0, 5, 0, false)
/-- DeafArray.count(I)I -/
noncomputable def cd_60 : List mm_E := [
  (0, .aload_n 0, 1, 0, []), (1, .getfield 21, 3, 0, [8, 1, 417, 0]), (4, .getfield 85, 3, 0, [7, 0, 246, 1]), (7, .astore_n 2, 1, 0, []), (8, .iload_n 1, 1, 0, []), (9, .tableswitch 102 0 8 #[51, 56, 61, 66, 71, 76, 81, 86, 94], 51, 0, [35, 111, 6, 60, 9, 65, 12, 70, 15, 75, 18, 80, 21, 85, 24, 90, 27, 95, 31, 103]),
  (60, .aload_n 2, 1, 0, []), (61, .getfield 104, 3, 0, [5, 2, 135, 1]), (64, .ireturn, 1, 2, [1]), (65, .aload_n 2, 1, 0, []), (66, .invokevirtual 105, 3, 1, [58, 1, 6, 1, 618, 91, 615, 616, 617, 0]), (69, .ireturn, 1, 2, [1]),
  (70, .aload_n 2, 1, 0, []), (71, .getfield 109, 3, 0, [5, 6, 151, 1]), (74, .ireturn, 1, 2, [1]), (75, .aload_n 2, 1, 0, []), (76, .getfield 112, 3, 0, [5, 4, 141, 1]), (79, .ireturn, 1, 2, [1]),
  (80, .aload_n 2, 1, 0, []), (81, .invokevirtual 115, 3, 1, [31, 1, 6, 3, 588, 91, 629, 586, 587, 0]), (84, .ireturn, 1, 2, [1]), (85, .aload_n 2, 1, 0, []), (86, .invokevirtual 118, 3, 1, [59, 1, 6, 1, 633, 91, 630, 631, 632, 0]), (89, .ireturn, 1, 2, [1]),
  (90, .aload_n 2, 1, 0, []), (91, .getfield 98, 3, 0, [5, 7, 154, 1]), (94, .ireturn, 1, 2, [1]), (95, .aload_n 0, 1, 0, []), (96, .getfield 12, 3, 0, [8, 0, 416, 0]), (99, .getfield 71, 3, 0, [6, 2, 176, 1]),
  (102, .ireturn, 1, 2, [1]), (103, .aload_n 0, 1, 0, []), (104, .getfield 52, 3, 0, [8, 6, 422, 0]), (107, .getfield 121, 3, 0, [4, 1, 408, 1]), (110, .ireturn, 1, 2, [1]), (111, .iconst (-1), 1, 0, [4294967295]),
  (112, .ireturn, 1, 2, [1])]
noncomputable def mt_60 : mm_M := (⟨"DeafArray", "count", "(I)I"⟩, prog_1_method_6_code, 3, (some (.int)), 2, 40, 8, 1, false)
/-- DeafArrayModel.isBroken(I)Z -/
noncomputable def cd_61 : List mm_E := [
  (0, .aload_n 0, 1, 0, []), (1, .getfield 18, 3, 0, [9, 5, 1224, 0]), (4, .bipush 7, 2, 0, [7]), (6, .iload_n 1, 1, 0, []), (7, .iadd, 1, 0, []), (8, .iaload, 1, 0, []),
  (9, .iconst 1, 1, 0, [1]), (10, .if_icmp .ne 7, 3, 0, [10, 17]), (13, .iconst 1, 1, 0, [1]), (14, .goto 4, 3, 0, [11, 18]), (17, .iconst 0, 1, 0, [0]), (18, .ireturn, 1, 2, [2])]
noncomputable def mt_61 : mm_M := (⟨"DeafArrayModel", "isBroken", "(I)Z"⟩, prog_11_method_18_code, 2, (some (.boolean)), 0, 0, 9, 1, false)
/-- DeafArrayModel.whole()I -/
noncomputable def cd_62 : List mm_E := [
  (0, .iconst 0, 1, 0, [0]), (1, .istore_n 1, 1, 0, []), (2, .iconst 0, 1, 0, [0]), (3, .istore_n 2, 1, 0, []), (4, .iload_n 2, 1, 0, []), (5, .aload_n 0, 1, 0, []),
  (6, .getfield 18, 3, 0, [9, 5, 1224, 0]), (9, .iconst 1, 1, 0, [1]), (10, .iaload, 1, 0, []), (11, .if_icmp .ge 25, 3, 0, [22, 36]), (14, .iload_n 1, 1, 0, []), (15, .aload_n 0, 1, 0, []),
  (16, .iload_n 2, 1, 0, []), (17, .invokevirtual 114, 3, 1, [61, 2, 10, 2, 1425, 99, 1422, 1424, 44, 0]), (20, .ifCond .eq 7, 3, 0, [17, 27]), (23, .iconst 0, 1, 0, [0]), (24, .goto 4, 3, 0, [18, 28]), (27, .iconst 1, 1, 0, [1]),
  (28, .iadd, 1, 0, []), (29, .istore_n 1, 1, 0, []), (30, .iinc 2 1, 3, 0, []), (33, .goto (-29), 3, 0, [4, 4]), (36, .iload_n 1, 1, 0, []), (37, .ireturn, 1, 2, [1])]
noncomputable def mt_62 : mm_M := (⟨"DeafArrayModel", "whole", "()I"⟩, prog_11_method_22_code, 3, (some (.int)), 1, 21, 9, 0, false)
/-- DeafArrayModel.lookNow()I -/
noncomputable def cd_63 : List mm_E := [
  (0, .aload_n 0, 1, 0, []), (1, .getfield 18, 3, 0, [9, 5, 1224, 0]), (4, .bipush 12, 2, 0, [12]), (6, .iaload, 1, 0, []), (7, .iconst 1, 1, 0, [1]), (8, .isub, 1, 0, []),
  (9, .ireturn, 1, 2, [1])]
noncomputable def mt_63 : mm_M := (⟨"DeafArrayModel", "lookNow", "()I"⟩, prog_11_method_20_code, 1, (some (.int)), 0, 0, 9, 0, false)
/-- DeafArrayModel.count(I)I -/
noncomputable def cd_64 : List mm_E := [
  (0, .iconst 0, 1, 0, [0]), (1, .istore_n 2, 1, 0, []), (2, .iconst 0, 1, 0, [0]), (3, .istore_n 3, 1, 0, []), (4, .iload_n 3, 1, 0, []), (5, .aload_n 0, 1, 0, []),
  (6, .getfield 18, 3, 0, [9, 5, 1224, 0]), (9, .bipush 13, 2, 0, [13]), (11, .iaload, 1, 0, []), (12, .if_icmp .ge 23, 3, 0, [23, 35]), (15, .iload_n 2, 1, 0, []), (16, .iconst 1, 1, 0, [1]),
  (17, .aload_n 0, 1, 0, []), (18, .getfield 18, 3, 0, [9, 5, 1224, 0]), (21, .bipush 14, 2, 0, [14]), (23, .iload_n 3, 1, 0, []), (24, .iadd, 1, 0, []), (25, .iaload, 1, 0, []),
  (26, .ishl, 1, 0, []), (27, .ior, 1, 0, []), (28, .istore_n 2, 1, 0, []), (29, .iinc 3 1, 3, 0, []), (32, .goto (-28), 3, 0, [4, 4]), (35, .iload_n 1, 1, 0, []),
  (36, .tableswitch 120 0 8 #[52, 59, 64, 71, 76, 78, 102, 110, 115], 52, 0, [68, 156, 25, 88, 30, 95, 33, 100, 38, 107, 41, 112, 43, 114, 57, 138, 62, 146, 65, 151]), (88, .aload_n 0, 1, 0, []), (89, .getfield 18, 3, 0, [9, 5, 1224, 0]), (92, .iconst 1, 1, 0, [1]), (93, .iaload, 1, 0, []), (94, .ireturn, 1, 2, [1]),
  (95, .aload_n 0, 1, 0, []), (96, .invokevirtual 282, 3, 1, [62, 1, 10, 3, 1421, 99, 1418, 1420, 43, 0]), (99, .ireturn, 1, 2, [1]), (100, .aload_n 0, 1, 0, []), (101, .getfield 18, 3, 0, [9, 5, 1224, 0]), (104, .iconst 0, 1, 0, [0]),
  (105, .iaload, 1, 0, []), (106, .ireturn, 1, 2, [1]), (107, .aload_n 0, 1, 0, []), (108, .invokevirtual 184, 3, 1, [63, 1, 10, 1, 1429, 99, 1426, 1428, 45, 0]), (111, .ireturn, 1, 2, [1]), (112, .iload_n 2, 1, 0, []),
  (113, .ireturn, 1, 2, [1]), (114, .aload_n 0, 1, 0, []), (115, .getfield 18, 3, 0, [9, 5, 1224, 0]), (118, .bipush 13, 2, 0, [13]), (120, .iaload, 1, 0, []), (121, .aload_n 0, 1, 0, []),
  (122, .getfield 18, 3, 0, [9, 5, 1224, 0]), (125, .bipush 12, 2, 0, [12]), (127, .iaload, 1, 0, []), (128, .ifCond .le 7, 3, 0, [54, 135]), (131, .iconst 1, 1, 0, [1]), (132, .goto 4, 3, 0, [55, 136]),
  (135, .iconst 0, 1, 0, [0]), (136, .iadd, 1, 0, []), (137, .ireturn, 1, 2, [1]), (138, .aload_n 0, 1, 0, []), (139, .getfield 18, 3, 0, [9, 5, 1224, 0]), (142, .bipush 18, 2, 0, [18]),
  (144, .iaload, 1, 0, []), (145, .ireturn, 1, 2, [1]), (146, .aload_n 0, 1, 0, []), (147, .getfield 191, 3, 0, [9, 21, 1240, 0]), (150, .ireturn, 1, 2, [1]), (151, .aload_n 0, 1, 0, []),
  (152, .getfield 285, 3, 0, [9, 38, 1257, 0]), (155, .ireturn, 1, 2, [1]), (156, .iconst (-1), 1, 0, [4294967295]), (157, .ireturn, 1, 2, [1])]
noncomputable def mt_64 : mm_M := (⟨"DeafArrayModel", "count", "(I)I"⟩, prog_11_method_47_code, 4, (some (.int)), 2, 43, 9, 1, false)
/-- DeafArray.isAmong(II)Z -/
noncomputable def cd_65 : List mm_E := [
  (0, .iload_n 0, 1, 0, []), (1, .ifCond .lt 12, 3, 0, [7, 13]), (4, .iload_n 0, 1, 0, []), (5, .iload_n 1, 1, 0, []), (6, .if_icmp .ge 7, 3, 0, [7, 13]), (9, .iconst 1, 1, 0, [1]),
  (10, .goto 4, 3, 0, [8, 14]), (13, .iconst 0, 1, 0, [0]), (14, .ireturn, 1, 2, [2])]
noncomputable def mt_65 : mm_M := (⟨"DeafArray", "isAmong", "(II)Z"⟩, prog_1_method_71_code, 2, (some (.boolean)), 0, 0, 8, 2, false)
/-- DeafArray$Plan.has(I)Z -/
noncomputable def cd_66 : List mm_E := [
  (0, .iload_n 1, 1, 0, []), (1, .aload_n 0, 1, 0, []), (2, .getfield 22, 3, 0, [5, 2, 132, 0]), (5, .invokestatic 37, 3, 1, [65, 2, 0, 2, 644, 89, 642, 643, 0, 1]), (8, .ireturn, 1, 2, [2])]
noncomputable def mt_66 : mm_M := (⟨"DeafArray$Plan", "has", "(I)Z"⟩, prog_7_method_5_code, 2, (some (.boolean)), 1, 21, 5, 1, false)
/-- DeafArray$Plan.works(I)Z -/
noncomputable def cd_67 : List mm_E := [
  (0, .aload_n 0, 1, 0, []), (1, .getfield 25, 3, 0, [5, 3, 137, 0]), (4, .iload_n 1, 1, 0, []), (5, .ishr, 1, 0, []), (6, .iconst 1, 1, 0, [1]), (7, .iand, 1, 0, []),
  (8, .ifCond .ne 7, 3, 0, [9, 15]), (11, .iconst 1, 1, 0, [1]), (12, .goto 4, 3, 0, [10, 16]), (15, .iconst 0, 1, 0, [0]), (16, .ireturn, 1, 2, [2])]
noncomputable def mt_67 : mm_M := (⟨"DeafArray$Plan", "works", "(I)Z"⟩, prog_7_method_6_code, 2, (some (.boolean)), 0, 0, 5, 1, false)
/-- DeafArray.element(II)I -/
noncomputable def cd_68 : List mm_E := [
  (0, .aload_n 0, 1, 0, []), (1, .getfield 21, 3, 0, [8, 1, 417, 0]), (4, .getfield 85, 3, 0, [7, 0, 246, 1]), (7, .iload_n 1, 1, 0, []), (8, .invokevirtual 122, 3, 1, [66, 2, 6, 2, 641, 91, 638, 639, 640, 0]), (11, .ifCond .eq 11, 3, 0, [10, 22]),
  (14, .iload_n 2, 1, 0, []), (15, .iconst 2, 1, 0, [2]), (16, .invokestatic 126, 3, 1, [65, 2, 0, 2, 644, 89, 645, 643, 0, 0]), (19, .ifCond .ne 6, 3, 0, [12, 25]), (22, .bipush (-2), 2, 0, [4294967294]), (24, .ireturn, 1, 2, [1]),
  (25, .iload_n 2, 1, 0, []), (26, .ifCond .ne 16, 3, 0, [21, 42]), (29, .aload_n 0, 1, 0, []), (30, .getfield 21, 3, 0, [8, 1, 417, 0]), (33, .getfield 85, 3, 0, [7, 0, 246, 1]), (36, .getfield 130, 3, 0, [5, 0, 126, 1]),
  (39, .iload_n 1, 1, 0, []), (40, .iaload, 1, 0, []), (41, .ireturn, 1, 2, [1]), (42, .aload_n 0, 1, 0, []), (43, .getfield 21, 3, 0, [8, 1, 417, 0]), (46, .getfield 85, 3, 0, [7, 0, 246, 1]),
  (49, .iload_n 1, 1, 0, []), (50, .invokevirtual 134, 3, 1, [67, 2, 6, 2, 649, 91, 646, 647, 648, 0]), (53, .ifCond .eq 7, 3, 0, [29, 60]), (56, .iconst 0, 1, 0, [0]), (57, .goto 4, 3, 0, [30, 61]), (60, .iconst 1, 1, 0, [1]),
  (61, .ireturn, 1, 2, [1])]
noncomputable def mt_68 : mm_M := (⟨"DeafArray", "element", "(II)I"⟩, prog_1_method_7_code, 3, (some (.int)), 2, 42, 8, 2, false)
/-- DeafArrayModel.isElement(I)Z -/
noncomputable def cd_69 : List mm_E := [
  (0, .iload_n 1, 1, 0, []), (1, .i2l, 1, 0, []), (2, .lconst 0, 1, 0, [0]), (3, .aload_n 0, 1, 0, []), (4, .getfield 18, 3, 0, [9, 5, 1224, 0]), (7, .iconst 1, 1, 0, [1]),
  (8, .iaload, 1, 0, []), (9, .iconst 1, 1, 0, [1]), (10, .isub, 1, 0, []), (11, .i2l, 1, 0, []), (12, .invokestatic 108, 3, 1, [16, 3, 0, 6, 1347, 99, 1345, 1346, 0, 0]), (15, .ireturn, 1, 2, [2])]
noncomputable def mt_69 : mm_M := (⟨"DeafArrayModel", "isElement", "(I)Z"⟩, prog_11_method_17_code, 2, (some (.boolean)), 1, 25, 9, 1, false)
/-- DeafArrayModel.element(II)I -/
noncomputable def cd_70 : List mm_E := [
  (0, .aload_n 0, 1, 0, []), (1, .iload_n 1, 1, 0, []), (2, .invokevirtual 288, 3, 1, [69, 2, 10, 2, 1437, 99, 1434, 1436, 46, 0]), (5, .ifCond .eq 33, 3, 0, [21, 38]), (8, .iload_n 2, 1, 0, []), (9, .i2l, 1, 0, []),
  (10, .lconst 0, 1, 0, [0]), (11, .lconst 1, 1, 0, [1]), (12, .invokestatic 108, 3, 1, [16, 3, 0, 6, 1347, 99, 1345, 1346, 0, 0]), (15, .ifCond .eq 23, 3, 0, [21, 38]), (18, .aload_n 0, 1, 0, []), (19, .getfield 18, 3, 0, [9, 5, 1224, 0]),
  (22, .iload_n 2, 1, 0, []), (23, .ifCond .ne 7, 3, 0, [16, 30]), (26, .iconst 2, 1, 0, [2]), (27, .goto 5, 3, 0, [17, 32]), (30, .bipush 7, 2, 0, [7]), (32, .iload_n 1, 1, 0, []),
  (33, .iadd, 1, 0, []), (34, .iaload, 1, 0, []), (35, .goto 5, 3, 0, [22, 40]), (38, .bipush (-2), 2, 0, [4294967294]), (40, .ireturn, 1, 2, [1])]
noncomputable def mt_70 : mm_M := (⟨"DeafArrayModel", "element", "(II)I"⟩, prog_11_method_48_code, 3, (some (.int)), 2, 46, 9, 2, false)
/-- DeafArray.isDirection(I)Z -/
noncomputable def cd_71 : List mm_E := [
  (0, .iload_n 0, 1, 0, []), (1, .bipush 12, 2, 0, [12]), (3, .invokestatic 126, 3, 1, [65, 2, 0, 2, 644, 89, 645, 643, 0, 0]), (6, .ireturn, 1, 2, [2])]
noncomputable def mt_71 : mm_M := (⟨"DeafArray", "isDirection", "(I)Z"⟩, prog_1_method_70_code, 1, (some (.boolean)), 1, 21, 8, 1, false)
/-- DeafArray.hears(II)I -/
noncomputable def cd_72 : List mm_E := [
  (0, .aload_n 0, 1, 0, []), (1, .getfield 21, 3, 0, [8, 1, 417, 0]), (4, .getfield 85, 3, 0, [7, 0, 246, 1]), (7, .iload_n 1, 1, 0, []), (8, .invokevirtual 122, 3, 1, [66, 2, 6, 2, 641, 91, 638, 639, 640, 0]), (11, .ifCond .eq 10, 3, 0, [9, 21]),
  (14, .iload_n 2, 1, 0, []), (15, .invokestatic 137, 3, 1, [71, 1, 0, 1, 656, 89, 654, 655, 0, 0]), (18, .ifCond .ne 6, 3, 0, [11, 24]), (21, .bipush (-2), 2, 0, [4294967294]), (23, .ireturn, 1, 2, [1]), (24, .iload_n 2, 1, 0, []),
  (25, .aload_n 0, 1, 0, []), (26, .getfield 21, 3, 0, [8, 1, 417, 0]), (29, .getfield 85, 3, 0, [7, 0, 246, 1]), (32, .getfield 130, 3, 0, [5, 0, 126, 1]), (35, .iload_n 1, 1, 0, []), (36, .iaload, 1, 0, []),
  (37, .imul, 1, 0, []), (38, .bipush 12, 2, 0, [12]), (40, .irem, 1, 0, []), (41, .ireturn, 1, 2, [1])]
noncomputable def mt_72 : mm_M := (⟨"DeafArray", "hears", "(II)I"⟩, prog_1_method_8_code, 3, (some (.int)), 2, 42, 8, 2, false)
/-- DeafArrayModel.isDirection(I)Z -/
noncomputable def cd_73 : List mm_E := [
  (0, .iload_n 0, 1, 0, []), (1, .i2l, 1, 0, []), (2, .lconst 0, 1, 0, [0]), (3, .ldc2_w 112, 3, 0, [11, 0, 1445]), (6, .invokestatic 108, 3, 1, [16, 3, 0, 6, 1347, 99, 1345, 1346, 0, 0]), (9, .ireturn, 1, 2, [2])]
noncomputable def mt_73 : mm_M := (⟨"DeafArrayModel", "isDirection", "(I)Z"⟩, prog_11_method_19_code, 1, (some (.boolean)), 1, 25, 9, 1, false)
/-- DeafArrayModel.hears(II)I -/
noncomputable def cd_74 : List mm_E := [
  (0, .aload_n 0, 1, 0, []), (1, .iload_n 1, 1, 0, []), (2, .invokevirtual 288, 3, 1, [69, 2, 10, 2, 1437, 99, 1434, 1436, 46, 0]), (5, .ifCond .eq 26, 3, 0, [18, 31]), (8, .iload_n 2, 1, 0, []), (9, .invokestatic 291, 3, 1, [73, 1, 0, 1, 1444, 99, 1442, 1443, 0, 0]),
  (12, .ifCond .eq 19, 3, 0, [18, 31]), (15, .iload_n 2, 1, 0, []), (16, .aload_n 0, 1, 0, []), (17, .getfield 18, 3, 0, [9, 5, 1224, 0]), (20, .iconst 2, 1, 0, [2]), (21, .iload_n 1, 1, 0, []),
  (22, .iadd, 1, 0, []), (23, .iaload, 1, 0, []), (24, .imul, 1, 0, []), (25, .bipush 12, 2, 0, [12]), (27, .irem, 1, 0, []), (28, .goto 5, 3, 0, [19, 33]),
  (31, .bipush (-2), 2, 0, [4294967294]), (33, .ireturn, 1, 2, [1])]
noncomputable def mt_74 : mm_M := (⟨"DeafArrayModel", "hears", "(II)I"⟩, prog_11_method_49_code, 3, (some (.int)), 2, 46, 9, 2, false)
/-- DeafArray$Solver.listWishes()V -/
noncomputable def cd_75 : List mm_E := [
  (0, .aload_n 0, 1, 0, []), (1, .iconst 0, 1, 0, [0]), (2, .putfield 92, 3, 0, [7, 11, 266, 0]), (5, .aload_n 0, 1, 0, []), (6, .getfield 12, 3, 0, [7, 0, 244, 0]), (9, .getfield 66, 3, 0, [5, 4, 140, 1]),
  (12, .iconst (-1), 1, 0, [4294967295]), (13, .if_icmp .eq 21, 3, 0, [18, 34]), (16, .aload_n 0, 1, 0, []), (17, .getfield 18, 3, 0, [7, 1, 247, 0]), (20, .iconst 0, 1, 0, [0]), (21, .aload_n 0, 1, 0, []),
  (22, .getfield 12, 3, 0, [7, 0, 244, 0]), (25, .getfield 66, 3, 0, [5, 4, 140, 1]), (28, .iastore, 1, 0, []), (29, .aload_n 0, 1, 0, []), (30, .iconst 1, 1, 0, [1]), (31, .putfield 92, 3, 0, [7, 11, 266, 0]),
  (34, .iconst 0, 1, 0, [0]), (35, .istore_n 1, 1, 0, []), (36, .iload_n 1, 1, 0, []), (37, .aload_n 0, 1, 0, []), (38, .getfield 12, 3, 0, [7, 0, 244, 0]), (41, .getfield 95, 3, 0, [5, 5, 144, 1]),
  (44, .if_icmp .ge 45, 3, 0, [47, 89]), (47, .aload_n 0, 1, 0, []), (48, .getfield 92, 3, 0, [7, 11, 266, 0]), (51, .iconst 5, 1, 0, [5]), (52, .if_icmp .ge 37, 3, 0, [47, 89]), (55, .aload_n 0, 1, 0, []),
  (56, .getfield 18, 3, 0, [7, 1, 247, 0]), (59, .aload_n 0, 1, 0, []), (60, .getfield 92, 3, 0, [7, 11, 266, 0]), (63, .aload_n 0, 1, 0, []), (64, .getfield 12, 3, 0, [7, 0, 244, 0]), (67, .getfield 98, 3, 0, [5, 1, 130, 1]),
  (70, .iload_n 1, 1, 0, []), (71, .iaload, 1, 0, []), (72, .iastore, 1, 0, []), (73, .aload_n 0, 1, 0, []), (74, .dup, 1, 0, []), (75, .getfield 92, 3, 0, [7, 11, 266, 0]),
  (78, .iconst 1, 1, 0, [1]), (79, .iadd, 1, 0, []), (80, .putfield 92, 3, 0, [7, 11, 266, 0]), (83, .iinc 1 1, 3, 0, []), (86, .goto (-50), 3, 0, [20, 36]), (89, .return_, 1, 2, [0])]
noncomputable def mt_75 : mm_M := (⟨"DeafArray$Solver", "listWishes", "()V"⟩, prog_9_method_4_code, 2, none, 0, 0, 7, 0, false)
/-- DeafArray$Num.clear()V -/
noncomputable def cd_76 : List mm_E := [
  (0, .aload_n 0, 1, 0, []), (1, .lconst 0, 1, 0, [0]), (2, .putfield 7, 3, 0, [3, 0, 226, 0]), (5, .aload_n 0, 1, 0, []), (6, .lconst 0, 1, 0, [0]), (7, .putfield 13, 3, 0, [3, 1, 228, 0]),
  (10, .aload_n 0, 1, 0, []), (11, .lconst 0, 1, 0, [0]), (12, .putfield 16, 3, 0, [3, 2, 230, 0]), (15, .aload_n 0, 1, 0, []), (16, .lconst 0, 1, 0, [0]), (17, .putfield 19, 3, 0, [3, 3, 232, 0]),
  (20, .return_, 1, 2, [0])]
noncomputable def mt_76 : mm_M := (⟨"DeafArray$Num", "clear", "()V"⟩, prog_5_method_2_code, 1, none, 0, 0, 3, 0, false)
/-- DeafArray$Num.addRoot(I)V -/
noncomputable def cd_77 : List mm_E := [
  (0, .iload_n 1, 1, 0, []), (1, .bipush 12, 2, 0, [12]), (3, .irem, 1, 0, []), (4, .bipush 6, 2, 0, [6]), (6, .if_icmp .ge 7, 3, 0, [7, 13]), (9, .iconst 1, 1, 0, [1]),
  (10, .goto 4, 3, 0, [8, 14]), (13, .iconst (-1), 1, 0, [4294967295]), (14, .istore_n 2, 1, 0, []), (15, .iload_n 1, 1, 0, []), (16, .bipush 6, 2, 0, [6]), (18, .irem, 1, 0, []),
  (19, .tableswitch 114 0 4 #[33, 47, 61, 75, 89], 33, 0, [60, 133, 13, 52, 21, 66, 29, 80, 37, 94, 45, 108]), (52, .aload_n 0, 1, 0, []), (53, .dup, 1, 0, []), (54, .getfield 7, 3, 0, [3, 0, 226, 0]), (57, .iload_n 2, 1, 0, []), (58, .i2l, 1, 0, []),
  (59, .ladd, 1, 0, []), (60, .putfield 7, 3, 0, [3, 0, 226, 0]), (63, .goto 92, 3, 0, [74, 155]), (66, .aload_n 0, 1, 0, []), (67, .dup, 1, 0, []), (68, .getfield 13, 3, 0, [3, 1, 228, 0]),
  (71, .iload_n 2, 1, 0, []), (72, .i2l, 1, 0, []), (73, .ladd, 1, 0, []), (74, .putfield 13, 3, 0, [3, 1, 228, 0]), (77, .goto 78, 3, 0, [74, 155]), (80, .aload_n 0, 1, 0, []),
  (81, .dup, 1, 0, []), (82, .getfield 16, 3, 0, [3, 2, 230, 0]), (85, .iload_n 2, 1, 0, []), (86, .i2l, 1, 0, []), (87, .ladd, 1, 0, []), (88, .putfield 16, 3, 0, [3, 2, 230, 0]),
  (91, .goto 64, 3, 0, [74, 155]), (94, .aload_n 0, 1, 0, []), (95, .dup, 1, 0, []), (96, .getfield 19, 3, 0, [3, 3, 232, 0]), (99, .iload_n 2, 1, 0, []), (100, .i2l, 1, 0, []),
  (101, .ladd, 1, 0, []), (102, .putfield 19, 3, 0, [3, 3, 232, 0]), (105, .goto 50, 3, 0, [74, 155]), (108, .aload_n 0, 1, 0, []), (109, .dup, 1, 0, []), (110, .getfield 7, 3, 0, [3, 0, 226, 0]),
  (113, .iload_n 2, 1, 0, []), (114, .i2l, 1, 0, []), (115, .lsub, 1, 0, []), (116, .putfield 7, 3, 0, [3, 0, 226, 0]), (119, .aload_n 0, 1, 0, []), (120, .dup, 1, 0, []),
  (121, .getfield 16, 3, 0, [3, 2, 230, 0]), (124, .iload_n 2, 1, 0, []), (125, .i2l, 1, 0, []), (126, .ladd, 1, 0, []), (127, .putfield 16, 3, 0, [3, 2, 230, 0]), (130, .goto 25, 3, 0, [74, 155]),
  (133, .aload_n 0, 1, 0, []), (134, .dup, 1, 0, []), (135, .getfield 13, 3, 0, [3, 1, 228, 0]), (138, .iload_n 2, 1, 0, []), (139, .i2l, 1, 0, []), (140, .lsub, 1, 0, []),
  (141, .putfield 13, 3, 0, [3, 1, 228, 0]), (144, .aload_n 0, 1, 0, []), (145, .dup, 1, 0, []), (146, .getfield 19, 3, 0, [3, 3, 232, 0]), (149, .iload_n 2, 1, 0, []), (150, .i2l, 1, 0, []),
  (151, .ladd, 1, 0, []), (152, .putfield 19, 3, 0, [3, 3, 232, 0]), (155, .return_, 1, 2, [0])]
noncomputable def mt_77 : mm_M := (⟨"DeafArray$Num", "addRoot", "(I)V"⟩, prog_5_method_10_code, 3, none, 0, 0, 3, 1, false)
/-- DeafArray$Plan.meet(IILDeafArray$Num;)V -/
noncomputable def cd_78 : List mm_E := [
  (0, .aload_n 3, 1, 0, []), (1, .invokevirtual 75, 3, 1, [76, 1, 4, 1, 684, 94, 681, 682, 683, 0]), (4, .iload_n 1, 1, 0, []), (5, .iload_n 2, 1, 0, []), (6, .isub, 1, 0, []), (7, .bipush 12, 2, 0, [12]),
  (9, .iadd, 1, 0, []), (10, .bipush 12, 2, 0, [12]), (12, .irem, 1, 0, []), (13, .istore 4, 2, 0, []), (15, .iconst 0, 1, 0, [0]), (16, .istore 5, 2, 0, []),
  (18, .iload 5, 2, 0, []), (20, .aload_n 0, 1, 0, []), (21, .getfield 22, 3, 0, [5, 2, 132, 0]), (24, .if_icmp .ge 32, 3, 0, [30, 56]), (27, .aload_n 0, 1, 0, []), (28, .iload 5, 2, 0, []),
  (30, .invokevirtual 65, 3, 1, [67, 2, 6, 2, 649, 91, 685, 647, 648, 0]), (33, .ifCond .eq 17, 3, 0, [28, 50]), (36, .aload_n 3, 1, 0, []), (37, .iload 4, 2, 0, []), (39, .aload_n 0, 1, 0, []), (40, .getfield 9, 3, 0, [5, 0, 125, 0]),
  (43, .iload 5, 2, 0, []), (45, .iaload, 1, 0, []), (46, .imul, 1, 0, []), (47, .invokevirtual 80, 3, 1, [77, 2, 4, 3, 689, 94, 686, 687, 688, 0]), (50, .iinc 5 1, 3, 0, []), (53, .goto (-35), 3, 0, [12, 18]),
  (56, .return_, 1, 2, [0])]
noncomputable def mt_78 : mm_M := (⟨"DeafArray$Plan", "meet", "(IILDeafArray$Num;)V"⟩, prog_7_method_21_code, 6, none, 1, 22, 5, 3, false)
/-- DeafArray$Solver.fillForm()V -/
noncomputable def cd_79 : List mm_E := [
  (0, .iconst 0, 1, 0, [0]), (1, .istore_n 1, 1, 0, []), (2, .iload_n 1, 1, 0, []), (3, .aload_n 0, 1, 0, []), (4, .getfield 92, 3, 0, [7, 11, 266, 0]), (7, .if_icmp .ge 69, 3, 0, [44, 76]),
  (10, .iload_n 1, 1, 0, []), (11, .istore_n 2, 1, 0, []), (12, .iload_n 2, 1, 0, []), (13, .aload_n 0, 1, 0, []), (14, .getfield 92, 3, 0, [7, 11, 266, 0]), (17, .if_icmp .ge 39, 3, 0, [33, 56]),
  (20, .aload_n 0, 1, 0, []), (21, .getfield 12, 3, 0, [7, 0, 244, 0]), (24, .aload_n 0, 1, 0, []), (25, .getfield 18, 3, 0, [7, 1, 247, 0]), (28, .iload_n 1, 1, 0, []), (29, .iaload, 1, 0, []),
  (30, .aload_n 0, 1, 0, []), (31, .getfield 18, 3, 0, [7, 1, 247, 0]), (34, .iload_n 2, 1, 0, []), (35, .iaload, 1, 0, []), (36, .aload_n 0, 1, 0, []), (37, .getfield 30, 3, 0, [7, 3, 251, 0]),
  (40, .iload_n 1, 1, 0, []), (41, .bipush 6, 2, 0, [6]), (43, .imul, 1, 0, []), (44, .iload_n 2, 1, 0, []), (45, .iadd, 1, 0, []), (46, .aaload, 1, 0, []),
  (47, .invokevirtual 101, 3, 1, [78, 4, 6, 6, 680, 91, 677, 678, 679, 0]), (50, .iinc 2 1, 3, 0, []), (53, .goto (-41), 3, 0, [8, 12]), (56, .aload_n 0, 1, 0, []), (57, .getfield 30, 3, 0, [7, 3, 251, 0]), (60, .iload_n 1, 1, 0, []),
  (61, .bipush 6, 2, 0, [6]), (63, .imul, 1, 0, []), (64, .iconst 5, 1, 0, [5]), (65, .iadd, 1, 0, []), (66, .aaload, 1, 0, []), (67, .invokevirtual 105, 3, 1, [76, 1, 4, 1, 684, 94, 690, 682, 683, 0]),
  (70, .iinc 1 1, 3, 0, []), (73, .goto (-71), 3, 0, [2, 2]), (76, .aload_n 0, 1, 0, []), (77, .getfield 12, 3, 0, [7, 0, 244, 0]), (80, .getfield 66, 3, 0, [5, 4, 140, 1]), (83, .iconst (-1), 1, 0, [4294967295]),
  (84, .if_icmp .eq 13, 3, 0, [55, 97]), (87, .aload_n 0, 1, 0, []), (88, .getfield 30, 3, 0, [7, 3, 251, 0]), (91, .iconst 5, 1, 0, [5]), (92, .aaload, 1, 0, []), (93, .iconst 0, 1, 0, [0]),
  (94, .invokevirtual 108, 3, 1, [77, 2, 4, 3, 689, 94, 691, 687, 688, 0]), (97, .return_, 1, 2, [0])]
noncomputable def mt_79 : mm_M := (⟨"DeafArray$Solver", "fillForm", "()V"⟩, prog_9_method_5_code, 3, none, 2, 47, 7, 0, false)
/-- DeafArray$Num.isZero()Z -/
noncomputable def cd_80 : List mm_E := [
  (0, .aload_n 0, 1, 0, []), (1, .getfield 7, 3, 0, [3, 0, 226, 0]), (4, .lconst 0, 1, 0, [0]), (5, .lcmp, 1, 0, []), (6, .ifCond .ne 34, 3, 0, [22, 40]), (9, .aload_n 0, 1, 0, []),
  (10, .getfield 13, 3, 0, [3, 1, 228, 0]), (13, .lconst 0, 1, 0, [0]), (14, .lcmp, 1, 0, []), (15, .ifCond .ne 25, 3, 0, [22, 40]), (18, .aload_n 0, 1, 0, []), (19, .getfield 16, 3, 0, [3, 2, 230, 0]),
  (22, .lconst 0, 1, 0, [0]), (23, .lcmp, 1, 0, []), (24, .ifCond .ne 16, 3, 0, [22, 40]), (27, .aload_n 0, 1, 0, []), (28, .getfield 19, 3, 0, [3, 3, 232, 0]), (31, .lconst 0, 1, 0, [0]),
  (32, .lcmp, 1, 0, []), (33, .ifCond .ne 7, 3, 0, [22, 40]), (36, .iconst 1, 1, 0, [1]), (37, .goto 4, 3, 0, [23, 41]), (40, .iconst 0, 1, 0, [0]), (41, .ireturn, 1, 2, [2])]
noncomputable def mt_80 : mm_M := (⟨"DeafArray$Num", "isZero", "()Z"⟩, prog_5_method_4_code, 1, (some (.boolean)), 0, 0, 3, 0, false)
/-- DeafArray$Solver.normOf(JJ)J -/
noncomputable def cd_81 : List mm_E := [
  (0, .lload_n 0, 1, 0, []), (1, .lload_n 0, 1, 0, []), (2, .lmul, 1, 0, []), (3, .ldc2_w 159, 3, 0, [3, 0, 707]), (6, .lload_n 2, 1, 0, []), (7, .lmul, 1, 0, []),
  (8, .lload_n 2, 1, 0, []), (9, .lmul, 1, 0, []), (10, .lsub, 1, 0, []), (11, .lreturn, 1, 2, [3])]
noncomputable def mt_81 : mm_M := (⟨"DeafArray$Solver", "normOf", "(JJ)J"⟩, prog_9_method_8_code, 4, (some (.long)), 0, 0, 7, 2, false)
/-- DeafArray$Num.mirror(LDeafArray$Num;)V -/
noncomputable def cd_82 : List mm_E := [
  (0, .aload_n 0, 1, 0, []), (1, .aload_n 1, 1, 0, []), (2, .getfield 7, 3, 0, [3, 0, 226, 0]), (5, .aload_n 1, 1, 0, []), (6, .getfield 16, 3, 0, [3, 2, 230, 0]), (9, .ladd, 1, 0, []),
  (10, .putfield 7, 3, 0, [3, 0, 226, 0]), (13, .aload_n 0, 1, 0, []), (14, .aload_n 1, 1, 0, []), (15, .getfield 13, 3, 0, [3, 1, 228, 0]), (18, .putfield 13, 3, 0, [3, 1, 228, 0]), (21, .aload_n 0, 1, 0, []),
  (22, .aload_n 1, 1, 0, []), (23, .getfield 16, 3, 0, [3, 2, 230, 0]), (26, .lneg, 1, 0, []), (27, .putfield 16, 3, 0, [3, 2, 230, 0]), (30, .aload_n 0, 1, 0, []), (31, .aload_n 1, 1, 0, []),
  (32, .getfield 13, 3, 0, [3, 1, 228, 0]), (35, .lneg, 1, 0, []), (36, .aload_n 1, 1, 0, []), (37, .getfield 19, 3, 0, [3, 3, 232, 0]), (40, .lsub, 1, 0, []), (41, .putfield 19, 3, 0, [3, 3, 232, 0]),
  (44, .return_, 1, 2, [0])]
noncomputable def mt_82 : mm_M := (⟨"DeafArray$Num", "mirror", "(LDeafArray$Num;)V"⟩, prog_5_method_12_code, 2, none, 0, 0, 3, 1, false)
/-- DeafArray$Num.multiply(LDeafArray$Num;LDeafArray$Num;)V -/
noncomputable def cd_83 : List mm_E := [
  (0, .aload_n 1, 1, 0, []), (1, .getfield 13, 3, 0, [3, 1, 228, 0]), (4, .aload_n 2, 1, 0, []), (5, .getfield 19, 3, 0, [3, 3, 232, 0]), (8, .lmul, 1, 0, []), (9, .aload_n 1, 1, 0, []),
  (10, .getfield 16, 3, 0, [3, 2, 230, 0]), (13, .aload_n 2, 1, 0, []), (14, .getfield 16, 3, 0, [3, 2, 230, 0]), (17, .lmul, 1, 0, []), (18, .ladd, 1, 0, []), (19, .aload_n 1, 1, 0, []),
  (20, .getfield 19, 3, 0, [3, 3, 232, 0]), (23, .aload_n 2, 1, 0, []), (24, .getfield 13, 3, 0, [3, 1, 228, 0]), (27, .lmul, 1, 0, []), (28, .ladd, 1, 0, []), (29, .lstore_n 3, 1, 0, []),
  (30, .aload_n 1, 1, 0, []), (31, .getfield 16, 3, 0, [3, 2, 230, 0]), (34, .aload_n 2, 1, 0, []), (35, .getfield 19, 3, 0, [3, 3, 232, 0]), (38, .lmul, 1, 0, []), (39, .aload_n 1, 1, 0, []),
  (40, .getfield 19, 3, 0, [3, 3, 232, 0]), (43, .aload_n 2, 1, 0, []), (44, .getfield 16, 3, 0, [3, 2, 230, 0]), (47, .lmul, 1, 0, []), (48, .ladd, 1, 0, []), (49, .lstore 5, 2, 0, []),
  (51, .aload_n 0, 1, 0, []), (52, .aload_n 1, 1, 0, []), (53, .getfield 7, 3, 0, [3, 0, 226, 0]), (56, .aload_n 2, 1, 0, []), (57, .getfield 7, 3, 0, [3, 0, 226, 0]), (60, .lmul, 1, 0, []),
  (61, .lload_n 3, 1, 0, []), (62, .lsub, 1, 0, []), (63, .aload_n 1, 1, 0, []), (64, .getfield 19, 3, 0, [3, 3, 232, 0]), (67, .aload_n 2, 1, 0, []), (68, .getfield 19, 3, 0, [3, 3, 232, 0]),
  (71, .lmul, 1, 0, []), (72, .lsub, 1, 0, []), (73, .putfield 7, 3, 0, [3, 0, 226, 0]), (76, .aload_n 0, 1, 0, []), (77, .aload_n 1, 1, 0, []), (78, .getfield 7, 3, 0, [3, 0, 226, 0]),
  (81, .aload_n 2, 1, 0, []), (82, .getfield 13, 3, 0, [3, 1, 228, 0]), (85, .lmul, 1, 0, []), (86, .aload_n 1, 1, 0, []), (87, .getfield 13, 3, 0, [3, 1, 228, 0]), (90, .aload_n 2, 1, 0, []),
  (91, .getfield 7, 3, 0, [3, 0, 226, 0]), (94, .lmul, 1, 0, []), (95, .ladd, 1, 0, []), (96, .lload 5, 2, 0, []), (98, .lsub, 1, 0, []), (99, .putfield 13, 3, 0, [3, 1, 228, 0]),
  (102, .aload_n 0, 1, 0, []), (103, .aload_n 1, 1, 0, []), (104, .getfield 7, 3, 0, [3, 0, 226, 0]), (107, .aload_n 2, 1, 0, []), (108, .getfield 16, 3, 0, [3, 2, 230, 0]), (111, .lmul, 1, 0, []),
  (112, .aload_n 1, 1, 0, []), (113, .getfield 13, 3, 0, [3, 1, 228, 0]), (116, .aload_n 2, 1, 0, []), (117, .getfield 13, 3, 0, [3, 1, 228, 0]), (120, .lmul, 1, 0, []), (121, .ladd, 1, 0, []),
  (122, .aload_n 1, 1, 0, []), (123, .getfield 16, 3, 0, [3, 2, 230, 0]), (126, .aload_n 2, 1, 0, []), (127, .getfield 7, 3, 0, [3, 0, 226, 0]), (130, .lmul, 1, 0, []), (131, .ladd, 1, 0, []),
  (132, .lload_n 3, 1, 0, []), (133, .ladd, 1, 0, []), (134, .putfield 16, 3, 0, [3, 2, 230, 0]), (137, .aload_n 0, 1, 0, []), (138, .aload_n 1, 1, 0, []), (139, .getfield 7, 3, 0, [3, 0, 226, 0]),
  (142, .aload_n 2, 1, 0, []), (143, .getfield 19, 3, 0, [3, 3, 232, 0]), (146, .lmul, 1, 0, []), (147, .aload_n 1, 1, 0, []), (148, .getfield 13, 3, 0, [3, 1, 228, 0]), (151, .aload_n 2, 1, 0, []),
  (152, .getfield 16, 3, 0, [3, 2, 230, 0]), (155, .lmul, 1, 0, []), (156, .ladd, 1, 0, []), (157, .aload_n 1, 1, 0, []), (158, .getfield 16, 3, 0, [3, 2, 230, 0]), (161, .aload_n 2, 1, 0, []),
  (162, .getfield 13, 3, 0, [3, 1, 228, 0]), (165, .lmul, 1, 0, []), (166, .ladd, 1, 0, []), (167, .aload_n 1, 1, 0, []), (168, .getfield 19, 3, 0, [3, 3, 232, 0]), (171, .aload_n 2, 1, 0, []),
  (172, .getfield 7, 3, 0, [3, 0, 226, 0]), (175, .lmul, 1, 0, []), (176, .ladd, 1, 0, []), (177, .lload 5, 2, 0, []), (179, .ladd, 1, 0, []), (180, .putfield 19, 3, 0, [3, 3, 232, 0]),
  (183, .return_, 1, 2, [0])]
noncomputable def mt_83 : mm_M := (⟨"DeafArray$Num", "multiply", "(LDeafArray$Num;LDeafArray$Num;)V"⟩, prog_5_method_13_code, 7, none, 0, 0, 3, 2, false)
/-- DeafArray$Num.realX()J -/
noncomputable def cd_84 : List mm_E := [
  (0, .aload_n 0, 1, 0, []), (1, .getfield 7, 3, 0, [3, 0, 226, 0]), (4, .lreturn, 1, 2, [3])]
noncomputable def mt_84 : mm_M := (⟨"DeafArray$Num", "realX", "()J"⟩, prog_5_method_16_code, 1, (some (.long)), 0, 0, 3, 0, false)
/-- DeafArray$Num.realY()J -/
noncomputable def cd_85 : List mm_E := [
  (0, .aload_n 0, 1, 0, []), (1, .getfield 19, 3, 0, [3, 3, 232, 0]), (4, .lneg, 1, 0, []), (5, .lreturn, 1, 2, [3])]
noncomputable def mt_85 : mm_M := (⟨"DeafArray$Num", "realY", "()J"⟩, prog_5_method_17_code, 1, (some (.long)), 0, 0, 3, 0, false)
/-- DeafArray$Num.timesReal(JJ)V -/
noncomputable def cd_86 : List mm_E := [
  (0, .lload_n 1, 1, 0, []), (1, .aload_n 0, 1, 0, []), (2, .getfield 7, 3, 0, [3, 0, 226, 0]), (5, .lmul, 1, 0, []), (6, .lload_n 3, 1, 0, []), (7, .aload_n 0, 1, 0, []),
  (8, .getfield 13, 3, 0, [3, 1, 228, 0]), (11, .aload_n 0, 1, 0, []), (12, .getfield 19, 3, 0, [3, 3, 232, 0]), (15, .lsub, 1, 0, []), (16, .lmul, 1, 0, []), (17, .ladd, 1, 0, []),
  (18, .lstore 5, 2, 0, []), (20, .lload_n 1, 1, 0, []), (21, .aload_n 0, 1, 0, []), (22, .getfield 13, 3, 0, [3, 1, 228, 0]), (25, .lmul, 1, 0, []), (26, .lload_n 3, 1, 0, []),
  (27, .ldc2_w 22, 3, 0, [2, 0, 728]), (30, .aload_n 0, 1, 0, []), (31, .getfield 7, 3, 0, [3, 0, 226, 0]), (34, .lmul, 1, 0, []), (35, .aload_n 0, 1, 0, []), (36, .getfield 16, 3, 0, [3, 2, 230, 0]),
  (39, .ladd, 1, 0, []), (40, .lmul, 1, 0, []), (41, .ladd, 1, 0, []), (42, .lstore 7, 2, 0, []), (44, .lload_n 1, 1, 0, []), (45, .aload_n 0, 1, 0, []),
  (46, .getfield 16, 3, 0, [3, 2, 230, 0]), (49, .lmul, 1, 0, []), (50, .lload_n 3, 1, 0, []), (51, .aload_n 0, 1, 0, []), (52, .getfield 13, 3, 0, [3, 1, 228, 0]), (55, .ldc2_w 22, 3, 0, [2, 0, 728]),
  (58, .aload_n 0, 1, 0, []), (59, .getfield 19, 3, 0, [3, 3, 232, 0]), (62, .lmul, 1, 0, []), (63, .ladd, 1, 0, []), (64, .lmul, 1, 0, []), (65, .ladd, 1, 0, []),
  (66, .lstore 9, 2, 0, []), (68, .aload_n 0, 1, 0, []), (69, .lload_n 1, 1, 0, []), (70, .aload_n 0, 1, 0, []), (71, .getfield 19, 3, 0, [3, 3, 232, 0]), (74, .lmul, 1, 0, []),
  (75, .lload_n 3, 1, 0, []), (76, .aload_n 0, 1, 0, []), (77, .getfield 16, 3, 0, [3, 2, 230, 0]), (80, .aload_n 0, 1, 0, []), (81, .getfield 7, 3, 0, [3, 0, 226, 0]), (84, .lsub, 1, 0, []),
  (85, .lmul, 1, 0, []), (86, .ladd, 1, 0, []), (87, .putfield 19, 3, 0, [3, 3, 232, 0]), (90, .aload_n 0, 1, 0, []), (91, .lload 5, 2, 0, []), (93, .putfield 7, 3, 0, [3, 0, 226, 0]),
  (96, .aload_n 0, 1, 0, []), (97, .lload 7, 2, 0, []), (99, .putfield 13, 3, 0, [3, 1, 228, 0]), (102, .aload_n 0, 1, 0, []), (103, .lload 9, 2, 0, []), (105, .putfield 16, 3, 0, [3, 2, 230, 0]),
  (108, .return_, 1, 2, [0])]
noncomputable def mt_86 : mm_M := (⟨"DeafArray$Num", "timesReal", "(JJ)V"⟩, prog_5_method_14_code, 11, none, 0, 0, 3, 2, false)
/-- DeafArray$Num.takeAway(LDeafArray$Num;)V -/
noncomputable def cd_87 : List mm_E := [
  (0, .aload_n 0, 1, 0, []), (1, .dup, 1, 0, []), (2, .getfield 7, 3, 0, [3, 0, 226, 0]), (5, .aload_n 1, 1, 0, []), (6, .getfield 7, 3, 0, [3, 0, 226, 0]), (9, .lsub, 1, 0, []),
  (10, .putfield 7, 3, 0, [3, 0, 226, 0]), (13, .aload_n 0, 1, 0, []), (14, .dup, 1, 0, []), (15, .getfield 13, 3, 0, [3, 1, 228, 0]), (18, .aload_n 1, 1, 0, []), (19, .getfield 13, 3, 0, [3, 1, 228, 0]),
  (22, .lsub, 1, 0, []), (23, .putfield 13, 3, 0, [3, 1, 228, 0]), (26, .aload_n 0, 1, 0, []), (27, .dup, 1, 0, []), (28, .getfield 16, 3, 0, [3, 2, 230, 0]), (31, .aload_n 1, 1, 0, []),
  (32, .getfield 16, 3, 0, [3, 2, 230, 0]), (35, .lsub, 1, 0, []), (36, .putfield 16, 3, 0, [3, 2, 230, 0]), (39, .aload_n 0, 1, 0, []), (40, .dup, 1, 0, []), (41, .getfield 19, 3, 0, [3, 3, 232, 0]),
  (44, .aload_n 1, 1, 0, []), (45, .getfield 19, 3, 0, [3, 3, 232, 0]), (48, .lsub, 1, 0, []), (49, .putfield 19, 3, 0, [3, 3, 232, 0]), (52, .return_, 1, 2, [0])]
noncomputable def mt_87 : mm_M := (⟨"DeafArray$Num", "takeAway", "(LDeafArray$Num;)V"⟩, prog_5_method_7_code, 2, none, 0, 0, 3, 1, false)
/-- DeafArray$Num.divide(J)V -/
noncomputable def cd_88 : List mm_E := [
  (0, .lload_n 1, 1, 0, []), (1, .lconst 0, 1, 0, [0]), (2, .lcmp, 1, 0, []), (3, .ifCond .eq 43, 3, 0, [28, 46]), (6, .aload_n 0, 1, 0, []), (7, .dup, 1, 0, []),
  (8, .getfield 7, 3, 0, [3, 0, 226, 0]), (11, .lload_n 1, 1, 0, []), (12, .ldiv, 1, 0, []), (13, .putfield 7, 3, 0, [3, 0, 226, 0]), (16, .aload_n 0, 1, 0, []), (17, .dup, 1, 0, []),
  (18, .getfield 13, 3, 0, [3, 1, 228, 0]), (21, .lload_n 1, 1, 0, []), (22, .ldiv, 1, 0, []), (23, .putfield 13, 3, 0, [3, 1, 228, 0]), (26, .aload_n 0, 1, 0, []), (27, .dup, 1, 0, []),
  (28, .getfield 16, 3, 0, [3, 2, 230, 0]), (31, .lload_n 1, 1, 0, []), (32, .ldiv, 1, 0, []), (33, .putfield 16, 3, 0, [3, 2, 230, 0]), (36, .aload_n 0, 1, 0, []), (37, .dup, 1, 0, []),
  (38, .getfield 19, 3, 0, [3, 3, 232, 0]), (41, .lload_n 1, 1, 0, []), (42, .ldiv, 1, 0, []), (43, .putfield 19, 3, 0, [3, 3, 232, 0]), (46, .return_, 1, 2, [0])]
noncomputable def mt_88 : mm_M := (⟨"DeafArray$Num", "divide", "(J)V"⟩, prog_5_method_15_code, 3, none, 0, 0, 3, 1, false)
/-- DeafArray$Solver.lowerRow(II)V -/
noncomputable def cd_89 : List mm_E := [
  (0, .aload_n 0, 1, 0, []), (1, .getfield 30, 3, 0, [7, 3, 251, 0]), (4, .iload_n 1, 1, 0, []), (5, .bipush 6, 2, 0, [6]), (7, .imul, 1, 0, []), (8, .iload_n 1, 1, 0, []),
  (9, .iadd, 1, 0, []), (10, .aaload, 1, 0, []), (11, .astore_n 3, 1, 0, []), (12, .aload_n 0, 1, 0, []), (13, .getfield 115, 3, 0, [7, 14, 272, 0]), (16, .aload_n 0, 1, 0, []),
  (17, .getfield 119, 3, 0, [7, 15, 274, 0]), (20, .invokestatic 136, 3, 1, [81, 2, 0, 4, 706, 92, 704, 705, 0, 0]), (23, .lstore 4, 2, 0, []), (25, .aload_n 0, 1, 0, []), (26, .getfield 53, 3, 0, [7, 9, 264, 0]), (29, .aload_n 0, 1, 0, []),
  (30, .getfield 30, 3, 0, [7, 3, 251, 0]), (33, .iload_n 1, 1, 0, []), (34, .bipush 6, 2, 0, [6]), (36, .imul, 1, 0, []), (37, .iload_n 2, 1, 0, []), (38, .iadd, 1, 0, []),
  (39, .aaload, 1, 0, []), (40, .invokevirtual 140, 3, 1, [82, 2, 4, 2, 711, 94, 708, 709, 710, 0]), (43, .iload_n 2, 1, 0, []), (44, .istore 6, 2, 0, []), (46, .iload 6, 2, 0, []), (48, .bipush 6, 2, 0, [6]),
  (50, .if_icmp .ge 111, 3, 0, [85, 161]), (53, .iload 6, 2, 0, []), (55, .aload_n 0, 1, 0, []), (56, .getfield 92, 3, 0, [7, 11, 266, 0]), (59, .if_icmp .lt 9, 3, 0, [38, 68]), (62, .iload 6, 2, 0, []),
  (64, .iconst 5, 1, 0, [5]), (65, .if_icmp .ne 90, 3, 0, [83, 155]), (68, .aload_n 0, 1, 0, []), (69, .getfield 30, 3, 0, [7, 3, 251, 0]), (72, .iload_n 2, 1, 0, []), (73, .bipush 6, 2, 0, [6]),
  (75, .imul, 1, 0, []), (76, .iload 6, 2, 0, []), (78, .iadd, 1, 0, []), (79, .aaload, 1, 0, []), (80, .astore 7, 2, 0, []), (82, .aload_n 0, 1, 0, []),
  (83, .getfield 57, 3, 0, [7, 10, 265, 0]), (86, .aload_n 0, 1, 0, []), (87, .getfield 53, 3, 0, [7, 9, 264, 0]), (90, .aload_n 0, 1, 0, []), (91, .getfield 30, 3, 0, [7, 3, 251, 0]), (94, .iload_n 1, 1, 0, []),
  (95, .bipush 6, 2, 0, [6]), (97, .imul, 1, 0, []), (98, .iload 6, 2, 0, []), (100, .iadd, 1, 0, []), (101, .aaload, 1, 0, []), (102, .invokevirtual 144, 3, 1, [83, 3, 4, 7, 715, 94, 712, 713, 714, 0]),
  (105, .aload 7, 2, 0, []), (107, .aload_n 3, 1, 0, []), (108, .invokevirtual 130, 3, 1, [84, 1, 4, 1, 719, 94, 716, 717, 718, 0]), (111, .aload_n 3, 1, 0, []), (112, .invokevirtual 133, 3, 1, [85, 1, 4, 1, 723, 94, 720, 721, 722, 0]), (115, .invokevirtual 148, 3, 1, [86, 3, 4, 11, 727, 94, 724, 725, 726, 0]),
  (118, .aload 7, 2, 0, []), (120, .aload_n 0, 1, 0, []), (121, .getfield 57, 3, 0, [7, 10, 265, 0]), (124, .invokevirtual 152, 3, 1, [87, 2, 4, 2, 732, 94, 729, 730, 731, 0]), (127, .aload_n 0, 1, 0, []), (128, .getfield 112, 3, 0, [7, 12, 268, 0]),
  (131, .ifCond .le 24, 3, 0, [83, 155]), (134, .aload 7, 2, 0, []), (136, .aload_n 0, 1, 0, []), (137, .getfield 115, 3, 0, [7, 14, 272, 0]), (140, .aload_n 0, 1, 0, []), (141, .getfield 119, 3, 0, [7, 15, 274, 0]),
  (144, .lneg, 1, 0, []), (145, .invokevirtual 148, 3, 1, [86, 3, 4, 11, 727, 94, 724, 725, 726, 0]), (148, .aload 7, 2, 0, []), (150, .lload 4, 2, 0, []), (152, .invokevirtual 155, 3, 1, [88, 2, 4, 3, 736, 94, 733, 734, 735, 0]), (155, .iinc 6 1, 3, 0, []),
  (158, .goto (-112), 3, 0, [28, 46]), (161, .return_, 1, 2, [0])]
noncomputable def mt_89 : mm_M := (⟨"DeafArray$Solver", "lowerRow", "(II)V"⟩, prog_9_method_7_code, 8, none, 1, 30, 7, 2, false)
/-- DeafArray$Solver.eliminate()V -/
noncomputable def cd_90 : List mm_E := [
  (0, .aload_n 0, 1, 0, []), (1, .iconst 0, 1, 0, [0]), (2, .putfield 112, 3, 0, [7, 12, 268, 0]), (5, .aload_n 0, 1, 0, []), (6, .lconst 1, 1, 0, [1]), (7, .putfield 115, 3, 0, [7, 14, 272, 0]),
  (10, .aload_n 0, 1, 0, []), (11, .lconst 0, 1, 0, [0]), (12, .putfield 119, 3, 0, [7, 15, 274, 0]), (15, .iconst 0, 1, 0, [0]), (16, .istore_n 1, 1, 0, []), (17, .iload_n 1, 1, 0, []),
  (18, .aload_n 0, 1, 0, []), (19, .getfield 92, 3, 0, [7, 11, 266, 0]), (22, .if_icmp .ge 126, 3, 0, [84, 148]), (25, .aload_n 0, 1, 0, []), (26, .getfield 30, 3, 0, [7, 3, 251, 0]), (29, .iload_n 1, 1, 0, []),
  (30, .bipush 6, 2, 0, [6]), (32, .imul, 1, 0, []), (33, .iload_n 1, 1, 0, []), (34, .iadd, 1, 0, []), (35, .aaload, 1, 0, []), (36, .astore_n 2, 1, 0, []),
  (37, .aload_n 0, 1, 0, []), (38, .getfield 22, 3, 0, [7, 2, 249, 0]), (41, .iload_n 1, 1, 0, []), (42, .aload_n 2, 1, 0, []), (43, .invokevirtual 122, 3, 1, [80, 1, 4, 1, 699, 94, 696, 697, 698, 0]), (46, .bastore, 1, 0, []),
  (47, .aload_n 0, 1, 0, []), (48, .getfield 22, 3, 0, [7, 2, 249, 0]), (51, .iload_n 1, 1, 0, []), (52, .baload, 1, 0, []), (53, .ifCond .eq 39, 3, 0, [54, 92]), (56, .aload_n 0, 1, 0, []),
  (57, .aload_n 0, 1, 0, []), (58, .getfield 70, 3, 0, [7, 13, 270, 0]), (61, .ifCond .eq 24, 3, 0, [51, 85]), (64, .aload_n 0, 1, 0, []), (65, .getfield 30, 3, 0, [7, 3, 251, 0]), (68, .iload_n 1, 1, 0, []),
  (69, .bipush 6, 2, 0, [6]), (71, .imul, 1, 0, []), (72, .iconst 5, 1, 0, [5]), (73, .iadd, 1, 0, []), (74, .aaload, 1, 0, []), (75, .invokevirtual 122, 3, 1, [80, 1, 4, 1, 699, 94, 696, 697, 698, 0]),
  (78, .ifCond .eq 7, 3, 0, [51, 85]), (81, .iconst 1, 1, 0, [1]), (82, .goto 4, 3, 0, [52, 86]), (85, .iconst 0, 1, 0, [0]), (86, .putfield 70, 3, 0, [7, 13, 270, 0]), (89, .goto 53, 3, 0, [82, 142]),
  (92, .iload_n 1, 1, 0, []), (93, .iconst 1, 1, 0, [1]), (94, .iadd, 1, 0, []), (95, .istore_n 3, 1, 0, []), (96, .iload_n 3, 1, 0, []), (97, .aload_n 0, 1, 0, []),
  (98, .getfield 92, 3, 0, [7, 11, 266, 0]), (101, .if_icmp .ge 15, 3, 0, [68, 116]), (104, .aload_n 0, 1, 0, []), (105, .iload_n 1, 1, 0, []), (106, .iload_n 3, 1, 0, []), (107, .invokevirtual 126, 3, 1, [89, 3, 8, 8, 703, 92, 700, 702, 16, 0]),
  (110, .iinc 3 1, 3, 0, []), (113, .goto (-17), 3, 0, [58, 96]), (116, .aload_n 0, 1, 0, []), (117, .dup, 1, 0, []), (118, .getfield 112, 3, 0, [7, 12, 268, 0]), (121, .iconst 1, 1, 0, [1]),
  (122, .iadd, 1, 0, []), (123, .putfield 112, 3, 0, [7, 12, 268, 0]), (126, .aload_n 0, 1, 0, []), (127, .aload_n 2, 1, 0, []), (128, .invokevirtual 130, 3, 1, [84, 1, 4, 1, 719, 94, 716, 717, 718, 0]), (131, .putfield 115, 3, 0, [7, 14, 272, 0]),
  (134, .aload_n 0, 1, 0, []), (135, .aload_n 2, 1, 0, []), (136, .invokevirtual 133, 3, 1, [85, 1, 4, 1, 723, 94, 720, 721, 722, 0]), (139, .putfield 119, 3, 0, [7, 15, 274, 0]), (142, .iinc 1 1, 3, 0, []), (145, .goto (-128), 3, 0, [11, 17]),
  (148, .return_, 1, 2, [0])]
noncomputable def mt_90 : mm_M := (⟨"DeafArray$Solver", "eliminate", "()V"⟩, prog_9_method_6_code, 4, none, 2, 57, 7, 0, false)
/-- DeafArray$Num.copy(LDeafArray$Num;)V -/
noncomputable def cd_91 : List mm_E := [
  (0, .aload_n 0, 1, 0, []), (1, .aload_n 1, 1, 0, []), (2, .getfield 7, 3, 0, [3, 0, 226, 0]), (5, .putfield 7, 3, 0, [3, 0, 226, 0]), (8, .aload_n 0, 1, 0, []), (9, .aload_n 1, 1, 0, []),
  (10, .getfield 13, 3, 0, [3, 1, 228, 0]), (13, .putfield 13, 3, 0, [3, 1, 228, 0]), (16, .aload_n 0, 1, 0, []), (17, .aload_n 1, 1, 0, []), (18, .getfield 16, 3, 0, [3, 2, 230, 0]), (21, .putfield 16, 3, 0, [3, 2, 230, 0]),
  (24, .aload_n 0, 1, 0, []), (25, .aload_n 1, 1, 0, []), (26, .getfield 19, 3, 0, [3, 3, 232, 0]), (29, .putfield 19, 3, 0, [3, 3, 232, 0]), (32, .return_, 1, 2, [0])]
noncomputable def mt_91 : mm_M := (⟨"DeafArray$Num", "copy", "(LDeafArray$Num;)V"⟩, prog_5_method_3_code, 2, none, 0, 0, 3, 1, false)
/-- DeafArray$Solver.substitute()V -/
noncomputable def cd_92 : List mm_E := [
  (0, .aload_n 0, 1, 0, []), (1, .getfield 92, 3, 0, [7, 11, 266, 0]), (4, .iconst 1, 1, 0, [1]), (5, .isub, 1, 0, []), (6, .istore_n 1, 1, 0, []), (7, .iload_n 1, 1, 0, []),
  (8, .ifCond .lt 146, 3, 0, [89, 154]), (11, .aload_n 0, 1, 0, []), (12, .getfield 34, 3, 0, [7, 4, 252, 0]), (15, .iload_n 1, 1, 0, []), (16, .aaload, 1, 0, []), (17, .astore_n 2, 1, 0, []),
  (18, .aload_n 2, 1, 0, []), (19, .invokevirtual 105, 3, 1, [76, 1, 4, 1, 684, 94, 690, 682, 683, 0]), (22, .aload_n 0, 1, 0, []), (23, .getfield 22, 3, 0, [7, 2, 249, 0]), (26, .iload_n 1, 1, 0, []), (27, .baload, 1, 0, []),
  (28, .ifCond .ne 120, 3, 0, [87, 148]), (31, .aload_n 2, 1, 0, []), (32, .aload_n 0, 1, 0, []), (33, .getfield 30, 3, 0, [7, 3, 251, 0]), (36, .iload_n 1, 1, 0, []), (37, .bipush 6, 2, 0, [6]),
  (39, .imul, 1, 0, []), (40, .iconst 5, 1, 0, [5]), (41, .iadd, 1, 0, []), (42, .aaload, 1, 0, []), (43, .invokevirtual 161, 3, 1, [91, 2, 4, 2, 744, 94, 741, 742, 743, 0]), (46, .aload_n 2, 1, 0, []),
  (47, .aload_n 0, 1, 0, []), (48, .getfield 115, 3, 0, [7, 14, 272, 0]), (51, .aload_n 0, 1, 0, []), (52, .getfield 119, 3, 0, [7, 15, 274, 0]), (55, .invokevirtual 148, 3, 1, [86, 3, 4, 11, 727, 94, 724, 725, 726, 0]), (58, .iload_n 1, 1, 0, []),
  (59, .iconst 1, 1, 0, [1]), (60, .iadd, 1, 0, []), (61, .istore_n 3, 1, 0, []), (62, .iload_n 3, 1, 0, []), (63, .aload_n 0, 1, 0, []), (64, .getfield 92, 3, 0, [7, 11, 266, 0]),
  (67, .if_icmp .ge 41, 3, 0, [64, 108]), (70, .aload_n 0, 1, 0, []), (71, .getfield 57, 3, 0, [7, 10, 265, 0]), (74, .aload_n 0, 1, 0, []), (75, .getfield 30, 3, 0, [7, 3, 251, 0]), (78, .iload_n 1, 1, 0, []),
  (79, .bipush 6, 2, 0, [6]), (81, .imul, 1, 0, []), (82, .iload_n 3, 1, 0, []), (83, .iadd, 1, 0, []), (84, .aaload, 1, 0, []), (85, .aload_n 0, 1, 0, []),
  (86, .getfield 34, 3, 0, [7, 4, 252, 0]), (89, .iload_n 3, 1, 0, []), (90, .aaload, 1, 0, []), (91, .invokevirtual 144, 3, 1, [83, 3, 4, 7, 715, 94, 712, 713, 714, 0]), (94, .aload_n 2, 1, 0, []), (95, .aload_n 0, 1, 0, []),
  (96, .getfield 57, 3, 0, [7, 10, 265, 0]), (99, .invokevirtual 152, 3, 1, [87, 2, 4, 2, 732, 94, 729, 730, 731, 0]), (102, .iinc 3 1, 3, 0, []), (105, .goto (-43), 3, 0, [39, 62]), (108, .aload_n 0, 1, 0, []), (109, .getfield 30, 3, 0, [7, 3, 251, 0]),
  (112, .iload_n 1, 1, 0, []), (113, .bipush 6, 2, 0, [6]), (115, .imul, 1, 0, []), (116, .iload_n 1, 1, 0, []), (117, .iadd, 1, 0, []), (118, .aaload, 1, 0, []),
  (119, .astore_n 3, 1, 0, []), (120, .aload_n 2, 1, 0, []), (121, .aload_n 3, 1, 0, []), (122, .invokevirtual 130, 3, 1, [84, 1, 4, 1, 719, 94, 716, 717, 718, 0]), (125, .aload_n 3, 1, 0, []), (126, .invokevirtual 133, 3, 1, [85, 1, 4, 1, 723, 94, 720, 721, 722, 0]),
  (129, .lneg, 1, 0, []), (130, .invokevirtual 148, 3, 1, [86, 3, 4, 11, 727, 94, 724, 725, 726, 0]), (133, .aload_n 2, 1, 0, []), (134, .aload_n 3, 1, 0, []), (135, .invokevirtual 130, 3, 1, [84, 1, 4, 1, 719, 94, 716, 717, 718, 0]), (138, .aload_n 3, 1, 0, []),
  (139, .invokevirtual 133, 3, 1, [85, 1, 4, 1, 723, 94, 720, 721, 722, 0]), (142, .invokestatic 136, 3, 1, [81, 2, 0, 4, 706, 92, 704, 705, 0, 0]), (145, .invokevirtual 155, 3, 1, [88, 2, 4, 3, 736, 94, 733, 734, 735, 0]), (148, .iinc 1 (-1), 3, 0, []), (151, .goto (-144), 3, 0, [5, 7]), (154, .iconst 0, 1, 0, [0]),
  (155, .istore_n 1, 1, 0, []), (156, .iload_n 1, 1, 0, []), (157, .aload_n 0, 1, 0, []), (158, .getfield 92, 3, 0, [7, 11, 266, 0]), (161, .if_icmp .ge 27, 3, 0, [107, 188]), (164, .aload_n 0, 1, 0, []),
  (165, .getfield 34, 3, 0, [7, 4, 252, 0]), (168, .iload_n 1, 1, 0, []), (169, .aaload, 1, 0, []), (170, .aload_n 0, 1, 0, []), (171, .getfield 115, 3, 0, [7, 14, 272, 0]), (174, .aload_n 0, 1, 0, []),
  (175, .getfield 119, 3, 0, [7, 15, 274, 0]), (178, .lneg, 1, 0, []), (179, .invokevirtual 148, 3, 1, [86, 3, 4, 11, 727, 94, 724, 725, 726, 0]), (182, .iinc 1 1, 3, 0, []), (185, .goto (-29), 3, 0, [91, 156]), (188, .aload_n 0, 1, 0, []),
  (189, .aload_n 0, 1, 0, []), (190, .getfield 115, 3, 0, [7, 14, 272, 0]), (193, .aload_n 0, 1, 0, []), (194, .getfield 119, 3, 0, [7, 15, 274, 0]), (197, .invokestatic 136, 3, 1, [81, 2, 0, 4, 706, 92, 704, 705, 0, 0]), (200, .putfield 164, 3, 0, [7, 16, 278, 0]),
  (203, .return_, 1, 2, [0])]
noncomputable def mt_92 : mm_M := (⟨"DeafArray$Solver", "substitute", "()V"⟩, prog_9_method_9_code, 4, none, 1, 30, 7, 0, false)
/-- DeafArray$Num.addTurned(LDeafArray$Num;I)V -/
noncomputable def cd_93_0 : List mm_E := [
  (0, .iload_n 2, 1, 0, []), (1, .bipush 12, 2, 0, [12]), (3, .irem, 1, 0, []), (4, .bipush 6, 2, 0, [6]), (6, .if_icmp .ge 7, 3, 0, [7, 13]), (9, .iconst 1, 1, 0, [1]),
  (10, .goto 4, 3, 0, [8, 14]), (13, .iconst (-1), 1, 0, [4294967295]), (14, .istore_n 3, 1, 0, []), (15, .iload_n 3, 1, 0, []), (16, .i2l, 1, 0, []), (17, .aload_n 1, 1, 0, []),
  (18, .getfield 7, 3, 0, [3, 0, 226, 0]), (21, .lmul, 1, 0, []), (22, .lstore 4, 2, 0, []), (24, .iload_n 3, 1, 0, []), (25, .i2l, 1, 0, []), (26, .aload_n 1, 1, 0, []),
  (27, .getfield 13, 3, 0, [3, 1, 228, 0]), (30, .lmul, 1, 0, []), (31, .lstore 6, 2, 0, []), (33, .iload_n 3, 1, 0, []), (34, .i2l, 1, 0, []), (35, .aload_n 1, 1, 0, []),
  (36, .getfield 16, 3, 0, [3, 2, 230, 0]), (39, .lmul, 1, 0, []), (40, .lstore 8, 2, 0, []), (42, .iload_n 3, 1, 0, []), (43, .i2l, 1, 0, []), (44, .aload_n 1, 1, 0, []),
  (45, .getfield 19, 3, 0, [3, 3, 232, 0]), (48, .lmul, 1, 0, []), (49, .lstore 10, 2, 0, []), (51, .iload_n 2, 1, 0, []), (52, .bipush 6, 2, 0, [6]), (54, .irem, 1, 0, []),
  (55, .tableswitch 289 0 4 #[33, 80, 130, 183, 236], 33, 0, [176, 344, 37, 88, 62, 135, 89, 185, 118, 238, 147, 291]), (88, .aload_n 0, 1, 0, []), (89, .dup, 1, 0, []), (90, .getfield 7, 3, 0, [3, 0, 226, 0]), (93, .lload 4, 2, 0, []), (95, .ladd, 1, 0, []),
  (96, .putfield 7, 3, 0, [3, 0, 226, 0]), (99, .aload_n 0, 1, 0, []), (100, .dup, 1, 0, []), (101, .getfield 13, 3, 0, [3, 1, 228, 0]), (104, .lload 6, 2, 0, []), (106, .ladd, 1, 0, []),
  (107, .putfield 13, 3, 0, [3, 1, 228, 0]), (110, .aload_n 0, 1, 0, []), (111, .dup, 1, 0, []), (112, .getfield 16, 3, 0, [3, 2, 230, 0]), (115, .lload 8, 2, 0, []), (117, .ladd, 1, 0, []),
  (118, .putfield 16, 3, 0, [3, 2, 230, 0]), (121, .aload_n 0, 1, 0, []), (122, .dup, 1, 0, []), (123, .getfield 19, 3, 0, [3, 3, 232, 0]), (126, .lload 10, 2, 0, []), (128, .ladd, 1, 0, []),
  (129, .putfield 19, 3, 0, [3, 3, 232, 0]), (132, .goto 259, 3, 0, [202, 391]), (135, .aload_n 0, 1, 0, []), (136, .dup, 1, 0, []), (137, .getfield 7, 3, 0, [3, 0, 226, 0]), (140, .lload 10, 2, 0, []),
  (142, .lsub, 1, 0, []), (143, .putfield 7, 3, 0, [3, 0, 226, 0]), (146, .aload_n 0, 1, 0, []), (147, .dup, 1, 0, []), (148, .getfield 13, 3, 0, [3, 1, 228, 0]), (151, .lload 4, 2, 0, []),
  (153, .ladd, 1, 0, []), (154, .putfield 13, 3, 0, [3, 1, 228, 0]), (157, .aload_n 0, 1, 0, []), (158, .dup, 1, 0, []), (159, .getfield 16, 3, 0, [3, 2, 230, 0]), (162, .lload 6, 2, 0, []),
  (164, .lload 10, 2, 0, []), (166, .ladd, 1, 0, []), (167, .ladd, 1, 0, []), (168, .putfield 16, 3, 0, [3, 2, 230, 0]), (171, .aload_n 0, 1, 0, []), (172, .dup, 1, 0, []),
  (173, .getfield 19, 3, 0, [3, 3, 232, 0]), (176, .lload 8, 2, 0, []), (178, .ladd, 1, 0, []), (179, .putfield 19, 3, 0, [3, 3, 232, 0]), (182, .goto 209, 3, 0, [202, 391]), (185, .aload_n 0, 1, 0, []),
  (186, .dup, 1, 0, []), (187, .getfield 7, 3, 0, [3, 0, 226, 0]), (190, .lload 8, 2, 0, []), (192, .lsub, 1, 0, []), (193, .putfield 7, 3, 0, [3, 0, 226, 0]), (196, .aload_n 0, 1, 0, []),
  (197, .dup, 1, 0, []), (198, .getfield 13, 3, 0, [3, 1, 228, 0]), (201, .lload 10, 2, 0, []), (203, .lsub, 1, 0, [])]
noncomputable def cd_93_1 : List mm_E := [
  (204, .putfield 13, 3, 0, [3, 1, 228, 0]), (207, .aload_n 0, 1, 0, []), (208, .dup, 1, 0, []), (209, .getfield 16, 3, 0, [3, 2, 230, 0]), (212, .lload 4, 2, 0, []), (214, .lload 8, 2, 0, []),
  (216, .ladd, 1, 0, []), (217, .ladd, 1, 0, []), (218, .putfield 16, 3, 0, [3, 2, 230, 0]), (221, .aload_n 0, 1, 0, []), (222, .dup, 1, 0, []), (223, .getfield 19, 3, 0, [3, 3, 232, 0]),
  (226, .lload 6, 2, 0, []), (228, .lload 10, 2, 0, []), (230, .ladd, 1, 0, []), (231, .ladd, 1, 0, []), (232, .putfield 19, 3, 0, [3, 3, 232, 0]), (235, .goto 156, 3, 0, [202, 391]),
  (238, .aload_n 0, 1, 0, []), (239, .dup, 1, 0, []), (240, .getfield 7, 3, 0, [3, 0, 226, 0]), (243, .lload 6, 2, 0, []), (245, .lload 10, 2, 0, []), (247, .ladd, 1, 0, []),
  (248, .lsub, 1, 0, []), (249, .putfield 7, 3, 0, [3, 0, 226, 0]), (252, .aload_n 0, 1, 0, []), (253, .dup, 1, 0, []), (254, .getfield 13, 3, 0, [3, 1, 228, 0]), (257, .lload 8, 2, 0, []),
  (259, .lsub, 1, 0, []), (260, .putfield 13, 3, 0, [3, 1, 228, 0]), (263, .aload_n 0, 1, 0, []), (264, .dup, 1, 0, []), (265, .getfield 16, 3, 0, [3, 2, 230, 0]), (268, .lload 6, 2, 0, []),
  (270, .ladd, 1, 0, []), (271, .putfield 16, 3, 0, [3, 2, 230, 0]), (274, .aload_n 0, 1, 0, []), (275, .dup, 1, 0, []), (276, .getfield 19, 3, 0, [3, 3, 232, 0]), (279, .lload 4, 2, 0, []),
  (281, .lload 8, 2, 0, []), (283, .ladd, 1, 0, []), (284, .ladd, 1, 0, []), (285, .putfield 19, 3, 0, [3, 3, 232, 0]), (288, .goto 103, 3, 0, [202, 391]), (291, .aload_n 0, 1, 0, []),
  (292, .dup, 1, 0, []), (293, .getfield 7, 3, 0, [3, 0, 226, 0]), (296, .lload 4, 2, 0, []), (298, .lload 8, 2, 0, []), (300, .ladd, 1, 0, []), (301, .lsub, 1, 0, []),
  (302, .putfield 7, 3, 0, [3, 0, 226, 0]), (305, .aload_n 0, 1, 0, []), (306, .dup, 1, 0, []), (307, .getfield 13, 3, 0, [3, 1, 228, 0]), (310, .lload 6, 2, 0, []), (312, .lload 10, 2, 0, []),
  (314, .ladd, 1, 0, []), (315, .lsub, 1, 0, []), (316, .putfield 13, 3, 0, [3, 1, 228, 0]), (319, .aload_n 0, 1, 0, []), (320, .dup, 1, 0, []), (321, .getfield 16, 3, 0, [3, 2, 230, 0]),
  (324, .lload 4, 2, 0, []), (326, .ladd, 1, 0, []), (327, .putfield 16, 3, 0, [3, 2, 230, 0]), (330, .aload_n 0, 1, 0, []), (331, .dup, 1, 0, []), (332, .getfield 19, 3, 0, [3, 3, 232, 0]),
  (335, .lload 6, 2, 0, []), (337, .ladd, 1, 0, []), (338, .putfield 19, 3, 0, [3, 3, 232, 0]), (341, .goto 50, 3, 0, [202, 391]), (344, .aload_n 0, 1, 0, []), (345, .dup, 1, 0, []),
  (346, .getfield 7, 3, 0, [3, 0, 226, 0]), (349, .lload 6, 2, 0, []), (351, .lsub, 1, 0, []), (352, .putfield 7, 3, 0, [3, 0, 226, 0]), (355, .aload_n 0, 1, 0, []), (356, .dup, 1, 0, []),
  (357, .getfield 13, 3, 0, [3, 1, 228, 0]), (360, .lload 4, 2, 0, []), (362, .lload 8, 2, 0, []), (364, .ladd, 1, 0, []), (365, .lsub, 1, 0, []), (366, .putfield 13, 3, 0, [3, 1, 228, 0]),
  (369, .aload_n 0, 1, 0, []), (370, .dup, 1, 0, []), (371, .getfield 16, 3, 0, [3, 2, 230, 0]), (374, .lload 10, 2, 0, []), (376, .lsub, 1, 0, []), (377, .putfield 16, 3, 0, [3, 2, 230, 0]),
  (380, .aload_n 0, 1, 0, []), (381, .dup, 1, 0, []), (382, .getfield 19, 3, 0, [3, 3, 232, 0]), (385, .lload 4, 2, 0, [])]
noncomputable def cd_93_2 : List mm_E := [
  (387, .ladd, 1, 0, []), (388, .putfield 19, 3, 0, [3, 3, 232, 0]), (391, .return_, 1, 2, [0])]
noncomputable def cd_93 : List mm_E := cd_93_0 ++ (cd_93_1 ++ (cd_93_2))
noncomputable def mt_93 : mm_M := (⟨"DeafArray$Num", "addTurned", "(LDeafArray$Num;I)V"⟩, prog_5_method_11_code, 12, none, 0, 0, 3, 2, false)
/-- DeafArray$Solver.weigh()V -/
noncomputable def cd_94 : List mm_E := [
  (0, .iconst 0, 1, 0, [0]), (1, .istore_n 1, 1, 0, []), (2, .iload_n 1, 1, 0, []), (3, .aload_n 0, 1, 0, []), (4, .getfield 12, 3, 0, [7, 0, 244, 0]), (7, .getfield 167, 3, 0, [5, 2, 136, 1]),
  (10, .if_icmp .ge 76, 3, 0, [47, 86]), (13, .aload_n 0, 1, 0, []), (14, .getfield 37, 3, 0, [7, 5, 254, 0]), (17, .iload_n 1, 1, 0, []), (18, .aaload, 1, 0, []), (19, .astore_n 2, 1, 0, []),
  (20, .aload_n 2, 1, 0, []), (21, .invokevirtual 105, 3, 1, [76, 1, 4, 1, 684, 94, 690, 682, 683, 0]), (24, .aload_n 0, 1, 0, []), (25, .getfield 12, 3, 0, [7, 0, 244, 0]), (28, .iload_n 1, 1, 0, []), (29, .invokevirtual 170, 3, 1, [67, 2, 6, 2, 649, 91, 749, 647, 648, 0]),
  (32, .ifCond .eq 48, 3, 0, [45, 80]), (35, .iconst 0, 1, 0, [0]), (36, .istore_n 3, 1, 0, []), (37, .iload_n 3, 1, 0, []), (38, .aload_n 0, 1, 0, []), (39, .getfield 92, 3, 0, [7, 11, 266, 0]),
  (42, .if_icmp .ge 38, 3, 0, [45, 80]), (45, .aload_n 2, 1, 0, []), (46, .aload_n 0, 1, 0, []), (47, .getfield 34, 3, 0, [7, 4, 252, 0]), (50, .iload_n 3, 1, 0, []), (51, .aaload, 1, 0, []),
  (52, .bipush 12, 2, 0, [12]), (54, .aload_n 0, 1, 0, []), (55, .getfield 18, 3, 0, [7, 1, 247, 0]), (58, .iload_n 3, 1, 0, []), (59, .iaload, 1, 0, []), (60, .isub, 1, 0, []),
  (61, .aload_n 0, 1, 0, []), (62, .getfield 12, 3, 0, [7, 0, 244, 0]), (65, .getfield 174, 3, 0, [5, 0, 128, 1]), (68, .iload_n 1, 1, 0, []), (69, .iaload, 1, 0, []), (70, .imul, 1, 0, []),
  (71, .invokevirtual 177, 3, 1, [93, 3, 4, 12, 753, 94, 750, 751, 752, 0]), (74, .iinc 3 1, 3, 0, []), (77, .goto (-40), 3, 0, [21, 37]), (80, .iinc 1 1, 3, 0, []), (83, .goto (-81), 3, 0, [2, 2]), (86, .return_, 1, 2, [0])]
noncomputable def mt_94 : mm_M := (⟨"DeafArray$Solver", "weigh", "()V"⟩, prog_9_method_10_code, 4, none, 1, 31, 7, 0, false)
/-- DeafArray$Solver.solve()V -/
noncomputable def cd_95 : List mm_E := [
  (0, .aload_n 0, 1, 0, []), (1, .invokevirtual 60, 3, 1, [75, 1, 8, 2, 672, 92, 669, 671, 13, 0]), (4, .aload_n 0, 1, 0, []), (5, .invokevirtual 63, 3, 1, [79, 1, 8, 3, 676, 92, 673, 675, 14, 0]), (8, .aload_n 0, 1, 0, []), (9, .aload_n 0, 1, 0, []),
  (10, .getfield 12, 3, 0, [7, 0, 244, 0]), (13, .getfield 66, 3, 0, [5, 4, 140, 1]), (16, .iconst (-1), 1, 0, [4294967295]), (17, .if_icmp .eq 7, 3, 0, [12, 24]), (20, .iconst 1, 1, 0, [1]), (21, .goto 4, 3, 0, [13, 25]),
  (24, .iconst 0, 1, 0, [0]), (25, .putfield 70, 3, 0, [7, 13, 270, 0]), (28, .aload_n 0, 1, 0, []), (29, .invokevirtual 74, 3, 1, [90, 1, 8, 4, 695, 92, 692, 694, 15, 0]), (32, .aload_n 0, 1, 0, []), (33, .getfield 70, 3, 0, [7, 13, 270, 0]),
  (36, .ifCond .eq 11, 3, 0, [23, 47]), (39, .aload_n 0, 1, 0, []), (40, .invokevirtual 77, 3, 1, [92, 1, 8, 4, 740, 92, 737, 739, 17, 0]), (43, .aload_n 0, 1, 0, []), (44, .invokevirtual 80, 3, 1, [94, 1, 8, 4, 748, 92, 745, 747, 18, 0]), (47, .return_, 1, 2, [0])]
noncomputable def mt_95 : mm_M := (⟨"DeafArray$Solver", "solve", "()V"⟩, prog_9_method_2_code, 1, none, 3, 80, 7, 0, false)
/-- DeafArray$Plan.hearBy([LDeafArray$Num;ILDeafArray$Num;)V -/
noncomputable def cd_96 : List mm_E := [
  (0, .aload_n 3, 1, 0, []), (1, .invokevirtual 75, 3, 1, [76, 1, 4, 1, 684, 94, 681, 682, 683, 0]), (4, .iconst 0, 1, 0, [0]), (5, .istore 4, 2, 0, []), (7, .iload 4, 2, 0, []), (9, .aload_n 0, 1, 0, []),
  (10, .getfield 22, 3, 0, [5, 2, 132, 0]), (13, .if_icmp .ge 42, 3, 0, [29, 55]), (16, .iload 4, 2, 0, []), (18, .aload_n 1, 1, 0, []), (19, .arraylength, 1, 0, []), (20, .if_icmp .ge 35, 3, 0, [29, 55]),
  (23, .aload_n 0, 1, 0, []), (24, .iload 4, 2, 0, []), (26, .invokevirtual 65, 3, 1, [67, 2, 6, 2, 649, 91, 685, 647, 648, 0]), (29, .ifCond .eq 20, 3, 0, [27, 49]), (32, .aload_n 3, 1, 0, []), (33, .aload_n 1, 1, 0, []),
  (34, .iload 4, 2, 0, []), (36, .aaload, 1, 0, []), (37, .iload_n 2, 1, 0, []), (38, .aload_n 0, 1, 0, []), (39, .getfield 9, 3, 0, [5, 0, 125, 0]), (42, .iload 4, 2, 0, []),
  (44, .iaload, 1, 0, []), (45, .imul, 1, 0, []), (46, .invokevirtual 83, 3, 1, [93, 3, 4, 12, 753, 94, 762, 751, 752, 0]), (49, .iinc 4 1, 3, 0, []), (52, .goto (-45), 3, 0, [4, 7]), (55, .return_, 1, 2, [0])]
noncomputable def mt_96 : mm_M := (⟨"DeafArray$Plan", "hearBy", "([LDeafArray$Num;ILDeafArray$Num;)V"⟩, prog_7_method_22_code, 5, none, 1, 31, 5, 3, false)
/-- DeafArray$Num.powerX()J -/
noncomputable def cd_97 : List mm_E := [
  (0, .aload_n 0, 1, 0, []), (1, .getfield 7, 3, 0, [3, 0, 226, 0]), (4, .aload_n 0, 1, 0, []), (5, .getfield 7, 3, 0, [3, 0, 226, 0]), (8, .lmul, 1, 0, []), (9, .aload_n 0, 1, 0, []),
  (10, .getfield 13, 3, 0, [3, 1, 228, 0]), (13, .aload_n 0, 1, 0, []), (14, .getfield 13, 3, 0, [3, 1, 228, 0]), (17, .lmul, 1, 0, []), (18, .ladd, 1, 0, []), (19, .aload_n 0, 1, 0, []),
  (20, .getfield 16, 3, 0, [3, 2, 230, 0]), (23, .aload_n 0, 1, 0, []), (24, .getfield 16, 3, 0, [3, 2, 230, 0]), (27, .lmul, 1, 0, []), (28, .ladd, 1, 0, []), (29, .aload_n 0, 1, 0, []),
  (30, .getfield 19, 3, 0, [3, 3, 232, 0]), (33, .aload_n 0, 1, 0, []), (34, .getfield 19, 3, 0, [3, 3, 232, 0]), (37, .lmul, 1, 0, []), (38, .ladd, 1, 0, []), (39, .aload_n 0, 1, 0, []),
  (40, .getfield 7, 3, 0, [3, 0, 226, 0]), (43, .aload_n 0, 1, 0, []), (44, .getfield 16, 3, 0, [3, 2, 230, 0]), (47, .lmul, 1, 0, []), (48, .ladd, 1, 0, []), (49, .aload_n 0, 1, 0, []),
  (50, .getfield 13, 3, 0, [3, 1, 228, 0]), (53, .aload_n 0, 1, 0, []), (54, .getfield 19, 3, 0, [3, 3, 232, 0]), (57, .lmul, 1, 0, []), (58, .ladd, 1, 0, []), (59, .lreturn, 1, 2, [3])]
noncomputable def mt_97 : mm_M := (⟨"DeafArray$Num", "powerX", "()J"⟩, prog_5_method_18_code, 1, (some (.long)), 0, 0, 3, 0, false)
/-- DeafArray$Num.powerY()J -/
noncomputable def cd_98 : List mm_E := [
  (0, .aload_n 0, 1, 0, []), (1, .getfield 7, 3, 0, [3, 0, 226, 0]), (4, .aload_n 0, 1, 0, []), (5, .getfield 13, 3, 0, [3, 1, 228, 0]), (8, .lmul, 1, 0, []), (9, .aload_n 0, 1, 0, []),
  (10, .getfield 13, 3, 0, [3, 1, 228, 0]), (13, .aload_n 0, 1, 0, []), (14, .getfield 16, 3, 0, [3, 2, 230, 0]), (17, .lmul, 1, 0, []), (18, .ladd, 1, 0, []), (19, .aload_n 0, 1, 0, []),
  (20, .getfield 16, 3, 0, [3, 2, 230, 0]), (23, .aload_n 0, 1, 0, []), (24, .getfield 19, 3, 0, [3, 3, 232, 0]), (27, .lmul, 1, 0, []), (28, .ladd, 1, 0, []), (29, .lreturn, 1, 2, [3])]
noncomputable def mt_98 : mm_M := (⟨"DeafArray$Num", "powerY", "()J"⟩, prog_5_method_19_code, 1, (some (.long)), 0, 0, 3, 0, false)
/-- DeafArray$Solver.listen()V -/
noncomputable def cd_99 : List mm_E := [
  (0, .iconst 0, 1, 0, [0]), (1, .istore_n 1, 1, 0, []), (2, .iload_n 1, 1, 0, []), (3, .bipush 12, 2, 0, [12]), (5, .if_icmp .ge 57, 3, 0, [35, 62]), (8, .aload_n 0, 1, 0, []),
  (9, .getfield 12, 3, 0, [7, 0, 244, 0]), (12, .aload_n 0, 1, 0, []), (13, .getfield 37, 3, 0, [7, 5, 254, 0]), (16, .iload_n 1, 1, 0, []), (17, .aload_n 0, 1, 0, []), (18, .getfield 40, 3, 0, [7, 6, 257, 0]),
  (21, .iload_n 1, 1, 0, []), (22, .aaload, 1, 0, []), (23, .invokevirtual 83, 3, 1, [96, 4, 6, 5, 761, 91, 758, 759, 760, 0]), (26, .aload_n 0, 1, 0, []), (27, .getfield 43, 3, 0, [7, 7, 260, 0]), (30, .iload_n 1, 1, 0, []),
  (31, .aload_n 0, 1, 0, []), (32, .getfield 40, 3, 0, [7, 6, 257, 0]), (35, .iload_n 1, 1, 0, []), (36, .aaload, 1, 0, []), (37, .invokevirtual 87, 3, 1, [97, 1, 4, 1, 766, 94, 763, 764, 765, 0]), (40, .lastore, 1, 0, []),
  (41, .aload_n 0, 1, 0, []), (42, .getfield 47, 3, 0, [7, 8, 262, 0]), (45, .iload_n 1, 1, 0, []), (46, .aload_n 0, 1, 0, []), (47, .getfield 40, 3, 0, [7, 6, 257, 0]), (50, .iload_n 1, 1, 0, []),
  (51, .aaload, 1, 0, []), (52, .invokevirtual 90, 3, 1, [98, 1, 4, 1, 770, 94, 767, 768, 769, 0]), (55, .lastore, 1, 0, []), (56, .iinc 1 1, 3, 0, []), (59, .goto (-57), 3, 0, [2, 2]), (62, .return_, 1, 2, [0])]
noncomputable def mt_99 : mm_M := (⟨"DeafArray$Solver", "listen", "()V"⟩, prog_9_method_3_code, 2, none, 2, 55, 7, 0, false)
/-- DeafArray.refresh()V -/
noncomputable def cd_100 : List mm_E := [
  (0, .aload_n 0, 1, 0, []), (1, .getfield 67, 3, 0, [8, 9, 425, 0]), (4, .ifCond .eq 32, 3, 0, [16, 36]), (7, .aload_n 0, 1, 0, []), (8, .getfield 21, 3, 0, [8, 1, 417, 0]), (11, .invokevirtual 359, 3, 1, [95, 1, 8, 1, 668, 92, 665, 666, 667, 0]),
  (14, .aload_n 0, 1, 0, []), (15, .getfield 21, 3, 0, [8, 1, 417, 0]), (18, .getfield 156, 3, 0, [7, 13, 271, 1]), (21, .ifCond .eq 10, 3, 0, [13, 31]), (24, .aload_n 0, 1, 0, []), (25, .getfield 21, 3, 0, [8, 1, 417, 0]),
  (28, .invokevirtual 398, 3, 1, [99, 1, 8, 2, 757, 92, 754, 755, 756, 0]), (31, .aload_n 0, 1, 0, []), (32, .iconst 0, 1, 0, [0]), (33, .putfield 67, 3, 0, [8, 9, 425, 0]), (36, .return_, 1, 2, [0])]
noncomputable def mt_100 : mm_M := (⟨"DeafArray", "refresh", "()V"⟩, prog_1_method_61_code, 1, none, 4, 100, 8, 0, false)
/-- DeafArray.wish(II)I -/
noncomputable def cd_101 : List mm_E := [
  (0, .aload_n 0, 1, 0, []), (1, .invokevirtual 140, 3, 1, [100, 1, 9, 1, 664, 89, 661, 663, 12, 0]), (4, .iload_n 1, 1, 0, []), (5, .aload_n 0, 1, 0, []), (6, .getfield 21, 3, 0, [8, 1, 417, 0]), (9, .getfield 143, 3, 0, [7, 11, 267, 1]),
  (12, .invokestatic 126, 3, 1, [65, 2, 0, 2, 644, 89, 645, 643, 0, 0]), (15, .ifCond .eq 11, 3, 0, [12, 26]), (18, .iload_n 2, 1, 0, []), (19, .iconst 2, 1, 0, [2]), (20, .invokestatic 126, 3, 1, [65, 2, 0, 2, 644, 89, 645, 643, 0, 0]), (23, .ifCond .ne 6, 3, 0, [14, 29]),
  (26, .bipush (-2), 2, 0, [4294967294]), (28, .ireturn, 1, 2, [1]), (29, .iload_n 2, 1, 0, []), (30, .ifCond .ne 13, 3, 0, [22, 43]), (33, .aload_n 0, 1, 0, []), (34, .getfield 21, 3, 0, [8, 1, 417, 0]),
  (37, .getfield 146, 3, 0, [7, 1, 248, 1]), (40, .iload_n 1, 1, 0, []), (41, .iaload, 1, 0, []), (42, .ireturn, 1, 2, [1]), (43, .aload_n 0, 1, 0, []), (44, .getfield 21, 3, 0, [8, 1, 417, 0]),
  (47, .getfield 149, 3, 0, [7, 2, 250, 1]), (50, .iload_n 1, 1, 0, []), (51, .baload, 1, 0, []), (52, .ifCond .eq 7, 3, 0, [30, 59]), (55, .iconst 1, 1, 0, [1]), (56, .goto 4, 3, 0, [31, 60]),
  (59, .iconst 0, 1, 0, [0]), (60, .ireturn, 1, 2, [1])]
noncomputable def mt_101 : mm_M := (⟨"DeafArray", "wish", "(II)I"⟩, prog_1_method_9_code, 3, (some (.int)), 5, 120, 8, 2, false)
/-- DeafArrayModel.laysElements(I)V -/
noncomputable def cd_102 : List mm_E := [
  (0, .aload_n 0, 1, 0, []), (1, .iconst 0, 1, 0, [0]), (2, .putfield 118, 3, 0, [9, 8, 1227, 0]), (5, .iconst 0, 1, 0, [0]), (6, .istore_n 2, 1, 0, []), (7, .iload_n 2, 1, 0, []),
  (8, .aload_n 0, 1, 0, []), (9, .getfield 18, 3, 0, [9, 5, 1224, 0]), (12, .iconst 1, 1, 0, [1]), (13, .iaload, 1, 0, []), (14, .if_icmp .ge 73, 3, 0, [53, 87]), (17, .aload_n 0, 1, 0, []),
  (18, .getfield 38, 3, 0, [9, 19, 1238, 0]), (21, .iload_n 2, 1, 0, []), (22, .iconst (-1), 1, 0, [4294967295]), (23, .iastore, 1, 0, []), (24, .aload_n 0, 1, 0, []), (25, .iload_n 2, 1, 0, []),
  (26, .invokevirtual 114, 3, 1, [61, 2, 10, 2, 1425, 99, 1422, 1424, 44, 0]), (29, .ifCond .ne 52, 3, 0, [51, 81]), (32, .iload_n 1, 1, 0, []), (33, .iload_n 2, 1, 0, []), (34, .ishr, 1, 0, []), (35, .iconst 1, 1, 0, [1]),
  (36, .iand, 1, 0, []), (37, .iconst 1, 1, 0, [1]), (38, .if_icmp .ne 6, 3, 0, [28, 44]), (41, .goto 40, 3, 0, [51, 81]), (44, .aload_n 0, 1, 0, []), (45, .getfield 38, 3, 0, [9, 19, 1238, 0]),
  (48, .iload_n 2, 1, 0, []), (49, .aload_n 0, 1, 0, []), (50, .getfield 118, 3, 0, [9, 8, 1227, 0]), (53, .iastore, 1, 0, []), (54, .aload_n 0, 1, 0, []), (55, .getfield 25, 3, 0, [9, 7, 1226, 0]),
  (58, .aload_n 0, 1, 0, []), (59, .getfield 118, 3, 0, [9, 8, 1227, 0]), (62, .aload_n 0, 1, 0, []), (63, .getfield 18, 3, 0, [9, 5, 1224, 0]), (66, .iconst 2, 1, 0, [2]), (67, .iload_n 2, 1, 0, []),
  (68, .iadd, 1, 0, []), (69, .iaload, 1, 0, []), (70, .iastore, 1, 0, []), (71, .aload_n 0, 1, 0, []), (72, .dup, 1, 0, []), (73, .getfield 118, 3, 0, [9, 8, 1227, 0]),
  (76, .iconst 1, 1, 0, [1]), (77, .iadd, 1, 0, []), (78, .putfield 118, 3, 0, [9, 8, 1227, 0]), (81, .iinc 2 1, 3, 0, []), (84, .goto (-77), 3, 0, [5, 7]), (87, .return_, 1, 2, [0])]
noncomputable def mt_102 : mm_M := (⟨"DeafArrayModel", "laysElements", "(I)V"⟩, prog_11_method_28_code, 3, none, 1, 21, 9, 1, false)
/-- DeafArrayModel.laysWishes(I)V -/
noncomputable def cd_103 : List mm_E := [
  (0, .aload_n 0, 1, 0, []), (1, .iconst 0, 1, 0, [0]), (2, .putfield 132, 3, 0, [9, 10, 1229, 0]), (5, .aload_n 0, 1, 0, []), (6, .iload_n 1, 1, 0, []), (7, .iconst (-1), 1, 0, [4294967295]),
  (8, .if_icmp .eq 7, 3, 0, [9, 15]), (11, .iconst 1, 1, 0, [1]), (12, .goto 4, 3, 0, [10, 16]), (15, .iconst 0, 1, 0, [0]), (16, .putfield 155, 3, 0, [9, 11, 1230, 0]), (19, .aload_n 0, 1, 0, []),
  (20, .getfield 155, 3, 0, [9, 11, 1230, 0]), (23, .ifCond .eq 15, 3, 0, [22, 38]), (26, .aload_n 0, 1, 0, []), (27, .getfield 28, 3, 0, [9, 9, 1228, 0]), (30, .iconst 0, 1, 0, [0]), (31, .iload_n 1, 1, 0, []),
  (32, .iastore, 1, 0, []), (33, .aload_n 0, 1, 0, []), (34, .iconst 1, 1, 0, [1]), (35, .putfield 132, 3, 0, [9, 10, 1229, 0]), (38, .iconst 0, 1, 0, [0]), (39, .istore_n 2, 1, 0, []),
  (40, .iload_n 2, 1, 0, []), (41, .aload_n 0, 1, 0, []), (42, .getfield 18, 3, 0, [9, 5, 1224, 0]), (45, .bipush 13, 2, 0, [13]), (47, .iaload, 1, 0, []), (48, .if_icmp .ge 53, 3, 0, [58, 101]),
  (51, .aload_n 0, 1, 0, []), (52, .getfield 18, 3, 0, [9, 5, 1224, 0]), (55, .bipush 14, 2, 0, [14]), (57, .iload_n 2, 1, 0, []), (58, .iadd, 1, 0, []), (59, .iaload, 1, 0, []),
  (60, .iload_n 1, 1, 0, []), (61, .if_icmp .ne 6, 3, 0, [39, 67]), (64, .goto 31, 3, 0, [56, 95]), (67, .aload_n 0, 1, 0, []), (68, .getfield 28, 3, 0, [9, 9, 1228, 0]), (71, .aload_n 0, 1, 0, []),
  (72, .getfield 132, 3, 0, [9, 10, 1229, 0]), (75, .aload_n 0, 1, 0, []), (76, .getfield 18, 3, 0, [9, 5, 1224, 0]), (79, .bipush 14, 2, 0, [14]), (81, .iload_n 2, 1, 0, []), (82, .iadd, 1, 0, []),
  (83, .iaload, 1, 0, []), (84, .iastore, 1, 0, []), (85, .aload_n 0, 1, 0, []), (86, .dup, 1, 0, []), (87, .getfield 132, 3, 0, [9, 10, 1229, 0]), (90, .iconst 1, 1, 0, [1]),
  (91, .iadd, 1, 0, []), (92, .putfield 132, 3, 0, [9, 10, 1229, 0]), (95, .iinc 2 1, 3, 0, []), (98, .goto (-58), 3, 0, [24, 40]), (101, .return_, 1, 2, [0])]
noncomputable def mt_103 : mm_M := (⟨"DeafArrayModel", "laysWishes", "(I)V"⟩, prog_11_method_29_code, 3, none, 0, 0, 9, 1, false)
/-- DeafArrayModel.clears(I)V -/
noncomputable def cd_104 : List mm_E := [
  (0, .iconst 0, 1, 0, [0]), (1, .istore_n 2, 1, 0, []), (2, .iload_n 2, 1, 0, []), (3, .iconst 4, 1, 0, [4]), (4, .if_icmp .ge 20, 3, 0, [16, 24]), (7, .aload_n 0, 1, 0, []),
  (8, .getfield 11, 3, 0, [9, 1, 1220, 0]), (11, .iconst 4, 1, 0, [4]), (12, .iload_n 1, 1, 0, []), (13, .imul, 1, 0, []), (14, .iload_n 2, 1, 0, []), (15, .iadd, 1, 0, []),
  (16, .lconst 0, 1, 0, [0]), (17, .lastore, 1, 0, []), (18, .iinc 2 1, 3, 0, []), (21, .goto (-19), 3, 0, [2, 2]), (24, .return_, 1, 2, [0])]
noncomputable def mt_104 : mm_M := (⟨"DeafArrayModel", "clears", "(I)V"⟩, prog_11_method_4_code, 3, none, 0, 0, 9, 1, false)
/-- java/lang/Math.floorMod(II)I -/
noncomputable def cd_105 : List mm_E := [
  (0, .iload_n 0, 1, 0, []), (1, .iload_n 1, 1, 0, []), (2, .irem, 1, 0, []), (3, .istore_n 2, 1, 0, []), (4, .iload_n 0, 1, 0, []), (5, .iload_n 1, 1, 0, []),
  (6, .ixor, 1, 0, []), (7, .ifCond .ge 11, 3, 0, [14, 18]), (10, .iload_n 2, 1, 0, []), (11, .ifCond .eq 7, 3, 0, [14, 18]), (14, .iload_n 2, 1, 0, []), (15, .iload_n 1, 1, 0, []),
  (16, .iadd, 1, 0, []), (17, .ireturn, 1, 2, [1]), (18, .iload_n 2, 1, 0, []), (19, .ireturn, 1, 2, [1])]
noncomputable def mt_105 : mm_M := (⟨"java/lang/Math", "floorMod", "(II)I"⟩, prog_13_method_50_code, 3, (some (.int)), 0, 0, 11, 2, false)
/-- DeafArrayModel.addsPower(IIJ)V -/
noncomputable def cd_106 : List mm_E := [
  (0, .iload_n 2, 1, 0, []), (1, .bipush 12, 2, 0, [12]), (3, .invokestatic 64, 3, 1, [105, 2, 0, 3, 1488, 93, 1486, 1487, 0, 0]), (6, .istore 5, 2, 0, []), (8, .iload 5, 2, 0, []), (10, .bipush 6, 2, 0, [6]),
  (12, .if_icmp .ge 7, 3, 0, [9, 19]), (15, .lload_n 3, 1, 0, []), (16, .goto 5, 3, 0, [11, 21]), (19, .lload_n 3, 1, 0, []), (20, .lneg, 1, 0, []), (21, .lstore 6, 2, 0, []),
  (23, .iconst 0, 1, 0, [0]), (24, .istore 8, 2, 0, []), (26, .iload 8, 2, 0, []), (28, .iconst 4, 1, 0, [4]), (29, .if_icmp .ge 41, 3, 0, [42, 70]), (32, .aload_n 0, 1, 0, []),
  (33, .getfield 11, 3, 0, [9, 1, 1220, 0]), (36, .iconst 4, 1, 0, [4]), (37, .iload_n 1, 1, 0, []), (38, .imul, 1, 0, []), (39, .iload 8, 2, 0, []), (41, .iadd, 1, 0, []),
  (42, .dup2, 1, 0, []), (43, .laload, 1, 0, []), (44, .lload 6, 2, 0, []), (46, .getstatic 70, 3, 0, [1489]), (49, .iconst 4, 1, 0, [4]), (50, .iload 5, 2, 0, []),
  (52, .bipush 6, 2, 0, [6]), (54, .irem, 1, 0, []), (55, .imul, 1, 0, []), (56, .iload 8, 2, 0, []), (58, .iadd, 1, 0, []), (59, .iaload, 1, 0, []),
  (60, .i2l, 1, 0, []), (61, .lmul, 1, 0, []), (62, .ladd, 1, 0, []), (63, .lastore, 1, 0, []), (64, .iinc 8 1, 3, 0, []), (67, .goto (-41), 3, 0, [14, 26]),
  (70, .return_, 1, 2, [0])]
noncomputable def mt_106 : mm_M := (⟨"DeafArrayModel", "addsPower", "(IIJ)V"⟩, prog_11_method_7_code, 9, none, 1, 22, 9, 3, false)
/-- DeafArrayModel.laysGram(I)V -/
noncomputable def cd_107 : List mm_E := [
  (0, .iconst 0, 1, 0, [0]), (1, .istore_n 2, 1, 0, []), (2, .iload_n 2, 1, 0, []), (3, .iload_n 1, 1, 0, []), (4, .if_icmp .ge 93, 3, 0, [57, 97]), (7, .iconst 0, 1, 0, [0]),
  (8, .istore_n 3, 1, 0, []), (9, .iload_n 3, 1, 0, []), (10, .iload_n 1, 1, 0, []), (11, .if_icmp .ge 80, 3, 0, [55, 91]), (14, .iconst 0, 1, 0, [0]), (15, .iconst 5, 1, 0, [5]),
  (16, .iload_n 2, 1, 0, []), (17, .imul, 1, 0, []), (18, .iadd, 1, 0, []), (19, .iload_n 3, 1, 0, []), (20, .iadd, 1, 0, []), (21, .istore 4, 2, 0, []),
  (23, .aload_n 0, 1, 0, []), (24, .iload 4, 2, 0, []), (26, .invokevirtual 81, 3, 1, [104, 2, 10, 3, 1481, 99, 1478, 1480, 54, 0]), (29, .iconst 0, 1, 0, [0]), (30, .istore 5, 2, 0, []), (32, .iload 5, 2, 0, []),
  (34, .aload_n 0, 1, 0, []), (35, .getfield 118, 3, 0, [9, 8, 1227, 0]), (38, .if_icmp .ge 47, 3, 0, [53, 85]), (41, .aload_n 0, 1, 0, []), (42, .iload 4, 2, 0, []), (44, .aload_n 0, 1, 0, []),
  (45, .getfield 28, 3, 0, [9, 9, 1228, 0]), (48, .aload_n 0, 1, 0, []), (49, .getfield 35, 3, 0, [9, 13, 1232, 0]), (52, .iload_n 2, 1, 0, []), (53, .iaload, 1, 0, []), (54, .iaload, 1, 0, []),
  (55, .aload_n 0, 1, 0, []), (56, .getfield 28, 3, 0, [9, 9, 1228, 0]), (59, .aload_n 0, 1, 0, []), (60, .getfield 35, 3, 0, [9, 13, 1232, 0]), (63, .iload_n 3, 1, 0, []), (64, .iaload, 1, 0, []),
  (65, .iaload, 1, 0, []), (66, .isub, 1, 0, []), (67, .aload_n 0, 1, 0, []), (68, .getfield 25, 3, 0, [9, 7, 1226, 0]), (71, .iload 5, 2, 0, []), (73, .iaload, 1, 0, []),
  (74, .imul, 1, 0, []), (75, .lconst 1, 1, 0, [1]), (76, .invokevirtual 73, 3, 1, [106, 4, 10, 9, 1485, 99, 1482, 1484, 55, 0]), (79, .iinc 5 1, 3, 0, []), (82, .goto (-50), 3, 0, [23, 32]), (85, .iinc 3 1, 3, 0, []),
  (88, .goto (-79), 3, 0, [7, 9]), (91, .iinc 2 1, 3, 0, []), (94, .goto (-92), 3, 0, [2, 2]), (97, .return_, 1, 2, [0])]
noncomputable def mt_107 : mm_M := (⟨"DeafArrayModel", "laysGram", "(I)V"⟩, prog_11_method_23_code, 6, none, 2, 50, 9, 1, false)
/-- DeafArrayModel.addsProduct(IIIJ)V -/
noncomputable def cd_108 : List mm_E := [
  (0, .iconst 0, 1, 0, [0]), (1, .istore 6, 2, 0, []), (3, .iload 6, 2, 0, []), (5, .bipush 7, 2, 0, [7]), (7, .if_icmp .ge 17, 3, 0, [12, 24]), (10, .aload_n 0, 1, 0, []),
  (11, .getfield 15, 3, 0, [9, 2, 1221, 0]), (14, .iload 6, 2, 0, []), (16, .lconst 0, 1, 0, [0]), (17, .lastore, 1, 0, []), (18, .iinc 6 1, 3, 0, []), (21, .goto (-18), 3, 0, [2, 3]),
  (24, .iconst 0, 1, 0, [0]), (25, .istore 6, 2, 0, []), (27, .iload 6, 2, 0, []), (29, .iconst 4, 1, 0, [4]), (30, .if_icmp .ge 60, 3, 0, [52, 90]), (33, .iconst 0, 1, 0, [0]),
  (34, .istore 7, 2, 0, []), (36, .iload 7, 2, 0, []), (38, .iconst 4, 1, 0, [4]), (39, .if_icmp .ge 45, 3, 0, [50, 84]), (42, .aload_n 0, 1, 0, []), (43, .getfield 15, 3, 0, [9, 2, 1221, 0]),
  (46, .iload 6, 2, 0, []), (48, .iload 7, 2, 0, []), (50, .iadd, 1, 0, []), (51, .dup2, 1, 0, []), (52, .laload, 1, 0, []), (53, .aload_n 0, 1, 0, []),
  (54, .getfield 11, 3, 0, [9, 1, 1220, 0]), (57, .iconst 4, 1, 0, [4]), (58, .iload_n 2, 1, 0, []), (59, .imul, 1, 0, []), (60, .iload 6, 2, 0, []), (62, .iadd, 1, 0, []),
  (63, .laload, 1, 0, []), (64, .aload_n 0, 1, 0, []), (65, .getfield 11, 3, 0, [9, 1, 1220, 0]), (68, .iconst 4, 1, 0, [4]), (69, .iload_n 3, 1, 0, []), (70, .imul, 1, 0, []),
  (71, .iload 7, 2, 0, []), (73, .iadd, 1, 0, []), (74, .laload, 1, 0, []), (75, .lmul, 1, 0, []), (76, .ladd, 1, 0, []), (77, .lastore, 1, 0, []),
  (78, .iinc 7 1, 3, 0, []), (81, .goto (-45), 3, 0, [19, 36]), (84, .iinc 6 1, 3, 0, []), (87, .goto (-60), 3, 0, [14, 27]), (90, .iconst 0, 1, 0, [0]), (91, .istore 6, 2, 0, []),
  (93, .iload 6, 2, 0, []), (95, .bipush 7, 2, 0, [7]), (97, .if_icmp .ge 26, 3, 0, [69, 123]), (100, .aload_n 0, 1, 0, []), (101, .iload_n 1, 1, 0, []), (102, .iload 6, 2, 0, []),
  (104, .aload_n 0, 1, 0, []), (105, .getfield 15, 3, 0, [9, 2, 1221, 0]), (108, .iload 6, 2, 0, []), (110, .laload, 1, 0, []), (111, .lload 4, 2, 0, []), (113, .lmul, 1, 0, []),
  (114, .invokevirtual 73, 3, 1, [106, 4, 10, 9, 1485, 99, 1482, 1484, 55, 0]), (117, .iinc 6 1, 3, 0, []), (120, .goto (-27), 3, 0, [54, 93]), (123, .return_, 1, 2, [0])]
noncomputable def mt_108 : mm_M := (⟨"DeafArrayModel", "addsProduct", "(IIIJ)V"⟩, prog_11_method_8_code, 8, none, 2, 50, 9, 4, false)
/-- DeafArrayModel.laysDeterminants(II)V -/
noncomputable def cd_109 : List mm_E := [
  (0, .aload_n 0, 1, 0, []), (1, .bipush 25, 2, 0, [25]), (3, .invokevirtual 81, 3, 1, [104, 2, 10, 3, 1481, 99, 1478, 1480, 54, 0]), (6, .aload_n 0, 1, 0, []), (7, .getfield 11, 3, 0, [9, 1, 1220, 0]), (10, .bipush 100, 2, 0, [100]),
  (12, .lconst 1, 1, 0, [1]), (13, .lastore, 1, 0, []), (14, .iconst 1, 1, 0, [1]), (15, .istore_n 3, 1, 0, []), (16, .iload_n 3, 1, 0, []), (17, .iconst 1, 1, 0, [1]),
  (18, .iload_n 2, 1, 0, []), (19, .ishl, 1, 0, []), (20, .if_icmp .ge 118, 3, 0, [84, 138]), (23, .iload_n 3, 1, 0, []), (24, .invokestatic 121, 3, 1, [57, 1, 0, 1, 625, 104, 1495, 624, 0, 0]), (27, .istore 4, 2, 0, []),
  (29, .aload_n 0, 1, 0, []), (30, .bipush 25, 2, 0, [25]), (32, .iload_n 3, 1, 0, []), (33, .iadd, 1, 0, []), (34, .invokevirtual 81, 3, 1, [104, 2, 10, 3, 1481, 99, 1478, 1480, 54, 0]), (37, .iload_n 1, 1, 0, []),
  (38, .iload 4, 2, 0, []), (40, .iadd, 1, 0, []), (41, .iload_n 2, 1, 0, []), (42, .if_icmp .le 6, 3, 0, [29, 48]), (45, .goto 87, 3, 0, [82, 132]), (48, .iconst 0, 1, 0, [0]),
  (49, .istore 5, 2, 0, []), (51, .iconst 0, 1, 0, [0]), (52, .istore 6, 2, 0, []), (54, .iload 6, 2, 0, []), (56, .iload_n 2, 1, 0, []), (57, .if_icmp .ge 75, 3, 0, [82, 132]),
  (60, .iload_n 3, 1, 0, []), (61, .iload 6, 2, 0, []), (63, .ishr, 1, 0, []), (64, .iconst 1, 1, 0, [1]), (65, .iand, 1, 0, []), (66, .ifCond .ne 6, 3, 0, [43, 72]),
  (69, .goto 57, 3, 0, [80, 126]), (72, .aload_n 0, 1, 0, []), (73, .bipush 25, 2, 0, [25]), (75, .iload_n 3, 1, 0, []), (76, .iadd, 1, 0, []), (77, .iconst 0, 1, 0, [0]),
  (78, .iconst 5, 1, 0, [5]), (79, .iload_n 1, 1, 0, []), (80, .iload 4, 2, 0, []), (82, .iadd, 1, 0, []), (83, .iconst 1, 1, 0, [1]), (84, .isub, 1, 0, []),
  (85, .imul, 1, 0, []), (86, .iadd, 1, 0, []), (87, .iload 6, 2, 0, []), (89, .iadd, 1, 0, []), (90, .bipush 25, 2, 0, [25]), (92, .iload_n 3, 1, 0, []),
  (93, .iconst 1, 1, 0, [1]), (94, .iload 6, 2, 0, []), (96, .ishl, 1, 0, []), (97, .iconst (-1), 1, 0, [4294967295]), (98, .ixor, 1, 0, []), (99, .iand, 1, 0, []),
  (100, .iadd, 1, 0, []), (101, .iload 5, 2, 0, []), (103, .iload 4, 2, 0, []), (105, .iadd, 1, 0, []), (106, .iconst 1, 1, 0, [1]), (107, .isub, 1, 0, []),
  (108, .iconst 2, 1, 0, [2]), (109, .irem, 1, 0, []), (110, .ifCond .ne 7, 3, 0, [77, 117]), (113, .lconst 1, 1, 0, [1]), (114, .goto 6, 3, 0, [78, 120]), (117, .ldc2_w 127, 3, 0, [18446744073709551615, 0, 1496]),
  (120, .invokevirtual 85, 3, 1, [108, 5, 10, 8, 1500, 99, 1497, 1499, 57, 0]), (123, .iinc 5 1, 3, 0, []), (126, .iinc 6 1, 3, 0, []), (129, .goto (-75), 3, 0, [33, 54]), (132, .iinc 3 1, 3, 0, []), (135, .goto (-119), 3, 0, [10, 16]),
  (138, .return_, 1, 2, [0])]
noncomputable def mt_109 : mm_M := (⟨"DeafArrayModel", "laysDeterminants", "(II)V"⟩, prog_11_method_24_code, 7, none, 3, 77, 9, 2, false)
/-- DeafArrayModel.part(II)J -/
noncomputable def cd_110 : List mm_E := [
  (0, .aload_n 0, 1, 0, []), (1, .getfield 11, 3, 0, [9, 1, 1220, 0]), (4, .iconst 4, 1, 0, [4]), (5, .iload_n 1, 1, 0, []), (6, .imul, 1, 0, []), (7, .iload_n 2, 1, 0, []),
  (8, .iadd, 1, 0, []), (9, .laload, 1, 0, []), (10, .lreturn, 1, 2, [3])]
noncomputable def mt_110 : mm_M := (⟨"DeafArrayModel", "part", "(II)J"⟩, prog_11_method_5_code, 3, (some (.long)), 0, 0, 9, 2, false)
/-- DeafArrayModel.isNought(I)Z -/
noncomputable def cd_111 : List mm_E := [
  (0, .aload_n 0, 1, 0, []), (1, .iload_n 1, 1, 0, []), (2, .iconst 0, 1, 0, [0]), (3, .invokevirtual 77, 3, 1, [110, 3, 10, 3, 1508, 99, 1505, 1507, 59, 0]), (6, .lconst 0, 1, 0, [0]), (7, .lcmp, 1, 0, []),
  (8, .ifCond .ne 40, 3, 0, [30, 48]), (11, .aload_n 0, 1, 0, []), (12, .iload_n 1, 1, 0, []), (13, .iconst 1, 1, 0, [1]), (14, .invokevirtual 77, 3, 1, [110, 3, 10, 3, 1508, 99, 1505, 1507, 59, 0]), (17, .lconst 0, 1, 0, [0]),
  (18, .lcmp, 1, 0, []), (19, .ifCond .ne 29, 3, 0, [30, 48]), (22, .aload_n 0, 1, 0, []), (23, .iload_n 1, 1, 0, []), (24, .iconst 2, 1, 0, [2]), (25, .invokevirtual 77, 3, 1, [110, 3, 10, 3, 1508, 99, 1505, 1507, 59, 0]),
  (28, .lconst 0, 1, 0, [0]), (29, .lcmp, 1, 0, []), (30, .ifCond .ne 18, 3, 0, [30, 48]), (33, .aload_n 0, 1, 0, []), (34, .iload_n 1, 1, 0, []), (35, .iconst 3, 1, 0, [3]),
  (36, .invokevirtual 77, 3, 1, [110, 3, 10, 3, 1508, 99, 1505, 1507, 59, 0]), (39, .lconst 0, 1, 0, [0]), (40, .lcmp, 1, 0, []), (41, .ifCond .ne 7, 3, 0, [30, 48]), (44, .iconst 1, 1, 0, [1]), (45, .goto 4, 3, 0, [31, 49]),
  (48, .iconst 0, 1, 0, [0]), (49, .ireturn, 1, 2, [2])]
noncomputable def mt_111 : mm_M := (⟨"DeafArrayModel", "isNought", "(I)Z"⟩, prog_11_method_10_code, 2, (some (.boolean)), 1, 22, 9, 1, false)
/-- DeafArrayModel.findsRank()V -/
noncomputable def cd_112 : List mm_E := [
  (0, .aload_n 0, 1, 0, []), (1, .iconst 0, 1, 0, [0]), (2, .putfield 129, 3, 0, [9, 14, 1233, 0]), (5, .iconst 0, 1, 0, [0]), (6, .istore_n 1, 1, 0, []), (7, .iload_n 1, 1, 0, []),
  (8, .aload_n 0, 1, 0, []), (9, .getfield 132, 3, 0, [9, 10, 1229, 0]), (12, .if_icmp .ge 82, 3, 0, [57, 94]), (15, .aload_n 0, 1, 0, []), (16, .getfield 35, 3, 0, [9, 13, 1232, 0]), (19, .aload_n 0, 1, 0, []),
  (20, .getfield 129, 3, 0, [9, 14, 1233, 0]), (23, .iload_n 1, 1, 0, []), (24, .iastore, 1, 0, []), (25, .aload_n 0, 1, 0, []), (26, .aload_n 0, 1, 0, []), (27, .getfield 129, 3, 0, [9, 14, 1233, 0]),
  (30, .iconst 1, 1, 0, [1]), (31, .iadd, 1, 0, []), (32, .invokevirtual 135, 3, 1, [107, 2, 10, 6, 1477, 99, 1474, 1476, 53, 0]), (35, .aload_n 0, 1, 0, []), (36, .iconst 0, 1, 0, [0]), (37, .aload_n 0, 1, 0, []),
  (38, .getfield 129, 3, 0, [9, 14, 1233, 0]), (41, .iconst 1, 1, 0, [1]), (42, .iadd, 1, 0, []), (43, .invokevirtual 138, 3, 1, [109, 3, 10, 7, 1494, 99, 1491, 1493, 56, 0]), (46, .aload_n 0, 1, 0, []), (47, .getfield 31, 3, 0, [9, 12, 1231, 0]),
  (50, .iload_n 1, 1, 0, []), (51, .aload_n 0, 1, 0, []), (52, .bipush 25, 2, 0, [25]), (54, .iconst 1, 1, 0, [1]), (55, .aload_n 0, 1, 0, []), (56, .getfield 129, 3, 0, [9, 14, 1233, 0]),
  (59, .iconst 1, 1, 0, [1]), (60, .iadd, 1, 0, []), (61, .ishl, 1, 0, []), (62, .iadd, 1, 0, []), (63, .iconst 1, 1, 0, [1]), (64, .isub, 1, 0, []),
  (65, .invokevirtual 142, 3, 1, [111, 2, 10, 2, 1504, 99, 1501, 1503, 58, 0]), (68, .bastore, 1, 0, []), (69, .aload_n 0, 1, 0, []), (70, .getfield 31, 3, 0, [9, 12, 1231, 0]), (73, .iload_n 1, 1, 0, []), (74, .baload, 1, 0, []),
  (75, .ifCond .ne 13, 3, 0, [55, 88]), (78, .aload_n 0, 1, 0, []), (79, .dup, 1, 0, []), (80, .getfield 129, 3, 0, [9, 14, 1233, 0]), (83, .iconst 1, 1, 0, [1]), (84, .iadd, 1, 0, []),
  (85, .putfield 129, 3, 0, [9, 14, 1233, 0]), (88, .iinc 1 1, 3, 0, []), (91, .goto (-84), 3, 0, [5, 7]), (94, .return_, 1, 2, [0])]
noncomputable def mt_112 : mm_M := (⟨"DeafArrayModel", "findsRank", "()V"⟩, prog_11_method_25_code, 2, none, 4, 103, 9, 0, false)
/-- DeafArrayModel.adds(IIJ)V -/
noncomputable def cd_113 : List mm_E := [
  (0, .iconst 0, 1, 0, [0]), (1, .istore 5, 2, 0, []), (3, .iload 5, 2, 0, []), (5, .iconst 4, 1, 0, [4]), (6, .if_icmp .ge 36, 3, 0, [28, 42]), (9, .aload_n 0, 1, 0, []),
  (10, .getfield 11, 3, 0, [9, 1, 1220, 0]), (13, .iconst 4, 1, 0, [4]), (14, .iload_n 1, 1, 0, []), (15, .imul, 1, 0, []), (16, .iload 5, 2, 0, []), (18, .iadd, 1, 0, []),
  (19, .dup2, 1, 0, []), (20, .laload, 1, 0, []), (21, .aload_n 0, 1, 0, []), (22, .getfield 11, 3, 0, [9, 1, 1220, 0]), (25, .iconst 4, 1, 0, [4]), (26, .iload_n 2, 1, 0, []),
  (27, .imul, 1, 0, []), (28, .iload 5, 2, 0, []), (30, .iadd, 1, 0, []), (31, .laload, 1, 0, []), (32, .lload_n 3, 1, 0, []), (33, .lmul, 1, 0, []),
  (34, .ladd, 1, 0, []), (35, .lastore, 1, 0, []), (36, .iinc 5 1, 3, 0, []), (39, .goto (-36), 3, 0, [2, 3]), (42, .return_, 1, 2, [0])]
noncomputable def mt_113 : mm_M := (⟨"DeafArrayModel", "adds", "(IIJ)V"⟩, prog_11_method_6_code, 6, none, 0, 0, 9, 3, false)
/-- DeafArrayModel.addsTurned(IIIJ)V -/
noncomputable def cd_114 : List mm_E := [
  (0, .iconst 0, 1, 0, [0]), (1, .istore 6, 2, 0, []), (3, .iload 6, 2, 0, []), (5, .iconst 4, 1, 0, [4]), (6, .if_icmp .ge 32, 3, 0, [23, 38]), (9, .aload_n 0, 1, 0, []),
  (10, .iload_n 1, 1, 0, []), (11, .iload_n 3, 1, 0, []), (12, .iload 6, 2, 0, []), (14, .iadd, 1, 0, []), (15, .aload_n 0, 1, 0, []), (16, .getfield 11, 3, 0, [9, 1, 1220, 0]),
  (19, .iconst 4, 1, 0, [4]), (20, .iload_n 2, 1, 0, []), (21, .imul, 1, 0, []), (22, .iload 6, 2, 0, []), (24, .iadd, 1, 0, []), (25, .laload, 1, 0, []),
  (26, .lload 4, 2, 0, []), (28, .lmul, 1, 0, []), (29, .invokevirtual 73, 3, 1, [106, 4, 10, 9, 1485, 99, 1482, 1484, 55, 0]), (32, .iinc 6 1, 3, 0, []), (35, .goto (-32), 3, 0, [2, 3]), (38, .return_, 1, 2, [0])]
noncomputable def mt_114 : mm_M := (⟨"DeafArrayModel", "addsTurned", "(IIIJ)V"⟩, prog_11_method_9_code, 7, none, 2, 50, 9, 4, false)
/-- DeafArrayModel.laysGain(II)V -/
noncomputable def cd_115 : List mm_E := [
  (0, .aload_n 0, 1, 0, []), (1, .iload_n 1, 1, 0, []), (2, .invokevirtual 81, 3, 1, [104, 2, 10, 3, 1481, 99, 1478, 1480, 54, 0]), (5, .iconst 0, 1, 0, [0]), (6, .istore_n 3, 1, 0, []), (7, .iload_n 3, 1, 0, []),
  (8, .aload_n 0, 1, 0, []), (9, .getfield 118, 3, 0, [9, 8, 1227, 0]), (12, .if_icmp .ge 27, 3, 0, [24, 39]), (15, .aload_n 0, 1, 0, []), (16, .iload_n 1, 1, 0, []), (17, .bipush 62, 2, 0, [62]),
  (19, .iload_n 3, 1, 0, []), (20, .iadd, 1, 0, []), (21, .iload_n 2, 1, 0, []), (22, .aload_n 0, 1, 0, []), (23, .getfield 25, 3, 0, [9, 7, 1226, 0]), (26, .iload_n 3, 1, 0, []),
  (27, .iaload, 1, 0, []), (28, .imul, 1, 0, []), (29, .lconst 1, 1, 0, [1]), (30, .invokevirtual 145, 3, 1, [114, 5, 10, 7, 1518, 99, 1515, 1517, 61, 0]), (33, .iinc 3 1, 3, 0, []), (36, .goto (-29), 3, 0, [5, 7]),
  (39, .return_, 1, 2, [0])]
noncomputable def mt_115 : mm_M := (⟨"DeafArrayModel", "laysGain", "(II)V"⟩, prog_11_method_26_code, 4, none, 3, 76, 9, 2, false)
/-- DeafArrayModel.solves()V -/
noncomputable def cd_116_0 : List mm_E := [
  (0, .aload_n 0, 1, 0, []), (1, .invokevirtual 148, 3, 1, [112, 1, 10, 2, 1473, 99, 1470, 1472, 52, 0]), (4, .aload_n 0, 1, 0, []), (5, .iconst 0, 1, 0, [0]), (6, .putfield 151, 3, 0, [9, 15, 1234, 0]), (9, .aload_n 0, 1, 0, []),
  (10, .getfield 155, 3, 0, [9, 11, 1230, 0]), (13, .ifCond .eq 12, 3, 0, [13, 25]), (16, .aload_n 0, 1, 0, []), (17, .getfield 31, 3, 0, [9, 12, 1231, 0]), (20, .iconst 0, 1, 0, [0]), (21, .baload, 1, 0, []),
  (22, .ifCond .eq 4, 3, 0, [14, 26]), (25, .return_, 1, 2, [0]), (26, .aload_n 0, 1, 0, []), (27, .aload_n 0, 1, 0, []), (28, .getfield 129, 3, 0, [9, 14, 1233, 0]), (31, .invokevirtual 135, 3, 1, [107, 2, 10, 6, 1477, 99, 1474, 1476, 53, 0]),
  (34, .aload_n 0, 1, 0, []), (35, .iconst 0, 1, 0, [0]), (36, .aload_n 0, 1, 0, []), (37, .getfield 129, 3, 0, [9, 14, 1233, 0]), (40, .invokevirtual 138, 3, 1, [109, 3, 10, 7, 1494, 99, 1491, 1493, 56, 0]), (43, .iconst 1, 1, 0, [1]),
  (44, .aload_n 0, 1, 0, []), (45, .getfield 129, 3, 0, [9, 14, 1233, 0]), (48, .ishl, 1, 0, []), (49, .iconst 1, 1, 0, [1]), (50, .isub, 1, 0, []), (51, .istore_n 1, 1, 0, []),
  (52, .aload_n 0, 1, 0, []), (53, .bipush 25, 2, 0, [25]), (55, .iload_n 1, 1, 0, []), (56, .iadd, 1, 0, []), (57, .iconst 0, 1, 0, [0]), (58, .invokevirtual 77, 3, 1, [110, 3, 10, 3, 1508, 99, 1505, 1507, 59, 0]),
  (61, .lstore_n 2, 1, 0, []), (62, .aload_n 0, 1, 0, []), (63, .bipush 25, 2, 0, [25]), (65, .iload_n 1, 1, 0, []), (66, .iadd, 1, 0, []), (67, .iconst 3, 1, 0, [3]),
  (68, .invokevirtual 77, 3, 1, [110, 3, 10, 3, 1508, 99, 1505, 1507, 59, 0]), (71, .lneg, 1, 0, []), (72, .lstore 4, 2, 0, []), (74, .aload_n 0, 1, 0, []), (75, .lload_n 2, 1, 0, []), (76, .lload_n 2, 1, 0, []),
  (77, .lmul, 1, 0, []), (78, .ldc2_w 98, 3, 0, [3, 0, 1509]), (81, .lload 4, 2, 0, []), (83, .lmul, 1, 0, []), (84, .lload 4, 2, 0, []), (86, .lmul, 1, 0, []),
  (87, .lsub, 1, 0, []), (88, .putfield 158, 3, 0, [9, 16, 1235, 0]), (91, .aload_n 0, 1, 0, []), (92, .bipush 79, 2, 0, [79]), (94, .invokevirtual 81, 3, 1, [104, 2, 10, 3, 1481, 99, 1478, 1480, 54, 0]), (97, .aload_n 0, 1, 0, []),
  (98, .getfield 11, 3, 0, [9, 1, 1220, 0]), (101, .sipush 316, 3, 0, [316]), (104, .lload_n 2, 1, 0, []), (105, .lastore, 1, 0, []), (106, .aload_n 0, 1, 0, []), (107, .getfield 11, 3, 0, [9, 1, 1220, 0]),
  (110, .sipush 317, 3, 0, [317]), (113, .ldc2_w 161, 3, 0, [18446744073709551614, 0, 1510]), (116, .lload 4, 2, 0, []), (118, .lmul, 1, 0, []), (119, .lastore, 1, 0, []), (120, .aload_n 0, 1, 0, []),
  (121, .getfield 11, 3, 0, [9, 1, 1220, 0]), (124, .sipush 319, 3, 0, [319]), (127, .lload 4, 2, 0, []), (129, .lastore, 1, 0, []), (130, .aload_n 0, 1, 0, []), (131, .iconst 1, 1, 0, [1]),
  (132, .aload_n 0, 1, 0, []), (133, .getfield 129, 3, 0, [9, 14, 1233, 0]), (136, .invokevirtual 138, 3, 1, [109, 3, 10, 7, 1494, 99, 1491, 1493, 56, 0]), (139, .iconst 0, 1, 0, [0]), (140, .istore 6, 2, 0, []), (142, .iload 6, 2, 0, []),
  (144, .aload_n 0, 1, 0, []), (145, .getfield 129, 3, 0, [9, 14, 1233, 0]), (148, .if_icmp .ge 52, 3, 0, [115, 200]), (151, .aload_n 0, 1, 0, []), (152, .bipush 57, 2, 0, [57]), (154, .iload 6, 2, 0, []),
  (156, .iadd, 1, 0, []), (157, .invokevirtual 81, 3, 1, [104, 2, 10, 3, 1481, 99, 1478, 1480, 54, 0]), (160, .aload_n 0, 1, 0, []), (161, .bipush 57, 2, 0, [57]), (163, .iload 6, 2, 0, []), (165, .iadd, 1, 0, []),
  (166, .bipush 25, 2, 0, [25]), (168, .iload_n 1, 1, 0, []), (169, .iconst 1, 1, 0, [1]), (170, .iload 6, 2, 0, [])]
noncomputable def cd_116_1 : List mm_E := [
  (172, .ishl, 1, 0, []), (173, .iconst (-1), 1, 0, [4294967295]), (174, .ixor, 1, 0, []), (175, .iand, 1, 0, []), (176, .iadd, 1, 0, []), (177, .iload 6, 2, 0, []),
  (179, .iconst 2, 1, 0, [2]), (180, .irem, 1, 0, []), (181, .ifCond .ne 7, 3, 0, [111, 188]), (184, .lconst 1, 1, 0, [1]), (185, .goto 6, 3, 0, [112, 191]), (188, .ldc2_w 127, 3, 0, [18446744073709551615, 0, 1496]),
  (191, .invokevirtual 163, 3, 1, [113, 4, 10, 6, 1514, 99, 1511, 1513, 60, 0]), (194, .iinc 6 1, 3, 0, []), (197, .goto (-55), 3, 0, [83, 142]), (200, .aload_n 0, 1, 0, []), (201, .bipush 81, 2, 0, [81]), (203, .invokevirtual 81, 3, 1, [104, 2, 10, 3, 1481, 99, 1478, 1480, 54, 0]),
  (206, .aload_n 0, 1, 0, []), (207, .bipush 81, 2, 0, [81]), (209, .bipush 57, 2, 0, [57]), (211, .bipush 79, 2, 0, [79]), (213, .lconst 1, 1, 0, [1]), (214, .invokevirtual 85, 3, 1, [108, 5, 10, 8, 1500, 99, 1497, 1499, 57, 0]),
  (217, .aload_n 0, 1, 0, []), (218, .aload_n 0, 1, 0, []), (219, .bipush 81, 2, 0, [81]), (221, .iconst 0, 1, 0, [0]), (222, .invokevirtual 77, 3, 1, [110, 3, 10, 3, 1508, 99, 1505, 1507, 59, 0]), (225, .putfield 166, 3, 0, [9, 17, 1236, 0]),
  (228, .aload_n 0, 1, 0, []), (229, .aload_n 0, 1, 0, []), (230, .bipush 81, 2, 0, [81]), (232, .iconst 3, 1, 0, [3]), (233, .invokevirtual 77, 3, 1, [110, 3, 10, 3, 1508, 99, 1505, 1507, 59, 0]), (236, .lneg, 1, 0, []),
  (237, .putfield 169, 3, 0, [9, 18, 1237, 0]), (240, .iconst 0, 1, 0, [0]), (241, .istore 6, 2, 0, []), (243, .iload 6, 2, 0, []), (245, .aload_n 0, 1, 0, []), (246, .getfield 118, 3, 0, [9, 8, 1227, 0]),
  (249, .if_icmp .ge 89, 3, 0, [189, 338]), (252, .aload_n 0, 1, 0, []), (253, .bipush 81, 2, 0, [81]), (255, .invokevirtual 81, 3, 1, [104, 2, 10, 3, 1481, 99, 1478, 1480, 54, 0]), (258, .iconst 0, 1, 0, [0]), (259, .istore 7, 2, 0, []),
  (261, .iload 7, 2, 0, []), (263, .aload_n 0, 1, 0, []), (264, .getfield 129, 3, 0, [9, 14, 1233, 0]), (267, .if_icmp .ge 42, 3, 0, [174, 309]), (270, .aload_n 0, 1, 0, []), (271, .bipush 81, 2, 0, [81]),
  (273, .bipush 57, 2, 0, [57]), (275, .iload 7, 2, 0, []), (277, .iadd, 1, 0, []), (278, .aload_n 0, 1, 0, []), (279, .getfield 28, 3, 0, [9, 9, 1228, 0]), (282, .aload_n 0, 1, 0, []),
  (283, .getfield 35, 3, 0, [9, 13, 1232, 0]), (286, .iload 7, 2, 0, []), (288, .iaload, 1, 0, []), (289, .iaload, 1, 0, []), (290, .ineg, 1, 0, []), (291, .aload_n 0, 1, 0, []),
  (292, .getfield 25, 3, 0, [9, 7, 1226, 0]), (295, .iload 6, 2, 0, []), (297, .iaload, 1, 0, []), (298, .imul, 1, 0, []), (299, .lconst 1, 1, 0, [1]), (300, .invokevirtual 145, 3, 1, [114, 5, 10, 7, 1518, 99, 1515, 1517, 61, 0]),
  (303, .iinc 7 1, 3, 0, []), (306, .goto (-45), 3, 0, [148, 261]), (309, .aload_n 0, 1, 0, []), (310, .bipush 62, 2, 0, [62]), (312, .iload 6, 2, 0, []), (314, .iadd, 1, 0, []),
  (315, .invokevirtual 81, 3, 1, [104, 2, 10, 3, 1481, 99, 1478, 1480, 54, 0]), (318, .aload_n 0, 1, 0, []), (319, .bipush 62, 2, 0, [62]), (321, .iload 6, 2, 0, []), (323, .iadd, 1, 0, []), (324, .bipush 81, 2, 0, [81]),
  (326, .bipush 79, 2, 0, [79]), (328, .lconst 1, 1, 0, [1]), (329, .invokevirtual 85, 3, 1, [108, 5, 10, 8, 1500, 99, 1497, 1499, 57, 0]), (332, .iinc 6 1, 3, 0, []), (335, .goto (-92), 3, 0, [139, 243]), (338, .iconst 0, 1, 0, [0]),
  (339, .istore 6, 2, 0, []), (341, .iload 6, 2, 0, []), (343, .bipush 12, 2, 0, [12]), (345, .if_icmp .ge 20, 3, 0, [202, 365]), (348, .aload_n 0, 1, 0, []), (349, .bipush 67, 2, 0, [67]),
  (351, .iload 6, 2, 0, []), (353, .iadd, 1, 0, []), (354, .iload 6, 2, 0, []), (356, .invokevirtual 172, 3, 1, [115, 3, 10, 4, 1522, 99, 1519, 1521, 62, 0])]
noncomputable def cd_116_2 : List mm_E := [
  (359, .iinc 6 1, 3, 0, []), (362, .goto (-21), 3, 0, [191, 341]), (365, .aload_n 0, 1, 0, []), (366, .iconst 1, 1, 0, [1]), (367, .putfield 151, 3, 0, [9, 15, 1234, 0]), (370, .iconst 0, 1, 0, [0]),
  (371, .istore 6, 2, 0, []), (373, .iload 6, 2, 0, []), (375, .aload_n 0, 1, 0, []), (376, .getfield 132, 3, 0, [9, 10, 1229, 0]), (379, .if_icmp .ge 41, 3, 0, [230, 420]), (382, .aload_n 0, 1, 0, []),
  (383, .getfield 31, 3, 0, [9, 12, 1231, 0]), (386, .iload 6, 2, 0, []), (388, .baload, 1, 0, []), (389, .ifCond .eq 25, 3, 0, [228, 414]), (392, .aload_n 0, 1, 0, []), (393, .bipush 67, 2, 0, [67]),
  (395, .aload_n 0, 1, 0, []), (396, .getfield 28, 3, 0, [9, 9, 1228, 0]), (399, .iload 6, 2, 0, []), (401, .iaload, 1, 0, []), (402, .iadd, 1, 0, []), (403, .invokevirtual 142, 3, 1, [111, 2, 10, 2, 1504, 99, 1501, 1503, 58, 0]),
  (406, .ifCond .ne 8, 3, 0, [228, 414]), (409, .aload_n 0, 1, 0, []), (410, .iconst 0, 1, 0, [0]), (411, .putfield 151, 3, 0, [9, 15, 1234, 0]), (414, .iinc 6 1, 3, 0, []), (417, .goto (-44), 3, 0, [207, 373]),
  (420, .return_, 1, 2, [0])]
noncomputable def cd_116 : List mm_E := cd_116_0 ++ (cd_116_1 ++ (cd_116_2))
noncomputable def mt_116 : mm_M := (⟨"DeafArrayModel", "solves", "()V"⟩, prog_11_method_27_code, 8, none, 5, 124, 9, 0, false)
/-- DeafArrayModel.solvesWith(II)V -/
noncomputable def cd_117 : List mm_E := [
  (0, .aload_n 0, 1, 0, []), (1, .iload_n 1, 1, 0, []), (2, .invokevirtual 175, 3, 1, [102, 2, 10, 3, 1461, 99, 1458, 1460, 49, 0]), (5, .aload_n 0, 1, 0, []), (6, .iload_n 2, 1, 0, []), (7, .invokevirtual 178, 3, 1, [103, 2, 10, 3, 1465, 99, 1462, 1464, 50, 0]),
  (10, .aload_n 0, 1, 0, []), (11, .invokevirtual 181, 3, 1, [116, 1, 10, 8, 1469, 99, 1466, 1468, 51, 0]), (14, .return_, 1, 2, [0])]
noncomputable def mt_117 : mm_M := (⟨"DeafArrayModel", "solvesWith", "(II)V"⟩, prog_11_method_30_code, 3, none, 6, 151, 9, 2, false)
/-- DeafArrayModel.canNow()Z -/
noncomputable def cd_118 : List mm_E := [
  (0, .aload_n 0, 1, 0, []), (1, .iconst 0, 1, 0, [0]), (2, .aload_n 0, 1, 0, []), (3, .invokevirtual 184, 3, 1, [63, 1, 10, 1, 1429, 99, 1426, 1428, 45, 0]), (6, .invokevirtual 188, 3, 1, [117, 3, 10, 3, 1457, 99, 1454, 1456, 48, 0]), (9, .aload_n 0, 1, 0, []),
  (10, .getfield 151, 3, 0, [9, 15, 1234, 0]), (13, .ireturn, 1, 2, [2])]
noncomputable def mt_118 : mm_M := (⟨"DeafArrayModel", "canNow", "()Z"⟩, prog_11_method_31_code, 1, (some (.boolean)), 7, 173, 9, 0, false)
/-- DeafArrayModel.wish(II)I -/
noncomputable def cd_119 : List mm_E := [
  (0, .aload_n 0, 1, 0, []), (1, .invokevirtual 294, 3, 1, [118, 1, 10, 1, 1453, 99, 1450, 1452, 47, 0]), (4, .pop, 1, 0, []), (5, .iload_n 1, 1, 0, []), (6, .i2l, 1, 0, []), (7, .lconst 0, 1, 0, [0]),
  (8, .aload_n 0, 1, 0, []), (9, .getfield 132, 3, 0, [9, 10, 1229, 0]), (12, .iconst 1, 1, 0, [1]), (13, .isub, 1, 0, []), (14, .i2l, 1, 0, []), (15, .invokestatic 108, 3, 1, [16, 3, 0, 6, 1347, 99, 1345, 1346, 0, 0]),
  (18, .ifCond .eq 13, 3, 0, [19, 31]), (21, .iload_n 2, 1, 0, []), (22, .i2l, 1, 0, []), (23, .lconst 0, 1, 0, [0]), (24, .lconst 1, 1, 0, [1]), (25, .invokestatic 108, 3, 1, [16, 3, 0, 6, 1347, 99, 1345, 1346, 0, 0]),
  (28, .ifCond .ne 6, 3, 0, [21, 34]), (31, .bipush (-2), 2, 0, [4294967294]), (33, .ireturn, 1, 2, [1]), (34, .iload_n 2, 1, 0, []), (35, .ifCond .ne 12, 3, 0, [28, 47]), (38, .aload_n 0, 1, 0, []),
  (39, .getfield 28, 3, 0, [9, 9, 1228, 0]), (42, .iload_n 1, 1, 0, []), (43, .iaload, 1, 0, []), (44, .goto 17, 3, 0, [36, 61]), (47, .aload_n 0, 1, 0, []), (48, .getfield 31, 3, 0, [9, 12, 1231, 0]),
  (51, .iload_n 1, 1, 0, []), (52, .baload, 1, 0, []), (53, .ifCond .eq 7, 3, 0, [35, 60]), (56, .iconst 1, 1, 0, [1]), (57, .goto 4, 3, 0, [36, 61]), (60, .iconst 0, 1, 0, [0]),
  (61, .ireturn, 1, 2, [1])]
noncomputable def mt_119 : mm_M := (⟨"DeafArrayModel", "wish", "(II)I"⟩, prog_11_method_50_code, 3, (some (.int)), 8, 193, 9, 2, false)
/-- DeafArray.rank()I -/
noncomputable def cd_120 : List mm_E := [
  (0, .aload_n 0, 1, 0, []), (1, .invokevirtual 140, 3, 1, [100, 1, 9, 1, 664, 89, 661, 663, 12, 0]), (4, .aload_n 0, 1, 0, []), (5, .getfield 21, 3, 0, [8, 1, 417, 0]), (8, .getfield 153, 3, 0, [7, 12, 269, 1]), (11, .ireturn, 1, 2, [1])]
noncomputable def mt_120 : mm_M := (⟨"DeafArray", "rank", "()I"⟩, prog_1_method_10_code, 1, (some (.int)), 5, 120, 8, 0, false)
/-- DeafArrayModel.rank()I -/
noncomputable def cd_121 : List mm_E := [
  (0, .aload_n 0, 1, 0, []), (1, .invokevirtual 294, 3, 1, [118, 1, 10, 1, 1453, 99, 1450, 1452, 47, 0]), (4, .pop, 1, 0, []), (5, .aload_n 0, 1, 0, []), (6, .getfield 129, 3, 0, [9, 14, 1233, 0]), (9, .ireturn, 1, 2, [1])]
noncomputable def mt_121 : mm_M := (⟨"DeafArrayModel", "rank", "()I"⟩, prog_11_method_51_code, 1, (some (.int)), 8, 193, 9, 0, false)
/-- DeafArray.solved()I -/
noncomputable def cd_122 : List mm_E := [
  (0, .aload_n 0, 1, 0, []), (1, .invokevirtual 140, 3, 1, [100, 1, 9, 1, 664, 89, 661, 663, 12, 0]), (4, .aload_n 0, 1, 0, []), (5, .getfield 21, 3, 0, [8, 1, 417, 0]), (8, .getfield 156, 3, 0, [7, 13, 271, 1]), (11, .ifCond .eq 7, 3, 0, [8, 18]),
  (14, .iconst 1, 1, 0, [1]), (15, .goto 4, 3, 0, [9, 19]), (18, .iconst 0, 1, 0, [0]), (19, .ireturn, 1, 2, [1])]
noncomputable def mt_122 : mm_M := (⟨"DeafArray", "solved", "()I"⟩, prog_1_method_11_code, 1, (some (.int)), 5, 120, 8, 0, false)
/-- DeafArrayModel.solved()I -/
noncomputable def cd_123 : List mm_E := [
  (0, .aload_n 0, 1, 0, []), (1, .invokevirtual 294, 3, 1, [118, 1, 10, 1, 1453, 99, 1450, 1452, 47, 0]), (4, .ifCond .eq 7, 3, 0, [5, 11]), (7, .iconst 1, 1, 0, [1]), (8, .goto 4, 3, 0, [6, 12]), (11, .iconst 0, 1, 0, [0]),
  (12, .ireturn, 1, 2, [1])]
noncomputable def mt_123 : mm_M := (⟨"DeafArrayModel", "solved", "()I"⟩, prog_11_method_52_code, 1, (some (.int)), 8, 193, 9, 0, false)
/-- DeafArray$Num.part(I)J -/
noncomputable def cd_124 : List mm_E := [
  (0, .iload_n 1, 1, 0, []), (1, .tableswitch 42 0 2 #[27, 32, 37], 27, 0, [11, 43, 2, 28, 5, 33, 8, 38]), (28, .aload_n 0, 1, 0, []), (29, .getfield 7, 3, 0, [3, 0, 226, 0]), (32, .lreturn, 1, 2, [3]), (33, .aload_n 0, 1, 0, []),
  (34, .getfield 13, 3, 0, [3, 1, 228, 0]), (37, .lreturn, 1, 2, [3]), (38, .aload_n 0, 1, 0, []), (39, .getfield 16, 3, 0, [3, 2, 230, 0]), (42, .lreturn, 1, 2, [3]), (43, .aload_n 0, 1, 0, []),
  (44, .getfield 19, 3, 0, [3, 3, 232, 0]), (47, .lreturn, 1, 2, [3])]
noncomputable def mt_124 : mm_M := (⟨"DeafArray$Num", "part", "(I)J"⟩, prog_5_method_5_code, 2, (some (.long)), 0, 0, 3, 1, false)
/-- java/lang/Math.abs(J)J -/
noncomputable def cd_125 : List mm_E := [
  (0, .lload_n 0, 1, 0, []), (1, .lconst 0, 1, 0, [0]), (2, .lcmp, 1, 0, []), (3, .ifCond .ge 8, 3, 0, [7, 11]), (6, .lload_n 0, 1, 0, []), (7, .lneg, 1, 0, []),
  (8, .goto 4, 3, 0, [8, 12]), (11, .lload_n 0, 1, 0, []), (12, .lreturn, 1, 2, [3])]
noncomputable def mt_125 : mm_M := (⟨"java/lang/Math", "abs", "(J)J"⟩, prog_13_method_61_code, 2, (some (.long)), 0, 0, 11, 1, false)
/-- DeafArray.commonDivisor(JJ)J -/
noncomputable def cd_126 : List mm_E := [
  (0, .lload_n 0, 1, 0, []), (1, .invokestatic 408, 3, 1, [125, 1, 0, 2, 801, 93, 799, 800, 0, 0]), (4, .lstore 4, 2, 0, []), (6, .lload_n 2, 1, 0, []), (7, .invokestatic 408, 3, 1, [125, 1, 0, 2, 801, 93, 799, 800, 0, 0]), (10, .lstore 6, 2, 0, []),
  (12, .iconst 0, 1, 0, [0]), (13, .istore 8, 2, 0, []), (15, .iload 8, 2, 0, []), (17, .sipush 130, 3, 0, [130]), (20, .if_icmp .ge 31, 3, 0, [25, 51]), (23, .lload 6, 2, 0, []),
  (25, .lconst 0, 1, 0, [0]), (26, .lcmp, 1, 0, []), (27, .ifCond .eq 24, 3, 0, [25, 51]), (30, .lload 4, 2, 0, []), (32, .lload 6, 2, 0, []), (34, .lrem, 1, 0, []),
  (35, .lstore 9, 2, 0, []), (37, .lload 6, 2, 0, []), (39, .lstore 4, 2, 0, []), (41, .lload 9, 2, 0, []), (43, .lstore 6, 2, 0, []), (45, .iinc 8 1, 3, 0, []),
  (48, .goto (-33), 3, 0, [8, 15]), (51, .lload 4, 2, 0, []), (53, .lreturn, 1, 2, [3])]
noncomputable def mt_126 : mm_M := (⟨"DeafArray", "commonDivisor", "(JJ)J"⟩, prog_1_method_76_code, 11, (some (.long)), 1, 21, 8, 2, false)
/-- DeafArray.bringToLowest(LDeafArray$Num;J)V -/
noncomputable def cd_127 : List mm_E := [
  (0, .lload_n 2, 1, 0, []), (1, .lstore 4, 2, 0, []), (3, .iconst 0, 1, 0, [0]), (4, .istore 6, 2, 0, []), (6, .iload 6, 2, 0, []), (8, .iconst 4, 1, 0, [4]),
  (9, .if_icmp .ge 36, 3, 0, [23, 45]), (12, .aload_n 0, 1, 0, []), (13, .getfield 63, 3, 0, [8, 8, 424, 0]), (16, .iload 6, 2, 0, []), (18, .aload_n 1, 1, 0, []), (19, .iload 6, 2, 0, []),
  (21, .invokevirtual 287, 3, 1, [124, 2, 4, 2, 795, 94, 792, 793, 794, 0]), (24, .lastore, 1, 0, []), (25, .lload 4, 2, 0, []), (27, .aload_n 0, 1, 0, []), (28, .getfield 63, 3, 0, [8, 8, 424, 0]), (31, .iload 6, 2, 0, []),
  (33, .laload, 1, 0, []), (34, .invokestatic 404, 3, 1, [126, 2, 0, 11, 798, 89, 796, 797, 0, 0]), (37, .lstore 4, 2, 0, []), (39, .iinc 6 1, 3, 0, []), (42, .goto (-36), 3, 0, [4, 6]), (45, .aload_n 0, 1, 0, []),
  (46, .getfield 63, 3, 0, [8, 8, 424, 0]), (49, .iconst 4, 1, 0, [4]), (50, .lload_n 2, 1, 0, []), (51, .lastore, 1, 0, []), (52, .iconst 0, 1, 0, [0]), (53, .istore 6, 2, 0, []),
  (55, .iload 6, 2, 0, []), (57, .iconst 4, 1, 0, [4]), (58, .if_icmp .gt 28, 3, 0, [47, 86]), (61, .lload 4, 2, 0, []), (63, .lconst 0, 1, 0, [0]), (64, .lcmp, 1, 0, []),
  (65, .ifCond .eq 21, 3, 0, [47, 86]), (68, .aload_n 0, 1, 0, []), (69, .getfield 63, 3, 0, [8, 8, 424, 0]), (72, .iload 6, 2, 0, []), (74, .dup2, 1, 0, []), (75, .laload, 1, 0, []),
  (76, .lload 4, 2, 0, []), (78, .ldiv, 1, 0, []), (79, .lastore, 1, 0, []), (80, .iinc 6 1, 3, 0, []), (83, .goto (-28), 3, 0, [30, 55]), (86, .return_, 1, 2, [0])]
noncomputable def mt_127 : mm_M := (⟨"DeafArray", "bringToLowest", "(LDeafArray$Num;J)V"⟩, prog_1_method_68_code, 7, none, 2, 51, 8, 2, false)
/-- DeafArray.partOf(LDeafArray$Num;JI)J -/
noncomputable def cd_128 : List mm_E := [
  (0, .iload 4, 2, 0, []), (2, .iconst 5, 1, 0, [5]), (3, .invokestatic 126, 3, 1, [65, 2, 0, 2, 644, 89, 645, 643, 0, 0]), (6, .ifCond .ne 7, 3, 0, [6, 13]), (9, .ldc2_w 159, 3, 0, [9223372036854775808, 0, 783]), (12, .lreturn, 1, 2, [3]),
  (13, .aload_n 0, 1, 0, []), (14, .aload_n 1, 1, 0, []), (15, .lload_n 2, 1, 0, []), (16, .invokevirtual 376, 3, 1, [127, 3, 9, 7, 791, 89, 788, 790, 20, 0]), (19, .aload_n 0, 1, 0, []), (20, .getfield 63, 3, 0, [8, 8, 424, 0]),
  (23, .iload 4, 2, 0, []), (25, .laload, 1, 0, []), (26, .lreturn, 1, 2, [3])]
noncomputable def mt_128 : mm_M := (⟨"DeafArray", "partOf", "(LDeafArray$Num;JI)J"⟩, prog_1_method_67_code, 5, (some (.long)), 3, 77, 8, 3, false)
/-- DeafArray.weight(II)J -/
noncomputable def cd_129 : List mm_E := [
  (0, .aload_n 0, 1, 0, []), (1, .invokevirtual 140, 3, 1, [100, 1, 9, 1, 664, 89, 661, 663, 12, 0]), (4, .aload_n 0, 1, 0, []), (5, .getfield 21, 3, 0, [8, 1, 417, 0]), (8, .getfield 156, 3, 0, [7, 13, 271, 1]), (11, .ifCond .eq 17, 3, 0, [12, 28]),
  (14, .aload_n 0, 1, 0, []), (15, .getfield 21, 3, 0, [8, 1, 417, 0]), (18, .getfield 85, 3, 0, [7, 0, 246, 1]), (21, .iload_n 1, 1, 0, []), (22, .invokevirtual 122, 3, 1, [66, 2, 6, 2, 641, 91, 638, 639, 640, 0]), (25, .ifCond .ne 7, 3, 0, [14, 32]),
  (28, .ldc2_w 159, 3, 0, [9223372036854775808, 0, 783]), (31, .lreturn, 1, 2, [3]), (32, .aload_n 0, 1, 0, []), (33, .aload_n 0, 1, 0, []), (34, .getfield 21, 3, 0, [8, 1, 417, 0]), (37, .getfield 161, 3, 0, [7, 5, 256, 1]),
  (40, .iload_n 1, 1, 0, []), (41, .aaload, 1, 0, []), (42, .aload_n 0, 1, 0, []), (43, .getfield 21, 3, 0, [8, 1, 417, 0]), (46, .getfield 165, 3, 0, [7, 16, 279, 1]), (49, .iload_n 2, 1, 0, []),
  (50, .invokevirtual 169, 3, 1, [128, 4, 9, 5, 787, 89, 784, 786, 19, 0]), (53, .lreturn, 1, 2, [3])]
noncomputable def mt_129 : mm_M := (⟨"DeafArray", "weight", "(II)J"⟩, prog_1_method_12_code, 3, (some (.long)), 5, 120, 8, 2, false)
/-- DeafArrayModel.common(JJ)J -/
noncomputable def cd_130 : List mm_E := [
  (0, .lload_n 0, 1, 0, []), (1, .invokestatic 100, 3, 1, [125, 1, 0, 2, 801, 93, 1544, 800, 0, 0]), (4, .lstore 4, 2, 0, []), (6, .lload_n 2, 1, 0, []), (7, .invokestatic 100, 3, 1, [125, 1, 0, 2, 801, 93, 1544, 800, 0, 0]), (10, .lstore 6, 2, 0, []),
  (12, .lload 6, 2, 0, []), (14, .lconst 0, 1, 0, [0]), (15, .lcmp, 1, 0, []), (16, .ifCond .eq 21, 3, 0, [19, 37]), (19, .lload 4, 2, 0, []), (21, .lload 6, 2, 0, []),
  (23, .lrem, 1, 0, []), (24, .lstore 8, 2, 0, []), (26, .lload 6, 2, 0, []), (28, .lstore 4, 2, 0, []), (30, .lload 8, 2, 0, []), (32, .lstore 6, 2, 0, []),
  (34, .goto (-22), 3, 0, [6, 12]), (37, .lload 4, 2, 0, []), (39, .lreturn, 1, 2, [3])]
noncomputable def mt_130 : mm_M := (⟨"DeafArrayModel", "common", "(JJ)J"⟩, prog_11_method_13_code, 10, (some (.long)), 1, 21, 9, 2, false)
/-- DeafArrayModel.told(IJI)J -/
noncomputable def cd_131 : List mm_E := [
  (0, .lload_n 2, 1, 0, []), (1, .lstore 5, 2, 0, []), (3, .iconst 0, 1, 0, [0]), (4, .istore 7, 2, 0, []), (6, .iload 7, 2, 0, []), (8, .iconst 4, 1, 0, [4]),
  (9, .if_icmp .ge 23, 3, 0, [16, 32]), (12, .lload 5, 2, 0, []), (14, .aload_n 0, 1, 0, []), (15, .iload_n 1, 1, 0, []), (16, .iload 7, 2, 0, []), (18, .invokevirtual 77, 3, 1, [110, 3, 10, 3, 1508, 99, 1505, 1507, 59, 0]),
  (21, .invokestatic 104, 3, 1, [130, 2, 0, 10, 1543, 99, 1541, 1542, 0, 0]), (24, .lstore 5, 2, 0, []), (26, .iinc 7 1, 3, 0, []), (29, .goto (-23), 3, 0, [4, 6]), (32, .iload 4, 2, 0, []), (34, .iconst 4, 1, 0, [4]),
  (35, .if_icmp .ne 10, 3, 0, [23, 45]), (38, .lload_n 2, 1, 0, []), (39, .lload 5, 2, 0, []), (41, .ldiv, 1, 0, []), (42, .goto 13, 3, 0, [29, 55]), (45, .aload_n 0, 1, 0, []),
  (46, .iload_n 1, 1, 0, []), (47, .iload 4, 2, 0, []), (49, .invokevirtual 77, 3, 1, [110, 3, 10, 3, 1508, 99, 1505, 1507, 59, 0]), (52, .lload 5, 2, 0, []), (54, .ldiv, 1, 0, []), (55, .lreturn, 1, 2, [3])]
noncomputable def mt_131 : mm_M := (⟨"DeafArrayModel", "told", "(IJI)J"⟩, prog_11_method_14_code, 8, (some (.long)), 2, 50, 9, 3, false)
/-- DeafArrayModel.weight(II)J -/
noncomputable def cd_132 : List mm_E := [
  (0, .aload_n 0, 1, 0, []), (1, .iload_n 1, 1, 0, []), (2, .invokevirtual 288, 3, 1, [69, 2, 10, 2, 1437, 99, 1434, 1436, 46, 0]), (5, .ifCond .eq 22, 3, 0, [13, 27]), (8, .iload_n 2, 1, 0, []), (9, .i2l, 1, 0, []),
  (10, .lconst 0, 1, 0, [0]), (11, .ldc2_w 297, 3, 0, [4, 0, 1535]), (14, .invokestatic 108, 3, 1, [16, 3, 0, 6, 1347, 99, 1345, 1346, 0, 0]), (17, .ifCond .eq 10, 3, 0, [13, 27]), (20, .aload_n 0, 1, 0, []), (21, .invokevirtual 294, 3, 1, [118, 1, 10, 1, 1453, 99, 1450, 1452, 47, 0]),
  (24, .ifCond .ne 7, 3, 0, [15, 31]), (27, .ldc2_w 299, 3, 0, [9223372036854775808, 0, 1536]), (30, .lreturn, 1, 2, [3]), (31, .aload_n 0, 1, 0, []), (32, .getfield 38, 3, 0, [9, 19, 1238, 0]), (35, .iload_n 1, 1, 0, []),
  (36, .iaload, 1, 0, []), (37, .iconst (-1), 1, 0, [4294967295]), (38, .if_icmp .ne 14, 3, 0, [28, 52]), (41, .iload_n 2, 1, 0, []), (42, .iconst 4, 1, 0, [4]), (43, .if_icmp .ne 7, 3, 0, [26, 50]),
  (46, .lconst 1, 1, 0, [1]), (47, .goto 4, 3, 0, [27, 51]), (50, .lconst 0, 1, 0, [0]), (51, .lreturn, 1, 2, [3]), (52, .aload_n 0, 1, 0, []), (53, .bipush 62, 2, 0, [62]),
  (55, .aload_n 0, 1, 0, []), (56, .getfield 38, 3, 0, [9, 19, 1238, 0]), (59, .iload_n 1, 1, 0, []), (60, .iaload, 1, 0, []), (61, .iadd, 1, 0, []), (62, .aload_n 0, 1, 0, []),
  (63, .getfield 158, 3, 0, [9, 16, 1235, 0]), (66, .iload_n 2, 1, 0, []), (67, .invokevirtual 301, 3, 1, [131, 4, 10, 8, 1540, 99, 1537, 1539, 63, 0]), (70, .lreturn, 1, 2, [3])]
noncomputable def mt_132 : mm_M := (⟨"DeafArrayModel", "weight", "(II)J"⟩, prog_11_method_53_code, 3, (some (.long)), 8, 193, 9, 2, false)
/-- DeafArray.gain(II)J -/
noncomputable def cd_133 : List mm_E := [
  (0, .aload_n 0, 1, 0, []), (1, .invokevirtual 140, 3, 1, [100, 1, 9, 1, 664, 89, 661, 663, 12, 0]), (4, .aload_n 0, 1, 0, []), (5, .getfield 21, 3, 0, [8, 1, 417, 0]), (8, .getfield 156, 3, 0, [7, 13, 271, 1]), (11, .ifCond .eq 10, 3, 0, [9, 21]),
  (14, .iload_n 1, 1, 0, []), (15, .invokestatic 137, 3, 1, [71, 1, 0, 1, 656, 89, 654, 655, 0, 0]), (18, .ifCond .ne 7, 3, 0, [11, 25]), (21, .ldc2_w 159, 3, 0, [9223372036854775808, 0, 783]), (24, .lreturn, 1, 2, [3]), (25, .aload_n 0, 1, 0, []),
  (26, .aload_n 0, 1, 0, []), (27, .getfield 21, 3, 0, [8, 1, 417, 0]), (30, .getfield 173, 3, 0, [7, 6, 259, 1]), (33, .iload_n 1, 1, 0, []), (34, .aaload, 1, 0, []), (35, .aload_n 0, 1, 0, []),
  (36, .getfield 21, 3, 0, [8, 1, 417, 0]), (39, .getfield 165, 3, 0, [7, 16, 279, 1]), (42, .iload_n 2, 1, 0, []), (43, .invokevirtual 169, 3, 1, [128, 4, 9, 5, 787, 89, 784, 786, 19, 0]), (46, .lreturn, 1, 2, [3])]
noncomputable def mt_133 : mm_M := (⟨"DeafArray", "gain", "(II)J"⟩, prog_1_method_13_code, 3, (some (.long)), 5, 120, 8, 2, false)
/-- DeafArrayModel.gain(II)J -/
noncomputable def cd_134 : List mm_E := [
  (0, .iload_n 1, 1, 0, []), (1, .invokestatic 291, 3, 1, [73, 1, 0, 1, 1444, 99, 1442, 1443, 0, 0]), (4, .ifCond .eq 22, 3, 0, [12, 26]), (7, .iload_n 2, 1, 0, []), (8, .i2l, 1, 0, []), (9, .lconst 0, 1, 0, [0]),
  (10, .ldc2_w 297, 3, 0, [4, 0, 1535]), (13, .invokestatic 108, 3, 1, [16, 3, 0, 6, 1347, 99, 1345, 1346, 0, 0]), (16, .ifCond .eq 10, 3, 0, [12, 26]), (19, .aload_n 0, 1, 0, []), (20, .invokevirtual 294, 3, 1, [118, 1, 10, 1, 1453, 99, 1450, 1452, 47, 0]), (23, .ifCond .ne 7, 3, 0, [14, 30]),
  (26, .ldc2_w 299, 3, 0, [9223372036854775808, 0, 1536]), (29, .lreturn, 1, 2, [3]), (30, .aload_n 0, 1, 0, []), (31, .bipush 67, 2, 0, [67]), (33, .iload_n 1, 1, 0, []), (34, .iadd, 1, 0, []),
  (35, .aload_n 0, 1, 0, []), (36, .getfield 158, 3, 0, [9, 16, 1235, 0]), (39, .iload_n 2, 1, 0, []), (40, .invokevirtual 301, 3, 1, [131, 4, 10, 8, 1540, 99, 1537, 1539, 63, 0]), (43, .lreturn, 1, 2, [3])]
noncomputable def mt_134 : mm_M := (⟨"DeafArrayModel", "gain", "(II)J"⟩, prog_11_method_54_code, 3, (some (.long)), 8, 193, 9, 2, false)
/-- DeafArray.realPart(JJJI)J -/
noncomputable def cd_135 : List mm_E := [
  (0, .lload 4, 2, 0, []), (2, .lload_n 0, 1, 0, []), (3, .invokestatic 404, 3, 1, [126, 2, 0, 11, 798, 89, 796, 797, 0, 0]), (6, .lload_n 2, 1, 0, []), (7, .invokestatic 404, 3, 1, [126, 2, 0, 11, 798, 89, 796, 797, 0, 0]), (10, .lstore 7, 2, 0, []),
  (12, .lload 7, 2, 0, []), (14, .lconst 0, 1, 0, [0]), (15, .lcmp, 1, 0, []), (16, .ifCond .eq 12, 3, 0, [14, 28]), (19, .iload 6, 2, 0, []), (21, .iconst 3, 1, 0, [3]),
  (22, .invokestatic 126, 3, 1, [65, 2, 0, 2, 644, 89, 645, 643, 0, 0]), (25, .ifCond .ne 7, 3, 0, [16, 32]), (28, .ldc2_w 159, 3, 0, [9223372036854775808, 0, 783]), (31, .lreturn, 1, 2, [3]), (32, .iload 6, 2, 0, []), (34, .ifCond .ne 8, 3, 0, [22, 42]),
  (37, .lload_n 0, 1, 0, []), (38, .lload 7, 2, 0, []), (40, .ldiv, 1, 0, []), (41, .lreturn, 1, 2, [3]), (42, .iload 6, 2, 0, []), (44, .iconst 1, 1, 0, [1]),
  (45, .if_icmp .ne 7, 3, 0, [27, 52]), (48, .lload_n 2, 1, 0, []), (49, .goto 5, 3, 0, [28, 54]), (52, .lload 4, 2, 0, []), (54, .lload 7, 2, 0, []), (56, .ldiv, 1, 0, []),
  (57, .lreturn, 1, 2, [3])]
noncomputable def mt_135 : mm_M := (⟨"DeafArray", "realPart", "(JJJI)J"⟩, prog_1_method_69_code, 9, (some (.long)), 2, 51, 8, 4, false)
/-- DeafArray.power(II)J -/
noncomputable def cd_136 : List mm_E := [
  (0, .aload_n 0, 1, 0, []), (1, .invokevirtual 140, 3, 1, [100, 1, 9, 1, 664, 89, 661, 663, 12, 0]), (4, .aload_n 0, 1, 0, []), (5, .getfield 21, 3, 0, [8, 1, 417, 0]), (8, .getfield 156, 3, 0, [7, 13, 271, 1]), (11, .ifCond .eq 10, 3, 0, [9, 21]),
  (14, .iload_n 1, 1, 0, []), (15, .invokestatic 137, 3, 1, [71, 1, 0, 1, 656, 89, 654, 655, 0, 0]), (18, .ifCond .ne 7, 3, 0, [11, 25]), (21, .ldc2_w 159, 3, 0, [9223372036854775808, 0, 783]), (24, .lreturn, 1, 2, [3]), (25, .aload_n 0, 1, 0, []),
  (26, .getfield 21, 3, 0, [8, 1, 417, 0]), (29, .getfield 176, 3, 0, [7, 7, 261, 1]), (32, .iload_n 1, 1, 0, []), (33, .laload, 1, 0, []), (34, .aload_n 0, 1, 0, []), (35, .getfield 21, 3, 0, [8, 1, 417, 0]),
  (38, .getfield 179, 3, 0, [7, 8, 263, 1]), (41, .iload_n 1, 1, 0, []), (42, .laload, 1, 0, []), (43, .aload_n 0, 1, 0, []), (44, .getfield 21, 3, 0, [8, 1, 417, 0]), (47, .getfield 165, 3, 0, [7, 16, 279, 1]),
  (50, .aload_n 0, 1, 0, []), (51, .getfield 21, 3, 0, [8, 1, 417, 0]), (54, .getfield 165, 3, 0, [7, 16, 279, 1]), (57, .lmul, 1, 0, []), (58, .iload_n 2, 1, 0, []), (59, .invokestatic 182, 3, 1, [135, 4, 0, 9, 812, 89, 810, 811, 0, 0]),
  (62, .lreturn, 1, 2, [3])]
noncomputable def mt_136 : mm_M := (⟨"DeafArray", "power", "(II)J"⟩, prog_1_method_14_code, 3, (some (.long)), 5, 120, 8, 2, false)
/-- DeafArrayModel.laysPower(I)V -/
noncomputable def cd_137 : List mm_E := [
  (0, .aload_n 0, 1, 0, []), (1, .bipush 81, 2, 0, [81]), (3, .invokevirtual 81, 3, 1, [104, 2, 10, 3, 1481, 99, 1478, 1480, 54, 0]), (6, .iconst 0, 1, 0, [0]), (7, .istore_n 2, 1, 0, []), (8, .iload_n 2, 1, 0, []),
  (9, .iconst 4, 1, 0, [4]), (10, .if_icmp .ge 23, 3, 0, [19, 33]), (13, .aload_n 0, 1, 0, []), (14, .bipush 81, 2, 0, [81]), (16, .iload_n 2, 1, 0, []), (17, .ineg, 1, 0, []),
  (18, .aload_n 0, 1, 0, []), (19, .iload_n 1, 1, 0, []), (20, .iload_n 2, 1, 0, []), (21, .invokevirtual 77, 3, 1, [110, 3, 10, 3, 1508, 99, 1505, 1507, 59, 0]), (24, .invokevirtual 73, 3, 1, [106, 4, 10, 9, 1485, 99, 1482, 1484, 55, 0]), (27, .iinc 2 1, 3, 0, []),
  (30, .goto (-22), 3, 0, [5, 8]), (33, .aload_n 0, 1, 0, []), (34, .bipush 80, 2, 0, [80]), (36, .invokevirtual 81, 3, 1, [104, 2, 10, 3, 1481, 99, 1478, 1480, 54, 0]), (39, .aload_n 0, 1, 0, []), (40, .bipush 80, 2, 0, [80]),
  (42, .iload_n 1, 1, 0, []), (43, .bipush 81, 2, 0, [81]), (45, .lconst 1, 1, 0, [1]), (46, .invokevirtual 85, 3, 1, [108, 5, 10, 8, 1500, 99, 1497, 1499, 57, 0]), (49, .aload_n 0, 1, 0, []), (50, .aload_n 0, 1, 0, []),
  (51, .bipush 80, 2, 0, [80]), (53, .iconst 0, 1, 0, [0]), (54, .invokevirtual 77, 3, 1, [110, 3, 10, 3, 1508, 99, 1505, 1507, 59, 0]), (57, .putfield 89, 3, 0, [9, 3, 1222, 0]), (60, .aload_n 0, 1, 0, []), (61, .aload_n 0, 1, 0, []),
  (62, .bipush 80, 2, 0, [80]), (64, .iconst 3, 1, 0, [3]), (65, .invokevirtual 77, 3, 1, [110, 3, 10, 3, 1508, 99, 1505, 1507, 59, 0]), (68, .lneg, 1, 0, []), (69, .putfield 93, 3, 0, [9, 4, 1223, 0]), (72, .return_, 1, 2, [0])]
noncomputable def mt_137 : mm_M := (⟨"DeafArrayModel", "laysPower", "(I)V"⟩, prog_11_method_11_code, 3, none, 3, 77, 9, 1, false)
/-- DeafArrayModel.toldPower(JJJI)J -/
noncomputable def cd_138 : List mm_E := [
  (0, .lload 5, 2, 0, []), (2, .lload_n 1, 1, 0, []), (3, .invokestatic 104, 3, 1, [130, 2, 0, 10, 1543, 99, 1541, 1542, 0, 0]), (6, .lload_n 3, 1, 0, []), (7, .invokestatic 104, 3, 1, [130, 2, 0, 10, 1543, 99, 1541, 1542, 0, 0]), (10, .lstore 8, 2, 0, []),
  (12, .iload 7, 2, 0, []), (14, .ifCond .ne 10, 3, 0, [12, 24]), (17, .lload_n 1, 1, 0, []), (18, .lload 8, 2, 0, []), (20, .ldiv, 1, 0, []), (21, .goto 21, 3, 0, [22, 42]),
  (24, .iload 7, 2, 0, []), (26, .iconst 1, 1, 0, [1]), (27, .if_icmp .ne 10, 3, 0, [19, 37]), (30, .lload_n 3, 1, 0, []), (31, .lload 8, 2, 0, []), (33, .ldiv, 1, 0, []),
  (34, .goto 8, 3, 0, [22, 42]), (37, .lload 5, 2, 0, []), (39, .lload 8, 2, 0, []), (41, .ldiv, 1, 0, []), (42, .lreturn, 1, 2, [3])]
noncomputable def mt_138 : mm_M := (⟨"DeafArrayModel", "toldPower", "(JJJI)J"⟩, prog_11_method_15_code, 10, (some (.long)), 2, 50, 9, 4, false)
/-- DeafArrayModel.power(II)J -/
noncomputable def cd_139 : List mm_E := [
  (0, .iload_n 1, 1, 0, []), (1, .invokestatic 291, 3, 1, [73, 1, 0, 1, 1444, 99, 1442, 1443, 0, 0]), (4, .ifCond .eq 22, 3, 0, [12, 26]), (7, .iload_n 2, 1, 0, []), (8, .i2l, 1, 0, []), (9, .lconst 0, 1, 0, [0]),
  (10, .ldc2_w 96, 3, 0, [2, 0, 1553]), (13, .invokestatic 108, 3, 1, [16, 3, 0, 6, 1347, 99, 1345, 1346, 0, 0]), (16, .ifCond .eq 10, 3, 0, [12, 26]), (19, .aload_n 0, 1, 0, []), (20, .invokevirtual 294, 3, 1, [118, 1, 10, 1, 1453, 99, 1450, 1452, 47, 0]), (23, .ifCond .ne 7, 3, 0, [14, 30]),
  (26, .ldc2_w 299, 3, 0, [9223372036854775808, 0, 1536]), (29, .lreturn, 1, 2, [3]), (30, .aload_n 0, 1, 0, []), (31, .bipush 67, 2, 0, [67]), (33, .iload_n 1, 1, 0, []), (34, .iadd, 1, 0, []),
  (35, .invokevirtual 305, 3, 1, [137, 2, 10, 3, 1557, 99, 1554, 1556, 64, 0]), (38, .aload_n 0, 1, 0, []), (39, .aload_n 0, 1, 0, []), (40, .getfield 89, 3, 0, [9, 3, 1222, 0]), (43, .aload_n 0, 1, 0, []), (44, .getfield 93, 3, 0, [9, 4, 1223, 0]),
  (47, .aload_n 0, 1, 0, []), (48, .getfield 158, 3, 0, [9, 16, 1235, 0]), (51, .aload_n 0, 1, 0, []), (52, .getfield 158, 3, 0, [9, 16, 1235, 0]), (55, .lmul, 1, 0, []), (56, .iload_n 2, 1, 0, []),
  (57, .invokevirtual 308, 3, 1, [138, 5, 10, 10, 1561, 99, 1558, 1560, 65, 0]), (60, .lreturn, 1, 2, [3])]
noncomputable def mt_139 : mm_M := (⟨"DeafArrayModel", "power", "(II)J"⟩, prog_11_method_55_code, 3, (some (.long)), 8, 193, 9, 2, false)
/-- DeafArray$Solver.totalX()J -/
noncomputable def cd_140 : List mm_E := [
  (0, .aload_n 0, 1, 0, []), (1, .getfield 34, 3, 0, [7, 4, 252, 0]), (4, .iconst 0, 1, 0, [0]), (5, .aaload, 1, 0, []), (6, .invokevirtual 130, 3, 1, [84, 1, 4, 1, 719, 94, 716, 717, 718, 0]), (9, .lreturn, 1, 2, [3])]
noncomputable def mt_140 : mm_M := (⟨"DeafArray$Solver", "totalX", "()J"⟩, prog_9_method_11_code, 1, (some (.long)), 1, 20, 7, 0, false)
/-- DeafArray$Solver.totalY()J -/
noncomputable def cd_141 : List mm_E := [
  (0, .aload_n 0, 1, 0, []), (1, .getfield 34, 3, 0, [7, 4, 252, 0]), (4, .iconst 0, 1, 0, [0]), (5, .aaload, 1, 0, []), (6, .invokevirtual 133, 3, 1, [85, 1, 4, 1, 723, 94, 720, 721, 722, 0]), (9, .lreturn, 1, 2, [3])]
noncomputable def mt_141 : mm_M := (⟨"DeafArray$Solver", "totalY", "()J"⟩, prog_9_method_12_code, 1, (some (.long)), 1, 20, 7, 0, false)
/-- DeafArray.total(I)J -/
noncomputable def cd_142 : List mm_E := [
  (0, .aload_n 0, 1, 0, []), (1, .invokevirtual 140, 3, 1, [100, 1, 9, 1, 664, 89, 661, 663, 12, 0]), (4, .aload_n 0, 1, 0, []), (5, .getfield 21, 3, 0, [8, 1, 417, 0]), (8, .getfield 156, 3, 0, [7, 13, 271, 1]), (11, .ifCond .ne 7, 3, 0, [8, 18]),
  (14, .ldc2_w 159, 3, 0, [9223372036854775808, 0, 783]), (17, .lreturn, 1, 2, [3]), (18, .aload_n 0, 1, 0, []), (19, .getfield 21, 3, 0, [8, 1, 417, 0]), (22, .invokevirtual 186, 3, 1, [140, 1, 8, 1, 820, 92, 817, 818, 819, 0]), (25, .aload_n 0, 1, 0, []),
  (26, .getfield 21, 3, 0, [8, 1, 417, 0]), (29, .invokevirtual 190, 3, 1, [141, 1, 8, 1, 824, 92, 821, 822, 823, 0]), (32, .aload_n 0, 1, 0, []), (33, .getfield 21, 3, 0, [8, 1, 417, 0]), (36, .getfield 165, 3, 0, [7, 16, 279, 1]), (39, .iload_n 1, 1, 0, []),
  (40, .invokestatic 182, 3, 1, [135, 4, 0, 9, 812, 89, 810, 811, 0, 0]), (43, .lreturn, 1, 2, [3])]
noncomputable def mt_142 : mm_M := (⟨"DeafArray", "total", "(I)J"⟩, prog_1_method_15_code, 2, (some (.long)), 5, 120, 8, 1, false)
/-- DeafArrayModel.total(I)J -/
noncomputable def cd_143 : List mm_E := [
  (0, .iload_n 1, 1, 0, []), (1, .i2l, 1, 0, []), (2, .lconst 0, 1, 0, [0]), (3, .ldc2_w 96, 3, 0, [2, 0, 1553]), (6, .invokestatic 108, 3, 1, [16, 3, 0, 6, 1347, 99, 1345, 1346, 0, 0]), (9, .ifCond .eq 10, 3, 0, [9, 19]),
  (12, .aload_n 0, 1, 0, []), (13, .invokevirtual 294, 3, 1, [118, 1, 10, 1, 1453, 99, 1450, 1452, 47, 0]), (16, .ifCond .ne 7, 3, 0, [11, 23]), (19, .ldc2_w 299, 3, 0, [9223372036854775808, 0, 1536]), (22, .lreturn, 1, 2, [3]), (23, .aload_n 0, 1, 0, []),
  (24, .aload_n 0, 1, 0, []), (25, .getfield 166, 3, 0, [9, 17, 1236, 0]), (28, .aload_n 0, 1, 0, []), (29, .getfield 169, 3, 0, [9, 18, 1237, 0]), (32, .aload_n 0, 1, 0, []), (33, .getfield 158, 3, 0, [9, 16, 1235, 0]),
  (36, .iload_n 1, 1, 0, []), (37, .invokevirtual 308, 3, 1, [138, 5, 10, 10, 1561, 99, 1558, 1560, 65, 0]), (40, .lreturn, 1, 2, [3])]
noncomputable def mt_143 : mm_M := (⟨"DeafArrayModel", "total", "(I)J"⟩, prog_11_method_56_code, 2, (some (.long)), 8, 193, 9, 1, false)
/-- DeafArray.signOf(JJ)I -/
noncomputable def cd_144 : List mm_E := [
  (0, .lload_n 0, 1, 0, []), (1, .lconst 0, 1, 0, [0]), (2, .lcmp, 1, 0, []), (3, .ifCond .ne 11, 3, 0, [10, 14]), (6, .lload_n 2, 1, 0, []), (7, .lconst 0, 1, 0, [0]),
  (8, .lcmp, 1, 0, []), (9, .ifCond .ne 5, 3, 0, [10, 14]), (12, .iconst 0, 1, 0, [0]), (13, .ireturn, 1, 2, [1]), (14, .lload_n 0, 1, 0, []), (15, .lconst 0, 1, 0, [0]),
  (16, .lcmp, 1, 0, []), (17, .ifCond .lt 11, 3, 0, [20, 28]), (20, .lload_n 2, 1, 0, []), (21, .lconst 0, 1, 0, [0]), (22, .lcmp, 1, 0, []), (23, .ifCond .lt 5, 3, 0, [20, 28]),
  (26, .iconst 1, 1, 0, [1]), (27, .ireturn, 1, 2, [1]), (28, .lload_n 0, 1, 0, []), (29, .lconst 0, 1, 0, [0]), (30, .lcmp, 1, 0, []), (31, .ifCond .gt 11, 3, 0, [30, 42]),
  (34, .lload_n 2, 1, 0, []), (35, .lconst 0, 1, 0, [0]), (36, .lcmp, 1, 0, []), (37, .ifCond .gt 5, 3, 0, [30, 42]), (40, .iconst (-1), 1, 0, [4294967295]), (41, .ireturn, 1, 2, [1]),
  (42, .lload_n 0, 1, 0, []), (43, .lconst 0, 1, 0, [0]), (44, .lcmp, 1, 0, []), (45, .ifCond .le 7, 3, 0, [36, 52]), (48, .iconst 1, 1, 0, [1]), (49, .goto 4, 3, 0, [37, 53]),
  (52, .iconst (-1), 1, 0, [4294967295]), (53, .istore 4, 2, 0, []), (55, .lload_n 0, 1, 0, []), (56, .invokestatic 408, 3, 1, [125, 1, 0, 2, 801, 93, 799, 800, 0, 0]), (59, .lstore 5, 2, 0, []), (61, .lload_n 2, 1, 0, []),
  (62, .invokestatic 408, 3, 1, [125, 1, 0, 2, 801, 93, 799, 800, 0, 0]), (65, .lstore 7, 2, 0, []), (67, .iconst 0, 1, 0, [0]), (68, .istore 9, 2, 0, []), (70, .iload 9, 2, 0, []), (72, .sipush 200, 3, 0, [200]),
  (75, .if_icmp .ge 63, 3, 0, [81, 138]), (78, .lload 5, 2, 0, []), (80, .ldc2_w 412, 3, 0, [2, 0, 836]), (83, .lload 7, 2, 0, []), (85, .lmul, 1, 0, []), (86, .lcmp, 1, 0, []),
  (87, .ifCond .lt 6, 3, 0, [57, 93]), (90, .iload 4, 2, 0, []), (92, .ireturn, 1, 2, [1]), (93, .lload 5, 2, 0, []), (95, .lload 7, 2, 0, []), (97, .lcmp, 1, 0, []),
  (98, .ifCond .gt 7, 3, 0, [64, 105]), (101, .iload 4, 2, 0, []), (103, .ineg, 1, 0, []), (104, .ireturn, 1, 2, [1]), (105, .lload 5, 2, 0, []), (107, .lload 7, 2, 0, []),
  (109, .lsub, 1, 0, []), (110, .lstore 10, 2, 0, []), (112, .ldc2_w 412, 3, 0, [2, 0, 836]), (115, .lload 7, 2, 0, []), (117, .lmul, 1, 0, []), (118, .lload 10, 2, 0, []),
  (120, .lsub, 1, 0, []), (121, .lstore 5, 2, 0, []), (123, .lload 10, 2, 0, []), (125, .lstore 7, 2, 0, []), (127, .iload 4, 2, 0, []), (129, .ineg, 1, 0, []),
  (130, .istore 4, 2, 0, []), (132, .iinc 9 1, 3, 0, []), (135, .goto (-65), 3, 0, [46, 70]), (138, .iload 4, 2, 0, []), (140, .ireturn, 1, 2, [1])]
noncomputable def mt_144 : mm_M := (⟨"DeafArray", "signOf", "(JJ)I"⟩, prog_1_method_77_code, 12, (some (.int)), 1, 21, 8, 2, false)
/-- DeafArray$Solver.comparePowers(II)I -/
noncomputable def cd_145 : List mm_E := [
  (0, .aload_n 0, 1, 0, []), (1, .getfield 43, 3, 0, [7, 7, 260, 0]), (4, .iload_n 1, 1, 0, []), (5, .laload, 1, 0, []), (6, .aload_n 0, 1, 0, []), (7, .getfield 43, 3, 0, [7, 7, 260, 0]),
  (10, .iload_n 2, 1, 0, []), (11, .laload, 1, 0, []), (12, .lsub, 1, 0, []), (13, .aload_n 0, 1, 0, []), (14, .getfield 47, 3, 0, [7, 8, 262, 0]), (17, .iload_n 1, 1, 0, []),
  (18, .laload, 1, 0, []), (19, .aload_n 0, 1, 0, []), (20, .getfield 47, 3, 0, [7, 8, 262, 0]), (23, .iload_n 2, 1, 0, []), (24, .laload, 1, 0, []), (25, .lsub, 1, 0, []),
  (26, .invokestatic 181, 3, 1, [144, 2, 0, 12, 835, 89, 833, 834, 0, 1]), (29, .ireturn, 1, 2, [1])]
noncomputable def mt_145 : mm_M := (⟨"DeafArray$Solver", "comparePowers", "(II)I"⟩, prog_9_method_13_code, 3, (some (.int)), 2, 52, 7, 2, false)
/-- DeafArray.louder(II)I -/
noncomputable def cd_146 : List mm_E := [
  (0, .aload_n 0, 1, 0, []), (1, .invokevirtual 140, 3, 1, [100, 1, 9, 1, 664, 89, 661, 663, 12, 0]), (4, .aload_n 0, 1, 0, []), (5, .getfield 21, 3, 0, [8, 1, 417, 0]), (8, .getfield 156, 3, 0, [7, 13, 271, 1]), (11, .ifCond .eq 17, 3, 0, [12, 28]),
  (14, .iload_n 1, 1, 0, []), (15, .invokestatic 137, 3, 1, [71, 1, 0, 1, 656, 89, 654, 655, 0, 0]), (18, .ifCond .eq 10, 3, 0, [12, 28]), (21, .iload_n 2, 1, 0, []), (22, .invokestatic 137, 3, 1, [71, 1, 0, 1, 656, 89, 654, 655, 0, 0]), (25, .ifCond .ne 6, 3, 0, [14, 31]),
  (28, .bipush (-2), 2, 0, [4294967294]), (30, .ireturn, 1, 2, [1]), (31, .aload_n 0, 1, 0, []), (32, .getfield 21, 3, 0, [8, 1, 417, 0]), (35, .iload_n 1, 1, 0, []), (36, .iload_n 2, 1, 0, []),
  (37, .invokevirtual 193, 3, 1, [145, 3, 8, 3, 832, 92, 829, 830, 831, 0]), (40, .ireturn, 1, 2, [1])]
noncomputable def mt_146 : mm_M := (⟨"DeafArray", "louder", "(II)I"⟩, prog_1_method_16_code, 3, (some (.int)), 5, 120, 8, 2, false)
/-- DeafArrayModel.laysPowers()V -/
noncomputable def cd_147 : List mm_E := [
  (0, .iconst 0, 1, 0, [0]), (1, .istore_n 1, 1, 0, []), (2, .iload_n 1, 1, 0, []), (3, .bipush 12, 2, 0, [12]), (5, .if_icmp .ge 37, 3, 0, [24, 42]), (8, .aload_n 0, 1, 0, []),
  (9, .bipush 67, 2, 0, [67]), (11, .iload_n 1, 1, 0, []), (12, .iadd, 1, 0, []), (13, .invokevirtual 305, 3, 1, [137, 2, 10, 3, 1557, 99, 1554, 1556, 64, 0]), (16, .aload_n 0, 1, 0, []), (17, .getfield 52, 3, 0, [9, 30, 1249, 0]),
  (20, .iload_n 1, 1, 0, []), (21, .aload_n 0, 1, 0, []), (22, .getfield 89, 3, 0, [9, 3, 1222, 0]), (25, .lastore, 1, 0, []), (26, .aload_n 0, 1, 0, []), (27, .getfield 55, 3, 0, [9, 31, 1250, 0]),
  (30, .iload_n 1, 1, 0, []), (31, .aload_n 0, 1, 0, []), (32, .getfield 93, 3, 0, [9, 4, 1223, 0]), (35, .lastore, 1, 0, []), (36, .iinc 1 1, 3, 0, []), (39, .goto (-37), 3, 0, [2, 2]),
  (42, .return_, 1, 2, [0])]
noncomputable def mt_147 : mm_M := (⟨"DeafArrayModel", "laysPowers", "()V"⟩, prog_11_method_57_code, 2, none, 4, 99, 9, 0, false)
/-- DeafArrayModel.signOf(JJ)I -/
noncomputable def cd_148 : List mm_E := [
  (0, .lload_n 0, 1, 0, []), (1, .lstore 4, 2, 0, []), (3, .lload_n 2, 1, 0, []), (4, .lstore 6, 2, 0, []), (6, .lload 4, 2, 0, []), (8, .lconst 0, 1, 0, [0]),
  (9, .lcmp, 1, 0, []), (10, .ifCond .le 10, 3, 0, [12, 20]), (13, .lload 6, 2, 0, []), (15, .lconst 0, 1, 0, [0]), (16, .lcmp, 1, 0, []), (17, .ifCond .lt 17, 3, 0, [20, 34]),
  (20, .lload 4, 2, 0, []), (22, .lconst 0, 1, 0, [0]), (23, .lcmp, 1, 0, []), (24, .ifCond .ge 43, 3, 0, [37, 67]), (27, .lload 6, 2, 0, []), (29, .lconst 0, 1, 0, [0]),
  (30, .lcmp, 1, 0, []), (31, .ifCond .le 36, 3, 0, [37, 67]), (34, .ldc2_w 96, 3, 0, [2, 0, 1553]), (37, .lload 4, 2, 0, []), (39, .lmul, 1, 0, []), (40, .ldc2_w 98, 3, 0, [3, 0, 1509]),
  (43, .lload 6, 2, 0, []), (45, .lmul, 1, 0, []), (46, .ladd, 1, 0, []), (47, .lstore 8, 2, 0, []), (49, .lload 4, 2, 0, []), (51, .ldc2_w 96, 3, 0, [2, 0, 1553]),
  (54, .lload 6, 2, 0, []), (56, .lmul, 1, 0, []), (57, .ladd, 1, 0, []), (58, .lstore 6, 2, 0, []), (60, .lload 8, 2, 0, []), (62, .lstore 4, 2, 0, []),
  (64, .goto (-58), 3, 0, [4, 6]), (67, .lload 4, 2, 0, []), (69, .lconst 0, 1, 0, [0]), (70, .lcmp, 1, 0, []), (71, .ifCond .gt 10, 3, 0, [45, 81]), (74, .lload 6, 2, 0, []),
  (76, .lconst 0, 1, 0, [0]), (77, .lcmp, 1, 0, []), (78, .ifCond .le 7, 3, 0, [47, 85]), (81, .iconst 1, 1, 0, [1]), (82, .goto 22, 3, 0, [58, 104]), (85, .lload 4, 2, 0, []),
  (87, .lconst 0, 1, 0, [0]), (88, .lcmp, 1, 0, []), (89, .ifCond .lt 10, 3, 0, [55, 99]), (92, .lload 6, 2, 0, []), (94, .lconst 0, 1, 0, [0]), (95, .lcmp, 1, 0, []),
  (96, .ifCond .ge 7, 3, 0, [57, 103]), (99, .iconst (-1), 1, 0, [4294967295]), (100, .goto 4, 3, 0, [58, 104]), (103, .iconst 0, 1, 0, [0]), (104, .ireturn, 1, 2, [1])]
noncomputable def mt_148 : mm_M := (⟨"DeafArrayModel", "signOf", "(JJ)I"⟩, prog_11_method_12_code, 10, (some (.int)), 0, 0, 9, 2, false)
/-- DeafArrayModel.compared(II)I -/
noncomputable def cd_149 : List mm_E := [
  (0, .aload_n 0, 1, 0, []), (1, .getfield 52, 3, 0, [9, 30, 1249, 0]), (4, .iload_n 1, 1, 0, []), (5, .laload, 1, 0, []), (6, .aload_n 0, 1, 0, []), (7, .getfield 52, 3, 0, [9, 30, 1249, 0]),
  (10, .iload_n 2, 1, 0, []), (11, .laload, 1, 0, []), (12, .lsub, 1, 0, []), (13, .aload_n 0, 1, 0, []), (14, .getfield 55, 3, 0, [9, 31, 1250, 0]), (17, .iload_n 1, 1, 0, []),
  (18, .laload, 1, 0, []), (19, .aload_n 0, 1, 0, []), (20, .getfield 55, 3, 0, [9, 31, 1250, 0]), (23, .iload_n 2, 1, 0, []), (24, .laload, 1, 0, []), (25, .lsub, 1, 0, []),
  (26, .invokestatic 312, 3, 1, [148, 2, 0, 10, 1580, 99, 1578, 1579, 0, 0]), (29, .ireturn, 1, 2, [1])]
noncomputable def mt_149 : mm_M := (⟨"DeafArrayModel", "compared", "(II)I"⟩, prog_11_method_58_code, 3, (some (.int)), 1, 29, 9, 2, false)
/-- DeafArrayModel.louder(II)I -/
noncomputable def cd_150 : List mm_E := [
  (0, .iload_n 1, 1, 0, []), (1, .invokestatic 291, 3, 1, [73, 1, 0, 1, 1444, 99, 1442, 1443, 0, 0]), (4, .ifCond .eq 17, 3, 0, [9, 21]), (7, .iload_n 2, 1, 0, []), (8, .invokestatic 291, 3, 1, [73, 1, 0, 1, 1444, 99, 1442, 1443, 0, 0]), (11, .ifCond .eq 10, 3, 0, [9, 21]),
  (14, .aload_n 0, 1, 0, []), (15, .invokevirtual 294, 3, 1, [118, 1, 10, 1, 1453, 99, 1450, 1452, 47, 0]), (18, .ifCond .ne 6, 3, 0, [11, 24]), (21, .bipush (-2), 2, 0, [4294967294]), (23, .ireturn, 1, 2, [1]), (24, .aload_n 0, 1, 0, []),
  (25, .invokevirtual 316, 3, 1, [147, 1, 10, 2, 1573, 99, 1570, 1572, 66, 0]), (28, .aload_n 0, 1, 0, []), (29, .iload_n 1, 1, 0, []), (30, .iload_n 2, 1, 0, []), (31, .invokevirtual 319, 3, 1, [149, 3, 10, 3, 1577, 99, 1574, 1576, 67, 0]), (34, .ireturn, 1, 2, [1])]
noncomputable def mt_150 : mm_M := (⟨"DeafArrayModel", "louder", "(II)I"⟩, prog_11_method_59_code, 3, (some (.int)), 8, 193, 9, 2, false)
/-- DeafArray$Solver.placeByPower(I)I -/
noncomputable def cd_151 : List mm_E := [
  (0, .iconst 0, 1, 0, [0]), (1, .istore_n 2, 1, 0, []), (2, .iconst 0, 1, 0, [0]), (3, .istore_n 3, 1, 0, []), (4, .iload_n 3, 1, 0, []), (5, .bipush 12, 2, 0, [12]),
  (7, .if_icmp .ge 35, 3, 0, [22, 42]), (10, .aload_n 0, 1, 0, []), (11, .iload_n 3, 1, 0, []), (12, .iload_n 1, 1, 0, []), (13, .invokevirtual 189, 3, 1, [145, 3, 8, 3, 832, 92, 845, 830, 831, 0]), (16, .istore 4, 2, 0, []),
  (18, .iload 4, 2, 0, []), (20, .ifCond .gt 13, 3, 0, [19, 33]), (23, .iload 4, 2, 0, []), (25, .ifCond .ne 11, 3, 0, [20, 36]), (28, .iload_n 3, 1, 0, []), (29, .iload_n 1, 1, 0, []),
  (30, .if_icmp .ge 6, 3, 0, [20, 36]), (33, .iinc 2 1, 3, 0, []), (36, .iinc 3 1, 3, 0, []), (39, .goto (-35), 3, 0, [4, 4]), (42, .iload_n 2, 1, 0, []), (43, .ireturn, 1, 2, [1])]
noncomputable def mt_151 : mm_M := (⟨"DeafArray$Solver", "placeByPower", "(I)I"⟩, prog_9_method_16_code, 5, (some (.int)), 3, 74, 7, 1, false)
/-- DeafArray.loud(I)I -/
noncomputable def cd_152 : List mm_E := [
  (0, .aload_n 0, 1, 0, []), (1, .invokevirtual 140, 3, 1, [100, 1, 9, 1, 664, 89, 661, 663, 12, 0]), (4, .aload_n 0, 1, 0, []), (5, .getfield 21, 3, 0, [8, 1, 417, 0]), (8, .getfield 156, 3, 0, [7, 13, 271, 1]), (11, .ifCond .eq 10, 3, 0, [9, 21]),
  (14, .iload_n 1, 1, 0, []), (15, .invokestatic 137, 3, 1, [71, 1, 0, 1, 656, 89, 654, 655, 0, 0]), (18, .ifCond .ne 6, 3, 0, [11, 24]), (21, .bipush (-2), 2, 0, [4294967294]), (23, .ireturn, 1, 2, [1]), (24, .iconst 0, 1, 0, [0]),
  (25, .istore_n 2, 1, 0, []), (26, .iload_n 2, 1, 0, []), (27, .bipush 12, 2, 0, [12]), (29, .if_icmp .ge 23, 3, 0, [26, 52]), (32, .aload_n 0, 1, 0, []), (33, .getfield 21, 3, 0, [8, 1, 417, 0]),
  (36, .iload_n 2, 1, 0, []), (37, .invokevirtual 197, 3, 1, [151, 2, 8, 5, 844, 92, 841, 842, 843, 0]), (40, .iload_n 1, 1, 0, []), (41, .if_icmp .ne 5, 3, 0, [24, 46]), (44, .iload_n 2, 1, 0, []), (45, .ireturn, 1, 2, [1]),
  (46, .iinc 2 1, 3, 0, []), (49, .goto (-23), 3, 0, [13, 26]), (52, .bipush (-2), 2, 0, [4294967294]), (54, .ireturn, 1, 2, [1])]
noncomputable def mt_152 : mm_M := (⟨"DeafArray", "loud", "(I)I"⟩, prog_1_method_17_code, 3, (some (.int)), 5, 120, 8, 1, false)
/-- DeafArrayModel.loud(I)I -/
noncomputable def cd_153 : List mm_E := [
  (0, .iload_n 1, 1, 0, []), (1, .invokestatic 291, 3, 1, [73, 1, 0, 1, 1444, 99, 1442, 1443, 0, 0]), (4, .ifCond .eq 10, 3, 0, [6, 14]), (7, .aload_n 0, 1, 0, []), (8, .invokevirtual 294, 3, 1, [118, 1, 10, 1, 1453, 99, 1450, 1452, 47, 0]), (11, .ifCond .ne 6, 3, 0, [8, 17]),
  (14, .bipush (-2), 2, 0, [4294967294]), (16, .ireturn, 1, 2, [1]), (17, .aload_n 0, 1, 0, []), (18, .invokevirtual 316, 3, 1, [147, 1, 10, 2, 1573, 99, 1570, 1572, 66, 0]), (21, .iconst 0, 1, 0, [0]), (22, .istore_n 2, 1, 0, []),
  (23, .iload_n 2, 1, 0, []), (24, .bipush 12, 2, 0, [12]), (26, .if_icmp .ge 68, 3, 0, [50, 94]), (29, .iconst 0, 1, 0, [0]), (30, .istore_n 3, 1, 0, []), (31, .iconst 0, 1, 0, [0]),
  (32, .istore 4, 2, 0, []), (34, .iload 4, 2, 0, []), (36, .bipush 12, 2, 0, [12]), (38, .if_icmp .ge 43, 3, 0, [43, 81]), (41, .iload_n 3, 1, 0, []), (42, .aload_n 0, 1, 0, []),
  (43, .iload 4, 2, 0, []), (45, .iload_n 2, 1, 0, []), (46, .invokevirtual 319, 3, 1, [149, 3, 10, 3, 1577, 99, 1574, 1576, 67, 0]), (49, .ifCond .gt 19, 3, 0, [36, 68]), (52, .aload_n 0, 1, 0, []), (53, .iload 4, 2, 0, []),
  (55, .iload_n 2, 1, 0, []), (56, .invokevirtual 319, 3, 1, [149, 3, 10, 3, 1577, 99, 1574, 1576, 67, 0]), (59, .ifCond .ne 13, 3, 0, [38, 72]), (62, .iload 4, 2, 0, []), (64, .iload_n 2, 1, 0, []), (65, .if_icmp .ge 7, 3, 0, [38, 72]),
  (68, .iconst 1, 1, 0, [1]), (69, .goto 4, 3, 0, [39, 73]), (72, .iconst 0, 1, 0, [0]), (73, .iadd, 1, 0, []), (74, .istore_n 3, 1, 0, []), (75, .iinc 4 1, 3, 0, []),
  (78, .goto (-44), 3, 0, [19, 34]), (81, .iload_n 3, 1, 0, []), (82, .iload_n 1, 1, 0, []), (83, .if_icmp .ne 5, 3, 0, [48, 88]), (86, .iload_n 2, 1, 0, []), (87, .ireturn, 1, 2, [1]),
  (88, .iinc 2 1, 3, 0, []), (91, .goto (-68), 3, 0, [12, 23]), (94, .iconst (-1), 1, 0, [4294967295]), (95, .ireturn, 1, 2, [1])]
noncomputable def mt_153 : mm_M := (⟨"DeafArrayModel", "loud", "(I)I"⟩, prog_11_method_60_code, 5, (some (.int)), 8, 193, 9, 1, false)
/-- DeafArray.isFraction(II)Z -/
noncomputable def cd_154 : List mm_E := [
  (0, .iload_n 0, 1, 0, []), (1, .ifCond .lt 24, 3, 0, [13, 25]), (4, .iload_n 0, 1, 0, []), (5, .bipush 99, 2, 0, [99]), (7, .if_icmp .gt 18, 3, 0, [13, 25]), (10, .iload_n 1, 1, 0, []),
  (11, .iconst 1, 1, 0, [1]), (12, .if_icmp .lt 13, 3, 0, [13, 25]), (15, .iload_n 1, 1, 0, []), (16, .bipush 99, 2, 0, [99]), (18, .if_icmp .gt 7, 3, 0, [13, 25]), (21, .iconst 1, 1, 0, [1]),
  (22, .goto 4, 3, 0, [14, 26]), (25, .iconst 0, 1, 0, [0]), (26, .ireturn, 1, 2, [2])]
noncomputable def mt_154 : mm_M := (⟨"DeafArray", "isFraction", "(II)Z"⟩, prog_1_method_72_code, 2, (some (.boolean)), 0, 0, 8, 2, false)
/-- DeafArray$Solver.compareTo(JJII)I -/
noncomputable def cd_155 : List mm_E := [
  (0, .iload 6, 2, 0, []), (2, .i2l, 1, 0, []), (3, .lload_n 1, 1, 0, []), (4, .lmul, 1, 0, []), (5, .iload 5, 2, 0, []), (7, .i2l, 1, 0, []),
  (8, .aload_n 0, 1, 0, []), (9, .getfield 164, 3, 0, [7, 16, 278, 0]), (12, .lmul, 1, 0, []), (13, .aload_n 0, 1, 0, []), (14, .getfield 164, 3, 0, [7, 16, 278, 0]), (17, .lmul, 1, 0, []),
  (18, .lsub, 1, 0, []), (19, .iload 6, 2, 0, []), (21, .i2l, 1, 0, []), (22, .lload_n 3, 1, 0, []), (23, .lmul, 1, 0, []), (24, .invokestatic 181, 3, 1, [144, 2, 0, 12, 835, 89, 833, 834, 0, 1]),
  (27, .ireturn, 1, 2, [1])]
noncomputable def mt_155 : mm_M := (⟨"DeafArray$Solver", "compareTo", "(JJII)I"⟩, prog_9_method_15_code, 7, (some (.int)), 2, 52, 7, 4, false)
/-- DeafArray$Solver.comparePowerTo(III)I -/
noncomputable def cd_156 : List mm_E := [
  (0, .aload_n 0, 1, 0, []), (1, .aload_n 0, 1, 0, []), (2, .getfield 43, 3, 0, [7, 7, 260, 0]), (5, .iload_n 1, 1, 0, []), (6, .laload, 1, 0, []), (7, .aload_n 0, 1, 0, []),
  (8, .getfield 47, 3, 0, [7, 8, 262, 0]), (11, .iload_n 1, 1, 0, []), (12, .laload, 1, 0, []), (13, .iload_n 2, 1, 0, []), (14, .iload_n 3, 1, 0, []), (15, .invokevirtual 185, 3, 1, [155, 5, 8, 7, 860, 92, 857, 859, 21, 0]),
  (18, .ireturn, 1, 2, [1])]
noncomputable def mt_156 : mm_M := (⟨"DeafArray$Solver", "comparePowerTo", "(III)I"⟩, prog_9_method_14_code, 4, (some (.int)), 3, 78, 7, 3, false)
/-- DeafArray.rowFrom(III)I -/
noncomputable def cd_157 : List mm_E := [
  (0, .iconst 0, 1, 0, [0]), (1, .istore_n 3, 1, 0, []), (2, .iload_n 1, 1, 0, []), (3, .istore 4, 2, 0, []), (5, .iload_n 3, 1, 0, []), (6, .bipush 12, 2, 0, [12]),
  (8, .if_icmp .ge 27, 3, 0, [21, 35]), (11, .iload_n 0, 1, 0, []), (12, .iload 4, 2, 0, []), (14, .ishr, 1, 0, []), (15, .iconst 1, 1, 0, [1]), (16, .iand, 1, 0, []),
  (17, .ifCond .eq 18, 3, 0, [21, 35]), (20, .iinc 3 1, 3, 0, []), (23, .iload 4, 2, 0, []), (25, .iload_n 2, 1, 0, []), (26, .iadd, 1, 0, []), (27, .bipush 12, 2, 0, [12]),
  (29, .irem, 1, 0, []), (30, .istore 4, 2, 0, []), (32, .goto (-27), 3, 0, [4, 5]), (35, .iload_n 3, 1, 0, []), (36, .ireturn, 1, 2, [1])]
noncomputable def mt_157 : mm_M := (⟨"DeafArray", "rowFrom", "(III)I"⟩, prog_1_method_74_code, 5, (some (.int)), 0, 0, 8, 3, false)
/-- DeafArray.hush(III)I -/
noncomputable def cd_158 : List mm_E := [
  (0, .aload_n 0, 1, 0, []), (1, .invokevirtual 140, 3, 1, [100, 1, 9, 1, 664, 89, 661, 663, 12, 0]), (4, .aload_n 0, 1, 0, []), (5, .getfield 21, 3, 0, [8, 1, 417, 0]), (8, .getfield 156, 3, 0, [7, 13, 271, 1]), (11, .ifCond .eq 19, 3, 0, [14, 30]),
  (14, .iload_n 1, 1, 0, []), (15, .iload_n 2, 1, 0, []), (16, .invokestatic 201, 3, 1, [154, 2, 0, 2, 852, 89, 850, 851, 0, 0]), (19, .ifCond .eq 11, 3, 0, [14, 30]), (22, .iload_n 3, 1, 0, []), (23, .iconst 2, 1, 0, [2]),
  (24, .invokestatic 126, 3, 1, [65, 2, 0, 2, 644, 89, 645, 643, 0, 0]), (27, .ifCond .ne 6, 3, 0, [16, 33]), (30, .bipush (-2), 2, 0, [4294967294]), (32, .ireturn, 1, 2, [1]), (33, .iconst 0, 1, 0, [0]), (34, .istore 4, 2, 0, []),
  (36, .iconst 0, 1, 0, [0]), (37, .istore 5, 2, 0, []), (39, .iload 5, 2, 0, []), (41, .bipush 12, 2, 0, [12]), (43, .if_icmp .ge 32, 3, 0, [38, 75]), (46, .aload_n 0, 1, 0, []),
  (47, .getfield 21, 3, 0, [8, 1, 417, 0]), (50, .iload 5, 2, 0, []), (52, .iload_n 1, 1, 0, []), (53, .iload_n 2, 1, 0, []), (54, .invokevirtual 204, 3, 1, [156, 4, 8, 4, 856, 92, 853, 854, 855, 0]), (57, .ifCond .gt 12, 3, 0, [36, 69]),
  (60, .iload 4, 2, 0, []), (62, .iconst 1, 1, 0, [1]), (63, .iload 5, 2, 0, []), (65, .ishl, 1, 0, []), (66, .ior, 1, 0, []), (67, .istore 4, 2, 0, []),
  (69, .iinc 5 1, 3, 0, []), (72, .goto (-33), 3, 0, [20, 39]), (75, .iconst 0, 1, 0, [0]), (76, .istore 5, 2, 0, []), (78, .iconst (-1), 1, 0, [4294967295]), (79, .istore 6, 2, 0, []),
  (81, .iconst 0, 1, 0, [0]), (82, .istore 7, 2, 0, []), (84, .iload 7, 2, 0, []), (86, .bipush 12, 2, 0, [12]), (88, .if_icmp .ge 34, 3, 0, [61, 122]), (91, .iload 4, 2, 0, []),
  (93, .iload 7, 2, 0, []), (95, .iconst 1, 1, 0, [1]), (96, .invokestatic 208, 3, 1, [157, 3, 0, 5, 863, 89, 861, 862, 0, 0]), (99, .istore 8, 2, 0, []), (101, .iload 8, 2, 0, []), (103, .iload 5, 2, 0, []),
  (105, .if_icmp .le 11, 3, 0, [59, 116]), (108, .iload 8, 2, 0, []), (110, .istore 5, 2, 0, []), (112, .iload 7, 2, 0, []), (114, .istore 6, 2, 0, []), (116, .iinc 7 1, 3, 0, []),
  (119, .goto (-35), 3, 0, [44, 84]), (122, .iload_n 3, 1, 0, []), (123, .ifCond .ne 8, 3, 0, [65, 131]), (126, .iload 5, 2, 0, []), (128, .goto 5, 3, 0, [66, 133]), (131, .iload 6, 2, 0, []),
  (133, .ireturn, 1, 2, [1])]
noncomputable def mt_158 : mm_M := (⟨"DeafArray", "hush", "(III)I"⟩, prog_1_method_18_code, 9, (some (.int)), 5, 120, 8, 3, false)
/-- DeafArrayModel.isBound(II)Z -/
noncomputable def cd_159 : List mm_E := [
  (0, .iload_n 0, 1, 0, []), (1, .i2l, 1, 0, []), (2, .lconst 0, 1, 0, [0]), (3, .ldc2_w 331, 3, 0, [99, 0, 1612]), (6, .invokestatic 108, 3, 1, [16, 3, 0, 6, 1347, 99, 1345, 1346, 0, 0]), (9, .ifCond .eq 19, 3, 0, [14, 28]),
  (12, .iload_n 1, 1, 0, []), (13, .i2l, 1, 0, []), (14, .lconst 1, 1, 0, [1]), (15, .ldc2_w 331, 3, 0, [99, 0, 1612]), (18, .invokestatic 108, 3, 1, [16, 3, 0, 6, 1347, 99, 1345, 1346, 0, 0]), (21, .ifCond .eq 7, 3, 0, [14, 28]),
  (24, .iconst 1, 1, 0, [1]), (25, .goto 4, 3, 0, [15, 29]), (28, .iconst 0, 1, 0, [0]), (29, .ireturn, 1, 2, [2])]
noncomputable def mt_159 : mm_M := (⟨"DeafArrayModel", "isBound", "(II)Z"⟩, prog_11_method_65_code, 2, (some (.boolean)), 1, 25, 9, 2, false)
/-- DeafArrayModel.byBound(III)I -/
noncomputable def cd_160 : List mm_E := [
  (0, .aload_n 0, 1, 0, []), (1, .getfield 52, 3, 0, [9, 30, 1249, 0]), (4, .iload_n 1, 1, 0, []), (5, .laload, 1, 0, []), (6, .iload_n 3, 1, 0, []), (7, .i2l, 1, 0, []),
  (8, .lmul, 1, 0, []), (9, .aload_n 0, 1, 0, []), (10, .getfield 158, 3, 0, [9, 16, 1235, 0]), (13, .aload_n 0, 1, 0, []), (14, .getfield 158, 3, 0, [9, 16, 1235, 0]), (17, .lmul, 1, 0, []),
  (18, .iload_n 2, 1, 0, []), (19, .i2l, 1, 0, []), (20, .lmul, 1, 0, []), (21, .lsub, 1, 0, []), (22, .aload_n 0, 1, 0, []), (23, .getfield 55, 3, 0, [9, 31, 1250, 0]),
  (26, .iload_n 1, 1, 0, []), (27, .laload, 1, 0, []), (28, .iload_n 3, 1, 0, []), (29, .i2l, 1, 0, []), (30, .lmul, 1, 0, []), (31, .invokestatic 312, 3, 1, [148, 2, 0, 10, 1580, 99, 1578, 1579, 0, 0]),
  (34, .ireturn, 1, 2, [1])]
noncomputable def mt_160 : mm_M := (⟨"DeafArrayModel", "byBound", "(III)I"⟩, prog_11_method_92_code, 4, (some (.int)), 1, 29, 9, 3, false)
/-- DeafArrayModel.hush(III)I -/
noncomputable def cd_161 : List mm_E := [
  (0, .iload_n 3, 1, 0, []), (1, .i2l, 1, 0, []), (2, .lconst 0, 1, 0, [0]), (3, .lconst 1, 1, 0, [1]), (4, .invokestatic 108, 3, 1, [16, 3, 0, 6, 1347, 99, 1345, 1346, 0, 0]), (7, .ifCond .eq 18, 3, 0, [13, 25]),
  (10, .iload_n 1, 1, 0, []), (11, .iload_n 2, 1, 0, []), (12, .invokestatic 333, 3, 1, [159, 2, 0, 2, 1611, 99, 1609, 1610, 0, 0]), (15, .ifCond .eq 10, 3, 0, [13, 25]), (18, .aload_n 0, 1, 0, []), (19, .invokevirtual 294, 3, 1, [118, 1, 10, 1, 1453, 99, 1450, 1452, 47, 0]),
  (22, .ifCond .ne 6, 3, 0, [15, 28]), (25, .bipush (-2), 2, 0, [4294967294]), (27, .ireturn, 1, 2, [1]), (28, .aload_n 0, 1, 0, []), (29, .invokevirtual 316, 3, 1, [147, 1, 10, 2, 1573, 99, 1570, 1572, 66, 0]), (32, .iconst 0, 1, 0, [0]),
  (33, .istore 4, 2, 0, []), (35, .iconst (-1), 1, 0, [4294967295]), (36, .istore 5, 2, 0, []), (38, .iconst 0, 1, 0, [0]), (39, .istore 6, 2, 0, []), (41, .iload 6, 2, 0, []),
  (43, .bipush 12, 2, 0, [12]), (45, .if_icmp .ge 60, 3, 0, [53, 105]), (48, .iconst 0, 1, 0, [0]), (49, .istore 7, 2, 0, []), (51, .iload 7, 2, 0, []), (53, .bipush 12, 2, 0, [12]),
  (55, .if_icmp .ge 26, 3, 0, [43, 81]), (58, .aload_n 0, 1, 0, []), (59, .iload 6, 2, 0, []), (61, .iload 7, 2, 0, []), (63, .iadd, 1, 0, []), (64, .bipush 12, 2, 0, [12]),
  (66, .irem, 1, 0, []), (67, .iload_n 1, 1, 0, []), (68, .iload_n 2, 1, 0, []), (69, .invokevirtual 375, 3, 1, [160, 4, 10, 4, 1726, 99, 1723, 1725, 79, 0]), (72, .ifCond .gt 9, 3, 0, [43, 81]), (75, .iinc 7 1, 3, 0, []),
  (78, .goto (-27), 3, 0, [28, 51]), (81, .iload 7, 2, 0, []), (83, .iload 4, 2, 0, []), (85, .if_icmp .gt 6, 3, 0, [47, 91]), (88, .goto 11, 3, 0, [51, 99]), (91, .iload 7, 2, 0, []),
  (93, .istore 4, 2, 0, []), (95, .iload 6, 2, 0, []), (97, .istore 5, 2, 0, []), (99, .iinc 6 1, 3, 0, []), (102, .goto (-61), 3, 0, [23, 41]), (105, .iload_n 3, 1, 0, []),
  (106, .ifCond .ne 8, 3, 0, [57, 114]), (109, .iload 4, 2, 0, []), (111, .goto 5, 3, 0, [58, 116]), (114, .iload 5, 2, 0, []), (116, .ireturn, 1, 2, [1])]
noncomputable def mt_161 : mm_M := (⟨"DeafArrayModel", "hush", "(III)I"⟩, prog_11_method_93_code, 8, (some (.int)), 8, 193, 9, 3, false)
/-- DeafArray.beam(II)I -/
noncomputable def cd_162 : List mm_E := [
  (0, .aload_n 0, 1, 0, []), (1, .invokevirtual 140, 3, 1, [100, 1, 9, 1, 664, 89, 661, 663, 12, 0]), (4, .aload_n 0, 1, 0, []), (5, .getfield 21, 3, 0, [8, 1, 417, 0]), (8, .getfield 156, 3, 0, [7, 13, 271, 1]), (11, .ifCond .eq 11, 3, 0, [10, 22]),
  (14, .iload_n 1, 1, 0, []), (15, .iload_n 2, 1, 0, []), (16, .invokestatic 201, 3, 1, [154, 2, 0, 2, 852, 89, 850, 851, 0, 0]), (19, .ifCond .ne 6, 3, 0, [12, 25]), (22, .bipush (-2), 2, 0, [4294967294]), (24, .ireturn, 1, 2, [1]),
  (25, .iconst 0, 1, 0, [0]), (26, .istore_n 3, 1, 0, []), (27, .iconst 0, 1, 0, [0]), (28, .istore 4, 2, 0, []), (30, .iload 4, 2, 0, []), (32, .bipush 12, 2, 0, [12]),
  (34, .if_icmp .ge 30, 3, 0, [34, 64]), (37, .aload_n 0, 1, 0, []), (38, .getfield 21, 3, 0, [8, 1, 417, 0]), (41, .iload 4, 2, 0, []), (43, .iload_n 1, 1, 0, []), (44, .iload_n 2, 1, 0, []),
  (45, .invokevirtual 204, 3, 1, [156, 4, 8, 4, 856, 92, 853, 854, 855, 0]), (48, .ifCond .lt 10, 3, 0, [32, 58]), (51, .iload_n 3, 1, 0, []), (52, .iconst 1, 1, 0, [1]), (53, .iload 4, 2, 0, []), (55, .ishl, 1, 0, []),
  (56, .ior, 1, 0, []), (57, .istore_n 3, 1, 0, []), (58, .iinc 4 1, 3, 0, []), (61, .goto (-31), 3, 0, [16, 30]), (64, .iload_n 3, 1, 0, []), (65, .aload_n 0, 1, 0, []),
  (66, .getfield 21, 3, 0, [8, 1, 417, 0]), (69, .getfield 85, 3, 0, [7, 0, 246, 1]), (72, .getfield 112, 3, 0, [5, 4, 141, 1]), (75, .iconst 1, 1, 0, [1]), (76, .invokestatic 208, 3, 1, [157, 3, 0, 5, 863, 89, 861, 862, 0, 0]), (79, .istore 4, 2, 0, []),
  (81, .iload_n 3, 1, 0, []), (82, .aload_n 0, 1, 0, []), (83, .getfield 21, 3, 0, [8, 1, 417, 0]), (86, .getfield 85, 3, 0, [7, 0, 246, 1]), (89, .getfield 112, 3, 0, [5, 4, 141, 1]), (92, .bipush 11, 2, 0, [11]),
  (94, .invokestatic 208, 3, 1, [157, 3, 0, 5, 863, 89, 861, 862, 0, 0]), (97, .istore 5, 2, 0, []), (99, .iload 4, 2, 0, []), (101, .ifCond .ne 7, 3, 0, [54, 108]), (104, .iconst 0, 1, 0, [0]), (105, .goto 15, 3, 0, [61, 120]),
  (108, .bipush 12, 2, 0, [12]), (110, .iload 4, 2, 0, []), (112, .iload 5, 2, 0, []), (114, .iadd, 1, 0, []), (115, .iconst 1, 1, 0, [1]), (116, .isub, 1, 0, []),
  (117, .invokestatic 211, 3, 1, [21, 2, 0, 2, 483, 93, 868, 482, 0, 0]), (120, .ireturn, 1, 2, [1])]
noncomputable def mt_162 : mm_M := (⟨"DeafArray", "beam", "(II)I"⟩, prog_1_method_19_code, 6, (some (.int)), 5, 120, 8, 2, false)
/-- DeafArrayModel.beam(II)I -/
noncomputable def cd_163 : List mm_E := [
  (0, .iload_n 1, 1, 0, []), (1, .iload_n 2, 1, 0, []), (2, .invokestatic 333, 3, 1, [159, 2, 0, 2, 1611, 99, 1609, 1610, 0, 0]), (5, .ifCond .eq 10, 3, 0, [7, 15]), (8, .aload_n 0, 1, 0, []), (9, .invokevirtual 294, 3, 1, [118, 1, 10, 1, 1453, 99, 1450, 1452, 47, 0]),
  (12, .ifCond .ne 6, 3, 0, [9, 18]), (15, .bipush (-2), 2, 0, [4294967294]), (17, .ireturn, 1, 2, [1]), (18, .aload_n 0, 1, 0, []), (19, .invokevirtual 316, 3, 1, [147, 1, 10, 2, 1573, 99, 1570, 1572, 66, 0]), (22, .iconst 0, 1, 0, [0]),
  (23, .istore_n 3, 1, 0, []), (24, .aload_n 0, 1, 0, []), (25, .invokevirtual 184, 3, 1, [63, 1, 10, 1, 1429, 99, 1426, 1428, 45, 0]), (28, .istore 4, 2, 0, []), (30, .iload_n 3, 1, 0, []), (31, .bipush 12, 2, 0, [12]),
  (33, .if_icmp .ge 29, 3, 0, [33, 62]), (36, .aload_n 0, 1, 0, []), (37, .iload 4, 2, 0, []), (39, .iload_n 1, 1, 0, []), (40, .iload_n 2, 1, 0, []), (41, .invokevirtual 375, 3, 1, [160, 4, 10, 4, 1726, 99, 1723, 1725, 79, 0]),
  (44, .ifCond .lt 18, 3, 0, [33, 62]), (47, .iinc 3 1, 3, 0, []), (50, .iload 4, 2, 0, []), (52, .iconst 1, 1, 0, [1]), (53, .iadd, 1, 0, []), (54, .bipush 12, 2, 0, [12]),
  (56, .irem, 1, 0, []), (57, .istore 4, 2, 0, []), (59, .goto (-29), 3, 0, [16, 30]), (62, .aload_n 0, 1, 0, []), (63, .invokevirtual 184, 3, 1, [63, 1, 10, 1, 1429, 99, 1426, 1428, 45, 0]), (66, .bipush 12, 2, 0, [12]),
  (68, .iadd, 1, 0, []), (69, .iconst 1, 1, 0, [1]), (70, .isub, 1, 0, []), (71, .bipush 12, 2, 0, [12]), (73, .irem, 1, 0, []), (74, .istore 4, 2, 0, []),
  (76, .iload_n 3, 1, 0, []), (77, .ifCond .le 38, 3, 0, [63, 115]), (80, .iload_n 3, 1, 0, []), (81, .bipush 12, 2, 0, [12]), (83, .if_icmp .ge 32, 3, 0, [63, 115]), (86, .aload_n 0, 1, 0, []),
  (87, .iload 4, 2, 0, []), (89, .iload_n 1, 1, 0, []), (90, .iload_n 2, 1, 0, []), (91, .invokevirtual 375, 3, 1, [160, 4, 10, 4, 1726, 99, 1723, 1725, 79, 0]), (94, .ifCond .lt 21, 3, 0, [63, 115]), (97, .iinc 3 1, 3, 0, []),
  (100, .iload 4, 2, 0, []), (102, .bipush 12, 2, 0, [12]), (104, .iadd, 1, 0, []), (105, .iconst 1, 1, 0, [1]), (106, .isub, 1, 0, []), (107, .bipush 12, 2, 0, [12]),
  (109, .irem, 1, 0, []), (110, .istore 4, 2, 0, []), (112, .goto (-36), 3, 0, [42, 76]), (115, .iload_n 3, 1, 0, []), (116, .ireturn, 1, 2, [1])]
noncomputable def mt_163 : mm_M := (⟨"DeafArrayModel", "beam", "(II)I"⟩, prog_11_method_94_code, 5, (some (.int)), 8, 193, 9, 2, false)
/-- DeafArray.share(II)J -/
noncomputable def cd_164 : List mm_E := [
  (0, .aload_n 0, 1, 0, []), (1, .invokevirtual 140, 3, 1, [100, 1, 9, 1, 664, 89, 661, 663, 12, 0]), (4, .aload_n 0, 1, 0, []), (5, .getfield 21, 3, 0, [8, 1, 417, 0]), (8, .getfield 156, 3, 0, [7, 13, 271, 1]), (11, .ifCond .eq 17, 3, 0, [12, 28]),
  (14, .iload_n 1, 1, 0, []), (15, .aload_n 0, 1, 0, []), (16, .getfield 21, 3, 0, [8, 1, 417, 0]), (19, .getfield 143, 3, 0, [7, 11, 267, 1]), (22, .invokestatic 126, 3, 1, [65, 2, 0, 2, 644, 89, 645, 643, 0, 0]), (25, .ifCond .ne 7, 3, 0, [14, 32]),
  (28, .ldc2_w 159, 3, 0, [9223372036854775808, 0, 783]), (31, .lreturn, 1, 2, [3]), (32, .aload_n 0, 1, 0, []), (33, .aload_n 0, 1, 0, []), (34, .getfield 21, 3, 0, [8, 1, 417, 0]), (37, .getfield 216, 3, 0, [7, 4, 253, 1]),
  (40, .iload_n 1, 1, 0, []), (41, .aaload, 1, 0, []), (42, .aload_n 0, 1, 0, []), (43, .getfield 21, 3, 0, [8, 1, 417, 0]), (46, .getfield 165, 3, 0, [7, 16, 279, 1]), (49, .iload_n 2, 1, 0, []),
  (50, .invokevirtual 169, 3, 1, [128, 4, 9, 5, 787, 89, 784, 786, 19, 0]), (53, .lreturn, 1, 2, [3])]
noncomputable def mt_164 : mm_M := (⟨"DeafArray", "share", "(II)J"⟩, prog_1_method_20_code, 3, (some (.long)), 5, 120, 8, 2, false)
/-- DeafArrayModel.share(II)J -/
noncomputable def cd_165 : List mm_E := [
  (0, .iload_n 2, 1, 0, []), (1, .i2l, 1, 0, []), (2, .lconst 0, 1, 0, [0]), (3, .ldc2_w 297, 3, 0, [4, 0, 1535]), (6, .invokestatic 108, 3, 1, [16, 3, 0, 6, 1347, 99, 1345, 1346, 0, 0]), (9, .ifCond .eq 26, 3, 0, [19, 35]),
  (12, .aload_n 0, 1, 0, []), (13, .invokevirtual 294, 3, 1, [118, 1, 10, 1, 1453, 99, 1450, 1452, 47, 0]), (16, .ifCond .eq 19, 3, 0, [19, 35]), (19, .iload_n 1, 1, 0, []), (20, .i2l, 1, 0, []), (21, .lconst 0, 1, 0, [0]),
  (22, .aload_n 0, 1, 0, []), (23, .getfield 132, 3, 0, [9, 10, 1229, 0]), (26, .iconst 1, 1, 0, [1]), (27, .isub, 1, 0, []), (28, .i2l, 1, 0, []), (29, .invokestatic 108, 3, 1, [16, 3, 0, 6, 1347, 99, 1345, 1346, 0, 0]),
  (32, .ifCond .ne 7, 3, 0, [21, 39]), (35, .ldc2_w 299, 3, 0, [9223372036854775808, 0, 1536]), (38, .lreturn, 1, 2, [3]), (39, .iconst 0, 1, 0, [0]), (40, .istore_n 3, 1, 0, []), (41, .iload_n 3, 1, 0, []),
  (42, .aload_n 0, 1, 0, []), (43, .getfield 129, 3, 0, [9, 14, 1233, 0]), (46, .if_icmp .ge 53, 3, 0, [54, 99]), (49, .aload_n 0, 1, 0, []), (50, .getfield 35, 3, 0, [9, 13, 1232, 0]), (53, .iload_n 3, 1, 0, []),
  (54, .iaload, 1, 0, []), (55, .iload_n 1, 1, 0, []), (56, .if_icmp .eq 6, 3, 0, [34, 62]), (59, .goto 34, 3, 0, [52, 93]), (62, .aload_n 0, 1, 0, []), (63, .bipush 87, 2, 0, [87]),
  (65, .invokevirtual 81, 3, 1, [104, 2, 10, 3, 1481, 99, 1478, 1480, 54, 0]), (68, .aload_n 0, 1, 0, []), (69, .bipush 87, 2, 0, [87]), (71, .bipush 57, 2, 0, [57]), (73, .iload_n 3, 1, 0, []), (74, .iadd, 1, 0, []),
  (75, .bipush 79, 2, 0, [79]), (77, .lconst 1, 1, 0, [1]), (78, .invokevirtual 85, 3, 1, [108, 5, 10, 8, 1500, 99, 1497, 1499, 57, 0]), (81, .aload_n 0, 1, 0, []), (82, .bipush 87, 2, 0, [87]), (84, .aload_n 0, 1, 0, []),
  (85, .getfield 158, 3, 0, [9, 16, 1235, 0]), (88, .iload_n 2, 1, 0, []), (89, .invokevirtual 301, 3, 1, [131, 4, 10, 8, 1540, 99, 1537, 1539, 63, 0]), (92, .lreturn, 1, 2, [3]), (93, .iinc 3 1, 3, 0, []), (96, .goto (-55), 3, 0, [23, 41]),
  (99, .iload_n 2, 1, 0, []), (100, .iconst 4, 1, 0, [4]), (101, .if_icmp .ne 7, 3, 0, [59, 108]), (104, .lconst 1, 1, 0, [1]), (105, .goto 4, 3, 0, [60, 109]), (108, .lconst 0, 1, 0, [0]),
  (109, .lreturn, 1, 2, [3])]
noncomputable def mt_165 : mm_M := (⟨"DeafArrayModel", "share", "(II)J"⟩, prog_11_method_95_code, 4, (some (.long)), 8, 193, 9, 2, false)
/-- DeafArray.room(I)J -/
noncomputable def cd_166 : List mm_E := [
  (0, .aload_n 0, 1, 0, []), (1, .invokevirtual 140, 3, 1, [100, 1, 9, 1, 664, 89, 661, 663, 12, 0]), (4, .iload_n 1, 1, 0, []), (5, .ifCond .ne 11, 3, 0, [8, 16]), (8, .aload_n 0, 1, 0, []), (9, .getfield 21, 3, 0, [8, 1, 417, 0]),
  (12, .getfield 219, 3, 0, [7, 14, 273, 1]), (15, .lreturn, 1, 2, [3]), (16, .iload_n 1, 1, 0, []), (17, .iconst 1, 1, 0, [1]), (18, .if_icmp .ne 13, 3, 0, [15, 31]), (21, .aload_n 0, 1, 0, []),
  (22, .getfield 21, 3, 0, [8, 1, 417, 0]), (25, .getfield 222, 3, 0, [7, 15, 275, 1]), (28, .goto 6, 3, 0, [16, 34]), (31, .ldc2_w 159, 3, 0, [9223372036854775808, 0, 783]), (34, .lreturn, 1, 2, [3])]
noncomputable def mt_166 : mm_M := (⟨"DeafArray", "room", "(I)J"⟩, prog_1_method_21_code, 2, (some (.long)), 5, 120, 8, 1, false)
/-- DeafArrayModel.room(I)J -/
noncomputable def cd_167 : List mm_E := [
  (0, .iload_n 1, 1, 0, []), (1, .i2l, 1, 0, []), (2, .lconst 0, 1, 0, [0]), (3, .lconst 1, 1, 0, [1]), (4, .invokestatic 108, 3, 1, [16, 3, 0, 6, 1347, 99, 1345, 1346, 0, 0]), (7, .ifCond .ne 7, 3, 0, [8, 14]),
  (10, .ldc2_w 299, 3, 0, [9223372036854775808, 0, 1536]), (13, .lreturn, 1, 2, [3]), (14, .aload_n 0, 1, 0, []), (15, .invokevirtual 294, 3, 1, [118, 1, 10, 1, 1453, 99, 1450, 1452, 47, 0]), (18, .pop, 1, 0, []), (19, .aload_n 0, 1, 0, []),
  (20, .aload_n 0, 1, 0, []), (21, .getfield 129, 3, 0, [9, 14, 1233, 0]), (24, .invokevirtual 135, 3, 1, [107, 2, 10, 6, 1477, 99, 1474, 1476, 53, 0]), (27, .aload_n 0, 1, 0, []), (28, .iconst 0, 1, 0, [0]), (29, .aload_n 0, 1, 0, []),
  (30, .getfield 129, 3, 0, [9, 14, 1233, 0]), (33, .invokevirtual 138, 3, 1, [109, 3, 10, 7, 1494, 99, 1491, 1493, 56, 0]), (36, .bipush 25, 2, 0, [25]), (38, .iconst 1, 1, 0, [1]), (39, .aload_n 0, 1, 0, []), (40, .getfield 129, 3, 0, [9, 14, 1233, 0]),
  (43, .ishl, 1, 0, []), (44, .iadd, 1, 0, []), (45, .iconst 1, 1, 0, [1]), (46, .isub, 1, 0, []), (47, .istore_n 2, 1, 0, []), (48, .iload_n 1, 1, 0, []),
  (49, .ifCond .ne 12, 3, 0, [36, 61]), (52, .aload_n 0, 1, 0, []), (53, .iload_n 2, 1, 0, []), (54, .iconst 0, 1, 0, [0]), (55, .invokevirtual 77, 3, 1, [110, 3, 10, 3, 1508, 99, 1505, 1507, 59, 0]), (58, .goto 10, 3, 0, [41, 68]),
  (61, .aload_n 0, 1, 0, []), (62, .iload_n 2, 1, 0, []), (63, .iconst 3, 1, 0, [3]), (64, .invokevirtual 77, 3, 1, [110, 3, 10, 3, 1508, 99, 1505, 1507, 59, 0]), (67, .lneg, 1, 0, []), (68, .lreturn, 1, 2, [3])]
noncomputable def mt_167 : mm_M := (⟨"DeafArrayModel", "room", "(I)J"⟩, prog_11_method_96_code, 3, (some (.long)), 8, 193, 9, 1, false)
/-- DeafArray.likeness(III)I -/
noncomputable def cd_168 : List mm_E := [
  (0, .iload_n 1, 1, 0, []), (1, .invokestatic 137, 3, 1, [71, 1, 0, 1, 656, 89, 654, 655, 0, 0]), (4, .ifCond .eq 18, 3, 0, [10, 22]), (7, .iload_n 2, 1, 0, []), (8, .invokestatic 137, 3, 1, [71, 1, 0, 1, 656, 89, 654, 655, 0, 0]), (11, .ifCond .eq 11, 3, 0, [10, 22]),
  (14, .iload_n 3, 1, 0, []), (15, .iconst 2, 1, 0, [2]), (16, .invokestatic 126, 3, 1, [65, 2, 0, 2, 644, 89, 645, 643, 0, 0]), (19, .ifCond .ne 7, 3, 0, [12, 26]), (22, .sipush (-1000), 3, 0, [4294966296]), (25, .ireturn, 1, 2, [1]),
  (26, .aload_n 0, 1, 0, []), (27, .getfield 21, 3, 0, [8, 1, 417, 0]), (30, .getfield 85, 3, 0, [7, 0, 246, 1]), (33, .iload_n 1, 1, 0, []), (34, .iload_n 2, 1, 0, []), (35, .aload_n 0, 1, 0, []),
  (36, .getfield 59, 3, 0, [8, 7, 423, 0]), (39, .invokevirtual 225, 3, 1, [78, 4, 6, 6, 680, 91, 881, 678, 679, 0]), (42, .iload_n 3, 1, 0, []), (43, .ifCond .ne 13, 3, 0, [26, 56]), (46, .aload_n 0, 1, 0, []), (47, .getfield 59, 3, 0, [8, 7, 423, 0]),
  (50, .invokevirtual 229, 3, 1, [97, 1, 4, 1, 766, 94, 882, 764, 765, 0]), (53, .goto 10, 3, 0, [29, 63]), (56, .aload_n 0, 1, 0, []), (57, .getfield 59, 3, 0, [8, 7, 423, 0]), (60, .invokevirtual 231, 3, 1, [98, 1, 4, 1, 770, 94, 883, 768, 769, 0]), (63, .l2i, 1, 0, []),
  (64, .ireturn, 1, 2, [1])]
noncomputable def mt_168 : mm_M := (⟨"DeafArray", "likeness", "(III)I"⟩, prog_1_method_22_code, 4, (some (.int)), 2, 47, 8, 3, false)
/-- DeafArrayModel.laysLikeness(II)V -/
noncomputable def cd_169 : List mm_E := [
  (0, .aload_n 0, 1, 0, []), (1, .bipush 87, 2, 0, [87]), (3, .invokevirtual 81, 3, 1, [104, 2, 10, 3, 1481, 99, 1478, 1480, 54, 0]), (6, .iconst 0, 1, 0, [0]), (7, .istore_n 3, 1, 0, []), (8, .iload_n 3, 1, 0, []),
  (9, .aload_n 0, 1, 0, []), (10, .getfield 18, 3, 0, [9, 5, 1224, 0]), (13, .iconst 1, 1, 0, [1]), (14, .iaload, 1, 0, []), (15, .if_icmp .ge 36, 3, 0, [31, 51]), (18, .aload_n 0, 1, 0, []),
  (19, .iload_n 3, 1, 0, []), (20, .invokevirtual 114, 3, 1, [61, 2, 10, 2, 1425, 99, 1422, 1424, 44, 0]), (23, .ifCond .ne 22, 3, 0, [29, 45]), (26, .aload_n 0, 1, 0, []), (27, .bipush 87, 2, 0, [87]), (29, .iload_n 1, 1, 0, []),
  (30, .iload_n 2, 1, 0, []), (31, .isub, 1, 0, []), (32, .aload_n 0, 1, 0, []), (33, .getfield 18, 3, 0, [9, 5, 1224, 0]), (36, .iconst 2, 1, 0, [2]), (37, .iload_n 3, 1, 0, []),
  (38, .iadd, 1, 0, []), (39, .iaload, 1, 0, []), (40, .imul, 1, 0, []), (41, .lconst 1, 1, 0, [1]), (42, .invokevirtual 73, 3, 1, [106, 4, 10, 9, 1485, 99, 1482, 1484, 55, 0]), (45, .iinc 3 1, 3, 0, []),
  (48, .goto (-40), 3, 0, [5, 8]), (51, .aload_n 0, 1, 0, []), (52, .bipush 87, 2, 0, [87]), (54, .invokevirtual 305, 3, 1, [137, 2, 10, 3, 1557, 99, 1554, 1556, 64, 0]), (57, .return_, 1, 2, [0])]
noncomputable def mt_169 : mm_M := (⟨"DeafArrayModel", "laysLikeness", "(II)V"⟩, prog_11_method_97_code, 4, none, 4, 99, 9, 2, false)
/-- DeafArrayModel.likeness(III)I -/
noncomputable def cd_170 : List mm_E := [
  (0, .iload_n 1, 1, 0, []), (1, .invokestatic 291, 3, 1, [73, 1, 0, 1, 1444, 99, 1442, 1443, 0, 0]), (4, .ifCond .eq 20, 3, 0, [12, 24]), (7, .iload_n 2, 1, 0, []), (8, .invokestatic 291, 3, 1, [73, 1, 0, 1, 1444, 99, 1442, 1443, 0, 0]), (11, .ifCond .eq 13, 3, 0, [12, 24]),
  (14, .iload_n 3, 1, 0, []), (15, .i2l, 1, 0, []), (16, .lconst 0, 1, 0, [0]), (17, .lconst 1, 1, 0, [1]), (18, .invokestatic 108, 3, 1, [16, 3, 0, 6, 1347, 99, 1345, 1346, 0, 0]), (21, .ifCond .ne 7, 3, 0, [14, 28]),
  (24, .sipush (-1000), 3, 0, [4294966296]), (27, .ireturn, 1, 2, [1]), (28, .aload_n 0, 1, 0, []), (29, .iload_n 1, 1, 0, []), (30, .iload_n 2, 1, 0, []), (31, .invokevirtual 379, 3, 1, [169, 3, 10, 4, 1746, 99, 1743, 1745, 80, 0]),
  (34, .iload_n 3, 1, 0, []), (35, .ifCond .ne 10, 3, 0, [23, 45]), (38, .aload_n 0, 1, 0, []), (39, .getfield 89, 3, 0, [9, 3, 1222, 0]), (42, .goto 7, 3, 0, [25, 49]), (45, .aload_n 0, 1, 0, []),
  (46, .getfield 93, 3, 0, [9, 4, 1223, 0]), (49, .l2i, 1, 0, []), (50, .ireturn, 1, 2, [1])]
noncomputable def mt_170 : mm_M := (⟨"DeafArrayModel", "likeness", "(III)I"⟩, prog_11_method_98_code, 4, (some (.int)), 5, 122, 9, 3, false)
/-- DeafArray$Plan.areTwins(II)Z -/
noncomputable def cd_171 : List mm_E := [
  (0, .iconst (-1), 1, 0, [4294967295]), (1, .istore_n 3, 1, 0, []), (2, .iconst 0, 1, 0, [0]), (3, .istore 4, 2, 0, []), (5, .iload 4, 2, 0, []), (7, .aload_n 0, 1, 0, []),
  (8, .getfield 22, 3, 0, [5, 2, 132, 0]), (11, .if_icmp .ge 52, 3, 0, [37, 63]), (14, .aload_n 0, 1, 0, []), (15, .iload 4, 2, 0, []), (17, .invokevirtual 65, 3, 1, [67, 2, 6, 2, 649, 91, 685, 647, 648, 0]), (20, .ifCond .eq 37, 3, 0, [35, 57]),
  (23, .iload_n 3, 1, 0, []), (24, .iconst (-1), 1, 0, [4294967295]), (25, .if_icmp .ne 11, 3, 0, [20, 36]), (28, .aload_n 0, 1, 0, []), (29, .getfield 9, 3, 0, [5, 0, 125, 0]), (32, .iload 4, 2, 0, []),
  (34, .iaload, 1, 0, []), (35, .istore_n 3, 1, 0, []), (36, .iload_n 1, 1, 0, []), (37, .iload_n 2, 1, 0, []), (38, .isub, 1, 0, []), (39, .aload_n 0, 1, 0, []),
  (40, .getfield 9, 3, 0, [5, 0, 125, 0]), (43, .iload 4, 2, 0, []), (45, .iaload, 1, 0, []), (46, .iload_n 3, 1, 0, []), (47, .isub, 1, 0, []), (48, .imul, 1, 0, []),
  (49, .bipush 12, 2, 0, [12]), (51, .irem, 1, 0, []), (52, .ifCond .eq 5, 3, 0, [35, 57]), (55, .iconst 0, 1, 0, [0]), (56, .ireturn, 1, 2, [2]), (57, .iinc 4 1, 3, 0, []),
  (60, .goto (-55), 3, 0, [4, 5]), (63, .iconst 1, 1, 0, [1]), (64, .ireturn, 1, 2, [2])]
noncomputable def mt_171 : mm_M := (⟨"DeafArray$Plan", "areTwins", "(II)Z"⟩, prog_7_method_19_code, 5, (some (.boolean)), 1, 21, 5, 2, false)
/-- DeafArray$Plan.twinBits(I)I -/
noncomputable def cd_172 : List mm_E := [
  (0, .iconst 0, 1, 0, [0]), (1, .istore_n 2, 1, 0, []), (2, .iconst 0, 1, 0, [0]), (3, .istore_n 3, 1, 0, []), (4, .iload_n 3, 1, 0, []), (5, .bipush 12, 2, 0, [12]),
  (7, .if_icmp .ge 24, 3, 0, [20, 31]), (10, .aload_n 0, 1, 0, []), (11, .iload_n 1, 1, 0, []), (12, .iload_n 3, 1, 0, []), (13, .invokevirtual 62, 3, 1, [171, 3, 6, 5, 895, 91, 892, 894, 22, 0]), (16, .ifCond .eq 9, 3, 0, [18, 25]),
  (19, .iload_n 2, 1, 0, []), (20, .iconst 1, 1, 0, [1]), (21, .iload_n 3, 1, 0, []), (22, .ishl, 1, 0, []), (23, .ior, 1, 0, []), (24, .istore_n 2, 1, 0, []),
  (25, .iinc 3 1, 3, 0, []), (28, .goto (-24), 3, 0, [4, 4]), (31, .iload_n 2, 1, 0, []), (32, .ireturn, 1, 2, [1])]
noncomputable def mt_172 : mm_M := (⟨"DeafArray$Plan", "twinBits", "(I)I"⟩, prog_7_method_18_code, 4, (some (.int)), 2, 45, 5, 1, false)
/-- DeafArray$Greatest.clear()V -/
noncomputable def cd_173 : List mm_E := [
  (0, .aload_n 0, 1, 0, []), (1, .iconst (-1), 1, 0, [4294967295]), (2, .putfield 9, 3, 0, [1, 0, 388, 0]), (5, .return_, 1, 2, [0])]
noncomputable def mt_173 : mm_M := (⟨"DeafArray$Greatest", "clear", "()V"⟩, prog_3_method_2_code, 1, none, 0, 0, 1, 0, false)
/-- DeafArray$Greatest.offer(LDeafArray$Num;I)V -/
noncomputable def cd_174 : List mm_E := [
  (0, .aload_n 1, 1, 0, []), (1, .invokevirtual 15, 3, 1, [97, 1, 4, 1, 766, 94, 904, 764, 765, 0]), (4, .lstore_n 3, 1, 0, []), (5, .aload_n 1, 1, 0, []), (6, .invokevirtual 21, 3, 1, [98, 1, 4, 1, 770, 94, 905, 768, 769, 0]), (9, .lstore 5, 2, 0, []),
  (11, .aload_n 0, 1, 0, []), (12, .getfield 9, 3, 0, [1, 0, 388, 0]), (15, .iconst (-1), 1, 0, [4294967295]), (16, .if_icmp .eq 22, 3, 0, [20, 38]), (19, .lload_n 3, 1, 0, []), (20, .aload_n 0, 1, 0, []),
  (21, .getfield 24, 3, 0, [1, 1, 390, 0]), (24, .lsub, 1, 0, []), (25, .lload 5, 2, 0, []), (27, .aload_n 0, 1, 0, []), (28, .getfield 28, 3, 0, [1, 2, 391, 0]), (31, .lsub, 1, 0, []),
  (32, .invokestatic 31, 3, 1, [144, 2, 0, 12, 835, 89, 906, 834, 0, 1]), (35, .ifCond .le 19, 3, 0, [29, 54]), (38, .aload_n 0, 1, 0, []), (39, .iload_n 2, 1, 0, []), (40, .putfield 9, 3, 0, [1, 0, 388, 0]), (43, .aload_n 0, 1, 0, []),
  (44, .lload_n 3, 1, 0, []), (45, .putfield 24, 3, 0, [1, 1, 390, 0]), (48, .aload_n 0, 1, 0, []), (49, .lload 5, 2, 0, []), (51, .putfield 28, 3, 0, [1, 2, 391, 0]), (54, .return_, 1, 2, [0])]
noncomputable def mt_174 : mm_M := (⟨"DeafArray$Greatest", "offer", "(LDeafArray$Num;I)V"⟩, prog_3_method_3_code, 7, none, 2, 52, 1, 2, false)
/-- DeafArray.nearest(I)I -/
noncomputable def cd_175 : List mm_E := [
  (0, .iload_n 1, 1, 0, []), (1, .invokestatic 137, 3, 1, [71, 1, 0, 1, 656, 89, 654, 655, 0, 0]), (4, .ifCond .ne 6, 3, 0, [5, 10]), (7, .bipush (-2), 2, 0, [4294967294]), (9, .ireturn, 1, 2, [1]), (10, .aload_n 0, 1, 0, []),
  (11, .getfield 21, 3, 0, [8, 1, 417, 0]), (14, .getfield 85, 3, 0, [7, 0, 246, 1]), (17, .iload_n 1, 1, 0, []), (18, .invokevirtual 233, 3, 1, [172, 2, 6, 4, 891, 91, 888, 889, 890, 0]), (21, .istore_n 2, 1, 0, []), (22, .aload_n 0, 1, 0, []),
  (23, .getfield 45, 3, 0, [8, 5, 421, 0]), (26, .invokevirtual 236, 3, 1, [173, 1, 2, 1, 899, 97, 896, 897, 898, 0]), (29, .iconst 0, 1, 0, [0]), (30, .istore_n 3, 1, 0, []), (31, .iload_n 3, 1, 0, []), (32, .bipush 12, 2, 0, [12]),
  (34, .if_icmp .ge 45, 3, 0, [41, 79]), (37, .iload_n 2, 1, 0, []), (38, .iload_n 3, 1, 0, []), (39, .ishr, 1, 0, []), (40, .iconst 1, 1, 0, [1]), (41, .iand, 1, 0, []),
  (42, .ifCond .ne 31, 3, 0, [39, 73]), (45, .aload_n 0, 1, 0, []), (46, .getfield 21, 3, 0, [8, 1, 417, 0]), (49, .getfield 85, 3, 0, [7, 0, 246, 1]), (52, .iload_n 1, 1, 0, []), (53, .iload_n 3, 1, 0, []),
  (54, .aload_n 0, 1, 0, []), (55, .getfield 59, 3, 0, [8, 7, 423, 0]), (58, .invokevirtual 225, 3, 1, [78, 4, 6, 6, 680, 91, 881, 678, 679, 0]), (61, .aload_n 0, 1, 0, []), (62, .getfield 45, 3, 0, [8, 5, 421, 0]), (65, .aload_n 0, 1, 0, []),
  (66, .getfield 59, 3, 0, [8, 7, 423, 0]), (69, .iload_n 3, 1, 0, []), (70, .invokevirtual 239, 3, 1, [174, 3, 2, 7, 903, 97, 900, 901, 902, 0]), (73, .iinc 3 1, 3, 0, []), (76, .goto (-45), 3, 0, [16, 31]), (79, .aload_n 0, 1, 0, []),
  (80, .getfield 45, 3, 0, [8, 5, 421, 0]), (83, .getfield 243, 3, 0, [1, 0, 389, 1]), (86, .ireturn, 1, 2, [1])]
noncomputable def mt_175 : mm_M := (⟨"DeafArray", "nearest", "(I)I"⟩, prog_1_method_23_code, 4, (some (.int)), 3, 78, 8, 1, false)
/-- DeafArrayModel.twinsOf(I)I -/
noncomputable def cd_176 : List mm_E := [
  (0, .iconst 0, 1, 0, [0]), (1, .istore_n 2, 1, 0, []), (2, .iconst (-1), 1, 0, [4294967295]), (3, .istore_n 3, 1, 0, []), (4, .iconst 0, 1, 0, [0]), (5, .istore 4, 2, 0, []),
  (7, .iload 4, 2, 0, []), (9, .aload_n 0, 1, 0, []), (10, .getfield 18, 3, 0, [9, 5, 1224, 0]), (13, .iconst 1, 1, 0, [1]), (14, .iaload, 1, 0, []), (15, .if_icmp .ge 30, 3, 0, [25, 45]),
  (18, .iload_n 3, 1, 0, []), (19, .iconst (-1), 1, 0, [4294967295]), (20, .if_icmp .ne 25, 3, 0, [25, 45]), (23, .aload_n 0, 1, 0, []), (24, .iload 4, 2, 0, []), (26, .invokevirtual 114, 3, 1, [61, 2, 10, 2, 1425, 99, 1422, 1424, 44, 0]),
  (29, .ifCond .eq 7, 3, 0, [21, 36]), (32, .iconst (-1), 1, 0, [4294967295]), (33, .goto 5, 3, 0, [22, 38]), (36, .iload 4, 2, 0, []), (38, .istore_n 3, 1, 0, []), (39, .iinc 4 1, 3, 0, []),
  (42, .goto (-35), 3, 0, [6, 7]), (45, .iconst 0, 1, 0, [0]), (46, .istore 4, 2, 0, []), (48, .iload 4, 2, 0, []), (50, .bipush 12, 2, 0, [12]), (52, .if_icmp .ge 98, 3, 0, [84, 150]),
  (55, .iconst 1, 1, 0, [1]), (56, .istore 5, 2, 0, []), (58, .iconst 0, 1, 0, [0]), (59, .istore 6, 2, 0, []), (61, .iload 6, 2, 0, []), (63, .aload_n 0, 1, 0, []),
  (64, .getfield 18, 3, 0, [9, 5, 1224, 0]), (67, .iconst 1, 1, 0, [1]), (68, .iaload, 1, 0, []), (69, .if_icmp .ge 59, 3, 0, [72, 128]), (72, .iload 5, 2, 0, []), (74, .ifCond .eq 45, 3, 0, [68, 119]),
  (77, .aload_n 0, 1, 0, []), (78, .iload 6, 2, 0, []), (80, .invokevirtual 114, 3, 1, [61, 2, 10, 2, 1425, 99, 1422, 1424, 44, 0]), (83, .ifCond .ne 32, 3, 0, [66, 115]), (86, .iload 4, 2, 0, []), (88, .iload_n 1, 1, 0, []),
  (89, .isub, 1, 0, []), (90, .aload_n 0, 1, 0, []), (91, .getfield 18, 3, 0, [9, 5, 1224, 0]), (94, .iconst 2, 1, 0, [2]), (95, .iload 6, 2, 0, []), (97, .iadd, 1, 0, []),
  (98, .iaload, 1, 0, []), (99, .aload_n 0, 1, 0, []), (100, .getfield 18, 3, 0, [9, 5, 1224, 0]), (103, .iconst 2, 1, 0, [2]), (104, .iload_n 3, 1, 0, []), (105, .iadd, 1, 0, []),
  (106, .iaload, 1, 0, []), (107, .isub, 1, 0, []), (108, .imul, 1, 0, []), (109, .bipush 12, 2, 0, [12]), (111, .irem, 1, 0, []), (112, .ifCond .ne 7, 3, 0, [68, 119]),
  (115, .iconst 1, 1, 0, [1]), (116, .goto 4, 3, 0, [69, 120]), (119, .iconst 0, 1, 0, [0]), (120, .istore 5, 2, 0, []), (122, .iinc 6 1, 3, 0, []), (125, .goto (-64), 3, 0, [34, 61]),
  (128, .iload_n 2, 1, 0, []), (129, .iload 5, 2, 0, []), (131, .ifCond .eq 10, 3, 0, [79, 141]), (134, .iconst 1, 1, 0, [1]), (135, .iload 4, 2, 0, []), (137, .ishl, 1, 0, []),
  (138, .goto 4, 3, 0, [80, 142]), (141, .iconst 0, 1, 0, [0]), (142, .ior, 1, 0, []), (143, .istore_n 2, 1, 0, []), (144, .iinc 4 1, 3, 0, []), (147, .goto (-99), 3, 0, [27, 48]),
  (150, .iload_n 2, 1, 0, []), (151, .ireturn, 1, 2, [1])]
noncomputable def mt_176 : mm_M := (⟨"DeafArrayModel", "twinsOf", "(I)I"⟩, prog_11_method_62_code, 7, (some (.int)), 1, 21, 9, 1, false)
/-- DeafArrayModel.nearest(I)I -/
noncomputable def cd_177 : List mm_E := [
  (0, .iload_n 1, 1, 0, []), (1, .invokestatic 291, 3, 1, [73, 1, 0, 1, 1444, 99, 1442, 1443, 0, 0]), (4, .ifCond .ne 6, 3, 0, [5, 10]), (7, .bipush (-2), 2, 0, [4294967294]), (9, .ireturn, 1, 2, [1]), (10, .iconst (-1), 1, 0, [4294967295]),
  (11, .istore_n 2, 1, 0, []), (12, .lconst 0, 1, 0, [0]), (13, .lstore_n 3, 1, 0, []), (14, .lconst 0, 1, 0, [0]), (15, .lstore 5, 2, 0, []), (17, .iconst 0, 1, 0, [0]),
  (18, .istore 7, 2, 0, []), (20, .iload 7, 2, 0, []), (22, .bipush 12, 2, 0, [12]), (24, .if_icmp .ge 74, 3, 0, [54, 98]), (27, .aload_n 0, 1, 0, []), (28, .iload_n 1, 1, 0, []),
  (29, .invokevirtual 325, 3, 1, [176, 2, 10, 7, 1604, 99, 1601, 1603, 70, 0]), (32, .iload 7, 2, 0, []), (34, .ishr, 1, 0, []), (35, .iconst 1, 1, 0, [1]), (36, .iand, 1, 0, []), (37, .iconst 1, 1, 0, [1]),
  (38, .if_icmp .ne 6, 3, 0, [26, 44]), (41, .goto 51, 3, 0, [52, 92]), (44, .aload_n 0, 1, 0, []), (45, .iload_n 1, 1, 0, []), (46, .iload 7, 2, 0, []), (48, .invokevirtual 379, 3, 1, [169, 3, 10, 4, 1746, 99, 1743, 1745, 80, 0]),
  (51, .iload_n 2, 1, 0, []), (52, .iconst (-1), 1, 0, [4294967295]), (53, .if_icmp .eq 25, 3, 0, [44, 78]), (56, .aload_n 0, 1, 0, []), (57, .getfield 89, 3, 0, [9, 3, 1222, 0]), (60, .lload_n 3, 1, 0, []),
  (61, .lsub, 1, 0, []), (62, .aload_n 0, 1, 0, []), (63, .getfield 93, 3, 0, [9, 4, 1223, 0]), (66, .lload 5, 2, 0, []), (68, .lsub, 1, 0, []), (69, .invokestatic 312, 3, 1, [148, 2, 0, 10, 1580, 99, 1578, 1579, 0, 0]),
  (72, .ifCond .gt 6, 3, 0, [44, 78]), (75, .goto 17, 3, 0, [52, 92]), (78, .iload 7, 2, 0, []), (80, .istore_n 2, 1, 0, []), (81, .aload_n 0, 1, 0, []), (82, .getfield 89, 3, 0, [9, 3, 1222, 0]),
  (85, .lstore_n 3, 1, 0, []), (86, .aload_n 0, 1, 0, []), (87, .getfield 93, 3, 0, [9, 4, 1223, 0]), (90, .lstore 5, 2, 0, []), (92, .iinc 7 1, 3, 0, []), (95, .goto (-75), 3, 0, [13, 20]),
  (98, .iload_n 2, 1, 0, []), (99, .ireturn, 1, 2, [1])]
noncomputable def mt_177 : mm_M := (⟨"DeafArrayModel", "nearest", "(I)I"⟩, prog_11_method_99_code, 8, (some (.int)), 5, 122, 9, 1, false)
/-- DeafArray.quiet()I -/
noncomputable def cd_178 : List mm_E := [
  (0, .aload_n 0, 1, 0, []), (1, .invokevirtual 140, 3, 1, [100, 1, 9, 1, 664, 89, 661, 663, 12, 0]), (4, .aload_n 0, 1, 0, []), (5, .getfield 21, 3, 0, [8, 1, 417, 0]), (8, .getfield 156, 3, 0, [7, 13, 271, 1]), (11, .ifCond .ne 6, 3, 0, [8, 17]),
  (14, .bipush (-2), 2, 0, [4294967294]), (16, .ireturn, 1, 2, [1]), (17, .iconst 0, 1, 0, [0]), (18, .istore_n 1, 1, 0, []), (19, .iconst 0, 1, 0, [0]), (20, .istore_n 2, 1, 0, []),
  (21, .iload_n 2, 1, 0, []), (22, .bipush 12, 2, 0, [12]), (24, .if_icmp .ge 27, 3, 0, [25, 51]), (27, .aload_n 0, 1, 0, []), (28, .getfield 21, 3, 0, [8, 1, 417, 0]), (31, .getfield 173, 3, 0, [7, 6, 259, 1]),
  (34, .iload_n 2, 1, 0, []), (35, .aaload, 1, 0, []), (36, .invokevirtual 246, 3, 1, [80, 1, 4, 1, 699, 94, 911, 697, 698, 0]), (39, .ifCond .eq 6, 3, 0, [23, 45]), (42, .iinc 1 1, 3, 0, []), (45, .iinc 2 1, 3, 0, []),
  (48, .goto (-27), 3, 0, [12, 21]), (51, .iload_n 1, 1, 0, []), (52, .ireturn, 1, 2, [1])]
noncomputable def mt_178 : mm_M := (⟨"DeafArray", "quiet", "()I"⟩, prog_1_method_24_code, 3, (some (.int)), 5, 120, 8, 0, false)
/-- DeafArrayModel.quiet()I -/
noncomputable def cd_179 : List mm_E := [
  (0, .aload_n 0, 1, 0, []), (1, .invokevirtual 294, 3, 1, [118, 1, 10, 1, 1453, 99, 1450, 1452, 47, 0]), (4, .ifCond .ne 6, 3, 0, [5, 10]), (7, .bipush (-2), 2, 0, [4294967294]), (9, .ireturn, 1, 2, [1]), (10, .iconst 0, 1, 0, [0]),
  (11, .istore_n 1, 1, 0, []), (12, .iconst 0, 1, 0, [0]), (13, .istore_n 2, 1, 0, []), (14, .iload_n 2, 1, 0, []), (15, .bipush 12, 2, 0, [12]), (17, .if_icmp .ge 28, 3, 0, [26, 45]),
  (20, .iload_n 1, 1, 0, []), (21, .aload_n 0, 1, 0, []), (22, .bipush 67, 2, 0, [67]), (24, .iload_n 2, 1, 0, []), (25, .iadd, 1, 0, []), (26, .invokevirtual 142, 3, 1, [111, 2, 10, 2, 1504, 99, 1501, 1503, 58, 0]),
  (29, .ifCond .eq 7, 3, 0, [21, 36]), (32, .iconst 1, 1, 0, [1]), (33, .goto 4, 3, 0, [22, 37]), (36, .iconst 0, 1, 0, [0]), (37, .iadd, 1, 0, []), (38, .istore_n 1, 1, 0, []),
  (39, .iinc 2 1, 3, 0, []), (42, .goto (-28), 3, 0, [9, 14]), (45, .iload_n 1, 1, 0, []), (46, .ireturn, 1, 2, [1])]
noncomputable def mt_179 : mm_M := (⟨"DeafArrayModel", "quiet", "()I"⟩, prog_11_method_61_code, 3, (some (.int)), 8, 193, 9, 0, false)
/-- DeafArray$Plan.asideBits()I -/
noncomputable def cd_180 : List mm_E := [
  (0, .aload_n 0, 1, 0, []), (1, .invokevirtual 69, 3, 1, [32, 1, 6, 1, 584, 91, 920, 582, 583, 0]), (4, .istore_n 1, 1, 0, []), (5, .aload_n 0, 1, 0, []), (6, .getfield 18, 3, 0, [5, 4, 139, 0]), (9, .iconst (-1), 1, 0, [4294967295]),
  (10, .if_icmp .eq 14, 3, 0, [14, 24]), (13, .iload_n 1, 1, 0, []), (14, .aload_n 0, 1, 0, []), (15, .aload_n 0, 1, 0, []), (16, .getfield 18, 3, 0, [5, 4, 139, 0]), (19, .invokevirtual 72, 3, 1, [172, 2, 6, 4, 891, 91, 921, 889, 890, 0]),
  (22, .ior, 1, 0, []), (23, .istore_n 1, 1, 0, []), (24, .sipush 4095, 3, 0, [4095]), (27, .iload_n 1, 1, 0, []), (28, .iconst (-1), 1, 0, [4294967295]), (29, .ixor, 1, 0, []),
  (30, .iand, 1, 0, []), (31, .ireturn, 1, 2, [1])]
noncomputable def mt_180 : mm_M := (⟨"DeafArray$Plan", "asideBits", "()I"⟩, prog_7_method_20_code, 2, (some (.int)), 3, 68, 5, 0, false)
/-- DeafArray.side()I -/
noncomputable def cd_181 : List mm_E := [
  (0, .aload_n 0, 1, 0, []), (1, .invokevirtual 140, 3, 1, [100, 1, 9, 1, 664, 89, 661, 663, 12, 0]), (4, .aload_n 0, 1, 0, []), (5, .getfield 21, 3, 0, [8, 1, 417, 0]), (8, .getfield 156, 3, 0, [7, 13, 271, 1]), (11, .ifCond .ne 6, 3, 0, [8, 17]),
  (14, .bipush (-2), 2, 0, [4294967294]), (16, .ireturn, 1, 2, [1]), (17, .aload_n 0, 1, 0, []), (18, .getfield 21, 3, 0, [8, 1, 417, 0]), (21, .getfield 85, 3, 0, [7, 0, 246, 1]), (24, .invokevirtual 250, 3, 1, [180, 1, 6, 2, 919, 91, 916, 917, 918, 0]),
  (27, .istore_n 1, 1, 0, []), (28, .aload_n 0, 1, 0, []), (29, .getfield 45, 3, 0, [8, 5, 421, 0]), (32, .invokevirtual 236, 3, 1, [173, 1, 2, 1, 899, 97, 896, 897, 898, 0]), (35, .iconst 0, 1, 0, [0]), (36, .istore_n 2, 1, 0, []),
  (37, .iload_n 2, 1, 0, []), (38, .bipush 12, 2, 0, [12]), (40, .if_icmp .ge 34, 3, 0, [38, 74]), (43, .iload_n 1, 1, 0, []), (44, .iload_n 2, 1, 0, []), (45, .ishr, 1, 0, []),
  (46, .iconst 1, 1, 0, [1]), (47, .iand, 1, 0, []), (48, .ifCond .eq 20, 3, 0, [36, 68]), (51, .aload_n 0, 1, 0, []), (52, .getfield 45, 3, 0, [8, 5, 421, 0]), (55, .aload_n 0, 1, 0, []),
  (56, .getfield 21, 3, 0, [8, 1, 417, 0]), (59, .getfield 173, 3, 0, [7, 6, 259, 1]), (62, .iload_n 2, 1, 0, []), (63, .aaload, 1, 0, []), (64, .iload_n 2, 1, 0, []), (65, .invokevirtual 239, 3, 1, [174, 3, 2, 7, 903, 97, 900, 901, 902, 0]),
  (68, .iinc 2 1, 3, 0, []), (71, .goto (-34), 3, 0, [18, 37]), (74, .aload_n 0, 1, 0, []), (75, .getfield 45, 3, 0, [8, 5, 421, 0]), (78, .getfield 243, 3, 0, [1, 0, 389, 1]), (81, .ireturn, 1, 2, [1])]
noncomputable def mt_181 : mm_M := (⟨"DeafArray", "side", "()I"⟩, prog_1_method_25_code, 3, (some (.int)), 5, 120, 8, 0, false)
/-- DeafArrayModel.deafAt(I)I -/
noncomputable def cd_182 : List mm_E := [
  (0, .iconst 0, 1, 0, [0]), (1, .istore_n 2, 1, 0, []), (2, .iload_n 2, 1, 0, []), (3, .aload_n 0, 1, 0, []), (4, .getfield 18, 3, 0, [9, 5, 1224, 0]), (7, .bipush 13, 2, 0, [13]),
  (9, .iaload, 1, 0, []), (10, .if_icmp .ge 24, 3, 0, [20, 34]), (13, .aload_n 0, 1, 0, []), (14, .getfield 18, 3, 0, [9, 5, 1224, 0]), (17, .bipush 14, 2, 0, [14]), (19, .iload_n 2, 1, 0, []),
  (20, .iadd, 1, 0, []), (21, .iaload, 1, 0, []), (22, .iload_n 1, 1, 0, []), (23, .if_icmp .ne 5, 3, 0, [18, 28]), (26, .iload_n 2, 1, 0, []), (27, .ireturn, 1, 2, [1]),
  (28, .iinc 2 1, 3, 0, []), (31, .goto (-29), 3, 0, [2, 2]), (34, .iconst (-1), 1, 0, [4294967295]), (35, .ireturn, 1, 2, [1])]
noncomputable def mt_182 : mm_M := (⟨"DeafArrayModel", "deafAt", "(I)I"⟩, prog_11_method_21_code, 3, (some (.int)), 0, 0, 9, 1, false)
/-- DeafArrayModel.isAside(I)Z -/
noncomputable def cd_183 : List mm_E := [
  (0, .iload_n 1, 1, 0, []), (1, .aload_n 0, 1, 0, []), (2, .invokevirtual 184, 3, 1, [63, 1, 10, 1, 1429, 99, 1426, 1428, 45, 0]), (5, .if_icmp .eq 31, 3, 0, [20, 36]), (8, .aload_n 0, 1, 0, []), (9, .iload_n 1, 1, 0, []),
  (10, .invokevirtual 322, 3, 1, [182, 2, 10, 3, 1600, 99, 1597, 1599, 69, 0]), (13, .iconst (-1), 1, 0, [4294967295]), (14, .if_icmp .ne 22, 3, 0, [20, 36]), (17, .aload_n 0, 1, 0, []), (18, .aload_n 0, 1, 0, []), (19, .invokevirtual 184, 3, 1, [63, 1, 10, 1, 1429, 99, 1426, 1428, 45, 0]),
  (22, .invokevirtual 325, 3, 1, [176, 2, 10, 7, 1604, 99, 1601, 1603, 70, 0]), (25, .iload_n 1, 1, 0, []), (26, .ishr, 1, 0, []), (27, .iconst 1, 1, 0, [1]), (28, .iand, 1, 0, []), (29, .ifCond .ne 7, 3, 0, [20, 36]),
  (32, .iconst 1, 1, 0, [1]), (33, .goto 4, 3, 0, [21, 37]), (36, .iconst 0, 1, 0, [0]), (37, .ireturn, 1, 2, [2])]
noncomputable def mt_183 : mm_M := (⟨"DeafArrayModel", "isAside", "(I)Z"⟩, prog_11_method_63_code, 2, (some (.boolean)), 2, 47, 9, 1, false)
/-- DeafArrayModel.side()I -/
noncomputable def cd_184 : List mm_E := [
  (0, .aload_n 0, 1, 0, []), (1, .invokevirtual 294, 3, 1, [118, 1, 10, 1, 1453, 99, 1450, 1452, 47, 0]), (4, .ifCond .ne 6, 3, 0, [5, 10]), (7, .bipush (-2), 2, 0, [4294967294]), (9, .ireturn, 1, 2, [1]), (10, .aload_n 0, 1, 0, []),
  (11, .invokevirtual 316, 3, 1, [147, 1, 10, 2, 1573, 99, 1570, 1572, 66, 0]), (14, .iconst (-1), 1, 0, [4294967295]), (15, .istore_n 1, 1, 0, []), (16, .iconst 0, 1, 0, [0]), (17, .istore_n 2, 1, 0, []), (18, .iload_n 2, 1, 0, []),
  (19, .bipush 12, 2, 0, [12]), (21, .if_icmp .ge 33, 3, 0, [30, 54]), (24, .aload_n 0, 1, 0, []), (25, .iload_n 2, 1, 0, []), (26, .invokevirtual 328, 3, 1, [183, 2, 10, 2, 1596, 99, 1593, 1595, 68, 0]), (29, .ifCond .eq 19, 3, 0, [28, 48]),
  (32, .iload_n 1, 1, 0, []), (33, .iconst (-1), 1, 0, [4294967295]), (34, .if_icmp .eq 12, 3, 0, [26, 46]), (37, .aload_n 0, 1, 0, []), (38, .iload_n 2, 1, 0, []), (39, .iload_n 1, 1, 0, []),
  (40, .invokevirtual 319, 3, 1, [149, 3, 10, 3, 1577, 99, 1574, 1576, 67, 0]), (43, .ifCond .le 5, 3, 0, [28, 48]), (46, .iload_n 2, 1, 0, []), (47, .istore_n 1, 1, 0, []), (48, .iinc 2 1, 3, 0, []), (51, .goto (-33), 3, 0, [11, 18]),
  (54, .iload_n 1, 1, 0, []), (55, .ireturn, 1, 2, [1])]
noncomputable def mt_184 : mm_M := (⟨"DeafArrayModel", "side", "()I"⟩, prog_11_method_64_code, 3, (some (.int)), 8, 193, 9, 0, false)
/-- DeafArray$Solver.asideAtMost(II)Z -/
noncomputable def cd_185 : List mm_E := [
  (0, .aload_n 0, 1, 0, []), (1, .getfield 12, 3, 0, [7, 0, 244, 0]), (4, .invokevirtual 193, 3, 1, [180, 1, 6, 2, 919, 91, 930, 917, 918, 0]), (7, .istore_n 3, 1, 0, []), (8, .iconst 0, 1, 0, [0]), (9, .istore 4, 2, 0, []),
  (11, .iload 4, 2, 0, []), (13, .bipush 12, 2, 0, [12]), (15, .if_icmp .ge 60, 3, 0, [38, 75]), (18, .iload_n 3, 1, 0, []), (19, .iload 4, 2, 0, []), (21, .ishr, 1, 0, []),
  (22, .iconst 1, 1, 0, [1]), (23, .iand, 1, 0, []), (24, .ifCond .eq 45, 3, 0, [36, 69]), (27, .aload_n 0, 1, 0, []), (28, .getfield 12, 3, 0, [7, 0, 244, 0]), (31, .aload_n 0, 1, 0, []),
  (32, .getfield 37, 3, 0, [7, 5, 254, 0]), (35, .iload 4, 2, 0, []), (37, .aload_n 0, 1, 0, []), (38, .getfield 53, 3, 0, [7, 9, 264, 0]), (41, .invokevirtual 83, 3, 1, [96, 4, 6, 5, 761, 91, 758, 759, 760, 0]), (44, .aload_n 0, 1, 0, []),
  (45, .aload_n 0, 1, 0, []), (46, .getfield 53, 3, 0, [7, 9, 264, 0]), (49, .invokevirtual 87, 3, 1, [97, 1, 4, 1, 766, 94, 763, 764, 765, 0]), (52, .aload_n 0, 1, 0, []), (53, .getfield 53, 3, 0, [7, 9, 264, 0]), (56, .invokevirtual 90, 3, 1, [98, 1, 4, 1, 770, 94, 767, 768, 769, 0]),
  (59, .iload_n 1, 1, 0, []), (60, .iload_n 2, 1, 0, []), (61, .invokevirtual 185, 3, 1, [155, 5, 8, 7, 860, 92, 857, 859, 21, 0]), (64, .ifCond .le 5, 3, 0, [36, 69]), (67, .iconst 0, 1, 0, [0]), (68, .ireturn, 1, 2, [2]),
  (69, .iinc 4 1, 3, 0, []), (72, .goto (-61), 3, 0, [6, 11]), (75, .iconst 1, 1, 0, [1]), (76, .ireturn, 1, 2, [2])]
noncomputable def mt_185 : mm_M := (⟨"DeafArray$Solver", "asideAtMost", "(II)Z"⟩, prog_9_method_17_code, 5, (some (.boolean)), 4, 89, 7, 2, false)
/-- DeafArray.bounded(II)I -/
noncomputable def cd_186 : List mm_E := [
  (0, .aload_n 0, 1, 0, []), (1, .invokevirtual 140, 3, 1, [100, 1, 9, 1, 664, 89, 661, 663, 12, 0]), (4, .aload_n 0, 1, 0, []), (5, .getfield 21, 3, 0, [8, 1, 417, 0]), (8, .getfield 156, 3, 0, [7, 13, 271, 1]), (11, .ifCond .eq 11, 3, 0, [10, 22]),
  (14, .iload_n 1, 1, 0, []), (15, .iload_n 2, 1, 0, []), (16, .invokestatic 201, 3, 1, [154, 2, 0, 2, 852, 89, 850, 851, 0, 0]), (19, .ifCond .ne 6, 3, 0, [12, 25]), (22, .bipush (-2), 2, 0, [4294967294]), (24, .ireturn, 1, 2, [1]),
  (25, .aload_n 0, 1, 0, []), (26, .getfield 21, 3, 0, [8, 1, 417, 0]), (29, .iload_n 1, 1, 0, []), (30, .iload_n 2, 1, 0, []), (31, .invokevirtual 253, 3, 1, [185, 3, 8, 5, 929, 92, 926, 927, 928, 0]), (34, .ifCond .eq 7, 3, 0, [20, 41]),
  (37, .iconst 1, 1, 0, [1]), (38, .goto 4, 3, 0, [21, 42]), (41, .iconst 0, 1, 0, [0]), (42, .ireturn, 1, 2, [1])]
noncomputable def mt_186 : mm_M := (⟨"DeafArray", "bounded", "(II)I"⟩, prog_1_method_26_code, 3, (some (.int)), 5, 120, 8, 2, false)
/-- DeafArrayModel.bounded(II)I -/
noncomputable def cd_187 : List mm_E := [
  (0, .iload_n 1, 1, 0, []), (1, .iload_n 2, 1, 0, []), (2, .invokestatic 333, 3, 1, [159, 2, 0, 2, 1611, 99, 1609, 1610, 0, 0]), (5, .ifCond .eq 10, 3, 0, [7, 15]), (8, .aload_n 0, 1, 0, []), (9, .invokevirtual 294, 3, 1, [118, 1, 10, 1, 1453, 99, 1450, 1452, 47, 0]),
  (12, .ifCond .ne 6, 3, 0, [9, 18]), (15, .bipush (-2), 2, 0, [4294967294]), (17, .ireturn, 1, 2, [1]), (18, .aload_n 0, 1, 0, []), (19, .invokevirtual 316, 3, 1, [147, 1, 10, 2, 1573, 99, 1570, 1572, 66, 0]), (22, .iconst 0, 1, 0, [0]),
  (23, .istore_n 3, 1, 0, []), (24, .iload_n 3, 1, 0, []), (25, .bipush 12, 2, 0, [12]), (27, .if_icmp .ge 56, 3, 0, [49, 83]), (30, .aload_n 0, 1, 0, []), (31, .iload_n 3, 1, 0, []),
  (32, .invokevirtual 328, 3, 1, [183, 2, 10, 2, 1596, 99, 1593, 1595, 68, 0]), (35, .ifCond .eq 42, 3, 0, [47, 77]), (38, .aload_n 0, 1, 0, []), (39, .getfield 52, 3, 0, [9, 30, 1249, 0]), (42, .iload_n 3, 1, 0, []), (43, .laload, 1, 0, []),
  (44, .iload_n 2, 1, 0, []), (45, .i2l, 1, 0, []), (46, .lmul, 1, 0, []), (47, .aload_n 0, 1, 0, []), (48, .getfield 158, 3, 0, [9, 16, 1235, 0]), (51, .aload_n 0, 1, 0, []),
  (52, .getfield 158, 3, 0, [9, 16, 1235, 0]), (55, .lmul, 1, 0, []), (56, .iload_n 1, 1, 0, []), (57, .i2l, 1, 0, []), (58, .lmul, 1, 0, []), (59, .lsub, 1, 0, []),
  (60, .aload_n 0, 1, 0, []), (61, .getfield 55, 3, 0, [9, 31, 1250, 0]), (64, .iload_n 3, 1, 0, []), (65, .laload, 1, 0, []), (66, .iload_n 2, 1, 0, []), (67, .i2l, 1, 0, []),
  (68, .lmul, 1, 0, []), (69, .invokestatic 312, 3, 1, [148, 2, 0, 10, 1580, 99, 1578, 1579, 0, 0]), (72, .ifCond .le 5, 3, 0, [47, 77]), (75, .iconst 0, 1, 0, [0]), (76, .ireturn, 1, 2, [1]), (77, .iinc 3 1, 3, 0, []),
  (80, .goto (-56), 3, 0, [13, 24]), (83, .iconst 1, 1, 0, [1]), (84, .ireturn, 1, 2, [1])]
noncomputable def mt_187 : mm_M := (⟨"DeafArrayModel", "bounded", "(II)I"⟩, prog_11_method_66_code, 4, (some (.int)), 8, 193, 9, 2, false)
/-- DeafArray.twins(I)I -/
noncomputable def cd_188 : List mm_E := [
  (0, .iload_n 1, 1, 0, []), (1, .invokestatic 137, 3, 1, [71, 1, 0, 1, 656, 89, 654, 655, 0, 0]), (4, .ifCond .eq 17, 3, 0, [9, 21]), (7, .aload_n 0, 1, 0, []), (8, .getfield 21, 3, 0, [8, 1, 417, 0]), (11, .getfield 85, 3, 0, [7, 0, 246, 1]),
  (14, .iload_n 1, 1, 0, []), (15, .invokevirtual 233, 3, 1, [172, 2, 6, 4, 891, 91, 888, 889, 890, 0]), (18, .goto 5, 3, 0, [10, 23]), (21, .bipush (-2), 2, 0, [4294967294]), (23, .ireturn, 1, 2, [1])]
noncomputable def mt_188 : mm_M := (⟨"DeafArray", "twins", "(I)I"⟩, prog_1_method_27_code, 2, (some (.int)), 3, 68, 8, 1, false)
/-- DeafArrayModel.twins(I)I -/
noncomputable def cd_189 : List mm_E := [
  (0, .iload_n 1, 1, 0, []), (1, .invokestatic 291, 3, 1, [73, 1, 0, 1, 1444, 99, 1442, 1443, 0, 0]), (4, .ifCond .eq 11, 3, 0, [7, 15]), (7, .aload_n 0, 1, 0, []), (8, .iload_n 1, 1, 0, []), (9, .invokevirtual 325, 3, 1, [176, 2, 10, 7, 1604, 99, 1601, 1603, 70, 0]),
  (12, .goto 5, 3, 0, [8, 17]), (15, .bipush (-2), 2, 0, [4294967294]), (17, .ireturn, 1, 2, [1])]
noncomputable def mt_189 : mm_M := (⟨"DeafArrayModel", "twins", "(I)I"⟩, prog_11_method_67_code, 2, (some (.int)), 2, 47, 9, 1, false)
/-- DeafArray.sets()I -/
noncomputable def cd_190 : List mm_E := [
  (0, .iconst 0, 1, 0, [0]), (1, .istore_n 1, 1, 0, []), (2, .iconst 0, 1, 0, [0]), (3, .istore_n 2, 1, 0, []), (4, .iload_n 2, 1, 0, []), (5, .bipush 12, 2, 0, [12]),
  (7, .if_icmp .ge 32, 3, 0, [22, 39]), (10, .aload_n 0, 1, 0, []), (11, .getfield 21, 3, 0, [8, 1, 417, 0]), (14, .getfield 85, 3, 0, [7, 0, 246, 1]), (17, .iload_n 2, 1, 0, []), (18, .invokevirtual 233, 3, 1, [172, 2, 6, 4, 891, 91, 888, 889, 890, 0]),
  (21, .iconst 1, 1, 0, [1]), (22, .iload_n 2, 1, 0, []), (23, .ishl, 1, 0, []), (24, .iconst 1, 1, 0, [1]), (25, .isub, 1, 0, []), (26, .iand, 1, 0, []),
  (27, .ifCond .ne 6, 3, 0, [20, 33]), (30, .iinc 1 1, 3, 0, []), (33, .iinc 2 1, 3, 0, []), (36, .goto (-32), 3, 0, [4, 4]), (39, .iload_n 1, 1, 0, []), (40, .ireturn, 1, 2, [1])]
noncomputable def mt_190 : mm_M := (⟨"DeafArray", "sets", "()I"⟩, prog_1_method_28_code, 3, (some (.int)), 3, 68, 8, 0, false)
/-- java/lang/Integer.numberOfTrailingZeros(I)I -/
noncomputable def cd_191 : List mm_E := [
  (0, .iload_n 0, 1, 0, []), (1, .iconst (-1), 1, 0, [4294967295]), (2, .ixor, 1, 0, []), (3, .iload_n 0, 1, 0, []), (4, .iconst 1, 1, 0, [1]), (5, .isub, 1, 0, []),
  (6, .iand, 1, 0, []), (7, .istore_n 0, 1, 0, []), (8, .iload_n 0, 1, 0, []), (9, .ifCond .gt 8, 3, 0, [14, 17]), (12, .iload_n 0, 1, 0, []), (13, .bipush 32, 2, 0, [32]),
  (15, .iand, 1, 0, []), (16, .ireturn, 1, 2, [1]), (17, .iconst 1, 1, 0, [1]), (18, .istore_n 1, 1, 0, []), (19, .iload_n 0, 1, 0, []), (20, .ldc_w 264, 3, 0, [65536, 0, 1624]),
  (23, .if_icmp .le 11, 3, 0, [24, 34]), (26, .iinc 1 16, 3, 0, []), (29, .iload_n 0, 1, 0, []), (30, .bipush 16, 2, 0, [16]), (32, .iushr, 1, 0, []), (33, .istore_n 0, 1, 0, []),
  (34, .iload_n 0, 1, 0, []), (35, .sipush 256, 3, 0, [256]), (38, .if_icmp .le 11, 3, 0, [32, 49]), (41, .iinc 1 8, 3, 0, []), (44, .iload_n 0, 1, 0, []), (45, .bipush 8, 2, 0, [8]),
  (47, .iushr, 1, 0, []), (48, .istore_n 0, 1, 0, []), (49, .iload_n 0, 1, 0, []), (50, .bipush 16, 2, 0, [16]), (52, .if_icmp .le 10, 3, 0, [40, 62]), (55, .iinc 1 4, 3, 0, []),
  (58, .iload_n 0, 1, 0, []), (59, .iconst 4, 1, 0, [4]), (60, .iushr, 1, 0, []), (61, .istore_n 0, 1, 0, []), (62, .iload_n 0, 1, 0, []), (63, .iconst 4, 1, 0, [4]),
  (64, .if_icmp .le 10, 3, 0, [48, 74]), (67, .iinc 1 2, 3, 0, []), (70, .iload_n 0, 1, 0, []), (71, .iconst 2, 1, 0, [2]), (72, .iushr, 1, 0, []), (73, .istore_n 0, 1, 0, []),
  (74, .iload_n 1, 1, 0, []), (75, .iload_n 0, 1, 0, []), (76, .iconst 1, 1, 0, [1]), (77, .iushr, 1, 0, []), (78, .iadd, 1, 0, []), (79, .ireturn, 1, 2, [1])]
noncomputable def mt_191 : mm_M := (⟨"java/lang/Integer", "numberOfTrailingZeros", "(I)I"⟩, prog_12_method_48_code, 2, (some (.int)), 0, 0, 12, 1, false)
/-- DeafArrayModel.sets()I -/
noncomputable def cd_192 : List mm_E := [
  (0, .iconst 0, 1, 0, [0]), (1, .istore_n 1, 1, 0, []), (2, .iconst 0, 1, 0, [0]), (3, .istore_n 2, 1, 0, []), (4, .iload_n 2, 1, 0, []), (5, .bipush 12, 2, 0, [12]),
  (7, .if_icmp .ge 29, 3, 0, [21, 36]), (10, .iload_n 1, 1, 0, []), (11, .aload_n 0, 1, 0, []), (12, .iload_n 2, 1, 0, []), (13, .invokevirtual 325, 3, 1, [176, 2, 10, 7, 1604, 99, 1601, 1603, 70, 0]), (16, .invokestatic 337, 3, 1, [191, 1, 0, 2, 1623, 104, 1621, 1622, 0, 0]),
  (19, .iload_n 2, 1, 0, []), (20, .if_icmp .ne 7, 3, 0, [16, 27]), (23, .iconst 1, 1, 0, [1]), (24, .goto 4, 3, 0, [17, 28]), (27, .iconst 0, 1, 0, [0]), (28, .iadd, 1, 0, []),
  (29, .istore_n 1, 1, 0, []), (30, .iinc 2 1, 3, 0, []), (33, .goto (-29), 3, 0, [4, 4]), (36, .iload_n 1, 1, 0, []), (37, .ireturn, 1, 2, [1])]
noncomputable def mt_192 : mm_M := (⟨"DeafArrayModel", "sets", "()I"⟩, prog_11_method_68_code, 3, (some (.int)), 2, 47, 9, 0, false)
/-- DeafArray.holdsBroken(I)Z -/
noncomputable def cd_193 : List mm_E := [
  (0, .aload_n 0, 1, 0, []), (1, .getfield 25, 3, 0, [8, 2, 418, 0]), (4, .getfield 85, 3, 0, [7, 0, 246, 1]), (7, .aload_n 0, 1, 0, []), (8, .getfield 21, 3, 0, [8, 1, 417, 0]), (11, .getfield 85, 3, 0, [7, 0, 246, 1]),
  (14, .invokevirtual 92, 3, 1, [40, 2, 6, 3, 605, 91, 602, 603, 604, 0]), (17, .aload_n 0, 1, 0, []), (18, .getfield 25, 3, 0, [8, 2, 418, 0]), (21, .getfield 85, 3, 0, [7, 0, 246, 1]), (24, .iload_n 1, 1, 0, []), (25, .putfield 256, 3, 0, [5, 3, 138, 1]),
  (28, .aload_n 0, 1, 0, []), (29, .getfield 25, 3, 0, [8, 2, 418, 0]), (32, .invokevirtual 359, 3, 1, [95, 1, 8, 1, 668, 92, 665, 666, 667, 0]), (35, .aload_n 0, 1, 0, []), (36, .getfield 25, 3, 0, [8, 2, 418, 0]), (39, .getfield 156, 3, 0, [7, 13, 271, 1]),
  (42, .ireturn, 1, 2, [2])]
noncomputable def mt_193 : mm_M := (⟨"DeafArray", "holdsBroken", "(I)Z"⟩, prog_1_method_62_code, 2, (some (.boolean)), 4, 100, 8, 1, false)
/-- DeafArray.without(II)I -/
noncomputable def cd_194 : List mm_E := [
  (0, .aload_n 0, 1, 0, []), (1, .getfield 21, 3, 0, [8, 1, 417, 0]), (4, .getfield 85, 3, 0, [7, 0, 246, 1]), (7, .iload_n 1, 1, 0, []), (8, .invokevirtual 122, 3, 1, [66, 2, 6, 2, 641, 91, 638, 639, 640, 0]), (11, .ifCond .eq 11, 3, 0, [10, 22]),
  (14, .iload_n 2, 1, 0, []), (15, .iconst 2, 1, 0, [2]), (16, .invokestatic 126, 3, 1, [65, 2, 0, 2, 644, 89, 645, 643, 0, 0]), (19, .ifCond .ne 6, 3, 0, [12, 25]), (22, .bipush (-2), 2, 0, [4294967294]), (24, .ireturn, 1, 2, [1]),
  (25, .aload_n 0, 1, 0, []), (26, .aload_n 0, 1, 0, []), (27, .getfield 21, 3, 0, [8, 1, 417, 0]), (30, .getfield 85, 3, 0, [7, 0, 246, 1]), (33, .getfield 256, 3, 0, [5, 3, 138, 1]), (36, .iconst 1, 1, 0, [1]),
  (37, .iload_n 1, 1, 0, []), (38, .ishl, 1, 0, []), (39, .ior, 1, 0, []), (40, .invokevirtual 259, 3, 1, [193, 2, 9, 2, 946, 89, 943, 945, 23, 0]), (43, .istore_n 3, 1, 0, []), (44, .iload_n 2, 1, 0, []),
  (45, .iconst 1, 1, 0, [1]), (46, .if_icmp .ne 11, 3, 0, [30, 57]), (49, .aload_n 0, 1, 0, []), (50, .getfield 25, 3, 0, [8, 2, 418, 0]), (53, .getfield 153, 3, 0, [7, 12, 269, 1]), (56, .ireturn, 1, 2, [1]),
  (57, .iload_n 3, 1, 0, []), (58, .ifCond .eq 7, 3, 0, [34, 65]), (61, .iconst 1, 1, 0, [1]), (62, .goto 4, 3, 0, [35, 66]), (65, .iconst 0, 1, 0, [0]), (66, .ireturn, 1, 2, [1])]
noncomputable def mt_194 : mm_M := (⟨"DeafArray", "without", "(II)I"⟩, prog_1_method_29_code, 4, (some (.int)), 5, 121, 8, 2, false)
/-- DeafArrayModel.without(II)I -/
noncomputable def cd_195 : List mm_E := [
  (0, .aload_n 0, 1, 0, []), (1, .iload_n 1, 1, 0, []), (2, .invokevirtual 288, 3, 1, [69, 2, 10, 2, 1437, 99, 1434, 1436, 46, 0]), (5, .ifCond .eq 13, 3, 0, [10, 18]), (8, .iload_n 2, 1, 0, []), (9, .i2l, 1, 0, []),
  (10, .lconst 0, 1, 0, [0]), (11, .lconst 1, 1, 0, [1]), (12, .invokestatic 108, 3, 1, [16, 3, 0, 6, 1347, 99, 1345, 1346, 0, 0]), (15, .ifCond .ne 6, 3, 0, [12, 21]), (18, .bipush (-2), 2, 0, [4294967294]), (20, .ireturn, 1, 2, [1]),
  (21, .aload_n 0, 1, 0, []), (22, .iconst 1, 1, 0, [1]), (23, .iload_n 1, 1, 0, []), (24, .ishl, 1, 0, []), (25, .aload_n 0, 1, 0, []), (26, .invokevirtual 184, 3, 1, [63, 1, 10, 1, 1429, 99, 1426, 1428, 45, 0]),
  (29, .invokevirtual 188, 3, 1, [117, 3, 10, 3, 1457, 99, 1454, 1456, 48, 0]), (32, .iload_n 2, 1, 0, []), (33, .ifCond .ne 18, 3, 0, [28, 51]), (36, .aload_n 0, 1, 0, []), (37, .getfield 151, 3, 0, [9, 15, 1234, 0]), (40, .ifCond .eq 7, 3, 0, [26, 47]),
  (43, .iconst 1, 1, 0, [1]), (44, .goto 11, 3, 0, [30, 55]), (47, .iconst 0, 1, 0, [0]), (48, .goto 7, 3, 0, [30, 55]), (51, .aload_n 0, 1, 0, []), (52, .getfield 129, 3, 0, [9, 14, 1233, 0]),
  (55, .ireturn, 1, 2, [1])]
noncomputable def mt_195 : mm_M := (⟨"DeafArrayModel", "without", "(II)I"⟩, prog_11_method_69_code, 3, (some (.int)), 7, 173, 9, 2, false)
/-- DeafArray.spares()I -/
noncomputable def cd_196 : List mm_E := [
  (0, .iconst 0, 1, 0, [0]), (1, .istore_n 1, 1, 0, []), (2, .iconst 0, 1, 0, [0]), (3, .istore_n 2, 1, 0, []), (4, .iload_n 2, 1, 0, []), (5, .aload_n 0, 1, 0, []),
  (6, .getfield 21, 3, 0, [8, 1, 417, 0]), (9, .getfield 85, 3, 0, [7, 0, 246, 1]), (12, .getfield 104, 3, 0, [5, 2, 135, 1]), (15, .if_icmp .ge 50, 3, 0, [35, 65]), (18, .aload_n 0, 1, 0, []), (19, .getfield 21, 3, 0, [8, 1, 417, 0]),
  (22, .getfield 85, 3, 0, [7, 0, 246, 1]), (25, .iload_n 2, 1, 0, []), (26, .invokevirtual 134, 3, 1, [67, 2, 6, 2, 649, 91, 646, 647, 648, 0]), (29, .ifCond .eq 30, 3, 0, [33, 59]), (32, .aload_n 0, 1, 0, []), (33, .aload_n 0, 1, 0, []),
  (34, .getfield 21, 3, 0, [8, 1, 417, 0]), (37, .getfield 85, 3, 0, [7, 0, 246, 1]), (40, .getfield 256, 3, 0, [5, 3, 138, 1]), (43, .iconst 1, 1, 0, [1]), (44, .iload_n 2, 1, 0, []), (45, .ishl, 1, 0, []),
  (46, .ior, 1, 0, []), (47, .invokevirtual 259, 3, 1, [193, 2, 9, 2, 946, 89, 943, 945, 23, 0]), (50, .ifCond .eq 9, 3, 0, [33, 59]), (53, .iload_n 1, 1, 0, []), (54, .iconst 1, 1, 0, [1]), (55, .iload_n 2, 1, 0, []),
  (56, .ishl, 1, 0, []), (57, .ior, 1, 0, []), (58, .istore_n 1, 1, 0, []), (59, .iinc 2 1, 3, 0, []), (62, .goto (-58), 3, 0, [4, 4]), (65, .iload_n 1, 1, 0, []),
  (66, .ireturn, 1, 2, [1])]
noncomputable def mt_196 : mm_M := (⟨"DeafArray", "spares", "()I"⟩, prog_1_method_30_code, 3, (some (.int)), 5, 121, 8, 0, false)
/-- DeafArrayModel.spares()I -/
noncomputable def cd_197 : List mm_E := [
  (0, .iconst 0, 1, 0, [0]), (1, .istore_n 1, 1, 0, []), (2, .iconst 0, 1, 0, [0]), (3, .istore_n 2, 1, 0, []), (4, .iload_n 2, 1, 0, []), (5, .aload_n 0, 1, 0, []),
  (6, .getfield 18, 3, 0, [9, 5, 1224, 0]), (9, .iconst 1, 1, 0, [1]), (10, .iaload, 1, 0, []), (11, .if_icmp .ge 48, 3, 0, [35, 59]), (14, .aload_n 0, 1, 0, []), (15, .iload_n 2, 1, 0, []),
  (16, .invokevirtual 114, 3, 1, [61, 2, 10, 2, 1425, 99, 1422, 1424, 44, 0]), (19, .ifCond .eq 6, 3, 0, [15, 25]), (22, .goto 31, 3, 0, [33, 53]), (25, .aload_n 0, 1, 0, []), (26, .iconst 1, 1, 0, [1]), (27, .iload_n 2, 1, 0, []),
  (28, .ishl, 1, 0, []), (29, .aload_n 0, 1, 0, []), (30, .invokevirtual 184, 3, 1, [63, 1, 10, 1, 1429, 99, 1426, 1428, 45, 0]), (33, .invokevirtual 188, 3, 1, [117, 3, 10, 3, 1457, 99, 1454, 1456, 48, 0]), (36, .iload_n 1, 1, 0, []), (37, .aload_n 0, 1, 0, []),
  (38, .getfield 151, 3, 0, [9, 15, 1234, 0]), (41, .ifCond .eq 9, 3, 0, [30, 50]), (44, .iconst 1, 1, 0, [1]), (45, .iload_n 2, 1, 0, []), (46, .ishl, 1, 0, []), (47, .goto 4, 3, 0, [31, 51]),
  (50, .iconst 0, 1, 0, [0]), (51, .ior, 1, 0, []), (52, .istore_n 1, 1, 0, []), (53, .iinc 2 1, 3, 0, []), (56, .goto (-52), 3, 0, [4, 4]), (59, .iload_n 1, 1, 0, []),
  (60, .ireturn, 1, 2, [1])]
noncomputable def mt_197 : mm_M := (⟨"DeafArrayModel", "spares", "()I"⟩, prog_11_method_70_code, 3, (some (.int)), 7, 173, 9, 0, false)
/-- DeafArray.leastSet(Z)I -/
noncomputable def cd_198 : List mm_E := [
  (0, .aload_n 0, 1, 0, []), (1, .getfield 21, 3, 0, [8, 1, 417, 0]), (4, .getfield 85, 3, 0, [7, 0, 246, 1]), (7, .invokevirtual 401, 3, 1, [56, 1, 6, 1, 622, 91, 959, 620, 621, 0]), (10, .istore_n 2, 1, 0, []), (11, .iconst 0, 1, 0, [0]),
  (12, .istore_n 3, 1, 0, []), (13, .iload_n 3, 1, 0, []), (14, .iconst 5, 1, 0, [5]), (15, .if_icmp .gt 85, 3, 0, [51, 100]), (18, .iconst 0, 1, 0, [0]), (19, .istore 4, 2, 0, []),
  (21, .iload 4, 2, 0, []), (23, .bipush 31, 2, 0, [31]), (25, .if_icmp .gt 69, 3, 0, [49, 94]), (28, .iload 4, 2, 0, []), (30, .invokestatic 266, 3, 1, [57, 1, 0, 1, 625, 104, 960, 624, 0, 0]), (33, .iload_n 3, 1, 0, []),
  (34, .if_icmp .ne 54, 3, 0, [47, 88]), (37, .iload 4, 2, 0, []), (39, .iload_n 2, 1, 0, []), (40, .iconst (-1), 1, 0, [4294967295]), (41, .ixor, 1, 0, []), (42, .iand, 1, 0, []),
  (43, .ifCond .ne 45, 3, 0, [47, 88]), (46, .iload_n 1, 1, 0, []), (47, .ifCond .eq 13, 3, 0, [33, 60]), (50, .bipush 31, 2, 0, [31]), (52, .iload 4, 2, 0, []), (54, .iconst (-1), 1, 0, [4294967295]),
  (55, .ixor, 1, 0, []), (56, .iand, 1, 0, []), (57, .goto 16, 3, 0, [39, 73]), (60, .aload_n 0, 1, 0, []), (61, .getfield 21, 3, 0, [8, 1, 417, 0]), (64, .getfield 85, 3, 0, [7, 0, 246, 1]),
  (67, .getfield 256, 3, 0, [5, 3, 138, 1]), (70, .iload 4, 2, 0, []), (72, .ior, 1, 0, []), (73, .istore 5, 2, 0, []), (75, .aload_n 0, 1, 0, []), (76, .iload 5, 2, 0, []),
  (78, .invokevirtual 259, 3, 1, [193, 2, 9, 2, 946, 89, 943, 945, 23, 0]), (81, .iload_n 1, 1, 0, []), (82, .if_icmp .ne 6, 3, 0, [47, 88]), (85, .iload 4, 2, 0, []), (87, .ireturn, 1, 2, [1]), (88, .iinc 4 1, 3, 0, []),
  (91, .goto (-70), 3, 0, [12, 21]), (94, .iinc 3 1, 3, 0, []), (97, .goto (-84), 3, 0, [7, 13]), (100, .iconst (-1), 1, 0, [4294967295]), (101, .ireturn, 1, 2, [1])]
noncomputable def mt_198 : mm_M := (⟨"DeafArray", "leastSet", "(Z)I"⟩, prog_1_method_65_code, 6, (some (.int)), 5, 121, 8, 1, false)
/-- DeafArray.frail(I)I -/
noncomputable def cd_199 : List mm_E := [
  (0, .iload_n 1, 1, 0, []), (1, .iconst 2, 1, 0, [2]), (2, .invokestatic 126, 3, 1, [65, 2, 0, 2, 644, 89, 645, 643, 0, 0]), (5, .ifCond .ne 6, 3, 0, [6, 11]), (8, .bipush (-2), 2, 0, [4294967294]), (10, .ireturn, 1, 2, [1]),
  (11, .aload_n 0, 1, 0, []), (12, .iconst 0, 1, 0, [0]), (13, .invokevirtual 262, 3, 1, [198, 2, 9, 6, 958, 89, 955, 957, 24, 0]), (16, .istore_n 2, 1, 0, []), (17, .iload_n 1, 1, 0, []), (18, .ifCond .ne 10, 3, 0, [15, 28]),
  (21, .iload_n 2, 1, 0, []), (22, .invokestatic 266, 3, 1, [57, 1, 0, 1, 625, 104, 960, 624, 0, 0]), (25, .goto 4, 3, 0, [16, 29]), (28, .iload_n 2, 1, 0, []), (29, .ireturn, 1, 2, [1])]
noncomputable def mt_199 : mm_M := (⟨"DeafArray", "frail", "(I)I"⟩, prog_1_method_31_code, 3, (some (.int)), 6, 146, 8, 1, false)
/-- DeafArrayModel.frailSet()I -/
noncomputable def cd_200 : List mm_E := [
  (0, .iconst (-1), 1, 0, [4294967295]), (1, .istore_n 1, 1, 0, []), (2, .iconst 0, 1, 0, [0]), (3, .istore_n 2, 1, 0, []), (4, .iload_n 2, 1, 0, []), (5, .iconst 1, 1, 0, [1]),
  (6, .aload_n 0, 1, 0, []), (7, .getfield 18, 3, 0, [9, 5, 1224, 0]), (10, .iconst 1, 1, 0, [1]), (11, .iaload, 1, 0, []), (12, .ishl, 1, 0, []), (13, .if_icmp .ge 109, 3, 0, [68, 122]),
  (16, .iload_n 1, 1, 0, []), (17, .iconst (-1), 1, 0, [4294967295]), (18, .if_icmp .eq 14, 3, 0, [20, 32]), (21, .iload_n 2, 1, 0, []), (22, .invokestatic 121, 3, 1, [57, 1, 0, 1, 625, 104, 1495, 624, 0, 0]), (25, .iload_n 1, 1, 0, []),
  (26, .invokestatic 121, 3, 1, [57, 1, 0, 1, 625, 104, 1495, 624, 0, 0]), (29, .if_icmp .ge 7, 3, 0, [22, 36]), (32, .iconst 1, 1, 0, [1]), (33, .goto 4, 3, 0, [23, 37]), (36, .iconst 0, 1, 0, [0]), (37, .istore_n 3, 1, 0, []),
  (38, .iconst 0, 1, 0, [0]), (39, .istore 4, 2, 0, []), (41, .iload 4, 2, 0, []), (43, .aload_n 0, 1, 0, []), (44, .getfield 18, 3, 0, [9, 5, 1224, 0]), (47, .iconst 1, 1, 0, [1]),
  (48, .iaload, 1, 0, []), (49, .if_icmp .ge 38, 3, 0, [51, 87]), (52, .iload_n 3, 1, 0, []), (53, .ifCond .eq 26, 3, 0, [47, 79]), (56, .aload_n 0, 1, 0, []), (57, .iload 4, 2, 0, []),
  (59, .invokevirtual 114, 3, 1, [61, 2, 10, 2, 1425, 99, 1422, 1424, 44, 0]), (62, .ifCond .eq 13, 3, 0, [45, 75]), (65, .iload_n 2, 1, 0, []), (66, .iload 4, 2, 0, []), (68, .ishr, 1, 0, []), (69, .iconst 1, 1, 0, [1]),
  (70, .iand, 1, 0, []), (71, .iconst 1, 1, 0, [1]), (72, .if_icmp .eq 7, 3, 0, [47, 79]), (75, .iconst 1, 1, 0, [1]), (76, .goto 4, 3, 0, [48, 80]), (79, .iconst 0, 1, 0, [0]),
  (80, .istore_n 3, 1, 0, []), (81, .iinc 4 1, 3, 0, []), (84, .goto (-43), 3, 0, [26, 41]), (87, .iload_n 3, 1, 0, []), (88, .ifCond .ne 6, 3, 0, [54, 94]), (91, .goto 25, 3, 0, [66, 116]),
  (94, .aload_n 0, 1, 0, []), (95, .iload_n 2, 1, 0, []), (96, .aload_n 0, 1, 0, []), (97, .invokevirtual 184, 3, 1, [63, 1, 10, 1, 1429, 99, 1426, 1428, 45, 0]), (100, .invokevirtual 188, 3, 1, [117, 3, 10, 3, 1457, 99, 1454, 1456, 48, 0]), (103, .aload_n 0, 1, 0, []),
  (104, .getfield 151, 3, 0, [9, 15, 1234, 0]), (107, .ifCond .eq 7, 3, 0, [64, 114]), (110, .iload_n 1, 1, 0, []), (111, .goto 4, 3, 0, [65, 115]), (114, .iload_n 2, 1, 0, []), (115, .istore_n 1, 1, 0, []),
  (116, .iinc 2 1, 3, 0, []), (119, .goto (-115), 3, 0, [4, 4]), (122, .iload_n 1, 1, 0, []), (123, .ireturn, 1, 2, [1])]
noncomputable def mt_200 : mm_M := (⟨"DeafArrayModel", "frailSet", "()I"⟩, prog_11_method_71_code, 5, (some (.int)), 7, 173, 9, 0, false)
/-- DeafArrayModel.frail(I)I -/
noncomputable def cd_201 : List mm_E := [
  (0, .iload_n 1, 1, 0, []), (1, .i2l, 1, 0, []), (2, .lconst 0, 1, 0, [0]), (3, .lconst 1, 1, 0, [1]), (4, .invokestatic 108, 3, 1, [16, 3, 0, 6, 1347, 99, 1345, 1346, 0, 0]), (7, .ifCond .ne 6, 3, 0, [8, 13]),
  (10, .bipush (-2), 2, 0, [4294967294]), (12, .ireturn, 1, 2, [1]), (13, .aload_n 0, 1, 0, []), (14, .invokevirtual 340, 3, 1, [200, 1, 10, 5, 1640, 99, 1637, 1639, 71, 0]), (17, .istore_n 2, 1, 0, []), (18, .iload_n 1, 1, 0, []),
  (19, .ifCond .ne 10, 3, 0, [16, 29]), (22, .iload_n 2, 1, 0, []), (23, .invokestatic 121, 3, 1, [57, 1, 0, 1, 625, 104, 1495, 624, 0, 0]), (26, .goto 4, 3, 0, [17, 30]), (29, .iload_n 2, 1, 0, []), (30, .ireturn, 1, 2, [1])]
noncomputable def mt_201 : mm_M := (⟨"DeafArrayModel", "frail", "(I)I"⟩, prog_11_method_72_code, 3, (some (.int)), 8, 197, 9, 1, false)
/-- DeafArray.fewest(I)I -/
noncomputable def cd_202 : List mm_E := [
  (0, .iload_n 1, 1, 0, []), (1, .iconst 2, 1, 0, [2]), (2, .invokestatic 126, 3, 1, [65, 2, 0, 2, 644, 89, 645, 643, 0, 0]), (5, .ifCond .ne 6, 3, 0, [6, 11]), (8, .bipush (-2), 2, 0, [4294967294]), (10, .ireturn, 1, 2, [1]),
  (11, .aload_n 0, 1, 0, []), (12, .iconst 1, 1, 0, [1]), (13, .invokevirtual 262, 3, 1, [198, 2, 9, 6, 958, 89, 955, 957, 24, 0]), (16, .istore_n 2, 1, 0, []), (17, .iload_n 1, 1, 0, []), (18, .iconst 1, 1, 0, [1]),
  (19, .if_icmp .eq 8, 3, 0, [16, 27]), (22, .iload_n 2, 1, 0, []), (23, .iconst (-1), 1, 0, [4294967295]), (24, .if_icmp .ne 7, 3, 0, [18, 31]), (27, .iload_n 2, 1, 0, []), (28, .goto 7, 3, 0, [20, 35]),
  (31, .iload_n 2, 1, 0, []), (32, .invokestatic 266, 3, 1, [57, 1, 0, 1, 625, 104, 960, 624, 0, 0]), (35, .ireturn, 1, 2, [1])]
noncomputable def mt_202 : mm_M := (⟨"DeafArray", "fewest", "(I)I"⟩, prog_1_method_32_code, 3, (some (.int)), 6, 146, 8, 1, false)
/-- DeafArrayModel.fewest(I)I -/
noncomputable def cd_203 : List mm_E := [
  (0, .iload_n 1, 1, 0, []), (1, .i2l, 1, 0, []), (2, .lconst 0, 1, 0, [0]), (3, .lconst 1, 1, 0, [1]), (4, .invokestatic 108, 3, 1, [16, 3, 0, 6, 1347, 99, 1345, 1346, 0, 0]), (7, .ifCond .ne 6, 3, 0, [8, 13]),
  (10, .bipush (-2), 2, 0, [4294967294]), (12, .ireturn, 1, 2, [1]), (13, .iconst (-1), 1, 0, [4294967295]), (14, .istore_n 2, 1, 0, []), (15, .iconst 0, 1, 0, [0]), (16, .istore_n 3, 1, 0, []),
  (17, .iload_n 3, 1, 0, []), (18, .iconst 1, 1, 0, [1]), (19, .aload_n 0, 1, 0, []), (20, .getfield 18, 3, 0, [9, 5, 1224, 0]), (23, .iconst 1, 1, 0, [1]), (24, .iaload, 1, 0, []),
  (25, .ishl, 1, 0, []), (26, .if_icmp .ge 118, 3, 0, [80, 144]), (29, .iload_n 2, 1, 0, []), (30, .iconst (-1), 1, 0, [4294967295]), (31, .if_icmp .eq 14, 3, 0, [28, 45]), (34, .iload_n 3, 1, 0, []),
  (35, .invokestatic 121, 3, 1, [57, 1, 0, 1, 625, 104, 1495, 624, 0, 0]), (38, .iload_n 2, 1, 0, []), (39, .invokestatic 121, 3, 1, [57, 1, 0, 1, 625, 104, 1495, 624, 0, 0]), (42, .if_icmp .ge 7, 3, 0, [30, 49]), (45, .iconst 1, 1, 0, [1]), (46, .goto 4, 3, 0, [31, 50]),
  (49, .iconst 0, 1, 0, [0]), (50, .istore 4, 2, 0, []), (52, .iconst 0, 1, 0, [0]), (53, .istore 5, 2, 0, []), (55, .iload 5, 2, 0, []), (57, .aload_n 0, 1, 0, []),
  (58, .getfield 18, 3, 0, [9, 5, 1224, 0]), (61, .iconst 1, 1, 0, [1]), (62, .iaload, 1, 0, []), (63, .if_icmp .ge 40, 3, 0, [59, 103]), (66, .iload 4, 2, 0, []), (68, .ifCond .eq 26, 3, 0, [55, 94]),
  (71, .aload_n 0, 1, 0, []), (72, .iload 5, 2, 0, []), (74, .invokevirtual 114, 3, 1, [61, 2, 10, 2, 1425, 99, 1422, 1424, 44, 0]), (77, .ifCond .eq 13, 3, 0, [53, 90]), (80, .iload_n 3, 1, 0, []), (81, .iload 5, 2, 0, []),
  (83, .ishr, 1, 0, []), (84, .iconst 1, 1, 0, [1]), (85, .iand, 1, 0, []), (86, .iconst 1, 1, 0, [1]), (87, .if_icmp .eq 7, 3, 0, [55, 94]), (90, .iconst 1, 1, 0, [1]),
  (91, .goto 4, 3, 0, [56, 95]), (94, .iconst 0, 1, 0, [0]), (95, .istore 4, 2, 0, []), (97, .iinc 5 1, 3, 0, []), (100, .goto (-45), 3, 0, [34, 55]), (103, .iload 4, 2, 0, []),
  (105, .ifCond .ne 6, 3, 0, [62, 111]), (108, .goto 30, 3, 0, [78, 138]), (111, .aload_n 0, 1, 0, []), (112, .bipush 31, 2, 0, [31]), (114, .iload_n 3, 1, 0, []), (115, .iconst (-1), 1, 0, [4294967295]),
  (116, .ixor, 1, 0, []), (117, .iand, 1, 0, []), (118, .aload_n 0, 1, 0, []), (119, .invokevirtual 184, 3, 1, [63, 1, 10, 1, 1429, 99, 1426, 1428, 45, 0]), (122, .invokevirtual 188, 3, 1, [117, 3, 10, 3, 1457, 99, 1454, 1456, 48, 0]), (125, .aload_n 0, 1, 0, []),
  (126, .getfield 151, 3, 0, [9, 15, 1234, 0]), (129, .ifCond .eq 7, 3, 0, [76, 136]), (132, .iload_n 3, 1, 0, []), (133, .goto 4, 3, 0, [77, 137]), (136, .iload_n 2, 1, 0, []), (137, .istore_n 2, 1, 0, []),
  (138, .iinc 3 1, 3, 0, []), (141, .goto (-124), 3, 0, [12, 17]), (144, .iload_n 2, 1, 0, []), (145, .iconst (-1), 1, 0, [4294967295]), (146, .if_icmp .ne 7, 3, 0, [85, 153]), (149, .iconst (-1), 1, 0, [4294967295]),
  (150, .goto 15, 3, 0, [91, 165]), (153, .iload_n 1, 1, 0, []), (154, .ifCond .ne 10, 3, 0, [90, 164]), (157, .iload_n 2, 1, 0, []), (158, .invokestatic 121, 3, 1, [57, 1, 0, 1, 625, 104, 1495, 624, 0, 0]), (161, .goto 4, 3, 0, [91, 165]),
  (164, .iload_n 2, 1, 0, []), (165, .ireturn, 1, 2, [1])]
noncomputable def mt_203 : mm_M := (⟨"DeafArrayModel", "fewest", "(I)I"⟩, prog_11_method_100_code, 6, (some (.int)), 7, 173, 9, 1, false)
/-- DeafArray.leak(III)J -/
noncomputable def cd_204 : List mm_E := [
  (0, .aload_n 0, 1, 0, []), (1, .invokevirtual 140, 3, 1, [100, 1, 9, 1, 664, 89, 661, 663, 12, 0]), (4, .aload_n 0, 1, 0, []), (5, .getfield 21, 3, 0, [8, 1, 417, 0]), (8, .getfield 156, 3, 0, [7, 13, 271, 1]), (11, .ifCond .eq 24, 3, 0, [15, 35]),
  (14, .aload_n 0, 1, 0, []), (15, .getfield 21, 3, 0, [8, 1, 417, 0]), (18, .getfield 85, 3, 0, [7, 0, 246, 1]), (21, .iload_n 1, 1, 0, []), (22, .invokevirtual 122, 3, 1, [66, 2, 6, 2, 641, 91, 638, 639, 640, 0]), (25, .ifCond .eq 10, 3, 0, [15, 35]),
  (28, .iload_n 2, 1, 0, []), (29, .invokestatic 137, 3, 1, [71, 1, 0, 1, 656, 89, 654, 655, 0, 0]), (32, .ifCond .ne 7, 3, 0, [17, 39]), (35, .ldc2_w 159, 3, 0, [9223372036854775808, 0, 783]), (38, .lreturn, 1, 2, [3]), (39, .aload_n 0, 1, 0, []),
  (40, .getfield 59, 3, 0, [8, 7, 423, 0]), (43, .aload_n 0, 1, 0, []), (44, .getfield 21, 3, 0, [8, 1, 417, 0]), (47, .getfield 173, 3, 0, [7, 6, 259, 1]), (50, .iload_n 2, 1, 0, []), (51, .aaload, 1, 0, []),
  (52, .invokevirtual 271, 3, 1, [91, 2, 4, 2, 744, 94, 969, 742, 743, 0]), (55, .aload_n 0, 1, 0, []), (56, .getfield 59, 3, 0, [8, 7, 423, 0]), (59, .aload_n 0, 1, 0, []), (60, .getfield 21, 3, 0, [8, 1, 417, 0]), (63, .getfield 161, 3, 0, [7, 5, 256, 1]),
  (66, .iload_n 1, 1, 0, []), (67, .aaload, 1, 0, []), (68, .iload_n 2, 1, 0, []), (69, .aload_n 0, 1, 0, []), (70, .getfield 21, 3, 0, [8, 1, 417, 0]), (73, .getfield 85, 3, 0, [7, 0, 246, 1]),
  (76, .getfield 130, 3, 0, [5, 0, 126, 1]), (79, .iload_n 1, 1, 0, []), (80, .iaload, 1, 0, []), (81, .imul, 1, 0, []), (82, .bipush 6, 2, 0, [6]), (84, .iadd, 1, 0, []),
  (85, .invokevirtual 274, 3, 1, [93, 3, 4, 12, 753, 94, 970, 751, 752, 0]), (88, .aload_n 0, 1, 0, []), (89, .getfield 59, 3, 0, [8, 7, 423, 0]), (92, .invokevirtual 229, 3, 1, [97, 1, 4, 1, 766, 94, 882, 764, 765, 0]), (95, .aload_n 0, 1, 0, []), (96, .getfield 59, 3, 0, [8, 7, 423, 0]),
  (99, .invokevirtual 231, 3, 1, [98, 1, 4, 1, 770, 94, 883, 768, 769, 0]), (102, .aload_n 0, 1, 0, []), (103, .getfield 21, 3, 0, [8, 1, 417, 0]), (106, .getfield 165, 3, 0, [7, 16, 279, 1]), (109, .aload_n 0, 1, 0, []), (110, .getfield 21, 3, 0, [8, 1, 417, 0]),
  (113, .getfield 165, 3, 0, [7, 16, 279, 1]), (116, .lmul, 1, 0, []), (117, .iload_n 3, 1, 0, []), (118, .invokestatic 182, 3, 1, [135, 4, 0, 9, 812, 89, 810, 811, 0, 0]), (121, .lreturn, 1, 2, [3])]
noncomputable def mt_204 : mm_M := (⟨"DeafArray", "leak", "(III)J"⟩, prog_1_method_33_code, 4, (some (.long)), 5, 120, 8, 3, false)
/-- DeafArrayModel.laysLeak(II)V -/
noncomputable def cd_205 : List mm_E := [
  (0, .aload_n 0, 1, 0, []), (1, .bipush 87, 2, 0, [87]), (3, .invokevirtual 81, 3, 1, [104, 2, 10, 3, 1481, 99, 1478, 1480, 54, 0]), (6, .aload_n 0, 1, 0, []), (7, .bipush 87, 2, 0, [87]), (9, .bipush 67, 2, 0, [67]),
  (11, .iload_n 2, 1, 0, []), (12, .iadd, 1, 0, []), (13, .lconst 1, 1, 0, [1]), (14, .invokevirtual 163, 3, 1, [113, 4, 10, 6, 1514, 99, 1511, 1513, 60, 0]), (17, .aload_n 0, 1, 0, []), (18, .getfield 38, 3, 0, [9, 19, 1238, 0]),
  (21, .iload_n 1, 1, 0, []), (22, .iaload, 1, 0, []), (23, .iconst (-1), 1, 0, [4294967295]), (24, .if_icmp .eq 31, 3, 0, [34, 55]), (27, .aload_n 0, 1, 0, []), (28, .bipush 87, 2, 0, [87]),
  (30, .bipush 62, 2, 0, [62]), (32, .aload_n 0, 1, 0, []), (33, .getfield 38, 3, 0, [9, 19, 1238, 0]), (36, .iload_n 1, 1, 0, []), (37, .iaload, 1, 0, []), (38, .iadd, 1, 0, []),
  (39, .iload_n 2, 1, 0, []), (40, .aload_n 0, 1, 0, []), (41, .getfield 18, 3, 0, [9, 5, 1224, 0]), (44, .iconst 2, 1, 0, [2]), (45, .iload_n 1, 1, 0, []), (46, .iadd, 1, 0, []),
  (47, .iaload, 1, 0, []), (48, .imul, 1, 0, []), (49, .ldc2_w 127, 3, 0, [18446744073709551615, 0, 1496]), (52, .invokevirtual 145, 3, 1, [114, 5, 10, 7, 1518, 99, 1515, 1517, 61, 0]), (55, .return_, 1, 2, [0])]
noncomputable def mt_205 : mm_M := (⟨"DeafArrayModel", "laysLeak", "(II)V"⟩, prog_11_method_73_code, 3, none, 3, 76, 9, 2, false)
/-- DeafArrayModel.leak(III)J -/
noncomputable def cd_206 : List mm_E := [
  (0, .aload_n 0, 1, 0, []), (1, .iload_n 1, 1, 0, []), (2, .invokevirtual 288, 3, 1, [69, 2, 10, 2, 1437, 99, 1434, 1436, 46, 0]), (5, .ifCond .eq 29, 3, 0, [16, 34]), (8, .iload_n 2, 1, 0, []), (9, .invokestatic 291, 3, 1, [73, 1, 0, 1, 1444, 99, 1442, 1443, 0, 0]),
  (12, .ifCond .eq 22, 3, 0, [16, 34]), (15, .iload_n 3, 1, 0, []), (16, .i2l, 1, 0, []), (17, .lconst 0, 1, 0, [0]), (18, .ldc2_w 96, 3, 0, [2, 0, 1553]), (21, .invokestatic 108, 3, 1, [16, 3, 0, 6, 1347, 99, 1345, 1346, 0, 0]),
  (24, .ifCond .eq 10, 3, 0, [16, 34]), (27, .aload_n 0, 1, 0, []), (28, .invokevirtual 294, 3, 1, [118, 1, 10, 1, 1453, 99, 1450, 1452, 47, 0]), (31, .ifCond .ne 7, 3, 0, [18, 38]), (34, .ldc2_w 299, 3, 0, [9223372036854775808, 0, 1536]), (37, .lreturn, 1, 2, [3]),
  (38, .aload_n 0, 1, 0, []), (39, .iload_n 1, 1, 0, []), (40, .iload_n 2, 1, 0, []), (41, .invokevirtual 343, 3, 1, [205, 3, 10, 3, 1648, 99, 1645, 1647, 72, 0]), (44, .aload_n 0, 1, 0, []), (45, .bipush 87, 2, 0, [87]),
  (47, .invokevirtual 305, 3, 1, [137, 2, 10, 3, 1557, 99, 1554, 1556, 64, 0]), (50, .aload_n 0, 1, 0, []), (51, .aload_n 0, 1, 0, []), (52, .getfield 89, 3, 0, [9, 3, 1222, 0]), (55, .aload_n 0, 1, 0, []), (56, .getfield 93, 3, 0, [9, 4, 1223, 0]),
  (59, .aload_n 0, 1, 0, []), (60, .getfield 158, 3, 0, [9, 16, 1235, 0]), (63, .aload_n 0, 1, 0, []), (64, .getfield 158, 3, 0, [9, 16, 1235, 0]), (67, .lmul, 1, 0, []), (68, .iload_n 3, 1, 0, []),
  (69, .invokevirtual 308, 3, 1, [138, 5, 10, 10, 1561, 99, 1558, 1560, 65, 0]), (72, .lreturn, 1, 2, [3])]
noncomputable def mt_206 : mm_M := (⟨"DeafArrayModel", "leak", "(III)J"⟩, prog_11_method_74_code, 4, (some (.long)), 8, 193, 9, 3, false)
/-- DeafArray.weakest()I -/
noncomputable def cd_207 : List mm_E := [
  (0, .aload_n 0, 1, 0, []), (1, .invokevirtual 140, 3, 1, [100, 1, 9, 1, 664, 89, 661, 663, 12, 0]), (4, .aload_n 0, 1, 0, []), (5, .getfield 21, 3, 0, [8, 1, 417, 0]), (8, .getfield 156, 3, 0, [7, 13, 271, 1]), (11, .ifCond .ne 6, 3, 0, [8, 17]),
  (14, .bipush (-2), 2, 0, [4294967294]), (16, .ireturn, 1, 2, [1]), (17, .aload_n 0, 1, 0, []), (18, .getfield 21, 3, 0, [8, 1, 417, 0]), (21, .getfield 85, 3, 0, [7, 0, 246, 1]), (24, .getfield 277, 3, 0, [5, 5, 147, 1]),
  (27, .ifCond .ne 5, 3, 0, [15, 32]), (30, .iconst (-1), 1, 0, [4294967295]), (31, .ireturn, 1, 2, [1]), (32, .aload_n 0, 1, 0, []), (33, .getfield 45, 3, 0, [8, 5, 421, 0]), (36, .invokevirtual 236, 3, 1, [173, 1, 2, 1, 899, 97, 896, 897, 898, 0]),
  (39, .iconst 0, 1, 0, [0]), (40, .istore_n 1, 1, 0, []), (41, .iload_n 1, 1, 0, []), (42, .aload_n 0, 1, 0, []), (43, .getfield 21, 3, 0, [8, 1, 417, 0]), (46, .getfield 85, 3, 0, [7, 0, 246, 1]),
  (49, .getfield 104, 3, 0, [5, 2, 135, 1]), (52, .if_icmp .ge 26, 3, 0, [37, 78]), (55, .aload_n 0, 1, 0, []), (56, .getfield 45, 3, 0, [8, 5, 421, 0]), (59, .aload_n 0, 1, 0, []), (60, .getfield 21, 3, 0, [8, 1, 417, 0]),
  (63, .getfield 161, 3, 0, [7, 5, 256, 1]), (66, .iload_n 1, 1, 0, []), (67, .aaload, 1, 0, []), (68, .iload_n 1, 1, 0, []), (69, .invokevirtual 239, 3, 1, [174, 3, 2, 7, 903, 97, 900, 901, 902, 0]), (72, .iinc 1 1, 3, 0, []),
  (75, .goto (-34), 3, 0, [20, 41]), (78, .aload_n 0, 1, 0, []), (79, .getfield 45, 3, 0, [8, 5, 421, 0]), (82, .getfield 243, 3, 0, [1, 0, 389, 1]), (85, .ireturn, 1, 2, [1])]
noncomputable def mt_207 : mm_M := (⟨"DeafArray", "weakest", "()I"⟩, prog_1_method_34_code, 2, (some (.int)), 5, 120, 8, 0, false)
/-- DeafArrayModel.weakest()I -/
noncomputable def cd_208 : List mm_E := [
  (0, .aload_n 0, 1, 0, []), (1, .invokevirtual 294, 3, 1, [118, 1, 10, 1, 1453, 99, 1450, 1452, 47, 0]), (4, .ifCond .ne 6, 3, 0, [5, 10]), (7, .bipush (-2), 2, 0, [4294967294]), (9, .ireturn, 1, 2, [1]), (10, .iconst (-1), 1, 0, [4294967295]),
  (11, .istore_n 1, 1, 0, []), (12, .lconst 0, 1, 0, [0]), (13, .lstore_n 2, 1, 0, []), (14, .lconst 0, 1, 0, [0]), (15, .lstore 4, 2, 0, []), (17, .iconst 0, 1, 0, [0]),
  (18, .istore 6, 2, 0, []), (20, .iload 6, 2, 0, []), (22, .aload_n 0, 1, 0, []), (23, .getfield 18, 3, 0, [9, 5, 1224, 0]), (26, .iconst 1, 1, 0, [1]), (27, .iaload, 1, 0, []),
  (28, .if_icmp .ge 93, 3, 0, [65, 121]), (31, .iconst 0, 1, 0, [0]), (32, .istore 7, 2, 0, []), (34, .iload 7, 2, 0, []), (36, .aload_n 0, 1, 0, []), (37, .getfield 18, 3, 0, [9, 5, 1224, 0]),
  (40, .bipush 13, 2, 0, [13]), (42, .iaload, 1, 0, []), (43, .if_icmp .ge 72, 3, 0, [63, 115]), (46, .aload_n 0, 1, 0, []), (47, .iload 6, 2, 0, []), (49, .aload_n 0, 1, 0, []),
  (50, .getfield 18, 3, 0, [9, 5, 1224, 0]), (53, .bipush 14, 2, 0, [14]), (55, .iload 7, 2, 0, []), (57, .iadd, 1, 0, []), (58, .iaload, 1, 0, []), (59, .invokevirtual 343, 3, 1, [205, 3, 10, 3, 1648, 99, 1645, 1647, 72, 0]),
  (62, .aload_n 0, 1, 0, []), (63, .bipush 87, 2, 0, [87]), (65, .invokevirtual 305, 3, 1, [137, 2, 10, 3, 1557, 99, 1554, 1556, 64, 0]), (68, .iload_n 1, 1, 0, []), (69, .iconst (-1), 1, 0, [4294967295]), (70, .if_icmp .eq 25, 3, 0, [53, 95]),
  (73, .aload_n 0, 1, 0, []), (74, .getfield 89, 3, 0, [9, 3, 1222, 0]), (77, .lload_n 2, 1, 0, []), (78, .lsub, 1, 0, []), (79, .aload_n 0, 1, 0, []), (80, .getfield 93, 3, 0, [9, 4, 1223, 0]),
  (83, .lload 4, 2, 0, []), (85, .lsub, 1, 0, []), (86, .invokestatic 312, 3, 1, [148, 2, 0, 10, 1580, 99, 1578, 1579, 0, 0]), (89, .ifCond .gt 6, 3, 0, [53, 95]), (92, .goto 17, 3, 0, [61, 109]), (95, .iload 6, 2, 0, []),
  (97, .istore_n 1, 1, 0, []), (98, .aload_n 0, 1, 0, []), (99, .getfield 89, 3, 0, [9, 3, 1222, 0]), (102, .lstore_n 2, 1, 0, []), (103, .aload_n 0, 1, 0, []), (104, .getfield 93, 3, 0, [9, 4, 1223, 0]),
  (107, .lstore 4, 2, 0, []), (109, .iinc 7 1, 3, 0, []), (112, .goto (-78), 3, 0, [21, 34]), (115, .iinc 6 1, 3, 0, []), (118, .goto (-98), 3, 0, [13, 20]), (121, .iload_n 1, 1, 0, []),
  (122, .ireturn, 1, 2, [1])]
noncomputable def mt_208 : mm_M := (⟨"DeafArrayModel", "weakest", "()I"⟩, prog_11_method_75_code, 8, (some (.int)), 8, 193, 9, 0, false)
/-- java/lang/Math.floorDiv(JJ)J -/
noncomputable def cd_209 : List mm_E := [
  (0, .lload_n 0, 1, 0, []), (1, .lload_n 2, 1, 0, []), (2, .ldiv, 1, 0, []), (3, .lstore 4, 2, 0, []), (5, .lload_n 0, 1, 0, []), (6, .lload_n 2, 1, 0, []),
  (7, .lxor, 1, 0, []), (8, .lconst 0, 1, 0, [0]), (9, .lcmp, 1, 0, []), (10, .ifCond .ge 17, 3, 0, [20, 27]), (13, .lload 4, 2, 0, []), (15, .lload_n 2, 1, 0, []),
  (16, .lmul, 1, 0, []), (17, .lload_n 0, 1, 0, []), (18, .lcmp, 1, 0, []), (19, .ifCond .eq 8, 3, 0, [20, 27]), (22, .lload 4, 2, 0, []), (24, .lconst 1, 1, 0, [1]),
  (25, .lsub, 1, 0, []), (26, .lreturn, 1, 2, [3]), (27, .lload 4, 2, 0, []), (29, .lreturn, 1, 2, [3])]
noncomputable def mt_209 : mm_M := (⟨"java/lang/Math", "floorDiv", "(JJ)J"⟩, prog_13_method_49_code, 6, (some (.long)), 0, 0, 11, 2, false)
/-- DeafArray$Cutter.nearestWhole(JJ)J -/
noncomputable def cd_210 : List mm_E := [
  (0, .lload_n 2, 1, 0, []), (1, .lconst 0, 1, 0, [0]), (2, .lcmp, 1, 0, []), (3, .ifCond .ne 7, 3, 0, [6, 10]), (6, .lconst 0, 1, 0, [0]), (7, .goto 18, 3, 0, [15, 25]),
  (10, .ldc2_w 68, 3, 0, [2, 0, 986]), (13, .lload_n 0, 1, 0, []), (14, .lmul, 1, 0, []), (15, .lload_n 2, 1, 0, []), (16, .ladd, 1, 0, []), (17, .ldc2_w 68, 3, 0, [2, 0, 986]),
  (20, .lload_n 2, 1, 0, []), (21, .lmul, 1, 0, []), (22, .invokestatic 70, 3, 1, [209, 2, 0, 6, 989, 93, 987, 988, 0, 0]), (25, .lreturn, 1, 2, [3])]
noncomputable def mt_210 : mm_M := (⟨"DeafArray$Cutter", "nearestWhole", "(JJ)J"⟩, prog_2_method_3_code, 4, (some (.long)), 1, 25, 0, 2, false)
/-- DeafArray$Num.setParts(JJJJ)V -/
noncomputable def cd_211 : List mm_E := [
  (0, .aload_n 0, 1, 0, []), (1, .lload_n 1, 1, 0, []), (2, .putfield 7, 3, 0, [3, 0, 226, 0]), (5, .aload_n 0, 1, 0, []), (6, .lload_n 3, 1, 0, []), (7, .putfield 13, 3, 0, [3, 1, 228, 0]),
  (10, .aload_n 0, 1, 0, []), (11, .lload 5, 2, 0, []), (13, .putfield 16, 3, 0, [3, 2, 230, 0]), (16, .aload_n 0, 1, 0, []), (17, .lload 7, 2, 0, []), (19, .putfield 19, 3, 0, [3, 3, 232, 0]),
  (22, .return_, 1, 2, [0])]
noncomputable def mt_211 : mm_M := (⟨"DeafArray$Num", "setParts", "(JJJJ)V"⟩, prog_5_method_6_code, 9, none, 0, 0, 3, 4, false)
/-- DeafArray$Cutter.roundAll(LDeafArray$Solver;I)V -/
noncomputable def cd_212 : List mm_E := [
  (0, .iconst 0, 1, 0, [0]), (1, .istore_n 3, 1, 0, []), (2, .iload_n 3, 1, 0, []), (3, .aload_n 1, 1, 0, []), (4, .getfield 31, 3, 0, [7, 0, 245, 1]), (7, .getfield 35, 3, 0, [5, 2, 133, 1]),
  (10, .if_icmp .ge 86, 3, 0, [51, 96]), (13, .aload_n 1, 1, 0, []), (14, .getfield 41, 3, 0, [7, 5, 255, 1]), (17, .iload_n 3, 1, 0, []), (18, .aaload, 1, 0, []), (19, .astore 4, 2, 0, []),
  (21, .aload_n 0, 1, 0, []), (22, .getfield 15, 3, 0, [0, 0, 325, 0]), (25, .iload_n 3, 1, 0, []), (26, .aaload, 1, 0, []), (27, .aload 4, 2, 0, []), (29, .getfield 44, 3, 0, [3, 0, 227, 1]),
  (32, .iload_n 2, 1, 0, []), (33, .i2l, 1, 0, []), (34, .lmul, 1, 0, []), (35, .aload_n 1, 1, 0, []), (36, .getfield 48, 3, 0, [7, 16, 276, 1]), (39, .invokestatic 51, 3, 1, [210, 2, 0, 4, 985, 95, 983, 984, 0, 0]),
  (42, .aload 4, 2, 0, []), (44, .getfield 55, 3, 0, [3, 1, 229, 1]), (47, .iload_n 2, 1, 0, []), (48, .i2l, 1, 0, []), (49, .lmul, 1, 0, []), (50, .aload_n 1, 1, 0, []),
  (51, .getfield 48, 3, 0, [7, 16, 276, 1]), (54, .invokestatic 51, 3, 1, [210, 2, 0, 4, 985, 95, 983, 984, 0, 0]), (57, .aload 4, 2, 0, []), (59, .getfield 58, 3, 0, [3, 2, 231, 1]), (62, .iload_n 2, 1, 0, []), (63, .i2l, 1, 0, []),
  (64, .lmul, 1, 0, []), (65, .aload_n 1, 1, 0, []), (66, .getfield 48, 3, 0, [7, 16, 276, 1]), (69, .invokestatic 51, 3, 1, [210, 2, 0, 4, 985, 95, 983, 984, 0, 0]), (72, .aload 4, 2, 0, []), (74, .getfield 61, 3, 0, [3, 3, 233, 1]),
  (77, .iload_n 2, 1, 0, []), (78, .i2l, 1, 0, []), (79, .lmul, 1, 0, []), (80, .aload_n 1, 1, 0, []), (81, .getfield 48, 3, 0, [7, 16, 276, 1]), (84, .invokestatic 51, 3, 1, [210, 2, 0, 4, 985, 95, 983, 984, 0, 0]),
  (87, .invokevirtual 64, 3, 1, [211, 5, 4, 9, 993, 94, 990, 991, 992, 0]), (90, .iinc 3 1, 3, 0, []), (93, .goto (-91), 3, 0, [2, 2]), (96, .return_, 1, 2, [0])]
noncomputable def mt_212 : mm_M := (⟨"DeafArray$Cutter", "roundAll", "(LDeafArray$Solver;I)V"⟩, prog_2_method_2_code, 5, none, 2, 48, 0, 2, false)
/-- DeafArray.cut(II)J -/
noncomputable def cd_213 : List mm_E := [
  (0, .aload_n 0, 1, 0, []), (1, .invokevirtual 140, 3, 1, [100, 1, 9, 1, 664, 89, 661, 663, 12, 0]), (4, .aload_n 0, 1, 0, []), (5, .getfield 21, 3, 0, [8, 1, 417, 0]), (8, .getfield 156, 3, 0, [7, 13, 271, 1]), (11, .ifCond .eq 25, 3, 0, [16, 36]),
  (14, .aload_n 0, 1, 0, []), (15, .getfield 21, 3, 0, [8, 1, 417, 0]), (18, .getfield 85, 3, 0, [7, 0, 246, 1]), (21, .iload_n 1, 1, 0, []), (22, .invokevirtual 122, 3, 1, [66, 2, 6, 2, 641, 91, 638, 639, 640, 0]), (25, .ifCond .eq 11, 3, 0, [16, 36]),
  (28, .iload_n 2, 1, 0, []), (29, .iconst 4, 1, 0, [4]), (30, .invokestatic 126, 3, 1, [65, 2, 0, 2, 644, 89, 645, 643, 0, 0]), (33, .ifCond .ne 7, 3, 0, [18, 40]), (36, .ldc2_w 159, 3, 0, [9223372036854775808, 0, 783]), (39, .lreturn, 1, 2, [3]),
  (40, .aload_n 0, 1, 0, []), (41, .getfield 31, 3, 0, [8, 3, 419, 0]), (44, .aload_n 0, 1, 0, []), (45, .getfield 21, 3, 0, [8, 1, 417, 0]), (48, .aload_n 0, 1, 0, []), (49, .getfield 21, 3, 0, [8, 1, 417, 0]),
  (52, .getfield 85, 3, 0, [7, 0, 246, 1]), (55, .getfield 109, 3, 0, [5, 6, 151, 1]), (58, .invokevirtual 280, 3, 1, [212, 3, 1, 5, 982, 95, 979, 980, 981, 0]), (61, .aload_n 0, 1, 0, []), (62, .getfield 31, 3, 0, [8, 3, 419, 0]), (65, .getfield 284, 3, 0, [0, 0, 326, 1]),
  (68, .iload_n 1, 1, 0, []), (69, .aaload, 1, 0, []), (70, .iload_n 2, 1, 0, []), (71, .invokevirtual 287, 3, 1, [124, 2, 4, 2, 795, 94, 792, 793, 794, 0]), (74, .lreturn, 1, 2, [3])]
noncomputable def mt_213 : mm_M := (⟨"DeafArray", "cut", "(II)J"⟩, prog_1_method_35_code, 3, (some (.long)), 5, 120, 8, 2, false)
/-- DeafArrayModel.laysCuts(I)V -/
noncomputable def cd_214 : List mm_E := [
  (0, .iconst 0, 1, 0, [0]), (1, .istore_n 2, 1, 0, []), (2, .iload_n 2, 1, 0, []), (3, .aload_n 0, 1, 0, []), (4, .getfield 18, 3, 0, [9, 5, 1224, 0]), (7, .iconst 1, 1, 0, [1]),
  (8, .iaload, 1, 0, []), (9, .if_icmp .ge 90, 3, 0, [60, 99]), (12, .aload_n 0, 1, 0, []), (13, .bipush 82, 2, 0, [82]), (15, .iload_n 2, 1, 0, []), (16, .iadd, 1, 0, []),
  (17, .invokevirtual 81, 3, 1, [104, 2, 10, 3, 1481, 99, 1478, 1480, 54, 0]), (20, .iconst 0, 1, 0, [0]), (21, .istore_n 3, 1, 0, []), (22, .iload_n 3, 1, 0, []), (23, .iconst 4, 1, 0, [4]), (24, .if_icmp .ge 69, 3, 0, [58, 93]),
  (27, .aload_n 0, 1, 0, []), (28, .getfield 38, 3, 0, [9, 19, 1238, 0]), (31, .iload_n 2, 1, 0, []), (32, .iaload, 1, 0, []), (33, .iconst (-1), 1, 0, [4294967295]), (34, .if_icmp .eq 59, 3, 0, [58, 93]),
  (37, .aload_n 0, 1, 0, []), (38, .getfield 11, 3, 0, [9, 1, 1220, 0]), (41, .iconst 4, 1, 0, [4]), (42, .bipush 82, 2, 0, [82]), (44, .iload_n 2, 1, 0, []), (45, .iadd, 1, 0, []),
  (46, .imul, 1, 0, []), (47, .iload_n 3, 1, 0, []), (48, .iadd, 1, 0, []), (49, .ldc2_w 96, 3, 0, [2, 0, 1553]), (52, .iload_n 1, 1, 0, []), (53, .i2l, 1, 0, []),
  (54, .lmul, 1, 0, []), (55, .aload_n 0, 1, 0, []), (56, .bipush 62, 2, 0, [62]), (58, .aload_n 0, 1, 0, []), (59, .getfield 38, 3, 0, [9, 19, 1238, 0]), (62, .iload_n 2, 1, 0, []),
  (63, .iaload, 1, 0, []), (64, .iadd, 1, 0, []), (65, .iload_n 3, 1, 0, []), (66, .invokevirtual 77, 3, 1, [110, 3, 10, 3, 1508, 99, 1505, 1507, 59, 0]), (69, .lmul, 1, 0, []), (70, .aload_n 0, 1, 0, []),
  (71, .getfield 158, 3, 0, [9, 16, 1235, 0]), (74, .ladd, 1, 0, []), (75, .ldc2_w 96, 3, 0, [2, 0, 1553]), (78, .aload_n 0, 1, 0, []), (79, .getfield 158, 3, 0, [9, 16, 1235, 0]), (82, .lmul, 1, 0, []),
  (83, .invokestatic 346, 3, 1, [209, 2, 0, 6, 989, 93, 1665, 988, 0, 0]), (86, .lastore, 1, 0, []), (87, .iinc 3 1, 3, 0, []), (90, .goto (-68), 3, 0, [15, 22]), (93, .iinc 2 1, 3, 0, []), (96, .goto (-94), 3, 0, [2, 2]),
  (99, .return_, 1, 2, [0])]
noncomputable def mt_214 : mm_M := (⟨"DeafArrayModel", "laysCuts", "(I)V"⟩, prog_11_method_76_code, 4, none, 1, 25, 9, 1, false)
/-- DeafArrayModel.cutsNow()Z -/
noncomputable def cd_215 : List mm_E := [
  (0, .aload_n 0, 1, 0, []), (1, .invokevirtual 294, 3, 1, [118, 1, 10, 1, 1453, 99, 1450, 1452, 47, 0]), (4, .ifCond .ne 5, 3, 0, [5, 9]), (7, .iconst 0, 1, 0, [0]), (8, .ireturn, 1, 2, [2]), (9, .aload_n 0, 1, 0, []),
  (10, .aload_n 0, 1, 0, []), (11, .getfield 18, 3, 0, [9, 5, 1224, 0]), (14, .iconst 0, 1, 0, [0]), (15, .iaload, 1, 0, []), (16, .invokevirtual 349, 3, 1, [214, 2, 10, 4, 1664, 99, 1661, 1663, 74, 0]), (19, .iconst 1, 1, 0, [1]),
  (20, .ireturn, 1, 2, [2])]
noncomputable def mt_215 : mm_M := (⟨"DeafArrayModel", "cutsNow", "()Z"⟩, prog_11_method_78_code, 1, (some (.boolean)), 8, 193, 9, 0, false)
/-- DeafArrayModel.cut(II)J -/
noncomputable def cd_216 : List mm_E := [
  (0, .aload_n 0, 1, 0, []), (1, .iload_n 1, 1, 0, []), (2, .invokevirtual 288, 3, 1, [69, 2, 10, 2, 1437, 99, 1434, 1436, 46, 0]), (5, .ifCond .eq 22, 3, 0, [13, 27]), (8, .iload_n 2, 1, 0, []), (9, .i2l, 1, 0, []),
  (10, .lconst 0, 1, 0, [0]), (11, .ldc2_w 98, 3, 0, [3, 0, 1509]), (14, .invokestatic 108, 3, 1, [16, 3, 0, 6, 1347, 99, 1345, 1346, 0, 0]), (17, .ifCond .eq 10, 3, 0, [13, 27]), (20, .aload_n 0, 1, 0, []), (21, .invokevirtual 352, 3, 1, [215, 1, 10, 1, 1660, 99, 1657, 1659, 73, 0]),
  (24, .ifCond .ne 7, 3, 0, [15, 31]), (27, .ldc2_w 299, 3, 0, [9223372036854775808, 0, 1536]), (30, .lreturn, 1, 2, [3]), (31, .aload_n 0, 1, 0, []), (32, .bipush 82, 2, 0, [82]), (34, .iload_n 1, 1, 0, []),
  (35, .iadd, 1, 0, []), (36, .iload_n 2, 1, 0, []), (37, .invokevirtual 77, 3, 1, [110, 3, 10, 3, 1508, 99, 1505, 1507, 59, 0]), (40, .lreturn, 1, 2, [3])]
noncomputable def mt_216 : mm_M := (⟨"DeafArrayModel", "cut", "(II)J"⟩, prog_11_method_79_code, 3, (some (.long)), 9, 213, 9, 2, false)
/-- DeafArray.cutGain(II)J -/
noncomputable def cd_217 : List mm_E := [
  (0, .aload_n 0, 1, 0, []), (1, .invokevirtual 140, 3, 1, [100, 1, 9, 1, 664, 89, 661, 663, 12, 0]), (4, .aload_n 0, 1, 0, []), (5, .getfield 21, 3, 0, [8, 1, 417, 0]), (8, .getfield 156, 3, 0, [7, 13, 271, 1]), (11, .ifCond .eq 18, 3, 0, [13, 29]),
  (14, .iload_n 1, 1, 0, []), (15, .invokestatic 137, 3, 1, [71, 1, 0, 1, 656, 89, 654, 655, 0, 0]), (18, .ifCond .eq 11, 3, 0, [13, 29]), (21, .iload_n 2, 1, 0, []), (22, .iconst 4, 1, 0, [4]), (23, .invokestatic 126, 3, 1, [65, 2, 0, 2, 644, 89, 645, 643, 0, 0]),
  (26, .ifCond .ne 7, 3, 0, [15, 33]), (29, .ldc2_w 159, 3, 0, [9223372036854775808, 0, 783]), (32, .lreturn, 1, 2, [3]), (33, .aload_n 0, 1, 0, []), (34, .getfield 31, 3, 0, [8, 3, 419, 0]), (37, .aload_n 0, 1, 0, []),
  (38, .getfield 21, 3, 0, [8, 1, 417, 0]), (41, .aload_n 0, 1, 0, []), (42, .getfield 21, 3, 0, [8, 1, 417, 0]), (45, .getfield 85, 3, 0, [7, 0, 246, 1]), (48, .getfield 109, 3, 0, [5, 6, 151, 1]), (51, .invokevirtual 280, 3, 1, [212, 3, 1, 5, 982, 95, 979, 980, 981, 0]),
  (54, .aload_n 0, 1, 0, []), (55, .getfield 21, 3, 0, [8, 1, 417, 0]), (58, .getfield 85, 3, 0, [7, 0, 246, 1]), (61, .aload_n 0, 1, 0, []), (62, .getfield 31, 3, 0, [8, 3, 419, 0]), (65, .getfield 284, 3, 0, [0, 0, 326, 1]),
  (68, .iload_n 1, 1, 0, []), (69, .aload_n 0, 1, 0, []), (70, .getfield 59, 3, 0, [8, 7, 423, 0]), (73, .invokevirtual 291, 3, 1, [96, 4, 6, 5, 761, 91, 998, 759, 760, 0]), (76, .aload_n 0, 1, 0, []), (77, .getfield 59, 3, 0, [8, 7, 423, 0]),
  (80, .iload_n 2, 1, 0, []), (81, .invokevirtual 287, 3, 1, [124, 2, 4, 2, 795, 94, 792, 793, 794, 0]), (84, .lreturn, 1, 2, [3])]
noncomputable def mt_217 : mm_M := (⟨"DeafArray", "cutGain", "(II)J"⟩, prog_1_method_36_code, 3, (some (.long)), 5, 120, 8, 2, false)
/-- DeafArrayModel.laysCutGain(I)V -/
noncomputable def cd_218 : List mm_E := [
  (0, .aload_n 0, 1, 0, []), (1, .bipush 87, 2, 0, [87]), (3, .invokevirtual 81, 3, 1, [104, 2, 10, 3, 1481, 99, 1478, 1480, 54, 0]), (6, .iconst 0, 1, 0, [0]), (7, .istore_n 2, 1, 0, []), (8, .iload_n 2, 1, 0, []),
  (9, .aload_n 0, 1, 0, []), (10, .getfield 18, 3, 0, [9, 5, 1224, 0]), (13, .iconst 1, 1, 0, [1]), (14, .iaload, 1, 0, []), (15, .if_icmp .ge 30, 3, 0, [28, 45]), (18, .aload_n 0, 1, 0, []),
  (19, .bipush 87, 2, 0, [87]), (21, .bipush 82, 2, 0, [82]), (23, .iload_n 2, 1, 0, []), (24, .iadd, 1, 0, []), (25, .iload_n 1, 1, 0, []), (26, .aload_n 0, 1, 0, []),
  (27, .getfield 18, 3, 0, [9, 5, 1224, 0]), (30, .iconst 2, 1, 0, [2]), (31, .iload_n 2, 1, 0, []), (32, .iadd, 1, 0, []), (33, .iaload, 1, 0, []), (34, .imul, 1, 0, []),
  (35, .lconst 1, 1, 0, [1]), (36, .invokevirtual 145, 3, 1, [114, 5, 10, 7, 1518, 99, 1515, 1517, 61, 0]), (39, .iinc 2 1, 3, 0, []), (42, .goto (-34), 3, 0, [5, 8]), (45, .return_, 1, 2, [0])]
noncomputable def mt_218 : mm_M := (⟨"DeafArrayModel", "laysCutGain", "(I)V"⟩, prog_11_method_77_code, 3, none, 3, 76, 9, 1, false)
/-- DeafArrayModel.cutGain(II)J -/
noncomputable def cd_219 : List mm_E := [
  (0, .iload_n 1, 1, 0, []), (1, .invokestatic 291, 3, 1, [73, 1, 0, 1, 1444, 99, 1442, 1443, 0, 0]), (4, .ifCond .eq 22, 3, 0, [12, 26]), (7, .iload_n 2, 1, 0, []), (8, .i2l, 1, 0, []), (9, .lconst 0, 1, 0, [0]),
  (10, .ldc2_w 98, 3, 0, [3, 0, 1509]), (13, .invokestatic 108, 3, 1, [16, 3, 0, 6, 1347, 99, 1345, 1346, 0, 0]), (16, .ifCond .eq 10, 3, 0, [12, 26]), (19, .aload_n 0, 1, 0, []), (20, .invokevirtual 352, 3, 1, [215, 1, 10, 1, 1660, 99, 1657, 1659, 73, 0]), (23, .ifCond .ne 7, 3, 0, [14, 30]),
  (26, .ldc2_w 299, 3, 0, [9223372036854775808, 0, 1536]), (29, .lreturn, 1, 2, [3]), (30, .aload_n 0, 1, 0, []), (31, .iload_n 1, 1, 0, []), (32, .invokevirtual 355, 3, 1, [218, 2, 10, 3, 1673, 99, 1670, 1672, 75, 0]), (35, .aload_n 0, 1, 0, []),
  (36, .bipush 87, 2, 0, [87]), (38, .iload_n 2, 1, 0, []), (39, .invokevirtual 77, 3, 1, [110, 3, 10, 3, 1508, 99, 1505, 1507, 59, 0]), (42, .lreturn, 1, 2, [3])]
noncomputable def mt_219 : mm_M := (⟨"DeafArrayModel", "cutGain", "(II)J"⟩, prog_11_method_80_code, 3, (some (.long)), 9, 213, 9, 2, false)
/-- DeafArray.cutPower(II)J -/
noncomputable def cd_220 : List mm_E := [
  (0, .aload_n 0, 1, 0, []), (1, .invokevirtual 140, 3, 1, [100, 1, 9, 1, 664, 89, 661, 663, 12, 0]), (4, .aload_n 0, 1, 0, []), (5, .getfield 21, 3, 0, [8, 1, 417, 0]), (8, .getfield 156, 3, 0, [7, 13, 271, 1]), (11, .ifCond .eq 18, 3, 0, [13, 29]),
  (14, .iload_n 1, 1, 0, []), (15, .invokestatic 137, 3, 1, [71, 1, 0, 1, 656, 89, 654, 655, 0, 0]), (18, .ifCond .eq 11, 3, 0, [13, 29]), (21, .iload_n 2, 1, 0, []), (22, .iconst 2, 1, 0, [2]), (23, .invokestatic 126, 3, 1, [65, 2, 0, 2, 644, 89, 645, 643, 0, 0]),
  (26, .ifCond .ne 7, 3, 0, [15, 33]), (29, .ldc2_w 159, 3, 0, [9223372036854775808, 0, 783]), (32, .lreturn, 1, 2, [3]), (33, .aload_n 0, 1, 0, []), (34, .getfield 31, 3, 0, [8, 3, 419, 0]), (37, .aload_n 0, 1, 0, []),
  (38, .getfield 21, 3, 0, [8, 1, 417, 0]), (41, .aload_n 0, 1, 0, []), (42, .getfield 21, 3, 0, [8, 1, 417, 0]), (45, .getfield 85, 3, 0, [7, 0, 246, 1]), (48, .getfield 109, 3, 0, [5, 6, 151, 1]), (51, .invokevirtual 280, 3, 1, [212, 3, 1, 5, 982, 95, 979, 980, 981, 0]),
  (54, .aload_n 0, 1, 0, []), (55, .getfield 21, 3, 0, [8, 1, 417, 0]), (58, .getfield 85, 3, 0, [7, 0, 246, 1]), (61, .aload_n 0, 1, 0, []), (62, .getfield 31, 3, 0, [8, 3, 419, 0]), (65, .getfield 284, 3, 0, [0, 0, 326, 1]),
  (68, .iload_n 1, 1, 0, []), (69, .aload_n 0, 1, 0, []), (70, .getfield 59, 3, 0, [8, 7, 423, 0]), (73, .invokevirtual 291, 3, 1, [96, 4, 6, 5, 761, 91, 998, 759, 760, 0]), (76, .iload_n 2, 1, 0, []), (77, .ifCond .ne 13, 3, 0, [40, 90]),
  (80, .aload_n 0, 1, 0, []), (81, .getfield 59, 3, 0, [8, 7, 423, 0]), (84, .invokevirtual 229, 3, 1, [97, 1, 4, 1, 766, 94, 882, 764, 765, 0]), (87, .goto 10, 3, 0, [43, 97]), (90, .aload_n 0, 1, 0, []), (91, .getfield 59, 3, 0, [8, 7, 423, 0]),
  (94, .invokevirtual 231, 3, 1, [98, 1, 4, 1, 770, 94, 883, 768, 769, 0]), (97, .lreturn, 1, 2, [3])]
noncomputable def mt_220 : mm_M := (⟨"DeafArray", "cutPower", "(II)J"⟩, prog_1_method_37_code, 3, (some (.long)), 5, 120, 8, 2, false)
/-- DeafArrayModel.cutPower(II)J -/
noncomputable def cd_221 : List mm_E := [
  (0, .iload_n 1, 1, 0, []), (1, .invokestatic 291, 3, 1, [73, 1, 0, 1, 1444, 99, 1442, 1443, 0, 0]), (4, .ifCond .eq 20, 3, 0, [12, 24]), (7, .iload_n 2, 1, 0, []), (8, .i2l, 1, 0, []), (9, .lconst 0, 1, 0, [0]),
  (10, .lconst 1, 1, 0, [1]), (11, .invokestatic 108, 3, 1, [16, 3, 0, 6, 1347, 99, 1345, 1346, 0, 0]), (14, .ifCond .eq 10, 3, 0, [12, 24]), (17, .aload_n 0, 1, 0, []), (18, .invokevirtual 352, 3, 1, [215, 1, 10, 1, 1660, 99, 1657, 1659, 73, 0]), (21, .ifCond .ne 7, 3, 0, [14, 28]),
  (24, .ldc2_w 299, 3, 0, [9223372036854775808, 0, 1536]), (27, .lreturn, 1, 2, [3]), (28, .aload_n 0, 1, 0, []), (29, .iload_n 1, 1, 0, []), (30, .invokevirtual 355, 3, 1, [218, 2, 10, 3, 1673, 99, 1670, 1672, 75, 0]), (33, .aload_n 0, 1, 0, []),
  (34, .bipush 87, 2, 0, [87]), (36, .invokevirtual 305, 3, 1, [137, 2, 10, 3, 1557, 99, 1554, 1556, 64, 0]), (39, .iload_n 2, 1, 0, []), (40, .ifCond .ne 10, 3, 0, [25, 50]), (43, .aload_n 0, 1, 0, []), (44, .getfield 89, 3, 0, [9, 3, 1222, 0]),
  (47, .goto 7, 3, 0, [27, 54]), (50, .aload_n 0, 1, 0, []), (51, .getfield 93, 3, 0, [9, 4, 1223, 0]), (54, .lreturn, 1, 2, [3])]
noncomputable def mt_221 : mm_M := (⟨"DeafArrayModel", "cutPower", "(II)J"⟩, prog_11_method_81_code, 3, (some (.long)), 9, 213, 9, 2, false)
/-- DeafArray$Num.scale(J)V -/
noncomputable def cd_222 : List mm_E := [
  (0, .aload_n 0, 1, 0, []), (1, .dup, 1, 0, []), (2, .getfield 7, 3, 0, [3, 0, 226, 0]), (5, .lload_n 1, 1, 0, []), (6, .lmul, 1, 0, []), (7, .putfield 7, 3, 0, [3, 0, 226, 0]),
  (10, .aload_n 0, 1, 0, []), (11, .dup, 1, 0, []), (12, .getfield 13, 3, 0, [3, 1, 228, 0]), (15, .lload_n 1, 1, 0, []), (16, .lmul, 1, 0, []), (17, .putfield 13, 3, 0, [3, 1, 228, 0]),
  (20, .aload_n 0, 1, 0, []), (21, .dup, 1, 0, []), (22, .getfield 16, 3, 0, [3, 2, 230, 0]), (25, .lload_n 1, 1, 0, []), (26, .lmul, 1, 0, []), (27, .putfield 16, 3, 0, [3, 2, 230, 0]),
  (30, .aload_n 0, 1, 0, []), (31, .dup, 1, 0, []), (32, .getfield 19, 3, 0, [3, 3, 232, 0]), (35, .lload_n 1, 1, 0, []), (36, .lmul, 1, 0, []), (37, .putfield 19, 3, 0, [3, 3, 232, 0]),
  (40, .return_, 1, 2, [0])]
noncomputable def mt_222 : mm_M := (⟨"DeafArray$Num", "scale", "(J)V"⟩, prog_5_method_8_code, 3, none, 0, 0, 3, 1, false)
/-- DeafArray$Num.addScaled(LDeafArray$Num;J)V -/
noncomputable def cd_223 : List mm_E := [
  (0, .aload_n 0, 1, 0, []), (1, .dup, 1, 0, []), (2, .getfield 7, 3, 0, [3, 0, 226, 0]), (5, .aload_n 1, 1, 0, []), (6, .getfield 7, 3, 0, [3, 0, 226, 0]), (9, .lload_n 2, 1, 0, []),
  (10, .lmul, 1, 0, []), (11, .ladd, 1, 0, []), (12, .putfield 7, 3, 0, [3, 0, 226, 0]), (15, .aload_n 0, 1, 0, []), (16, .dup, 1, 0, []), (17, .getfield 13, 3, 0, [3, 1, 228, 0]),
  (20, .aload_n 1, 1, 0, []), (21, .getfield 13, 3, 0, [3, 1, 228, 0]), (24, .lload_n 2, 1, 0, []), (25, .lmul, 1, 0, []), (26, .ladd, 1, 0, []), (27, .putfield 13, 3, 0, [3, 1, 228, 0]),
  (30, .aload_n 0, 1, 0, []), (31, .dup, 1, 0, []), (32, .getfield 16, 3, 0, [3, 2, 230, 0]), (35, .aload_n 1, 1, 0, []), (36, .getfield 16, 3, 0, [3, 2, 230, 0]), (39, .lload_n 2, 1, 0, []),
  (40, .lmul, 1, 0, []), (41, .ladd, 1, 0, []), (42, .putfield 16, 3, 0, [3, 2, 230, 0]), (45, .aload_n 0, 1, 0, []), (46, .dup, 1, 0, []), (47, .getfield 19, 3, 0, [3, 3, 232, 0]),
  (50, .aload_n 1, 1, 0, []), (51, .getfield 19, 3, 0, [3, 3, 232, 0]), (54, .lload_n 2, 1, 0, []), (55, .lmul, 1, 0, []), (56, .ladd, 1, 0, []), (57, .putfield 19, 3, 0, [3, 3, 232, 0]),
  (60, .return_, 1, 2, [0])]
noncomputable def mt_223 : mm_M := (⟨"DeafArray$Num", "addScaled", "(LDeafArray$Num;J)V"⟩, prog_5_method_9_code, 4, none, 0, 0, 3, 2, false)
/-- DeafArray$Cutter.missAt(LDeafArray$Solver;ILDeafArray$Num;)V -/
noncomputable def cd_224 : List mm_E := [
  (0, .aload_n 1, 1, 0, []), (1, .getfield 31, 3, 0, [7, 0, 245, 1]), (4, .aload_n 0, 1, 0, []), (5, .getfield 15, 3, 0, [0, 0, 325, 0]), (8, .iload_n 2, 1, 0, []), (9, .aload_n 3, 1, 0, []),
  (10, .invokevirtual 79, 3, 1, [96, 4, 6, 5, 761, 91, 1011, 759, 760, 0]), (13, .aload_n 3, 1, 0, []), (14, .aload_n 1, 1, 0, []), (15, .getfield 48, 3, 0, [7, 16, 276, 1]), (18, .invokevirtual 83, 3, 1, [222, 2, 4, 3, 1015, 94, 1012, 1013, 1014, 0]), (21, .aload_n 3, 1, 0, []),
  (22, .aload_n 1, 1, 0, []), (23, .getfield 87, 3, 0, [7, 6, 258, 1]), (26, .iload_n 2, 1, 0, []), (27, .aaload, 1, 0, []), (28, .aload_n 1, 1, 0, []), (29, .getfield 31, 3, 0, [7, 0, 245, 1]),
  (32, .getfield 90, 3, 0, [5, 6, 150, 1]), (35, .ineg, 1, 0, []), (36, .i2l, 1, 0, []), (37, .invokevirtual 93, 3, 1, [223, 3, 4, 4, 1019, 94, 1016, 1017, 1018, 0]), (40, .return_, 1, 2, [0])]
noncomputable def mt_224 : mm_M := (⟨"DeafArray$Cutter", "missAt", "(LDeafArray$Solver;ILDeafArray$Num;)V"⟩, prog_2_method_5_code, 4, none, 2, 55, 0, 3, false)
/-- DeafArray.error(II)J -/
noncomputable def cd_225 : List mm_E := [
  (0, .aload_n 0, 1, 0, []), (1, .invokevirtual 140, 3, 1, [100, 1, 9, 1, 664, 89, 661, 663, 12, 0]), (4, .aload_n 0, 1, 0, []), (5, .getfield 21, 3, 0, [8, 1, 417, 0]), (8, .getfield 156, 3, 0, [7, 13, 271, 1]), (11, .ifCond .eq 10, 3, 0, [9, 21]),
  (14, .iload_n 1, 1, 0, []), (15, .invokestatic 137, 3, 1, [71, 1, 0, 1, 656, 89, 654, 655, 0, 0]), (18, .ifCond .ne 7, 3, 0, [11, 25]), (21, .ldc2_w 159, 3, 0, [9223372036854775808, 0, 783]), (24, .lreturn, 1, 2, [3]), (25, .aload_n 0, 1, 0, []),
  (26, .getfield 31, 3, 0, [8, 3, 419, 0]), (29, .aload_n 0, 1, 0, []), (30, .getfield 21, 3, 0, [8, 1, 417, 0]), (33, .aload_n 0, 1, 0, []), (34, .getfield 21, 3, 0, [8, 1, 417, 0]), (37, .getfield 85, 3, 0, [7, 0, 246, 1]),
  (40, .getfield 109, 3, 0, [5, 6, 151, 1]), (43, .invokevirtual 280, 3, 1, [212, 3, 1, 5, 982, 95, 979, 980, 981, 0]), (46, .aload_n 0, 1, 0, []), (47, .getfield 31, 3, 0, [8, 3, 419, 0]), (50, .aload_n 0, 1, 0, []), (51, .getfield 21, 3, 0, [8, 1, 417, 0]),
  (54, .iload_n 1, 1, 0, []), (55, .aload_n 0, 1, 0, []), (56, .getfield 59, 3, 0, [8, 7, 423, 0]), (59, .invokevirtual 295, 3, 1, [224, 4, 1, 4, 1010, 95, 1007, 1008, 1009, 0]), (62, .aload_n 0, 1, 0, []), (63, .getfield 21, 3, 0, [8, 1, 417, 0]),
  (66, .getfield 165, 3, 0, [7, 16, 279, 1]), (69, .aload_n 0, 1, 0, []), (70, .getfield 21, 3, 0, [8, 1, 417, 0]), (73, .getfield 85, 3, 0, [7, 0, 246, 1]), (76, .getfield 109, 3, 0, [5, 6, 151, 1]), (79, .i2l, 1, 0, []),
  (80, .lmul, 1, 0, []), (81, .lstore_n 3, 1, 0, []), (82, .aload_n 0, 1, 0, []), (83, .getfield 59, 3, 0, [8, 7, 423, 0]), (86, .invokevirtual 229, 3, 1, [97, 1, 4, 1, 766, 94, 882, 764, 765, 0]), (89, .aload_n 0, 1, 0, []),
  (90, .getfield 59, 3, 0, [8, 7, 423, 0]), (93, .invokevirtual 231, 3, 1, [98, 1, 4, 1, 770, 94, 883, 768, 769, 0]), (96, .lload_n 3, 1, 0, []), (97, .lload_n 3, 1, 0, []), (98, .lmul, 1, 0, []), (99, .iload_n 2, 1, 0, []),
  (100, .invokestatic 182, 3, 1, [135, 4, 0, 9, 812, 89, 810, 811, 0, 0]), (103, .lreturn, 1, 2, [3])]
noncomputable def mt_225 : mm_M := (⟨"DeafArray", "error", "(II)J"⟩, prog_1_method_38_code, 5, (some (.long)), 5, 120, 8, 2, false)
/-- DeafArrayModel.laysError(I)V -/
noncomputable def cd_226 : List mm_E := [
  (0, .aload_n 0, 1, 0, []), (1, .iload_n 1, 1, 0, []), (2, .invokevirtual 355, 3, 1, [218, 2, 10, 3, 1673, 99, 1670, 1672, 75, 0]), (5, .iconst 0, 1, 0, [0]), (6, .istore_n 2, 1, 0, []), (7, .iload_n 2, 1, 0, []),
  (8, .iconst 4, 1, 0, [4]), (9, .if_icmp .ge 52, 3, 0, [38, 61]), (12, .aload_n 0, 1, 0, []), (13, .getfield 11, 3, 0, [9, 1, 1220, 0]), (16, .sipush 348, 3, 0, [348]), (19, .iload_n 2, 1, 0, []),
  (20, .iadd, 1, 0, []), (21, .aload_n 0, 1, 0, []), (22, .getfield 11, 3, 0, [9, 1, 1220, 0]), (25, .sipush 348, 3, 0, [348]), (28, .iload_n 2, 1, 0, []), (29, .iadd, 1, 0, []),
  (30, .laload, 1, 0, []), (31, .aload_n 0, 1, 0, []), (32, .getfield 158, 3, 0, [9, 16, 1235, 0]), (35, .lmul, 1, 0, []), (36, .aload_n 0, 1, 0, []), (37, .bipush 67, 2, 0, [67]),
  (39, .iload_n 1, 1, 0, []), (40, .iadd, 1, 0, []), (41, .iload_n 2, 1, 0, []), (42, .invokevirtual 77, 3, 1, [110, 3, 10, 3, 1508, 99, 1505, 1507, 59, 0]), (45, .aload_n 0, 1, 0, []), (46, .getfield 18, 3, 0, [9, 5, 1224, 0]),
  (49, .iconst 0, 1, 0, [0]), (50, .iaload, 1, 0, []), (51, .i2l, 1, 0, []), (52, .lmul, 1, 0, []), (53, .lsub, 1, 0, []), (54, .lastore, 1, 0, []),
  (55, .iinc 2 1, 3, 0, []), (58, .goto (-51), 3, 0, [5, 7]), (61, .aload_n 0, 1, 0, []), (62, .bipush 87, 2, 0, [87]), (64, .invokevirtual 305, 3, 1, [137, 2, 10, 3, 1557, 99, 1554, 1556, 64, 0]), (67, .return_, 1, 2, [0])]
noncomputable def mt_226 : mm_M := (⟨"DeafArrayModel", "laysError", "(I)V"⟩, prog_11_method_82_code, 3, none, 4, 99, 9, 1, false)
/-- DeafArrayModel.error(II)J -/
noncomputable def cd_227 : List mm_E := [
  (0, .iload_n 1, 1, 0, []), (1, .invokestatic 291, 3, 1, [73, 1, 0, 1, 1444, 99, 1442, 1443, 0, 0]), (4, .ifCond .eq 22, 3, 0, [12, 26]), (7, .iload_n 2, 1, 0, []), (8, .i2l, 1, 0, []), (9, .lconst 0, 1, 0, [0]),
  (10, .ldc2_w 96, 3, 0, [2, 0, 1553]), (13, .invokestatic 108, 3, 1, [16, 3, 0, 6, 1347, 99, 1345, 1346, 0, 0]), (16, .ifCond .eq 10, 3, 0, [12, 26]), (19, .aload_n 0, 1, 0, []), (20, .invokevirtual 352, 3, 1, [215, 1, 10, 1, 1660, 99, 1657, 1659, 73, 0]), (23, .ifCond .ne 7, 3, 0, [14, 30]),
  (26, .ldc2_w 299, 3, 0, [9223372036854775808, 0, 1536]), (29, .lreturn, 1, 2, [3]), (30, .aload_n 0, 1, 0, []), (31, .iload_n 1, 1, 0, []), (32, .invokevirtual 358, 3, 1, [226, 2, 10, 3, 1685, 99, 1682, 1684, 76, 0]), (35, .aload_n 0, 1, 0, []),
  (36, .getfield 158, 3, 0, [9, 16, 1235, 0]), (39, .aload_n 0, 1, 0, []), (40, .getfield 18, 3, 0, [9, 5, 1224, 0]), (43, .iconst 0, 1, 0, [0]), (44, .iaload, 1, 0, []), (45, .i2l, 1, 0, []),
  (46, .lmul, 1, 0, []), (47, .lstore_n 3, 1, 0, []), (48, .aload_n 0, 1, 0, []), (49, .aload_n 0, 1, 0, []), (50, .getfield 89, 3, 0, [9, 3, 1222, 0]), (53, .aload_n 0, 1, 0, []),
  (54, .getfield 93, 3, 0, [9, 4, 1223, 0]), (57, .lload_n 3, 1, 0, []), (58, .lload_n 3, 1, 0, []), (59, .lmul, 1, 0, []), (60, .iload_n 2, 1, 0, []), (61, .invokevirtual 308, 3, 1, [138, 5, 10, 10, 1561, 99, 1558, 1560, 65, 0]),
  (64, .lreturn, 1, 2, [3])]
noncomputable def mt_227 : mm_M := (⟨"DeafArrayModel", "error", "(II)J"⟩, prog_11_method_83_code, 5, (some (.long)), 9, 213, 9, 2, false)
/-- DeafArray.farthest()I -/
noncomputable def cd_228 : List mm_E := [
  (0, .aload_n 0, 1, 0, []), (1, .invokevirtual 140, 3, 1, [100, 1, 9, 1, 664, 89, 661, 663, 12, 0]), (4, .aload_n 0, 1, 0, []), (5, .getfield 21, 3, 0, [8, 1, 417, 0]), (8, .getfield 156, 3, 0, [7, 13, 271, 1]), (11, .ifCond .ne 6, 3, 0, [8, 17]),
  (14, .bipush (-2), 2, 0, [4294967294]), (16, .ireturn, 1, 2, [1]), (17, .aload_n 0, 1, 0, []), (18, .getfield 31, 3, 0, [8, 3, 419, 0]), (21, .aload_n 0, 1, 0, []), (22, .getfield 21, 3, 0, [8, 1, 417, 0]),
  (25, .aload_n 0, 1, 0, []), (26, .getfield 21, 3, 0, [8, 1, 417, 0]), (29, .getfield 85, 3, 0, [7, 0, 246, 1]), (32, .getfield 109, 3, 0, [5, 6, 151, 1]), (35, .invokevirtual 280, 3, 1, [212, 3, 1, 5, 982, 95, 979, 980, 981, 0]), (38, .aload_n 0, 1, 0, []),
  (39, .getfield 45, 3, 0, [8, 5, 421, 0]), (42, .invokevirtual 236, 3, 1, [173, 1, 2, 1, 899, 97, 896, 897, 898, 0]), (45, .iconst 0, 1, 0, [0]), (46, .istore_n 1, 1, 0, []), (47, .iload_n 1, 1, 0, []), (48, .bipush 12, 2, 0, [12]),
  (50, .if_icmp .ge 37, 3, 0, [41, 87]), (53, .aload_n 0, 1, 0, []), (54, .getfield 31, 3, 0, [8, 3, 419, 0]), (57, .aload_n 0, 1, 0, []), (58, .getfield 21, 3, 0, [8, 1, 417, 0]), (61, .iload_n 1, 1, 0, []),
  (62, .aload_n 0, 1, 0, []), (63, .getfield 59, 3, 0, [8, 7, 423, 0]), (66, .invokevirtual 295, 3, 1, [224, 4, 1, 4, 1010, 95, 1007, 1008, 1009, 0]), (69, .aload_n 0, 1, 0, []), (70, .getfield 45, 3, 0, [8, 5, 421, 0]), (73, .aload_n 0, 1, 0, []),
  (74, .getfield 59, 3, 0, [8, 7, 423, 0]), (77, .iload_n 1, 1, 0, []), (78, .invokevirtual 239, 3, 1, [174, 3, 2, 7, 903, 97, 900, 901, 902, 0]), (81, .iinc 1 1, 3, 0, []), (84, .goto (-37), 3, 0, [22, 47]), (87, .aload_n 0, 1, 0, []),
  (88, .getfield 45, 3, 0, [8, 5, 421, 0]), (91, .getfield 243, 3, 0, [1, 0, 389, 1]), (94, .ireturn, 1, 2, [1])]
noncomputable def mt_228 : mm_M := (⟨"DeafArray", "farthest", "()I"⟩, prog_1_method_39_code, 2, (some (.int)), 5, 120, 8, 0, false)
/-- DeafArrayModel.farthest()I -/
noncomputable def cd_229 : List mm_E := [
  (0, .aload_n 0, 1, 0, []), (1, .invokevirtual 352, 3, 1, [215, 1, 10, 1, 1660, 99, 1657, 1659, 73, 0]), (4, .ifCond .ne 6, 3, 0, [5, 10]), (7, .bipush (-2), 2, 0, [4294967294]), (9, .ireturn, 1, 2, [1]), (10, .iconst (-1), 1, 0, [4294967295]),
  (11, .istore_n 1, 1, 0, []), (12, .lconst 0, 1, 0, [0]), (13, .lstore_n 2, 1, 0, []), (14, .lconst 0, 1, 0, [0]), (15, .lstore 4, 2, 0, []), (17, .iconst 0, 1, 0, [0]),
  (18, .istore 6, 2, 0, []), (20, .iload 6, 2, 0, []), (22, .bipush 12, 2, 0, [12]), (24, .if_icmp .ge 56, 3, 0, [43, 80]), (27, .aload_n 0, 1, 0, []), (28, .iload 6, 2, 0, []),
  (30, .invokevirtual 358, 3, 1, [226, 2, 10, 3, 1685, 99, 1682, 1684, 76, 0]), (33, .iload_n 1, 1, 0, []), (34, .iconst (-1), 1, 0, [4294967295]), (35, .if_icmp .eq 25, 3, 0, [33, 60]), (38, .aload_n 0, 1, 0, []), (39, .getfield 89, 3, 0, [9, 3, 1222, 0]),
  (42, .lload_n 2, 1, 0, []), (43, .lsub, 1, 0, []), (44, .aload_n 0, 1, 0, []), (45, .getfield 93, 3, 0, [9, 4, 1223, 0]), (48, .lload 4, 2, 0, []), (50, .lsub, 1, 0, []),
  (51, .invokestatic 312, 3, 1, [148, 2, 0, 10, 1580, 99, 1578, 1579, 0, 0]), (54, .ifCond .gt 6, 3, 0, [33, 60]), (57, .goto 17, 3, 0, [41, 74]), (60, .iload 6, 2, 0, []), (62, .istore_n 1, 1, 0, []), (63, .aload_n 0, 1, 0, []),
  (64, .getfield 89, 3, 0, [9, 3, 1222, 0]), (67, .lstore_n 2, 1, 0, []), (68, .aload_n 0, 1, 0, []), (69, .getfield 93, 3, 0, [9, 4, 1223, 0]), (72, .lstore 4, 2, 0, []), (74, .iinc 6 1, 3, 0, []),
  (77, .goto (-57), 3, 0, [13, 20]), (80, .iload_n 1, 1, 0, []), (81, .ireturn, 1, 2, [1])]
noncomputable def mt_229 : mm_M := (⟨"DeafArrayModel", "farthest", "()I"⟩, prog_11_method_84_code, 7, (some (.int)), 9, 213, 9, 0, false)
/-- DeafArray.within(I)I -/
noncomputable def cd_230 : List mm_E := [
  (0, .aload_n 0, 1, 0, []), (1, .invokevirtual 140, 3, 1, [100, 1, 9, 1, 664, 89, 661, 663, 12, 0]), (4, .aload_n 0, 1, 0, []), (5, .getfield 21, 3, 0, [8, 1, 417, 0]), (8, .getfield 156, 3, 0, [7, 13, 271, 1]), (11, .ifCond .eq 10, 3, 0, [9, 21]),
  (14, .iload_n 1, 1, 0, []), (15, .invokestatic 137, 3, 1, [71, 1, 0, 1, 656, 89, 654, 655, 0, 0]), (18, .ifCond .ne 6, 3, 0, [11, 24]), (21, .bipush (-2), 2, 0, [4294967294]), (23, .ireturn, 1, 2, [1]), (24, .aload_n 0, 1, 0, []),
  (25, .getfield 31, 3, 0, [8, 3, 419, 0]), (28, .aload_n 0, 1, 0, []), (29, .getfield 21, 3, 0, [8, 1, 417, 0]), (32, .aload_n 0, 1, 0, []), (33, .getfield 21, 3, 0, [8, 1, 417, 0]), (36, .getfield 85, 3, 0, [7, 0, 246, 1]),
  (39, .getfield 109, 3, 0, [5, 6, 151, 1]), (42, .invokevirtual 280, 3, 1, [212, 3, 1, 5, 982, 95, 979, 980, 981, 0]), (45, .aload_n 0, 1, 0, []), (46, .getfield 31, 3, 0, [8, 3, 419, 0]), (49, .aload_n 0, 1, 0, []), (50, .getfield 21, 3, 0, [8, 1, 417, 0]),
  (53, .iload_n 1, 1, 0, []), (54, .aload_n 0, 1, 0, []), (55, .getfield 59, 3, 0, [8, 7, 423, 0]), (58, .invokevirtual 295, 3, 1, [224, 4, 1, 4, 1010, 95, 1007, 1008, 1009, 0]), (61, .iconst 2, 1, 0, [2]), (62, .aload_n 0, 1, 0, []),
  (63, .getfield 21, 3, 0, [8, 1, 417, 0]), (66, .getfield 85, 3, 0, [7, 0, 246, 1]), (69, .invokevirtual 105, 3, 1, [58, 1, 6, 1, 618, 91, 615, 616, 617, 0]), (72, .imul, 1, 0, []), (73, .i2l, 1, 0, []), (74, .aload_n 0, 1, 0, []),
  (75, .getfield 21, 3, 0, [8, 1, 417, 0]), (78, .getfield 165, 3, 0, [7, 16, 279, 1]), (81, .lmul, 1, 0, []), (82, .lstore_n 2, 1, 0, []), (83, .aload_n 0, 1, 0, []), (84, .getfield 59, 3, 0, [8, 7, 423, 0]),
  (87, .invokevirtual 229, 3, 1, [97, 1, 4, 1, 766, 94, 882, 764, 765, 0]), (90, .lload_n 2, 1, 0, []), (91, .lload_n 2, 1, 0, []), (92, .lmul, 1, 0, []), (93, .lsub, 1, 0, []), (94, .aload_n 0, 1, 0, []),
  (95, .getfield 59, 3, 0, [8, 7, 423, 0]), (98, .invokevirtual 231, 3, 1, [98, 1, 4, 1, 770, 94, 883, 768, 769, 0]), (101, .invokestatic 299, 3, 1, [144, 2, 0, 12, 835, 89, 1028, 834, 0, 0]), (104, .ifCond .gt 7, 3, 0, [54, 111]), (107, .iconst 1, 1, 0, [1]), (108, .goto 4, 3, 0, [55, 112]),
  (111, .iconst 0, 1, 0, [0]), (112, .ireturn, 1, 2, [1])]
noncomputable def mt_230 : mm_M := (⟨"DeafArray", "within", "(I)I"⟩, prog_1_method_40_code, 4, (some (.int)), 5, 120, 8, 1, false)
/-- DeafArrayModel.within(I)I -/
noncomputable def cd_231 : List mm_E := [
  (0, .iload_n 1, 1, 0, []), (1, .invokestatic 291, 3, 1, [73, 1, 0, 1, 1444, 99, 1442, 1443, 0, 0]), (4, .ifCond .eq 10, 3, 0, [6, 14]), (7, .aload_n 0, 1, 0, []), (8, .invokevirtual 352, 3, 1, [215, 1, 10, 1, 1660, 99, 1657, 1659, 73, 0]), (11, .ifCond .ne 6, 3, 0, [8, 17]),
  (14, .bipush (-2), 2, 0, [4294967294]), (16, .ireturn, 1, 2, [1]), (17, .aload_n 0, 1, 0, []), (18, .iload_n 1, 1, 0, []), (19, .invokevirtual 358, 3, 1, [226, 2, 10, 3, 1685, 99, 1682, 1684, 76, 0]), (22, .ldc2_w 96, 3, 0, [2, 0, 1553]),
  (25, .aload_n 0, 1, 0, []), (26, .invokevirtual 282, 3, 1, [62, 1, 10, 3, 1421, 99, 1418, 1420, 43, 0]), (29, .i2l, 1, 0, []), (30, .lmul, 1, 0, []), (31, .aload_n 0, 1, 0, []), (32, .getfield 158, 3, 0, [9, 16, 1235, 0]),
  (35, .lmul, 1, 0, []), (36, .lstore_n 2, 1, 0, []), (37, .aload_n 0, 1, 0, []), (38, .getfield 89, 3, 0, [9, 3, 1222, 0]), (41, .lload_n 2, 1, 0, []), (42, .lload_n 2, 1, 0, []),
  (43, .lmul, 1, 0, []), (44, .lsub, 1, 0, []), (45, .aload_n 0, 1, 0, []), (46, .getfield 93, 3, 0, [9, 4, 1223, 0]), (49, .invokestatic 312, 3, 1, [148, 2, 0, 10, 1580, 99, 1578, 1579, 0, 0]), (52, .ifCond .gt 7, 3, 0, [32, 59]),
  (55, .iconst 1, 1, 0, [1]), (56, .goto 4, 3, 0, [33, 60]), (59, .iconst 0, 1, 0, [0]), (60, .ireturn, 1, 2, [1])]
noncomputable def mt_231 : mm_M := (⟨"DeafArrayModel", "within", "(I)I"⟩, prog_11_method_85_code, 4, (some (.int)), 9, 213, 9, 1, false)
/-- DeafArray$Cutter.deafAtMost(LDeafArray$Solver;III)Z -/
noncomputable def cd_232 : List mm_E := [
  (0, .aload_n 1, 1, 0, []), (1, .getfield 31, 3, 0, [7, 0, 245, 1]), (4, .astore 5, 2, 0, []), (6, .iconst 0, 1, 0, [0]), (7, .istore 6, 2, 0, []), (9, .iload 6, 2, 0, []),
  (11, .aload 5, 2, 0, []), (13, .getfield 97, 3, 0, [5, 5, 145, 1]), (16, .if_icmp .ge 69, 3, 0, [46, 85]), (19, .aload 5, 2, 0, []), (21, .aload_n 0, 1, 0, []), (22, .getfield 15, 3, 0, [0, 0, 325, 0]),
  (25, .aload 5, 2, 0, []), (27, .getfield 100, 3, 0, [5, 1, 131, 1]), (30, .iload 6, 2, 0, []), (32, .iaload, 1, 0, []), (33, .aload_n 0, 1, 0, []), (34, .getfield 27, 3, 0, [0, 2, 328, 0]),
  (37, .invokevirtual 79, 3, 1, [96, 4, 6, 5, 761, 91, 1011, 759, 760, 0]), (40, .iload 4, 2, 0, []), (42, .i2l, 1, 0, []), (43, .aload_n 0, 1, 0, []), (44, .getfield 27, 3, 0, [0, 2, 328, 0]), (47, .invokevirtual 104, 3, 1, [97, 1, 4, 1, 766, 94, 1037, 764, 765, 0]),
  (50, .lmul, 1, 0, []), (51, .iload_n 3, 1, 0, []), (52, .i2l, 1, 0, []), (53, .iload_n 2, 1, 0, []), (54, .i2l, 1, 0, []), (55, .lmul, 1, 0, []),
  (56, .iload_n 2, 1, 0, []), (57, .i2l, 1, 0, []), (58, .lmul, 1, 0, []), (59, .lsub, 1, 0, []), (60, .iload 4, 2, 0, []), (62, .i2l, 1, 0, []),
  (63, .aload_n 0, 1, 0, []), (64, .getfield 27, 3, 0, [0, 2, 328, 0]), (67, .invokevirtual 108, 3, 1, [98, 1, 4, 1, 770, 94, 1038, 768, 769, 0]), (70, .lmul, 1, 0, []), (71, .invokestatic 111, 3, 1, [144, 2, 0, 12, 835, 89, 1039, 834, 0, 1]), (74, .ifCond .le 5, 3, 0, [44, 79]),
  (77, .iconst 0, 1, 0, [0]), (78, .ireturn, 1, 2, [2]), (79, .iinc 6 1, 3, 0, []), (82, .goto (-73), 3, 0, [5, 9]), (85, .iconst 1, 1, 0, [1]), (86, .ireturn, 1, 2, [2])]
noncomputable def mt_232 : mm_M := (⟨"DeafArray$Cutter", "deafAtMost", "(LDeafArray$Solver;III)Z"⟩, prog_2_method_6_code, 7, (some (.boolean)), 2, 55, 0, 4, false)
/-- DeafArray.coarsest(II)I -/
noncomputable def cd_233 : List mm_E := [
  (0, .aload_n 0, 1, 0, []), (1, .invokevirtual 140, 3, 1, [100, 1, 9, 1, 664, 89, 661, 663, 12, 0]), (4, .aload_n 0, 1, 0, []), (5, .getfield 21, 3, 0, [8, 1, 417, 0]), (8, .getfield 156, 3, 0, [7, 13, 271, 1]), (11, .ifCond .eq 11, 3, 0, [10, 22]),
  (14, .iload_n 1, 1, 0, []), (15, .iload_n 2, 1, 0, []), (16, .invokestatic 201, 3, 1, [154, 2, 0, 2, 852, 89, 850, 851, 0, 0]), (19, .ifCond .ne 6, 3, 0, [12, 25]), (22, .bipush (-2), 2, 0, [4294967294]), (24, .ireturn, 1, 2, [1]),
  (25, .iconst 1, 1, 0, [1]), (26, .istore_n 3, 1, 0, []), (27, .iload_n 3, 1, 0, []), (28, .bipush 99, 2, 0, [99]), (30, .if_icmp .gt 40, 3, 0, [36, 70]), (33, .aload_n 0, 1, 0, []),
  (34, .getfield 31, 3, 0, [8, 3, 419, 0]), (37, .aload_n 0, 1, 0, []), (38, .getfield 21, 3, 0, [8, 1, 417, 0]), (41, .iload_n 3, 1, 0, []), (42, .invokevirtual 280, 3, 1, [212, 3, 1, 5, 982, 95, 979, 980, 981, 0]), (45, .aload_n 0, 1, 0, []),
  (46, .getfield 31, 3, 0, [8, 3, 419, 0]), (49, .aload_n 0, 1, 0, []), (50, .getfield 21, 3, 0, [8, 1, 417, 0]), (53, .iload_n 3, 1, 0, []), (54, .iload_n 1, 1, 0, []), (55, .iload_n 2, 1, 0, []),
  (56, .invokevirtual 303, 3, 1, [232, 5, 1, 7, 1036, 95, 1033, 1034, 1035, 0]), (59, .ifCond .eq 5, 3, 0, [34, 64]), (62, .iload_n 3, 1, 0, []), (63, .ireturn, 1, 2, [1]), (64, .iinc 3 1, 3, 0, []), (67, .goto (-40), 3, 0, [14, 27]),
  (70, .iconst (-1), 1, 0, [4294967295]), (71, .ireturn, 1, 2, [1])]
noncomputable def mt_233 : mm_M := (⟨"DeafArray", "coarsest", "(II)I"⟩, prog_1_method_41_code, 4, (some (.int)), 5, 120, 8, 2, false)
/-- DeafArrayModel.coarsest(II)I -/
noncomputable def cd_234 : List mm_E := [
  (0, .iload_n 1, 1, 0, []), (1, .iload_n 2, 1, 0, []), (2, .invokestatic 333, 3, 1, [159, 2, 0, 2, 1611, 99, 1609, 1610, 0, 0]), (5, .ifCond .eq 10, 3, 0, [7, 15]), (8, .aload_n 0, 1, 0, []), (9, .invokevirtual 294, 3, 1, [118, 1, 10, 1, 1453, 99, 1450, 1452, 47, 0]),
  (12, .ifCond .ne 6, 3, 0, [9, 18]), (15, .bipush (-2), 2, 0, [4294967294]), (17, .ireturn, 1, 2, [1]), (18, .iconst 1, 1, 0, [1]), (19, .istore_n 3, 1, 0, []), (20, .iload_n 3, 1, 0, []),
  (21, .bipush 99, 2, 0, [99]), (23, .if_icmp .gt 106, 3, 0, [73, 129]), (26, .aload_n 0, 1, 0, []), (27, .iload_n 3, 1, 0, []), (28, .invokevirtual 349, 3, 1, [214, 2, 10, 4, 1664, 99, 1661, 1663, 74, 0]), (31, .iconst 1, 1, 0, [1]),
  (32, .istore 4, 2, 0, []), (34, .iconst 0, 1, 0, [0]), (35, .istore 5, 2, 0, []), (37, .iload 5, 2, 0, []), (39, .aload_n 0, 1, 0, []), (40, .getfield 18, 3, 0, [9, 5, 1224, 0]),
  (43, .bipush 13, 2, 0, [13]), (45, .iaload, 1, 0, []), (46, .if_icmp .ge 70, 3, 0, [67, 116]), (49, .iload 4, 2, 0, []), (51, .ifCond .eq 65, 3, 0, [67, 116]), (54, .aload_n 0, 1, 0, []),
  (55, .aload_n 0, 1, 0, []), (56, .getfield 18, 3, 0, [9, 5, 1224, 0]), (59, .bipush 14, 2, 0, [14]), (61, .iload 5, 2, 0, []), (63, .iadd, 1, 0, []), (64, .iaload, 1, 0, []),
  (65, .invokevirtual 355, 3, 1, [218, 2, 10, 3, 1673, 99, 1670, 1672, 75, 0]), (68, .aload_n 0, 1, 0, []), (69, .bipush 87, 2, 0, [87]), (71, .invokevirtual 305, 3, 1, [137, 2, 10, 3, 1557, 99, 1554, 1556, 64, 0]), (74, .aload_n 0, 1, 0, []), (75, .getfield 89, 3, 0, [9, 3, 1222, 0]),
  (78, .iload_n 2, 1, 0, []), (79, .i2l, 1, 0, []), (80, .lmul, 1, 0, []), (81, .iload_n 1, 1, 0, []), (82, .i2l, 1, 0, []), (83, .iload_n 3, 1, 0, []),
  (84, .i2l, 1, 0, []), (85, .lmul, 1, 0, []), (86, .iload_n 3, 1, 0, []), (87, .i2l, 1, 0, []), (88, .lmul, 1, 0, []), (89, .lsub, 1, 0, []),
  (90, .aload_n 0, 1, 0, []), (91, .getfield 93, 3, 0, [9, 4, 1223, 0]), (94, .iload_n 2, 1, 0, []), (95, .i2l, 1, 0, []), (96, .lmul, 1, 0, []), (97, .invokestatic 312, 3, 1, [148, 2, 0, 10, 1580, 99, 1578, 1579, 0, 0]),
  (100, .ifCond .gt 7, 3, 0, [63, 107]), (103, .iconst 1, 1, 0, [1]), (104, .goto 4, 3, 0, [64, 108]), (107, .iconst 0, 1, 0, [0]), (108, .istore 4, 2, 0, []), (110, .iinc 5 1, 3, 0, []),
  (113, .goto (-76), 3, 0, [21, 37]), (116, .iload 4, 2, 0, []), (118, .ifCond .eq 5, 3, 0, [71, 123]), (121, .iload_n 3, 1, 0, []), (122, .ireturn, 1, 2, [1]), (123, .iinc 3 1, 3, 0, []),
  (126, .goto (-106), 3, 0, [11, 20]), (129, .iconst (-1), 1, 0, [4294967295]), (130, .ireturn, 1, 2, [1])]
noncomputable def mt_234 : mm_M := (⟨"DeafArrayModel", "coarsest", "(II)I"⟩, prog_11_method_86_code, 6, (some (.int)), 8, 193, 9, 2, false)
/-- DeafArray$Cutter.hearDeaf(LDeafArray$Solver;)V -/
noncomputable def cd_235 : List mm_E := [
  (0, .aload_n 1, 1, 0, []), (1, .getfield 31, 3, 0, [7, 0, 245, 1]), (4, .astore_n 2, 1, 0, []), (5, .aload_n 0, 1, 0, []), (6, .lconst 0, 1, 0, [0]), (7, .putfield 115, 3, 0, [0, 3, 329, 0]),
  (10, .aload_n 0, 1, 0, []), (11, .lconst 0, 1, 0, [0]), (12, .putfield 118, 3, 0, [0, 4, 331, 0]), (15, .iconst 0, 1, 0, [0]), (16, .istore_n 3, 1, 0, []), (17, .iload_n 3, 1, 0, []),
  (18, .aload_n 2, 1, 0, []), (19, .getfield 97, 3, 0, [5, 5, 145, 1]), (22, .if_icmp .ge 65, 3, 0, [49, 87]), (25, .aload_n 2, 1, 0, []), (26, .aload_n 0, 1, 0, []), (27, .getfield 15, 3, 0, [0, 0, 325, 0]),
  (30, .aload_n 2, 1, 0, []), (31, .getfield 100, 3, 0, [5, 1, 131, 1]), (34, .iload_n 3, 1, 0, []), (35, .iaload, 1, 0, []), (36, .aload_n 0, 1, 0, []), (37, .getfield 21, 3, 0, [0, 1, 327, 0]),
  (40, .iload_n 3, 1, 0, []), (41, .aaload, 1, 0, []), (42, .invokevirtual 79, 3, 1, [96, 4, 6, 5, 761, 91, 1011, 759, 760, 0]), (45, .aload_n 0, 1, 0, []), (46, .dup, 1, 0, []), (47, .getfield 115, 3, 0, [0, 3, 329, 0]),
  (50, .aload_n 0, 1, 0, []), (51, .getfield 21, 3, 0, [0, 1, 327, 0]), (54, .iload_n 3, 1, 0, []), (55, .aaload, 1, 0, []), (56, .invokevirtual 104, 3, 1, [97, 1, 4, 1, 766, 94, 1037, 764, 765, 0]), (59, .ladd, 1, 0, []),
  (60, .putfield 115, 3, 0, [0, 3, 329, 0]), (63, .aload_n 0, 1, 0, []), (64, .dup, 1, 0, []), (65, .getfield 118, 3, 0, [0, 4, 331, 0]), (68, .aload_n 0, 1, 0, []), (69, .getfield 21, 3, 0, [0, 1, 327, 0]),
  (72, .iload_n 3, 1, 0, []), (73, .aaload, 1, 0, []), (74, .invokevirtual 108, 3, 1, [98, 1, 4, 1, 770, 94, 1038, 768, 769, 0]), (77, .ladd, 1, 0, []), (78, .putfield 118, 3, 0, [0, 4, 331, 0]), (81, .iinc 3 1, 3, 0, []),
  (84, .goto (-67), 3, 0, [11, 17]), (87, .return_, 1, 2, [0])]
noncomputable def mt_235 : mm_M := (⟨"DeafArray$Cutter", "hearDeaf", "(LDeafArray$Solver;)V"⟩, prog_2_method_7_code, 4, none, 2, 55, 0, 1, false)
/-- DeafArray$Cutter.rootOfStep(LDeafArray$Plan;IIII)I -/
noncomputable def cd_236 : List mm_E := [
  (0, .iload 4, 2, 0, []), (2, .ifCond .ge 8, 3, 0, [4, 10]), (5, .bipush 6, 2, 0, [6]), (7, .goto 4, 3, 0, [5, 11]), (10, .iconst 0, 1, 0, [0]), (11, .istore 5, 2, 0, []),
  (13, .iload_n 3, 1, 0, []), (14, .aload_n 0, 1, 0, []), (15, .getfield 100, 3, 0, [5, 1, 131, 1]), (18, .iload_n 1, 1, 0, []), (19, .iaload, 1, 0, []), (20, .aload_n 0, 1, 0, []),
  (21, .getfield 156, 3, 0, [5, 0, 127, 1]), (24, .iload_n 2, 1, 0, []), (25, .iaload, 1, 0, []), (26, .imul, 1, 0, []), (27, .iadd, 1, 0, []), (28, .iload 5, 2, 0, []),
  (30, .iadd, 1, 0, []), (31, .ireturn, 1, 2, [1])]
noncomputable def mt_236 : mm_M := (⟨"DeafArray$Cutter", "rootOfStep", "(LDeafArray$Plan;IIII)I"⟩, prog_2_method_10_code, 6, (some (.int)), 0, 0, 0, 5, false)
/-- DeafArray$Cutter.tryStep(LDeafArray$Plan;III)V -/
noncomputable def cd_237 : List mm_E := [
  (0, .lconst 0, 1, 0, [0]), (1, .lstore 5, 2, 0, []), (3, .lconst 0, 1, 0, [0]), (4, .lstore 7, 2, 0, []), (6, .iconst 0, 1, 0, [0]), (7, .istore 9, 2, 0, []),
  (9, .iload 9, 2, 0, []), (11, .aload_n 1, 1, 0, []), (12, .getfield 97, 3, 0, [5, 5, 145, 1]), (15, .if_icmp .ge 64, 3, 0, [40, 79]), (18, .aload_n 0, 1, 0, []), (19, .getfield 27, 3, 0, [0, 2, 328, 0]),
  (22, .aload_n 0, 1, 0, []), (23, .getfield 21, 3, 0, [0, 1, 327, 0]), (26, .iload 9, 2, 0, []), (28, .aaload, 1, 0, []), (29, .invokevirtual 138, 3, 1, [91, 2, 4, 2, 744, 94, 1057, 742, 743, 0]), (32, .aload_n 0, 1, 0, []),
  (33, .getfield 27, 3, 0, [0, 2, 328, 0]), (36, .aload_n 1, 1, 0, []), (37, .iload 9, 2, 0, []), (39, .iload_n 2, 1, 0, []), (40, .iload_n 3, 1, 0, []), (41, .iload 4, 2, 0, []),
  (43, .invokestatic 142, 3, 1, [236, 5, 0, 6, 1060, 95, 1058, 1059, 0, 0]), (46, .invokevirtual 146, 3, 1, [77, 2, 4, 3, 689, 94, 1061, 687, 688, 0]), (49, .lload 5, 2, 0, []), (51, .aload_n 0, 1, 0, []), (52, .getfield 27, 3, 0, [0, 2, 328, 0]), (55, .invokevirtual 104, 3, 1, [97, 1, 4, 1, 766, 94, 1037, 764, 765, 0]),
  (58, .ladd, 1, 0, []), (59, .lstore 5, 2, 0, []), (61, .lload 7, 2, 0, []), (63, .aload_n 0, 1, 0, []), (64, .getfield 27, 3, 0, [0, 2, 328, 0]), (67, .invokevirtual 108, 3, 1, [98, 1, 4, 1, 770, 94, 1038, 768, 769, 0]),
  (70, .ladd, 1, 0, []), (71, .lstore 7, 2, 0, []), (73, .iinc 9 1, 3, 0, []), (76, .goto (-67), 3, 0, [6, 9]), (79, .lload 5, 2, 0, []), (81, .aload_n 0, 1, 0, []),
  (82, .getfield 124, 3, 0, [0, 8, 339, 0]), (85, .lsub, 1, 0, []), (86, .lload 7, 2, 0, []), (88, .aload_n 0, 1, 0, []), (89, .getfield 127, 3, 0, [0, 9, 340, 0]), (92, .lsub, 1, 0, []),
  (93, .invokestatic 111, 3, 1, [144, 2, 0, 12, 835, 89, 1039, 834, 0, 1]), (96, .ifCond .ge 31, 3, 0, [65, 127]), (99, .aload_n 0, 1, 0, []), (100, .iload_n 2, 1, 0, []), (101, .putfield 121, 3, 0, [0, 5, 333, 0]), (104, .aload_n 0, 1, 0, []),
  (105, .iload_n 3, 1, 0, []), (106, .putfield 150, 3, 0, [0, 6, 335, 0]), (109, .aload_n 0, 1, 0, []), (110, .iload 4, 2, 0, []), (112, .putfield 153, 3, 0, [0, 7, 337, 0]), (115, .aload_n 0, 1, 0, []),
  (116, .lload 5, 2, 0, []), (118, .putfield 124, 3, 0, [0, 8, 339, 0]), (121, .aload_n 0, 1, 0, []), (122, .lload 7, 2, 0, []), (124, .putfield 127, 3, 0, [0, 9, 340, 0]), (127, .return_, 1, 2, [0])]
noncomputable def mt_237 : mm_M := (⟨"DeafArray$Cutter", "tryStep", "(LDeafArray$Plan;III)V"⟩, prog_2_method_9_code, 10, none, 2, 52, 0, 4, false)
/-- DeafArray$Cutter.seekStep(LDeafArray$Plan;)Z -/
noncomputable def cd_238 : List mm_E := [
  (0, .aload_n 0, 1, 0, []), (1, .iconst (-1), 1, 0, [4294967295]), (2, .putfield 121, 3, 0, [0, 5, 333, 0]), (5, .aload_n 0, 1, 0, []), (6, .aload_n 0, 1, 0, []), (7, .getfield 115, 3, 0, [0, 3, 329, 0]),
  (10, .putfield 124, 3, 0, [0, 8, 339, 0]), (13, .aload_n 0, 1, 0, []), (14, .aload_n 0, 1, 0, []), (15, .getfield 118, 3, 0, [0, 4, 331, 0]), (18, .putfield 127, 3, 0, [0, 9, 340, 0]), (21, .iconst 0, 1, 0, [0]),
  (22, .istore_n 2, 1, 0, []), (23, .iload_n 2, 1, 0, []), (24, .aload_n 1, 1, 0, []), (25, .getfield 35, 3, 0, [5, 2, 133, 1]), (28, .if_icmp .ge 46, 3, 0, [42, 74]), (31, .aload_n 1, 1, 0, []),
  (32, .iload_n 2, 1, 0, []), (33, .invokevirtual 130, 3, 1, [67, 2, 6, 2, 649, 91, 1052, 647, 648, 0]), (36, .ifCond .eq 32, 3, 0, [40, 68]), (39, .iconst 0, 1, 0, [0]), (40, .istore_n 3, 1, 0, []), (41, .iload_n 3, 1, 0, []),
  (42, .iconst 4, 1, 0, [4]), (43, .if_icmp .ge 25, 3, 0, [40, 68]), (46, .aload_n 0, 1, 0, []), (47, .aload_n 1, 1, 0, []), (48, .iload_n 2, 1, 0, []), (49, .iload_n 3, 1, 0, []),
  (50, .iconst 1, 1, 0, [1]), (51, .invokevirtual 134, 3, 1, [237, 5, 1, 10, 1056, 95, 1053, 1055, 25, 0]), (54, .aload_n 0, 1, 0, []), (55, .aload_n 1, 1, 0, []), (56, .iload_n 2, 1, 0, []), (57, .iload_n 3, 1, 0, []),
  (58, .iconst (-1), 1, 0, [4294967295]), (59, .invokevirtual 134, 3, 1, [237, 5, 1, 10, 1056, 95, 1053, 1055, 25, 0]), (62, .iinc 3 1, 3, 0, []), (65, .goto (-24), 3, 0, [23, 41]), (68, .iinc 2 1, 3, 0, []), (71, .goto (-48), 3, 0, [13, 23]),
  (74, .aload_n 0, 1, 0, []), (75, .getfield 121, 3, 0, [0, 5, 333, 0]), (78, .iconst (-1), 1, 0, [4294967295]), (79, .if_icmp .eq 7, 3, 0, [48, 86]), (82, .iconst 1, 1, 0, [1]), (83, .goto 4, 3, 0, [49, 87]),
  (86, .iconst 0, 1, 0, [0]), (87, .ireturn, 1, 2, [2])]
noncomputable def mt_238 : mm_M := (⟨"DeafArray$Cutter", "seekStep", "(LDeafArray$Plan;)Z"⟩, prog_2_method_8_code, 4, (some (.boolean)), 3, 81, 0, 1, false)
/-- DeafArray.step(I)I -/
noncomputable def cd_239 : List mm_E := [
  (0, .aload_n 0, 1, 0, []), (1, .invokevirtual 140, 3, 1, [100, 1, 9, 1, 664, 89, 661, 663, 12, 0]), (4, .aload_n 0, 1, 0, []), (5, .getfield 21, 3, 0, [8, 1, 417, 0]), (8, .getfield 156, 3, 0, [7, 13, 271, 1]), (11, .ifCond .eq 11, 3, 0, [10, 22]),
  (14, .iload_n 1, 1, 0, []), (15, .iconst 3, 1, 0, [3]), (16, .invokestatic 126, 3, 1, [65, 2, 0, 2, 644, 89, 645, 643, 0, 0]), (19, .ifCond .ne 6, 3, 0, [12, 25]), (22, .bipush (-2), 2, 0, [4294967294]), (24, .ireturn, 1, 2, [1]),
  (25, .aload_n 0, 1, 0, []), (26, .getfield 31, 3, 0, [8, 3, 419, 0]), (29, .aload_n 0, 1, 0, []), (30, .getfield 21, 3, 0, [8, 1, 417, 0]), (33, .aload_n 0, 1, 0, []), (34, .getfield 21, 3, 0, [8, 1, 417, 0]),
  (37, .getfield 85, 3, 0, [7, 0, 246, 1]), (40, .getfield 109, 3, 0, [5, 6, 151, 1]), (43, .invokevirtual 280, 3, 1, [212, 3, 1, 5, 982, 95, 979, 980, 981, 0]), (46, .aload_n 0, 1, 0, []), (47, .getfield 31, 3, 0, [8, 3, 419, 0]), (50, .aload_n 0, 1, 0, []),
  (51, .getfield 21, 3, 0, [8, 1, 417, 0]), (54, .invokevirtual 307, 3, 1, [235, 2, 1, 4, 1047, 95, 1044, 1045, 1046, 0]), (57, .aload_n 0, 1, 0, []), (58, .getfield 31, 3, 0, [8, 3, 419, 0]), (61, .aload_n 0, 1, 0, []), (62, .getfield 21, 3, 0, [8, 1, 417, 0]),
  (65, .getfield 85, 3, 0, [7, 0, 246, 1]), (68, .invokevirtual 311, 3, 1, [238, 2, 1, 4, 1051, 95, 1048, 1049, 1050, 0]), (71, .ifCond .ne 5, 3, 0, [35, 76]), (74, .iconst (-1), 1, 0, [4294967295]), (75, .ireturn, 1, 2, [1]), (76, .iload_n 1, 1, 0, []),
  (77, .ifCond .ne 11, 3, 0, [41, 88]), (80, .aload_n 0, 1, 0, []), (81, .getfield 31, 3, 0, [8, 3, 419, 0]), (84, .getfield 315, 3, 0, [0, 5, 334, 1]), (87, .ireturn, 1, 2, [1]), (88, .iload_n 1, 1, 0, []),
  (89, .iconst 1, 1, 0, [1]), (90, .if_icmp .ne 13, 3, 0, [48, 103]), (93, .aload_n 0, 1, 0, []), (94, .getfield 31, 3, 0, [8, 3, 419, 0]), (97, .getfield 318, 3, 0, [0, 6, 336, 1]), (100, .goto 10, 3, 0, [51, 110]),
  (103, .aload_n 0, 1, 0, []), (104, .getfield 31, 3, 0, [8, 3, 419, 0]), (107, .getfield 321, 3, 0, [0, 7, 338, 1]), (110, .ireturn, 1, 2, [1])]
noncomputable def mt_239 : mm_M := (⟨"DeafArray", "step", "(I)I"⟩, prog_1_method_42_code, 2, (some (.int)), 5, 120, 8, 1, false)
/-- DeafArrayModel.laysDeafPowers()V -/
noncomputable def cd_240 : List mm_E := [
  (0, .aload_n 0, 1, 0, []), (1, .lconst 0, 1, 0, [0]), (2, .putfield 361, 3, 0, [9, 32, 1251, 0]), (5, .aload_n 0, 1, 0, []), (6, .lconst 0, 1, 0, [0]), (7, .putfield 364, 3, 0, [9, 33, 1252, 0]),
  (10, .iconst 0, 1, 0, [0]), (11, .istore_n 1, 1, 0, []), (12, .iload_n 1, 1, 0, []), (13, .aload_n 0, 1, 0, []), (14, .getfield 18, 3, 0, [9, 5, 1224, 0]), (17, .bipush 13, 2, 0, [13]),
  (19, .iaload, 1, 0, []), (20, .if_icmp .ge 54, 3, 0, [41, 74]), (23, .aload_n 0, 1, 0, []), (24, .aload_n 0, 1, 0, []), (25, .getfield 18, 3, 0, [9, 5, 1224, 0]), (28, .bipush 14, 2, 0, [14]),
  (30, .iload_n 1, 1, 0, []), (31, .iadd, 1, 0, []), (32, .iaload, 1, 0, []), (33, .invokevirtual 355, 3, 1, [218, 2, 10, 3, 1673, 99, 1670, 1672, 75, 0]), (36, .aload_n 0, 1, 0, []), (37, .bipush 87, 2, 0, [87]),
  (39, .invokevirtual 305, 3, 1, [137, 2, 10, 3, 1557, 99, 1554, 1556, 64, 0]), (42, .aload_n 0, 1, 0, []), (43, .dup, 1, 0, []), (44, .getfield 361, 3, 0, [9, 32, 1251, 0]), (47, .aload_n 0, 1, 0, []), (48, .getfield 89, 3, 0, [9, 3, 1222, 0]),
  (51, .ladd, 1, 0, []), (52, .putfield 361, 3, 0, [9, 32, 1251, 0]), (55, .aload_n 0, 1, 0, []), (56, .dup, 1, 0, []), (57, .getfield 364, 3, 0, [9, 33, 1252, 0]), (60, .aload_n 0, 1, 0, []),
  (61, .getfield 93, 3, 0, [9, 4, 1223, 0]), (64, .ladd, 1, 0, []), (65, .putfield 364, 3, 0, [9, 33, 1252, 0]), (68, .iinc 1 1, 3, 0, []), (71, .goto (-59), 3, 0, [8, 12]), (74, .return_, 1, 2, [0])]
noncomputable def mt_240 : mm_M := (⟨"DeafArrayModel", "laysDeafPowers", "()V"⟩, prog_11_method_87_code, 2, none, 4, 99, 9, 0, false)
/-- DeafArrayModel.bestStep()I -/
noncomputable def cd_241 : List mm_E := [
  (0, .aload_n 0, 1, 0, []), (1, .invokevirtual 367, 3, 1, [240, 1, 10, 2, 1709, 99, 1706, 1708, 78, 0]), (4, .aload_n 0, 1, 0, []), (5, .getfield 361, 3, 0, [9, 32, 1251, 0]), (8, .lstore_n 1, 1, 0, []), (9, .aload_n 0, 1, 0, []),
  (10, .getfield 364, 3, 0, [9, 33, 1252, 0]), (13, .lstore_n 3, 1, 0, []), (14, .iconst (-1), 1, 0, [4294967295]), (15, .istore 5, 2, 0, []), (17, .iconst 0, 1, 0, [0]), (18, .istore 6, 2, 0, []),
  (20, .iload 6, 2, 0, []), (22, .bipush 8, 2, 0, [8]), (24, .aload_n 0, 1, 0, []), (25, .getfield 18, 3, 0, [9, 5, 1224, 0]), (28, .iconst 1, 1, 0, [1]), (29, .iaload, 1, 0, []),
  (30, .imul, 1, 0, []), (31, .if_icmp .ge 123, 3, 0, [90, 154]), (34, .iload 6, 2, 0, []), (36, .bipush 8, 2, 0, [8]), (38, .idiv, 1, 0, []), (39, .istore 7, 2, 0, []),
  (41, .iconst 4, 1, 0, [4]), (42, .bipush 82, 2, 0, [82]), (44, .iload 7, 2, 0, []), (46, .iadd, 1, 0, []), (47, .imul, 1, 0, []), (48, .iload 6, 2, 0, []),
  (50, .iconst 2, 1, 0, [2]), (51, .idiv, 1, 0, []), (52, .iconst 4, 1, 0, [4]), (53, .irem, 1, 0, []), (54, .iadd, 1, 0, []), (55, .istore 8, 2, 0, []),
  (57, .iload 6, 2, 0, []), (59, .iconst 2, 1, 0, [2]), (60, .irem, 1, 0, []), (61, .ifCond .ne 7, 3, 0, [42, 68]), (64, .iconst 1, 1, 0, [1]), (65, .goto 4, 3, 0, [43, 69]),
  (68, .iconst (-1), 1, 0, [4294967295]), (69, .istore 9, 2, 0, []), (71, .aload_n 0, 1, 0, []), (72, .iload 7, 2, 0, []), (74, .invokevirtual 114, 3, 1, [61, 2, 10, 2, 1425, 99, 1422, 1424, 44, 0]), (77, .ifCond .eq 6, 3, 0, [49, 83]),
  (80, .goto 68, 3, 0, [88, 148]), (83, .aload_n 0, 1, 0, []), (84, .getfield 11, 3, 0, [9, 1, 1220, 0]), (87, .iload 8, 2, 0, []), (89, .dup2, 1, 0, []), (90, .laload, 1, 0, []),
  (91, .iload 9, 2, 0, []), (93, .i2l, 1, 0, []), (94, .ladd, 1, 0, []), (95, .lastore, 1, 0, []), (96, .aload_n 0, 1, 0, []), (97, .invokevirtual 367, 3, 1, [240, 1, 10, 2, 1709, 99, 1706, 1708, 78, 0]),
  (100, .aload_n 0, 1, 0, []), (101, .getfield 11, 3, 0, [9, 1, 1220, 0]), (104, .iload 8, 2, 0, []), (106, .dup2, 1, 0, []), (107, .laload, 1, 0, []), (108, .iload 9, 2, 0, []),
  (110, .i2l, 1, 0, []), (111, .lsub, 1, 0, []), (112, .lastore, 1, 0, []), (113, .aload_n 0, 1, 0, []), (114, .getfield 361, 3, 0, [9, 32, 1251, 0]), (117, .lload_n 1, 1, 0, []),
  (118, .lsub, 1, 0, []), (119, .aload_n 0, 1, 0, []), (120, .getfield 364, 3, 0, [9, 33, 1252, 0]), (123, .lload_n 3, 1, 0, []), (124, .lsub, 1, 0, []), (125, .invokestatic 312, 3, 1, [148, 2, 0, 10, 1580, 99, 1578, 1579, 0, 0]),
  (128, .ifCond .lt 6, 3, 0, [80, 134]), (131, .goto 17, 3, 0, [88, 148]), (134, .iload 6, 2, 0, []), (136, .istore 5, 2, 0, []), (138, .aload_n 0, 1, 0, []), (139, .getfield 361, 3, 0, [9, 32, 1251, 0]),
  (142, .lstore_n 1, 1, 0, []), (143, .aload_n 0, 1, 0, []), (144, .getfield 364, 3, 0, [9, 33, 1252, 0]), (147, .lstore_n 3, 1, 0, []), (148, .iinc 6 1, 3, 0, []), (151, .goto (-131), 3, 0, [12, 20]),
  (154, .aload_n 0, 1, 0, []), (155, .lload_n 1, 1, 0, []), (156, .putfield 361, 3, 0, [9, 32, 1251, 0]), (159, .aload_n 0, 1, 0, []), (160, .lload_n 3, 1, 0, []), (161, .putfield 364, 3, 0, [9, 33, 1252, 0]),
  (164, .iload 5, 2, 0, []), (166, .ireturn, 1, 2, [1])]
noncomputable def mt_241 : mm_M := (⟨"DeafArrayModel", "bestStep", "()I"⟩, prog_11_method_88_code, 10, (some (.int)), 5, 120, 9, 0, false)
/-- DeafArrayModel.step(I)I -/
noncomputable def cd_242 : List mm_E := [
  (0, .iload_n 1, 1, 0, []), (1, .i2l, 1, 0, []), (2, .lconst 0, 1, 0, [0]), (3, .ldc2_w 96, 3, 0, [2, 0, 1553]), (6, .invokestatic 108, 3, 1, [16, 3, 0, 6, 1347, 99, 1345, 1346, 0, 0]), (9, .ifCond .eq 10, 3, 0, [9, 19]),
  (12, .aload_n 0, 1, 0, []), (13, .invokevirtual 352, 3, 1, [215, 1, 10, 1, 1660, 99, 1657, 1659, 73, 0]), (16, .ifCond .ne 6, 3, 0, [11, 22]), (19, .bipush (-2), 2, 0, [4294967294]), (21, .ireturn, 1, 2, [1]), (22, .aload_n 0, 1, 0, []),
  (23, .invokevirtual 370, 3, 1, [241, 1, 10, 10, 1705, 99, 1702, 1704, 77, 0]), (26, .istore_n 2, 1, 0, []), (27, .iload_n 2, 1, 0, []), (28, .iconst (-1), 1, 0, [4294967295]), (29, .if_icmp .ne 5, 3, 0, [19, 34]), (32, .iconst (-1), 1, 0, [4294967295]),
  (33, .ireturn, 1, 2, [1]), (34, .iload_n 1, 1, 0, []), (35, .ifCond .ne 10, 3, 0, [25, 45]), (38, .iload_n 2, 1, 0, []), (39, .bipush 8, 2, 0, [8]), (41, .idiv, 1, 0, []),
  (42, .goto 27, 3, 0, [41, 69]), (45, .iload_n 1, 1, 0, []), (46, .iconst 1, 1, 0, [1]), (47, .if_icmp .ne 11, 3, 0, [34, 58]), (50, .iload_n 2, 1, 0, []), (51, .iconst 2, 1, 0, [2]),
  (52, .idiv, 1, 0, []), (53, .iconst 4, 1, 0, [4]), (54, .irem, 1, 0, []), (55, .goto 14, 3, 0, [41, 69]), (58, .iload_n 2, 1, 0, []), (59, .iconst 2, 1, 0, [2]),
  (60, .irem, 1, 0, []), (61, .ifCond .ne 7, 3, 0, [40, 68]), (64, .iconst 1, 1, 0, [1]), (65, .goto 4, 3, 0, [41, 69]), (68, .iconst (-1), 1, 0, [4294967295]), (69, .ireturn, 1, 2, [1])]
noncomputable def mt_242 : mm_M := (⟨"DeafArrayModel", "step", "(I)I"⟩, prog_11_method_89_code, 3, (some (.int)), 9, 213, 9, 1, false)
/-- DeafArray$Cutter.losesNothing(LDeafArray$Solver;I)Z -/
noncomputable def cd_243 : List mm_E := [
  (0, .aload_n 1, 1, 0, []), (1, .getfield 48, 3, 0, [7, 16, 276, 1]), (4, .lconst 0, 1, 0, [0]), (5, .lcmp, 1, 0, []), (6, .ifCond .ne 5, 3, 0, [7, 11]), (9, .iconst 0, 1, 0, [0]),
  (10, .ireturn, 1, 2, [2]), (11, .iconst 0, 1, 0, [0]), (12, .istore_n 3, 1, 0, []), (13, .iload_n 3, 1, 0, []), (14, .aload_n 1, 1, 0, []), (15, .getfield 31, 3, 0, [7, 0, 245, 1]),
  (18, .getfield 35, 3, 0, [5, 2, 133, 1]), (21, .if_icmp .ge 50, 3, 0, [40, 71]), (24, .iconst 0, 1, 0, [0]), (25, .istore 4, 2, 0, []), (27, .iload 4, 2, 0, []), (29, .iconst 4, 1, 0, [4]),
  (30, .if_icmp .ge 35, 3, 0, [38, 65]), (33, .aload_n 1, 1, 0, []), (34, .getfield 41, 3, 0, [7, 5, 255, 1]), (37, .iload_n 3, 1, 0, []), (38, .aaload, 1, 0, []), (39, .iload 4, 2, 0, []),
  (41, .invokevirtual 75, 3, 1, [124, 2, 4, 2, 795, 94, 1070, 793, 794, 0]), (44, .iload_n 2, 1, 0, []), (45, .i2l, 1, 0, []), (46, .lmul, 1, 0, []), (47, .aload_n 1, 1, 0, []), (48, .getfield 48, 3, 0, [7, 16, 276, 1]),
  (51, .lrem, 1, 0, []), (52, .lconst 0, 1, 0, [0]), (53, .lcmp, 1, 0, []), (54, .ifCond .eq 5, 3, 0, [36, 59]), (57, .iconst 0, 1, 0, [0]), (58, .ireturn, 1, 2, [2]),
  (59, .iinc 4 1, 3, 0, []), (62, .goto (-35), 3, 0, [16, 27]), (65, .iinc 3 1, 3, 0, []), (68, .goto (-55), 3, 0, [9, 13]), (71, .iconst 1, 1, 0, [1]), (72, .ireturn, 1, 2, [2])]
noncomputable def mt_243 : mm_M := (⟨"DeafArray$Cutter", "losesNothing", "(LDeafArray$Solver;I)Z"⟩, prog_2_method_4_code, 5, (some (.boolean)), 1, 21, 0, 2, false)
/-- DeafArray.exactly()I -/
noncomputable def cd_244 : List mm_E := [
  (0, .aload_n 0, 1, 0, []), (1, .invokevirtual 140, 3, 1, [100, 1, 9, 1, 664, 89, 661, 663, 12, 0]), (4, .aload_n 0, 1, 0, []), (5, .getfield 21, 3, 0, [8, 1, 417, 0]), (8, .getfield 156, 3, 0, [7, 13, 271, 1]), (11, .ifCond .ne 6, 3, 0, [8, 17]),
  (14, .bipush (-2), 2, 0, [4294967294]), (16, .ireturn, 1, 2, [1]), (17, .iconst 1, 1, 0, [1]), (18, .istore_n 1, 1, 0, []), (19, .iload_n 1, 1, 0, []), (20, .bipush 99, 2, 0, [99]),
  (22, .if_icmp .gt 26, 3, 0, [24, 48]), (25, .aload_n 0, 1, 0, []), (26, .getfield 31, 3, 0, [8, 3, 419, 0]), (29, .aload_n 0, 1, 0, []), (30, .getfield 21, 3, 0, [8, 1, 417, 0]), (33, .iload_n 1, 1, 0, []),
  (34, .invokevirtual 324, 3, 1, [243, 3, 1, 5, 1069, 95, 1066, 1067, 1068, 0]), (37, .ifCond .eq 5, 3, 0, [22, 42]), (40, .iload_n 1, 1, 0, []), (41, .ireturn, 1, 2, [1]), (42, .iinc 1 1, 3, 0, []), (45, .goto (-26), 3, 0, [10, 19]),
  (48, .iconst (-1), 1, 0, [4294967295]), (49, .ireturn, 1, 2, [1])]
noncomputable def mt_244 : mm_M := (⟨"DeafArray", "exactly", "()I"⟩, prog_1_method_43_code, 2, (some (.int)), 5, 120, 8, 0, false)
/-- DeafArrayModel.exactly()I -/
noncomputable def cd_245 : List mm_E := [
  (0, .aload_n 0, 1, 0, []), (1, .invokevirtual 294, 3, 1, [118, 1, 10, 1, 1453, 99, 1450, 1452, 47, 0]), (4, .ifCond .ne 6, 3, 0, [5, 10]), (7, .bipush (-2), 2, 0, [4294967294]), (9, .ireturn, 1, 2, [1]), (10, .iconst 1, 1, 0, [1]),
  (11, .istore_n 1, 1, 0, []), (12, .iload_n 1, 1, 0, []), (13, .bipush 99, 2, 0, [99]), (15, .if_icmp .gt 64, 3, 0, [46, 79]), (18, .iconst 1, 1, 0, [1]), (19, .istore_n 2, 1, 0, []),
  (20, .iconst 0, 1, 0, [0]), (21, .istore_n 3, 1, 0, []), (22, .iload_n 3, 1, 0, []), (23, .aload_n 0, 1, 0, []), (24, .getfield 118, 3, 0, [9, 8, 1227, 0]), (27, .if_icmp .ge 40, 3, 0, [40, 67]),
  (30, .iload_n 2, 1, 0, []), (31, .ifCond .eq 28, 3, 0, [36, 59]), (34, .iload_n 1, 1, 0, []), (35, .i2l, 1, 0, []), (36, .aload_n 0, 1, 0, []), (37, .bipush 62, 2, 0, [62]),
  (39, .iload_n 3, 1, 0, []), (40, .iadd, 1, 0, []), (41, .aload_n 0, 1, 0, []), (42, .getfield 158, 3, 0, [9, 16, 1235, 0]), (45, .iconst 4, 1, 0, [4]), (46, .invokevirtual 301, 3, 1, [131, 4, 10, 8, 1540, 99, 1537, 1539, 63, 0]),
  (49, .lrem, 1, 0, []), (50, .lconst 0, 1, 0, [0]), (51, .lcmp, 1, 0, []), (52, .ifCond .ne 7, 3, 0, [36, 59]), (55, .iconst 1, 1, 0, [1]), (56, .goto 4, 3, 0, [37, 60]),
  (59, .iconst 0, 1, 0, [0]), (60, .istore_n 2, 1, 0, []), (61, .iinc 3 1, 3, 0, []), (64, .goto (-42), 3, 0, [14, 22]), (67, .iload_n 2, 1, 0, []), (68, .ifCond .eq 5, 3, 0, [44, 73]),
  (71, .iload_n 1, 1, 0, []), (72, .ireturn, 1, 2, [1]), (73, .iinc 1 1, 3, 0, []), (76, .goto (-64), 3, 0, [7, 12]), (79, .iconst (-1), 1, 0, [4294967295]), (80, .ireturn, 1, 2, [1])]
noncomputable def mt_245 : mm_M := (⟨"DeafArrayModel", "exactly", "()I"⟩, prog_11_method_91_code, 4, (some (.int)), 8, 193, 9, 0, false)
/-- DeafArray$Cutter.takeStep(LDeafArray$Plan;)V -/
noncomputable def cd_246 : List mm_E := [
  (0, .iconst 0, 1, 0, [0]), (1, .istore_n 2, 1, 0, []), (2, .iload_n 2, 1, 0, []), (3, .aload_n 1, 1, 0, []), (4, .getfield 97, 3, 0, [5, 5, 145, 1]), (7, .if_icmp .ge 35, 3, 0, [22, 42]),
  (10, .aload_n 0, 1, 0, []), (11, .getfield 21, 3, 0, [0, 1, 327, 0]), (14, .iload_n 2, 1, 0, []), (15, .aaload, 1, 0, []), (16, .aload_n 1, 1, 0, []), (17, .iload_n 2, 1, 0, []),
  (18, .aload_n 0, 1, 0, []), (19, .getfield 121, 3, 0, [0, 5, 333, 0]), (22, .aload_n 0, 1, 0, []), (23, .getfield 150, 3, 0, [0, 6, 335, 0]), (26, .aload_n 0, 1, 0, []), (27, .getfield 153, 3, 0, [0, 7, 337, 0]),
  (30, .invokestatic 142, 3, 1, [236, 5, 0, 6, 1060, 95, 1058, 1059, 0, 0]), (33, .invokevirtual 146, 3, 1, [77, 2, 4, 3, 689, 94, 1061, 687, 688, 0]), (36, .iinc 2 1, 3, 0, []), (39, .goto (-37), 3, 0, [2, 2]), (42, .aload_n 0, 1, 0, []), (43, .aload_n 0, 1, 0, []),
  (44, .getfield 124, 3, 0, [0, 8, 339, 0]), (47, .putfield 115, 3, 0, [0, 3, 329, 0]), (50, .aload_n 0, 1, 0, []), (51, .aload_n 0, 1, 0, []), (52, .getfield 127, 3, 0, [0, 9, 340, 0]), (55, .putfield 118, 3, 0, [0, 4, 331, 0]),
  (58, .return_, 1, 2, [0])]
noncomputable def mt_246 : mm_M := (⟨"DeafArray$Cutter", "takeStep", "(LDeafArray$Plan;)V"⟩, prog_2_method_11_code, 3, none, 1, 25, 0, 1, false)
/-- DeafArray.polish(II)J -/
noncomputable def cd_247 : List mm_E := [
  (0, .aload_n 0, 1, 0, []), (1, .invokevirtual 140, 3, 1, [100, 1, 9, 1, 664, 89, 661, 663, 12, 0]), (4, .aload_n 0, 1, 0, []), (5, .getfield 21, 3, 0, [8, 1, 417, 0]), (8, .getfield 156, 3, 0, [7, 13, 271, 1]), (11, .ifCond .eq 22, 3, 0, [16, 33]),
  (14, .iload_n 1, 1, 0, []), (15, .iconst 1, 1, 0, [1]), (16, .if_icmp .lt 17, 3, 0, [16, 33]), (19, .iload_n 1, 1, 0, []), (20, .bipush 20, 2, 0, [20]), (22, .if_icmp .gt 11, 3, 0, [16, 33]),
  (25, .iload_n 2, 1, 0, []), (26, .iconst 3, 1, 0, [3]), (27, .invokestatic 126, 3, 1, [65, 2, 0, 2, 644, 89, 645, 643, 0, 0]), (30, .ifCond .ne 7, 3, 0, [18, 37]), (33, .ldc2_w 159, 3, 0, [9223372036854775808, 0, 783]), (36, .lreturn, 1, 2, [3]),
  (37, .aload_n 0, 1, 0, []), (38, .getfield 31, 3, 0, [8, 3, 419, 0]), (41, .aload_n 0, 1, 0, []), (42, .getfield 21, 3, 0, [8, 1, 417, 0]), (45, .aload_n 0, 1, 0, []), (46, .getfield 21, 3, 0, [8, 1, 417, 0]),
  (49, .getfield 85, 3, 0, [7, 0, 246, 1]), (52, .getfield 109, 3, 0, [5, 6, 151, 1]), (55, .invokevirtual 280, 3, 1, [212, 3, 1, 5, 982, 95, 979, 980, 981, 0]), (58, .aload_n 0, 1, 0, []), (59, .getfield 31, 3, 0, [8, 3, 419, 0]), (62, .aload_n 0, 1, 0, []),
  (63, .getfield 21, 3, 0, [8, 1, 417, 0]), (66, .invokevirtual 307, 3, 1, [235, 2, 1, 4, 1047, 95, 1044, 1045, 1046, 0]), (69, .iconst 0, 1, 0, [0]), (70, .istore_n 3, 1, 0, []), (71, .iload_n 3, 1, 0, []), (72, .iload_n 1, 1, 0, []),
  (73, .if_icmp .ge 40, 3, 0, [52, 113]), (76, .aload_n 0, 1, 0, []), (77, .getfield 31, 3, 0, [8, 3, 419, 0]), (80, .aload_n 0, 1, 0, []), (81, .getfield 21, 3, 0, [8, 1, 417, 0]), (84, .getfield 85, 3, 0, [7, 0, 246, 1]),
  (87, .invokevirtual 311, 3, 1, [238, 2, 1, 4, 1051, 95, 1048, 1049, 1050, 0]), (90, .ifCond .eq 23, 3, 0, [52, 113]), (93, .aload_n 0, 1, 0, []), (94, .getfield 31, 3, 0, [8, 3, 419, 0]), (97, .aload_n 0, 1, 0, []), (98, .getfield 21, 3, 0, [8, 1, 417, 0]),
  (101, .getfield 85, 3, 0, [7, 0, 246, 1]), (104, .invokevirtual 328, 3, 1, [246, 2, 1, 3, 1078, 95, 1075, 1076, 1077, 0]), (107, .iinc 3 1, 3, 0, []), (110, .goto (-39), 3, 0, [34, 71]), (113, .iload_n 2, 1, 0, []), (114, .ifCond .ne 6, 3, 0, [57, 120]),
  (117, .iload_n 3, 1, 0, []), (118, .i2l, 1, 0, []), (119, .lreturn, 1, 2, [3]), (120, .iload_n 2, 1, 0, []), (121, .iconst 1, 1, 0, [1]), (122, .if_icmp .ne 13, 3, 0, [64, 135]),
  (125, .aload_n 0, 1, 0, []), (126, .getfield 31, 3, 0, [8, 3, 419, 0]), (129, .getfield 331, 3, 0, [0, 3, 330, 1]), (132, .goto 10, 3, 0, [67, 142]), (135, .aload_n 0, 1, 0, []), (136, .getfield 31, 3, 0, [8, 3, 419, 0]),
  (139, .getfield 334, 3, 0, [0, 4, 332, 1]), (142, .lreturn, 1, 2, [3])]
noncomputable def mt_247 : mm_M := (⟨"DeafArray", "polish", "(II)J"⟩, prog_1_method_44_code, 4, (some (.long)), 5, 120, 8, 2, false)
/-- DeafArrayModel.polish(II)J -/
noncomputable def cd_248 : List mm_E := [
  (0, .iload_n 1, 1, 0, []), (1, .i2l, 1, 0, []), (2, .lconst 1, 1, 0, [1]), (3, .ldc2_w 373, 3, 0, [20, 0, 1714]), (6, .invokestatic 108, 3, 1, [16, 3, 0, 6, 1347, 99, 1345, 1346, 0, 0]), (9, .ifCond .eq 22, 3, 0, [15, 31]),
  (12, .iload_n 2, 1, 0, []), (13, .i2l, 1, 0, []), (14, .lconst 0, 1, 0, [0]), (15, .ldc2_w 96, 3, 0, [2, 0, 1553]), (18, .invokestatic 108, 3, 1, [16, 3, 0, 6, 1347, 99, 1345, 1346, 0, 0]), (21, .ifCond .eq 10, 3, 0, [15, 31]),
  (24, .aload_n 0, 1, 0, []), (25, .invokevirtual 352, 3, 1, [215, 1, 10, 1, 1660, 99, 1657, 1659, 73, 0]), (28, .ifCond .ne 7, 3, 0, [17, 35]), (31, .ldc2_w 299, 3, 0, [9223372036854775808, 0, 1536]), (34, .lreturn, 1, 2, [3]), (35, .iconst 0, 1, 0, [0]),
  (36, .istore_n 3, 1, 0, []), (37, .aload_n 0, 1, 0, []), (38, .invokevirtual 370, 3, 1, [241, 1, 10, 10, 1705, 99, 1702, 1704, 77, 0]), (41, .istore 4, 2, 0, []), (43, .iload 4, 2, 0, []), (45, .iconst (-1), 1, 0, [4294967295]),
  (46, .if_icmp .eq 59, 3, 0, [59, 105]), (49, .iload_n 3, 1, 0, []), (50, .iload_n 1, 1, 0, []), (51, .if_icmp .ge 54, 3, 0, [59, 105]), (54, .aload_n 0, 1, 0, []), (55, .getfield 11, 3, 0, [9, 1, 1220, 0]),
  (58, .iconst 4, 1, 0, [4]), (59, .bipush 82, 2, 0, [82]), (61, .iload 4, 2, 0, []), (63, .bipush 8, 2, 0, [8]), (65, .idiv, 1, 0, []), (66, .iadd, 1, 0, []),
  (67, .imul, 1, 0, []), (68, .iload 4, 2, 0, []), (70, .iconst 2, 1, 0, [2]), (71, .idiv, 1, 0, []), (72, .iconst 4, 1, 0, [4]), (73, .irem, 1, 0, []),
  (74, .iadd, 1, 0, []), (75, .dup2, 1, 0, []), (76, .laload, 1, 0, []), (77, .iload 4, 2, 0, []), (79, .iconst 2, 1, 0, [2]), (80, .irem, 1, 0, []),
  (81, .ifCond .ne 7, 3, 0, [51, 88]), (84, .lconst 1, 1, 0, [1]), (85, .goto 6, 3, 0, [52, 91]), (88, .ldc2_w 127, 3, 0, [18446744073709551615, 0, 1496]), (91, .ladd, 1, 0, []), (92, .lastore, 1, 0, []),
  (93, .aload_n 0, 1, 0, []), (94, .invokevirtual 370, 3, 1, [241, 1, 10, 10, 1705, 99, 1702, 1704, 77, 0]), (97, .istore 4, 2, 0, []), (99, .iinc 3 1, 3, 0, []), (102, .goto (-59), 3, 0, [22, 43]), (105, .aload_n 0, 1, 0, []),
  (106, .invokevirtual 367, 3, 1, [240, 1, 10, 2, 1709, 99, 1706, 1708, 78, 0]), (109, .iload_n 2, 1, 0, []), (110, .ifCond .ne 8, 3, 0, [66, 118]), (113, .iload_n 3, 1, 0, []), (114, .i2l, 1, 0, []), (115, .goto 19, 3, 0, [74, 134]),
  (118, .iload_n 2, 1, 0, []), (119, .iconst 1, 1, 0, [1]), (120, .if_icmp .ne 10, 3, 0, [72, 130]), (123, .aload_n 0, 1, 0, []), (124, .getfield 361, 3, 0, [9, 32, 1251, 0]), (127, .goto 7, 3, 0, [74, 134]),
  (130, .aload_n 0, 1, 0, []), (131, .getfield 364, 3, 0, [9, 33, 1252, 0]), (134, .lreturn, 1, 2, [3])]
noncomputable def mt_248 : mm_M := (⟨"DeafArrayModel", "polish", "(II)J"⟩, prog_11_method_90_code, 5, (some (.long)), 9, 213, 9, 2, false)
/-- DeafArray$Plan.dropDeaf(I)V -/
noncomputable def cd_249 : List mm_E := [
  (0, .iconst 0, 1, 0, [0]), (1, .istore_n 2, 1, 0, []), (2, .iconst 0, 1, 0, [0]), (3, .istore_n 3, 1, 0, []), (4, .iload_n 3, 1, 0, []), (5, .aload_n 0, 1, 0, []),
  (6, .getfield 28, 3, 0, [5, 5, 143, 0]), (9, .if_icmp .ge 34, 3, 0, [25, 43]), (12, .aload_n 0, 1, 0, []), (13, .getfield 15, 3, 0, [5, 1, 129, 0]), (16, .iload_n 3, 1, 0, []), (17, .iaload, 1, 0, []),
  (18, .iload_n 1, 1, 0, []), (19, .if_icmp .eq 18, 3, 0, [23, 37]), (22, .aload_n 0, 1, 0, []), (23, .getfield 15, 3, 0, [5, 1, 129, 0]), (26, .iload_n 2, 1, 0, []), (27, .aload_n 0, 1, 0, []),
  (28, .getfield 15, 3, 0, [5, 1, 129, 0]), (31, .iload_n 3, 1, 0, []), (32, .iaload, 1, 0, []), (33, .iastore, 1, 0, []), (34, .iinc 2 1, 3, 0, []), (37, .iinc 3 1, 3, 0, []),
  (40, .goto (-36), 3, 0, [4, 4]), (43, .aload_n 0, 1, 0, []), (44, .iload_n 2, 1, 0, []), (45, .putfield 28, 3, 0, [5, 5, 143, 0]), (48, .return_, 1, 2, [0])]
noncomputable def mt_249 : mm_M := (⟨"DeafArray$Plan", "dropDeaf", "(I)V"⟩, prog_7_method_16_code, 4, none, 0, 0, 5, 1, false)
/-- DeafArray$Plan.turnTo(I)V -/
noncomputable def cd_250 : List mm_E := [
  (0, .aload_n 0, 1, 0, []), (1, .iload_n 1, 1, 0, []), (2, .invokevirtual 58, 3, 1, [249, 2, 6, 4, 1094, 91, 1091, 1092, 1093, 0]), (5, .aload_n 0, 1, 0, []), (6, .iload_n 1, 1, 0, []), (7, .putfield 18, 3, 0, [5, 4, 139, 0]),
  (10, .return_, 1, 2, [0])]
noncomputable def mt_250 : mm_M := (⟨"DeafArray$Plan", "turnTo", "(I)V"⟩, prog_7_method_17_code, 2, none, 1, 23, 5, 1, false)
/-- DeafArray.holdsLooking(I)Z -/
noncomputable def cd_251 : List mm_E := [
  (0, .aload_n 0, 1, 0, []), (1, .getfield 25, 3, 0, [8, 2, 418, 0]), (4, .getfield 85, 3, 0, [7, 0, 246, 1]), (7, .aload_n 0, 1, 0, []), (8, .getfield 21, 3, 0, [8, 1, 417, 0]), (11, .getfield 85, 3, 0, [7, 0, 246, 1]),
  (14, .invokevirtual 92, 3, 1, [40, 2, 6, 3, 605, 91, 602, 603, 604, 0]), (17, .aload_n 0, 1, 0, []), (18, .getfield 25, 3, 0, [8, 2, 418, 0]), (21, .getfield 85, 3, 0, [7, 0, 246, 1]), (24, .iload_n 1, 1, 0, []), (25, .invokevirtual 389, 3, 1, [250, 2, 6, 2, 1090, 91, 1087, 1088, 1089, 0]),
  (28, .aload_n 0, 1, 0, []), (29, .getfield 25, 3, 0, [8, 2, 418, 0]), (32, .invokevirtual 359, 3, 1, [95, 1, 8, 1, 668, 92, 665, 666, 667, 0]), (35, .aload_n 0, 1, 0, []), (36, .getfield 25, 3, 0, [8, 2, 418, 0]), (39, .getfield 156, 3, 0, [7, 13, 271, 1]),
  (42, .ireturn, 1, 2, [2])]
noncomputable def mt_251 : mm_M := (⟨"DeafArray", "holdsLooking", "(I)Z"⟩, prog_1_method_63_code, 2, (some (.boolean)), 4, 100, 8, 1, false)
/-- DeafArray.looks()I -/
noncomputable def cd_252 : List mm_E := [
  (0, .iconst 0, 1, 0, [0]), (1, .istore_n 1, 1, 0, []), (2, .iconst 0, 1, 0, [0]), (3, .istore_n 2, 1, 0, []), (4, .iload_n 2, 1, 0, []), (5, .bipush 12, 2, 0, [12]),
  (7, .if_icmp .ge 23, 3, 0, [19, 30]), (10, .aload_n 0, 1, 0, []), (11, .iload_n 2, 1, 0, []), (12, .invokevirtual 337, 3, 1, [251, 2, 9, 2, 1086, 89, 1083, 1085, 26, 0]), (15, .ifCond .eq 9, 3, 0, [17, 24]), (18, .iload_n 1, 1, 0, []),
  (19, .iconst 1, 1, 0, [1]), (20, .iload_n 2, 1, 0, []), (21, .ishl, 1, 0, []), (22, .ior, 1, 0, []), (23, .istore_n 1, 1, 0, []), (24, .iinc 2 1, 3, 0, []),
  (27, .goto (-23), 3, 0, [4, 4]), (30, .iload_n 1, 1, 0, []), (31, .ireturn, 1, 2, [1])]
noncomputable def mt_252 : mm_M := (⟨"DeafArray", "looks", "()I"⟩, prog_1_method_45_code, 3, (some (.int)), 5, 121, 8, 0, false)
/-- DeafArrayModel.looks()I -/
noncomputable def cd_253 : List mm_E := [
  (0, .iconst 0, 1, 0, [0]), (1, .istore_n 1, 1, 0, []), (2, .iconst 0, 1, 0, [0]), (3, .istore_n 2, 1, 0, []), (4, .iload_n 2, 1, 0, []), (5, .bipush 12, 2, 0, [12]),
  (7, .if_icmp .ge 32, 3, 0, [24, 39]), (10, .aload_n 0, 1, 0, []), (11, .iconst 0, 1, 0, [0]), (12, .iload_n 2, 1, 0, []), (13, .invokevirtual 188, 3, 1, [117, 3, 10, 3, 1457, 99, 1454, 1456, 48, 0]), (16, .iload_n 1, 1, 0, []),
  (17, .aload_n 0, 1, 0, []), (18, .getfield 151, 3, 0, [9, 15, 1234, 0]), (21, .ifCond .eq 9, 3, 0, [19, 30]), (24, .iconst 1, 1, 0, [1]), (25, .iload_n 2, 1, 0, []), (26, .ishl, 1, 0, []),
  (27, .goto 4, 3, 0, [20, 31]), (30, .iconst 0, 1, 0, [0]), (31, .ior, 1, 0, []), (32, .istore_n 1, 1, 0, []), (33, .iinc 2 1, 3, 0, []), (36, .goto (-32), 3, 0, [4, 4]),
  (39, .iload_n 1, 1, 0, []), (40, .ireturn, 1, 2, [1])]
noncomputable def mt_253 : mm_M := (⟨"DeafArrayModel", "looks", "()I"⟩, prog_11_method_105_code, 3, (some (.int)), 7, 173, 9, 0, false)
/-- DeafArray$Least.clear()V -/
noncomputable def cd_254 : List mm_E := [
  (0, .aload_n 0, 1, 0, []), (1, .iconst (-1), 1, 0, [4294967295]), (2, .putfield 9, 3, 0, [2, 0, 368, 0]), (5, .return_, 1, 2, [0])]
noncomputable def mt_254 : mm_M := (⟨"DeafArray$Least", "clear", "()V"⟩, prog_4_method_2_code, 1, none, 0, 0, 2, 0, false)
/-- DeafArray$Least.offer(LDeafArray$Solver;I)V -/
noncomputable def cd_255 : List mm_E := [
  (0, .aload_n 0, 1, 0, []), (1, .getfield 9, 3, 0, [2, 0, 368, 0]), (4, .iconst (-1), 1, 0, [4294967295]), (5, .if_icmp .eq 47, 3, 0, [28, 52]), (8, .aload_n 1, 1, 0, []), (9, .invokevirtual 15, 3, 1, [140, 1, 8, 1, 820, 92, 1107, 818, 819, 0]),
  (12, .aload_n 0, 1, 0, []), (13, .getfield 21, 3, 0, [2, 3, 372, 0]), (16, .lmul, 1, 0, []), (17, .aload_n 0, 1, 0, []), (18, .getfield 25, 3, 0, [2, 1, 370, 0]), (21, .aload_n 1, 1, 0, []),
  (22, .getfield 28, 3, 0, [7, 16, 277, 1]), (25, .lmul, 1, 0, []), (26, .lsub, 1, 0, []), (27, .aload_n 1, 1, 0, []), (28, .invokevirtual 29, 3, 1, [141, 1, 8, 1, 824, 92, 1108, 822, 823, 0]), (31, .aload_n 0, 1, 0, []),
  (32, .getfield 21, 3, 0, [2, 3, 372, 0]), (35, .lmul, 1, 0, []), (36, .aload_n 0, 1, 0, []), (37, .getfield 32, 3, 0, [2, 2, 371, 0]), (40, .aload_n 1, 1, 0, []), (41, .getfield 28, 3, 0, [7, 16, 277, 1]),
  (44, .lmul, 1, 0, []), (45, .lsub, 1, 0, []), (46, .invokestatic 35, 3, 1, [144, 2, 0, 12, 835, 89, 1109, 834, 0, 1]), (49, .ifCond .ge 32, 3, 0, [43, 81]), (52, .aload_n 0, 1, 0, []), (53, .iload_n 2, 1, 0, []),
  (54, .putfield 9, 3, 0, [2, 0, 368, 0]), (57, .aload_n 0, 1, 0, []), (58, .aload_n 1, 1, 0, []), (59, .invokevirtual 15, 3, 1, [140, 1, 8, 1, 820, 92, 1107, 818, 819, 0]), (62, .putfield 25, 3, 0, [2, 1, 370, 0]), (65, .aload_n 0, 1, 0, []),
  (66, .aload_n 1, 1, 0, []), (67, .invokevirtual 29, 3, 1, [141, 1, 8, 1, 824, 92, 1108, 822, 823, 0]), (70, .putfield 32, 3, 0, [2, 2, 371, 0]), (73, .aload_n 0, 1, 0, []), (74, .aload_n 1, 1, 0, []), (75, .getfield 28, 3, 0, [7, 16, 277, 1]),
  (78, .putfield 21, 3, 0, [2, 3, 372, 0]), (81, .return_, 1, 2, [0])]
noncomputable def mt_255 : mm_M := (⟨"DeafArray$Least", "offer", "(LDeafArray$Solver;I)V"⟩, prog_4_method_3_code, 3, none, 2, 52, 2, 2, false)
/-- DeafArray.easiest()I -/
noncomputable def cd_256 : List mm_E := [
  (0, .aload_n 0, 1, 0, []), (1, .getfield 38, 3, 0, [8, 4, 420, 0]), (4, .invokevirtual 340, 3, 1, [254, 1, 3, 1, 1102, 96, 1099, 1100, 1101, 0]), (7, .iconst 0, 1, 0, [0]), (8, .istore_n 1, 1, 0, []), (9, .iload_n 1, 1, 0, []),
  (10, .bipush 12, 2, 0, [12]), (12, .if_icmp .ge 29, 3, 0, [20, 41]), (15, .aload_n 0, 1, 0, []), (16, .iload_n 1, 1, 0, []), (17, .invokevirtual 337, 3, 1, [251, 2, 9, 2, 1086, 89, 1083, 1085, 26, 0]), (20, .ifCond .eq 15, 3, 0, [18, 35]),
  (23, .aload_n 0, 1, 0, []), (24, .getfield 38, 3, 0, [8, 4, 420, 0]), (27, .aload_n 0, 1, 0, []), (28, .getfield 25, 3, 0, [8, 2, 418, 0]), (31, .iload_n 1, 1, 0, []), (32, .invokevirtual 341, 3, 1, [255, 3, 3, 3, 1106, 96, 1103, 1104, 1105, 0]),
  (35, .iinc 1 1, 3, 0, []), (38, .goto (-29), 3, 0, [5, 9]), (41, .aload_n 0, 1, 0, []), (42, .getfield 38, 3, 0, [8, 4, 420, 0]), (45, .getfield 343, 3, 0, [2, 0, 369, 1]), (48, .ireturn, 1, 2, [1])]
noncomputable def mt_256 : mm_M := (⟨"DeafArray", "easiest", "()I"⟩, prog_1_method_46_code, 2, (some (.int)), 5, 121, 8, 0, false)
/-- DeafArrayModel.isLess(Z)Z -/
noncomputable def cd_257 : List mm_E := [
  (0, .aload_n 0, 1, 0, []), (1, .getfield 151, 3, 0, [9, 15, 1234, 0]), (4, .ifCond .ne 5, 3, 0, [5, 9]), (7, .iconst 0, 1, 0, [0]), (8, .ireturn, 1, 2, [2]), (9, .iload_n 1, 1, 0, []),
  (10, .ifCond .ne 49, 3, 0, [33, 59]), (13, .aload_n 0, 1, 0, []), (14, .getfield 166, 3, 0, [9, 17, 1236, 0]), (17, .aload_n 0, 1, 0, []), (18, .getfield 390, 3, 0, [9, 36, 1255, 0]), (21, .lmul, 1, 0, []),
  (22, .aload_n 0, 1, 0, []), (23, .getfield 393, 3, 0, [9, 34, 1253, 0]), (26, .aload_n 0, 1, 0, []), (27, .getfield 158, 3, 0, [9, 16, 1235, 0]), (30, .lmul, 1, 0, []), (31, .lsub, 1, 0, []),
  (32, .aload_n 0, 1, 0, []), (33, .getfield 169, 3, 0, [9, 18, 1237, 0]), (36, .aload_n 0, 1, 0, []), (37, .getfield 390, 3, 0, [9, 36, 1255, 0]), (40, .lmul, 1, 0, []), (41, .aload_n 0, 1, 0, []),
  (42, .getfield 396, 3, 0, [9, 35, 1254, 0]), (45, .aload_n 0, 1, 0, []), (46, .getfield 158, 3, 0, [9, 16, 1235, 0]), (49, .lmul, 1, 0, []), (50, .lsub, 1, 0, []), (51, .invokestatic 312, 3, 1, [148, 2, 0, 10, 1580, 99, 1578, 1579, 0, 0]),
  (54, .ifCond .lt 5, 3, 0, [33, 59]), (57, .iconst 0, 1, 0, [0]), (58, .ireturn, 1, 2, [2]), (59, .aload_n 0, 1, 0, []), (60, .aload_n 0, 1, 0, []), (61, .getfield 166, 3, 0, [9, 17, 1236, 0]),
  (64, .putfield 393, 3, 0, [9, 34, 1253, 0]), (67, .aload_n 0, 1, 0, []), (68, .aload_n 0, 1, 0, []), (69, .getfield 169, 3, 0, [9, 18, 1237, 0]), (72, .putfield 396, 3, 0, [9, 35, 1254, 0]), (75, .aload_n 0, 1, 0, []),
  (76, .aload_n 0, 1, 0, []), (77, .getfield 158, 3, 0, [9, 16, 1235, 0]), (80, .putfield 390, 3, 0, [9, 36, 1255, 0]), (83, .iconst 1, 1, 0, [1]), (84, .ireturn, 1, 2, [2])]
noncomputable def mt_257 : mm_M := (⟨"DeafArrayModel", "isLess", "(Z)Z"⟩, prog_11_method_104_code, 2, (some (.boolean)), 1, 29, 9, 1, false)
/-- DeafArrayModel.easiest()I -/
noncomputable def cd_258 : List mm_E := [
  (0, .iconst (-1), 1, 0, [4294967295]), (1, .istore_n 1, 1, 0, []), (2, .iconst 0, 1, 0, [0]), (3, .istore_n 2, 1, 0, []), (4, .iload_n 2, 1, 0, []), (5, .bipush 12, 2, 0, [12]),
  (7, .if_icmp .ge 38, 3, 0, [26, 45]), (10, .aload_n 0, 1, 0, []), (11, .iconst 0, 1, 0, [0]), (12, .iload_n 2, 1, 0, []), (13, .invokevirtual 188, 3, 1, [117, 3, 10, 3, 1457, 99, 1454, 1456, 48, 0]), (16, .aload_n 0, 1, 0, []),
  (17, .iload_n 1, 1, 0, []), (18, .iconst (-1), 1, 0, [4294967295]), (19, .if_icmp .ne 7, 3, 0, [17, 26]), (22, .iconst 1, 1, 0, [1]), (23, .goto 4, 3, 0, [18, 27]), (26, .iconst 0, 1, 0, [0]),
  (27, .invokevirtual 386, 3, 1, [257, 2, 10, 2, 1770, 99, 1767, 1769, 82, 0]), (30, .ifCond .eq 7, 3, 0, [22, 37]), (33, .iload_n 2, 1, 0, []), (34, .goto 4, 3, 0, [23, 38]), (37, .iload_n 1, 1, 0, []), (38, .istore_n 1, 1, 0, []),
  (39, .iinc 2 1, 3, 0, []), (42, .goto (-38), 3, 0, [4, 4]), (45, .iload_n 1, 1, 0, []), (46, .ireturn, 1, 2, [1])]
noncomputable def mt_258 : mm_M := (⟨"DeafArrayModel", "easiest", "()I"⟩, prog_11_method_106_code, 3, (some (.int)), 7, 173, 9, 0, false)
/-- DeafArray.holdsDeafTo(I)Z -/
noncomputable def cd_259 : List mm_E := [
  (0, .aload_n 0, 1, 0, []), (1, .getfield 25, 3, 0, [8, 2, 418, 0]), (4, .getfield 85, 3, 0, [7, 0, 246, 1]), (7, .aload_n 0, 1, 0, []), (8, .getfield 21, 3, 0, [8, 1, 417, 0]), (11, .getfield 85, 3, 0, [7, 0, 246, 1]),
  (14, .invokevirtual 92, 3, 1, [40, 2, 6, 3, 605, 91, 602, 603, 604, 0]), (17, .iconst 0, 1, 0, [0]), (18, .istore_n 2, 1, 0, []), (19, .iload_n 2, 1, 0, []), (20, .bipush 12, 2, 0, [12]), (22, .if_icmp .ge 28, 3, 0, [25, 50]),
  (25, .iload_n 1, 1, 0, []), (26, .iload_n 2, 1, 0, []), (27, .ishr, 1, 0, []), (28, .iconst 1, 1, 0, [1]), (29, .iand, 1, 0, []), (30, .ifCond .eq 14, 3, 0, [23, 44]),
  (33, .aload_n 0, 1, 0, []), (34, .getfield 25, 3, 0, [8, 2, 418, 0]), (37, .getfield 85, 3, 0, [7, 0, 246, 1]), (40, .iload_n 2, 1, 0, []), (41, .invokevirtual 392, 3, 1, [35, 2, 6, 2, 597, 91, 1119, 595, 596, 0]), (44, .iinc 2 1, 3, 0, []),
  (47, .goto (-28), 3, 0, [9, 19]), (50, .aload_n 0, 1, 0, []), (51, .getfield 25, 3, 0, [8, 2, 418, 0]), (54, .invokevirtual 359, 3, 1, [95, 1, 8, 1, 668, 92, 665, 666, 667, 0]), (57, .aload_n 0, 1, 0, []), (58, .getfield 25, 3, 0, [8, 2, 418, 0]),
  (61, .getfield 156, 3, 0, [7, 13, 271, 1]), (64, .ireturn, 1, 2, [2])]
noncomputable def mt_259 : mm_M := (⟨"DeafArray", "holdsDeafTo", "(I)Z"⟩, prog_1_method_64_code, 3, (some (.boolean)), 4, 100, 8, 1, false)
/-- DeafArray.deafer()I -/
noncomputable def cd_260 : List mm_E := [
  (0, .aload_n 0, 1, 0, []), (1, .invokevirtual 140, 3, 1, [100, 1, 9, 1, 664, 89, 661, 663, 12, 0]), (4, .aload_n 0, 1, 0, []), (5, .getfield 21, 3, 0, [8, 1, 417, 0]), (8, .getfield 156, 3, 0, [7, 13, 271, 1]), (11, .ifCond .ne 6, 3, 0, [8, 17]),
  (14, .bipush (-2), 2, 0, [4294967294]), (16, .ireturn, 1, 2, [1]), (17, .aload_n 0, 1, 0, []), (18, .getfield 38, 3, 0, [8, 4, 420, 0]), (21, .invokevirtual 340, 3, 1, [254, 1, 3, 1, 1102, 96, 1099, 1100, 1101, 0]), (24, .aload_n 0, 1, 0, []),
  (25, .getfield 21, 3, 0, [8, 1, 417, 0]), (28, .getfield 85, 3, 0, [7, 0, 246, 1]), (31, .getfield 277, 3, 0, [5, 5, 147, 1]), (34, .iconst 4, 1, 0, [4]), (35, .if_icmp .ne 5, 3, 0, [19, 40]), (38, .iconst (-1), 1, 0, [4294967295]),
  (39, .ireturn, 1, 2, [1]), (40, .aload_n 0, 1, 0, []), (41, .getfield 21, 3, 0, [8, 1, 417, 0]), (44, .getfield 85, 3, 0, [7, 0, 246, 1]), (47, .invokevirtual 344, 3, 1, [32, 1, 6, 1, 584, 91, 1114, 582, 583, 0]), (50, .istore_n 1, 1, 0, []),
  (51, .iconst 0, 1, 0, [0]), (52, .istore_n 2, 1, 0, []), (53, .iload_n 2, 1, 0, []), (54, .bipush 12, 2, 0, [12]), (56, .if_icmp .ge 39, 3, 0, [49, 95]), (59, .iload_n 1, 1, 0, []),
  (60, .iload_n 2, 1, 0, []), (61, .ishr, 1, 0, []), (62, .iconst 1, 1, 0, [1]), (63, .iand, 1, 0, []), (64, .ifCond .ne 25, 3, 0, [47, 89]), (67, .aload_n 0, 1, 0, []),
  (68, .iconst 1, 1, 0, [1]), (69, .iload_n 2, 1, 0, []), (70, .ishl, 1, 0, []), (71, .invokevirtual 347, 3, 1, [259, 2, 9, 3, 1118, 89, 1115, 1117, 27, 0]), (74, .ifCond .eq 15, 3, 0, [47, 89]), (77, .aload_n 0, 1, 0, []),
  (78, .getfield 38, 3, 0, [8, 4, 420, 0]), (81, .aload_n 0, 1, 0, []), (82, .getfield 25, 3, 0, [8, 2, 418, 0]), (85, .iload_n 2, 1, 0, []), (86, .invokevirtual 341, 3, 1, [255, 3, 3, 3, 1106, 96, 1103, 1104, 1105, 0]), (89, .iinc 2 1, 3, 0, []),
  (92, .goto (-39), 3, 0, [26, 53]), (95, .aload_n 0, 1, 0, []), (96, .getfield 38, 3, 0, [8, 4, 420, 0]), (99, .getfield 343, 3, 0, [2, 0, 369, 1]), (102, .ireturn, 1, 2, [1])]
noncomputable def mt_260 : mm_M := (⟨"DeafArray", "deafer", "()I"⟩, prog_1_method_47_code, 3, (some (.int)), 5, 122, 8, 0, false)
/-- DeafArrayModel.deafer()I -/
noncomputable def cd_261 : List mm_E := [
  (0, .aload_n 0, 1, 0, []), (1, .invokevirtual 294, 3, 1, [118, 1, 10, 1, 1453, 99, 1450, 1452, 47, 0]), (4, .ifCond .ne 6, 3, 0, [5, 10]), (7, .bipush (-2), 2, 0, [4294967294]), (9, .ireturn, 1, 2, [1]), (10, .aload_n 0, 1, 0, []),
  (11, .getfield 18, 3, 0, [9, 5, 1224, 0]), (14, .bipush 13, 2, 0, [13]), (16, .iaload, 1, 0, []), (17, .iconst 4, 1, 0, [4]), (18, .if_icmp .ne 5, 3, 0, [13, 23]), (21, .iconst (-1), 1, 0, [4294967295]),
  (22, .ireturn, 1, 2, [1]), (23, .iconst (-1), 1, 0, [4294967295]), (24, .istore_n 1, 1, 0, []), (25, .iconst 0, 1, 0, [0]), (26, .istore_n 2, 1, 0, []), (27, .iload_n 2, 1, 0, []),
  (28, .bipush 12, 2, 0, [12]), (30, .if_icmp .ge 89, 3, 0, [66, 119]), (33, .iload_n 2, 1, 0, []), (34, .aload_n 0, 1, 0, []), (35, .invokevirtual 184, 3, 1, [63, 1, 10, 1, 1429, 99, 1426, 1428, 45, 0]), (38, .if_icmp .eq 75, 3, 0, [64, 113]),
  (41, .aload_n 0, 1, 0, []), (42, .iload_n 2, 1, 0, []), (43, .invokevirtual 322, 3, 1, [182, 2, 10, 3, 1600, 99, 1597, 1599, 69, 0]), (46, .iconst (-1), 1, 0, [4294967295]), (47, .if_icmp .eq 6, 3, 0, [30, 53]), (50, .goto 63, 3, 0, [64, 113]),
  (53, .aload_n 0, 1, 0, []), (54, .iconst 0, 1, 0, [0]), (55, .invokevirtual 175, 3, 1, [102, 2, 10, 3, 1461, 99, 1458, 1460, 49, 0]), (58, .aload_n 0, 1, 0, []), (59, .aload_n 0, 1, 0, []), (60, .invokevirtual 184, 3, 1, [63, 1, 10, 1, 1429, 99, 1426, 1428, 45, 0]),
  (63, .invokevirtual 178, 3, 1, [103, 2, 10, 3, 1465, 99, 1462, 1464, 50, 0]), (66, .aload_n 0, 1, 0, []), (67, .getfield 28, 3, 0, [9, 9, 1228, 0]), (70, .aload_n 0, 1, 0, []), (71, .getfield 132, 3, 0, [9, 10, 1229, 0]), (74, .iload_n 2, 1, 0, []),
  (75, .iastore, 1, 0, []), (76, .aload_n 0, 1, 0, []), (77, .dup, 1, 0, []), (78, .getfield 132, 3, 0, [9, 10, 1229, 0]), (81, .iconst 1, 1, 0, [1]), (82, .iadd, 1, 0, []),
  (83, .putfield 132, 3, 0, [9, 10, 1229, 0]), (86, .aload_n 0, 1, 0, []), (87, .invokevirtual 181, 3, 1, [116, 1, 10, 8, 1469, 99, 1466, 1468, 51, 0]), (90, .aload_n 0, 1, 0, []), (91, .iload_n 1, 1, 0, []), (92, .iconst (-1), 1, 0, [4294967295]),
  (93, .if_icmp .ne 7, 3, 0, [57, 100]), (96, .iconst 1, 1, 0, [1]), (97, .goto 4, 3, 0, [58, 101]), (100, .iconst 0, 1, 0, [0]), (101, .invokevirtual 386, 3, 1, [257, 2, 10, 2, 1770, 99, 1767, 1769, 82, 0]), (104, .ifCond .eq 7, 3, 0, [62, 111]),
  (107, .iload_n 2, 1, 0, []), (108, .goto 4, 3, 0, [63, 112]), (111, .iload_n 1, 1, 0, []), (112, .istore_n 1, 1, 0, []), (113, .iinc 2 1, 3, 0, []), (116, .goto (-89), 3, 0, [17, 27]),
  (119, .iload_n 1, 1, 0, []), (120, .ireturn, 1, 2, [1])]
noncomputable def mt_261 : mm_M := (⟨"DeafArrayModel", "deafer", "()I"⟩, prog_11_method_103_code, 3, (some (.int)), 8, 193, 9, 0, false)
/-- DeafArray.leastSeal(II)I -/
noncomputable def cd_262 : List mm_E := [
  (0, .aload_n 0, 1, 0, []), (1, .getfield 21, 3, 0, [8, 1, 417, 0]), (4, .getfield 85, 3, 0, [7, 0, 246, 1]), (7, .invokevirtual 344, 3, 1, [32, 1, 6, 1, 584, 91, 1114, 582, 583, 0]), (10, .istore_n 3, 1, 0, []), (11, .iconst 0, 1, 0, [0]),
  (12, .istore 4, 2, 0, []), (14, .iload 4, 2, 0, []), (16, .iconst 4, 1, 0, [4]), (17, .aload_n 0, 1, 0, []), (18, .getfield 21, 3, 0, [8, 1, 417, 0]), (21, .getfield 85, 3, 0, [7, 0, 246, 1]),
  (24, .getfield 277, 3, 0, [5, 5, 147, 1]), (27, .isub, 1, 0, []), (28, .if_icmp .gt 67, 3, 0, [44, 95]), (31, .iconst 0, 1, 0, [0]), (32, .istore 5, 2, 0, []), (34, .iload 5, 2, 0, []),
  (36, .sipush 4095, 3, 0, [4095]), (39, .if_icmp .gt 50, 3, 0, [42, 89]), (42, .iload 5, 2, 0, []), (44, .invokestatic 266, 3, 1, [57, 1, 0, 1, 625, 104, 960, 624, 0, 0]), (47, .iload 4, 2, 0, []), (49, .if_icmp .ne 34, 3, 0, [40, 83]),
  (52, .iload 5, 2, 0, []), (54, .iload_n 3, 1, 0, []), (55, .iand, 1, 0, []), (56, .ifCond .ne 27, 3, 0, [40, 83]), (59, .aload_n 0, 1, 0, []), (60, .iload 5, 2, 0, []),
  (62, .invokevirtual 347, 3, 1, [259, 2, 9, 3, 1118, 89, 1115, 1117, 27, 0]), (65, .ifCond .eq 18, 3, 0, [40, 83]), (68, .aload_n 0, 1, 0, []), (69, .getfield 25, 3, 0, [8, 2, 418, 0]), (72, .iload_n 1, 1, 0, []), (73, .iload_n 2, 1, 0, []),
  (74, .invokevirtual 253, 3, 1, [185, 3, 8, 5, 929, 92, 926, 927, 928, 0]), (77, .ifCond .eq 6, 3, 0, [40, 83]), (80, .iload 5, 2, 0, []), (82, .ireturn, 1, 2, [1]), (83, .iinc 5 1, 3, 0, []), (86, .goto (-52), 3, 0, [17, 34]),
  (89, .iinc 4 1, 3, 0, []), (92, .goto (-78), 3, 0, [7, 14]), (95, .iconst (-1), 1, 0, [4294967295]), (96, .ireturn, 1, 2, [1])]
noncomputable def mt_262 : mm_M := (⟨"DeafArray", "leastSeal", "(II)I"⟩, prog_1_method_66_code, 6, (some (.int)), 5, 122, 8, 2, false)
/-- DeafArray.sealed(III)I -/
noncomputable def cd_263 : List mm_E := [
  (0, .aload_n 0, 1, 0, []), (1, .invokevirtual 140, 3, 1, [100, 1, 9, 1, 664, 89, 661, 663, 12, 0]), (4, .aload_n 0, 1, 0, []), (5, .getfield 21, 3, 0, [8, 1, 417, 0]), (8, .getfield 156, 3, 0, [7, 13, 271, 1]), (11, .ifCond .eq 19, 3, 0, [14, 30]),
  (14, .iload_n 1, 1, 0, []), (15, .iload_n 2, 1, 0, []), (16, .invokestatic 201, 3, 1, [154, 2, 0, 2, 852, 89, 850, 851, 0, 0]), (19, .ifCond .eq 11, 3, 0, [14, 30]), (22, .iload_n 3, 1, 0, []), (23, .iconst 2, 1, 0, [2]),
  (24, .invokestatic 126, 3, 1, [65, 2, 0, 2, 644, 89, 645, 643, 0, 0]), (27, .ifCond .ne 6, 3, 0, [16, 33]), (30, .bipush (-2), 2, 0, [4294967294]), (32, .ireturn, 1, 2, [1]), (33, .aload_n 0, 1, 0, []), (34, .iload_n 1, 1, 0, []),
  (35, .iload_n 2, 1, 0, []), (36, .invokevirtual 350, 3, 1, [262, 3, 9, 6, 1127, 89, 1124, 1126, 28, 0]), (39, .istore 4, 2, 0, []), (41, .iload_n 3, 1, 0, []), (42, .iconst 1, 1, 0, [1]), (43, .if_icmp .eq 9, 3, 0, [27, 52]),
  (46, .iload 4, 2, 0, []), (48, .iconst (-1), 1, 0, [4294967295]), (49, .if_icmp .ne 8, 3, 0, [29, 57]), (52, .iload 4, 2, 0, []), (54, .goto 8, 3, 0, [31, 62]), (57, .iload 4, 2, 0, []),
  (59, .invokestatic 266, 3, 1, [57, 1, 0, 1, 625, 104, 960, 624, 0, 0]), (62, .ireturn, 1, 2, [1])]
noncomputable def mt_263 : mm_M := (⟨"DeafArray", "sealed", "(III)I"⟩, prog_1_method_48_code, 5, (some (.int)), 6, 147, 8, 3, false)
/-- DeafArrayModel.isSealed(III)Z -/
noncomputable def cd_264 : List mm_E := [
  (0, .aload_n 0, 1, 0, []), (1, .getfield 151, 3, 0, [9, 15, 1234, 0]), (4, .ifCond .ne 5, 3, 0, [5, 9]), (7, .iconst 0, 1, 0, [0]), (8, .ireturn, 1, 2, [2]), (9, .aload_n 0, 1, 0, []),
  (10, .invokevirtual 316, 3, 1, [147, 1, 10, 2, 1573, 99, 1570, 1572, 66, 0]), (13, .iconst 0, 1, 0, [0]), (14, .istore 4, 2, 0, []), (16, .iload 4, 2, 0, []), (18, .bipush 12, 2, 0, [12]), (20, .if_icmp .ge 40, 3, 0, [32, 60]),
  (23, .iload_n 1, 1, 0, []), (24, .iload 4, 2, 0, []), (26, .ishr, 1, 0, []), (27, .iconst 1, 1, 0, [1]), (28, .iand, 1, 0, []), (29, .ifCond .ne 25, 3, 0, [30, 54]),
  (32, .aload_n 0, 1, 0, []), (33, .iload 4, 2, 0, []), (35, .invokevirtual 328, 3, 1, [183, 2, 10, 2, 1596, 99, 1593, 1595, 68, 0]), (38, .ifCond .eq 16, 3, 0, [30, 54]), (41, .aload_n 0, 1, 0, []), (42, .iload 4, 2, 0, []),
  (44, .iload_n 2, 1, 0, []), (45, .iload_n 3, 1, 0, []), (46, .invokevirtual 375, 3, 1, [160, 4, 10, 4, 1726, 99, 1723, 1725, 79, 0]), (49, .ifCond .le 5, 3, 0, [30, 54]), (52, .iconst 0, 1, 0, [0]), (53, .ireturn, 1, 2, [2]),
  (54, .iinc 4 1, 3, 0, []), (57, .goto (-41), 3, 0, [9, 16]), (60, .iconst 1, 1, 0, [1]), (61, .ireturn, 1, 2, [2])]
noncomputable def mt_264 : mm_M := (⟨"DeafArrayModel", "isSealed", "(III)Z"⟩, prog_11_method_101_code, 5, (some (.boolean)), 5, 120, 9, 3, false)
/-- DeafArrayModel.sealed(III)I -/
noncomputable def cd_265_0 : List mm_E := [
  (0, .iload_n 3, 1, 0, []), (1, .i2l, 1, 0, []), (2, .lconst 0, 1, 0, [0]), (3, .lconst 1, 1, 0, [1]), (4, .invokestatic 108, 3, 1, [16, 3, 0, 6, 1347, 99, 1345, 1346, 0, 0]), (7, .ifCond .eq 18, 3, 0, [13, 25]),
  (10, .iload_n 1, 1, 0, []), (11, .iload_n 2, 1, 0, []), (12, .invokestatic 333, 3, 1, [159, 2, 0, 2, 1611, 99, 1609, 1610, 0, 0]), (15, .ifCond .eq 10, 3, 0, [13, 25]), (18, .aload_n 0, 1, 0, []), (19, .invokevirtual 294, 3, 1, [118, 1, 10, 1, 1453, 99, 1450, 1452, 47, 0]),
  (22, .ifCond .ne 6, 3, 0, [15, 28]), (25, .bipush (-2), 2, 0, [4294967294]), (27, .ireturn, 1, 2, [1]), (28, .iconst (-1), 1, 0, [4294967295]), (29, .istore 4, 2, 0, []), (31, .iconst 0, 1, 0, [0]),
  (32, .istore 5, 2, 0, []), (34, .iload 5, 2, 0, []), (36, .sipush 4096, 3, 0, [4096]), (39, .if_icmp .ge 214, 3, 0, [129, 253]), (42, .iload 5, 2, 0, []), (44, .invokestatic 121, 3, 1, [57, 1, 0, 1, 625, 104, 1495, 624, 0, 0]),
  (47, .istore 6, 2, 0, []), (49, .iload 6, 2, 0, []), (51, .aload_n 0, 1, 0, []), (52, .getfield 18, 3, 0, [9, 5, 1224, 0]), (55, .bipush 13, 2, 0, [13]), (57, .iaload, 1, 0, []),
  (58, .iadd, 1, 0, []), (59, .iconst 4, 1, 0, [4]), (60, .if_icmp .gt 187, 3, 0, [127, 247]), (63, .iload 4, 2, 0, []), (65, .iconst (-1), 1, 0, [4294967295]), (66, .if_icmp .eq 16, 3, 0, [41, 82]),
  (69, .iload 6, 2, 0, []), (71, .iload 4, 2, 0, []), (73, .invokestatic 121, 3, 1, [57, 1, 0, 1, 625, 104, 1495, 624, 0, 0]), (76, .if_icmp .lt 6, 3, 0, [41, 82]), (79, .goto 168, 3, 0, [127, 247]), (82, .iload 5, 2, 0, []),
  (84, .aload_n 0, 1, 0, []), (85, .invokevirtual 184, 3, 1, [63, 1, 10, 1, 1429, 99, 1426, 1428, 45, 0]), (88, .ishr, 1, 0, []), (89, .iconst 1, 1, 0, [1]), (90, .iand, 1, 0, []), (91, .ifCond .ne 7, 3, 0, [50, 98]),
  (94, .iconst 1, 1, 0, [1]), (95, .goto 4, 3, 0, [51, 99]), (98, .iconst 0, 1, 0, [0]), (99, .istore 7, 2, 0, []), (101, .iconst 0, 1, 0, [0]), (102, .istore 8, 2, 0, []),
  (104, .iload 8, 2, 0, []), (106, .aload_n 0, 1, 0, []), (107, .getfield 18, 3, 0, [9, 5, 1224, 0]), (110, .bipush 13, 2, 0, [13]), (112, .iaload, 1, 0, []), (113, .if_icmp .ge 39, 3, 0, [79, 152]),
  (116, .iload 7, 2, 0, []), (118, .ifCond .eq 25, 3, 0, [75, 143]), (121, .iload 5, 2, 0, []), (123, .aload_n 0, 1, 0, []), (124, .getfield 18, 3, 0, [9, 5, 1224, 0]), (127, .bipush 14, 2, 0, [14]),
  (129, .iload 8, 2, 0, []), (131, .iadd, 1, 0, []), (132, .iaload, 1, 0, []), (133, .ishr, 1, 0, []), (134, .iconst 1, 1, 0, [1]), (135, .iand, 1, 0, []),
  (136, .ifCond .ne 7, 3, 0, [75, 143]), (139, .iconst 1, 1, 0, [1]), (140, .goto 4, 3, 0, [76, 144]), (143, .iconst 0, 1, 0, [0]), (144, .istore 7, 2, 0, []), (146, .iinc 8 1, 3, 0, []),
  (149, .goto (-45), 3, 0, [54, 104]), (152, .iload 7, 2, 0, []), (154, .ifCond .ne 6, 3, 0, [82, 160]), (157, .goto 90, 3, 0, [127, 247]), (160, .aload_n 0, 1, 0, []), (161, .iconst 0, 1, 0, [0]),
  (162, .invokevirtual 175, 3, 1, [102, 2, 10, 3, 1461, 99, 1458, 1460, 49, 0]), (165, .aload_n 0, 1, 0, []), (166, .aload_n 0, 1, 0, []), (167, .invokevirtual 184, 3, 1, [63, 1, 10, 1, 1429, 99, 1426, 1428, 45, 0]), (170, .invokevirtual 178, 3, 1, [103, 2, 10, 3, 1465, 99, 1462, 1464, 50, 0]), (173, .iconst 0, 1, 0, [0]),
  (174, .istore 8, 2, 0, []), (176, .iload 8, 2, 0, []), (178, .bipush 12, 2, 0, [12]), (180, .if_icmp .ge 43, 3, 0, [115, 223]), (183, .iload 5, 2, 0, []), (185, .iload 8, 2, 0, []),
  (187, .ishr, 1, 0, []), (188, .iconst 1, 1, 0, [1]), (189, .iand, 1, 0, []), (190, .ifCond .ne 6, 3, 0, [101, 196])]
noncomputable def cd_265_1 : List mm_E := [
  (193, .goto 24, 3, 0, [113, 217]), (196, .aload_n 0, 1, 0, []), (197, .getfield 28, 3, 0, [9, 9, 1228, 0]), (200, .aload_n 0, 1, 0, []), (201, .getfield 132, 3, 0, [9, 10, 1229, 0]), (204, .iload 8, 2, 0, []),
  (206, .iastore, 1, 0, []), (207, .aload_n 0, 1, 0, []), (208, .dup, 1, 0, []), (209, .getfield 132, 3, 0, [9, 10, 1229, 0]), (212, .iconst 1, 1, 0, [1]), (213, .iadd, 1, 0, []),
  (214, .putfield 132, 3, 0, [9, 10, 1229, 0]), (217, .iinc 8 1, 3, 0, []), (220, .goto (-44), 3, 0, [91, 176]), (223, .aload_n 0, 1, 0, []), (224, .invokevirtual 181, 3, 1, [116, 1, 10, 8, 1469, 99, 1466, 1468, 51, 0]), (227, .aload_n 0, 1, 0, []),
  (228, .iload 5, 2, 0, []), (230, .iload_n 1, 1, 0, []), (231, .iload_n 2, 1, 0, []), (232, .invokevirtual 382, 3, 1, [264, 4, 10, 5, 1762, 99, 1759, 1761, 81, 0]), (235, .ifCond .eq 8, 3, 0, [125, 243]), (238, .iload 5, 2, 0, []),
  (240, .goto 5, 3, 0, [126, 245]), (243, .iload 4, 2, 0, []), (245, .istore 4, 2, 0, []), (247, .iinc 5 1, 3, 0, []), (250, .goto (-216), 3, 0, [19, 34]), (253, .iload 4, 2, 0, []),
  (255, .iconst (-1), 1, 0, [4294967295]), (256, .if_icmp .ne 7, 3, 0, [134, 263]), (259, .iconst (-1), 1, 0, [4294967295]), (260, .goto 17, 3, 0, [140, 277]), (263, .iload_n 3, 1, 0, []), (264, .ifCond .ne 11, 3, 0, [139, 275]),
  (267, .iload 4, 2, 0, []), (269, .invokestatic 121, 3, 1, [57, 1, 0, 1, 625, 104, 1495, 624, 0, 0]), (272, .goto 5, 3, 0, [140, 277]), (275, .iload 4, 2, 0, []), (277, .ireturn, 1, 2, [1])]
noncomputable def cd_265 : List mm_E := cd_265_0 ++ (cd_265_1)
noncomputable def mt_265 : mm_M := (⟨"DeafArrayModel", "sealed", "(III)I"⟩, prog_11_method_102_code, 9, (some (.int)), 8, 193, 9, 3, false)
/-- DeafArray.movedSets(I)I -/
noncomputable def cd_266 : List mm_E := [
  (0, .iconst 1, 1, 0, [1]), (1, .istore_n 1, 1, 0, []), (2, .iload_n 1, 1, 0, []), (3, .bipush 12, 2, 0, [12]), (5, .if_icmp .ge 38, 3, 0, [29, 43]), (8, .iload_n 0, 1, 0, []),
  (9, .iload_n 1, 1, 0, []), (10, .ishl, 1, 0, []), (11, .iload_n 0, 1, 0, []), (12, .bipush 12, 2, 0, [12]), (14, .iload_n 1, 1, 0, []), (15, .isub, 1, 0, []),
  (16, .ishr, 1, 0, []), (17, .ior, 1, 0, []), (18, .sipush 4095, 3, 0, [4095]), (21, .iand, 1, 0, []), (22, .istore_n 2, 1, 0, []), (23, .iload_n 2, 1, 0, []),
  (24, .iload_n 0, 1, 0, []), (25, .if_icmp .ge 5, 3, 0, [22, 30]), (28, .iconst 0, 1, 0, [0]), (29, .ireturn, 1, 2, [1]), (30, .iload_n 2, 1, 0, []), (31, .iload_n 0, 1, 0, []),
  (32, .if_icmp .ne 5, 3, 0, [27, 37]), (35, .iload_n 1, 1, 0, []), (36, .ireturn, 1, 2, [1]), (37, .iinc 1 1, 3, 0, []), (40, .goto (-38), 3, 0, [2, 2]), (43, .bipush 12, 2, 0, [12]),
  (45, .ireturn, 1, 2, [1])]
noncomputable def mt_266 : mm_M := (⟨"DeafArray", "movedSets", "(I)I"⟩, prog_1_method_75_code, 3, (some (.int)), 0, 0, 8, 1, false)
/-- DeafArray$Plan.standAt(I)V -/
noncomputable def cd_267 : List mm_E := [
  (0, .aload_n 0, 1, 0, []), (1, .iconst 0, 1, 0, [0]), (2, .putfield 22, 3, 0, [5, 2, 132, 0]), (5, .aload_n 0, 1, 0, []), (6, .iconst 0, 1, 0, [0]), (7, .putfield 25, 3, 0, [5, 3, 137, 0]),
  (10, .iconst 0, 1, 0, [0]), (11, .istore_n 2, 1, 0, []), (12, .iload_n 2, 1, 0, []), (13, .bipush 12, 2, 0, [12]), (15, .if_icmp .ge 23, 3, 0, [23, 38]), (18, .iload_n 1, 1, 0, []),
  (19, .iload_n 2, 1, 0, []), (20, .ishr, 1, 0, []), (21, .iconst 1, 1, 0, [1]), (22, .iand, 1, 0, []), (23, .ifCond .eq 9, 3, 0, [21, 32]), (26, .aload_n 0, 1, 0, []),
  (27, .iload_n 2, 1, 0, []), (28, .iconst 0, 1, 0, [0]), (29, .invokevirtual 51, 3, 1, [29, 3, 6, 3, 571, 91, 1139, 569, 570, 0]), (32, .iinc 2 1, 3, 0, []), (35, .goto (-23), 3, 0, [8, 12]), (38, .return_, 1, 2, [0])]
noncomputable def mt_267 : mm_M := (⟨"DeafArray$Plan", "standAt", "(I)V"⟩, prog_7_method_11_code, 3, none, 1, 22, 5, 1, false)
/-- DeafArray.placed(II)I -/
noncomputable def cd_268 : List mm_E := [
  (0, .iload_n 1, 1, 0, []), (1, .iconst 1, 1, 0, [1]), (2, .if_icmp .lt 16, 3, 0, [10, 18]), (5, .iload_n 1, 1, 0, []), (6, .iconst 5, 1, 0, [5]), (7, .if_icmp .gt 11, 3, 0, [10, 18]),
  (10, .iload_n 2, 1, 0, []), (11, .iconst 2, 1, 0, [2]), (12, .invokestatic 126, 3, 1, [65, 2, 0, 2, 644, 89, 645, 643, 0, 0]), (15, .ifCond .ne 6, 3, 0, [12, 21]), (18, .bipush (-2), 2, 0, [4294967294]), (20, .ireturn, 1, 2, [1]),
  (21, .iconst 0, 1, 0, [0]), (22, .istore_n 3, 1, 0, []), (23, .aload_n 0, 1, 0, []), (24, .getfield 38, 3, 0, [8, 4, 420, 0]), (27, .invokevirtual 340, 3, 1, [254, 1, 3, 1, 1102, 96, 1099, 1100, 1101, 0]), (30, .aload_n 0, 1, 0, []),
  (31, .getfield 25, 3, 0, [8, 2, 418, 0]), (34, .getfield 85, 3, 0, [7, 0, 246, 1]), (37, .aload_n 0, 1, 0, []), (38, .getfield 21, 3, 0, [8, 1, 417, 0]), (41, .getfield 85, 3, 0, [7, 0, 246, 1]), (44, .invokevirtual 92, 3, 1, [40, 2, 6, 3, 605, 91, 602, 603, 604, 0]),
  (47, .iconst 0, 1, 0, [0]), (48, .istore 4, 2, 0, []), (50, .iload 4, 2, 0, []), (52, .sipush 4095, 3, 0, [4095]), (55, .if_icmp .gt 81, 3, 0, [64, 136]), (58, .iload 4, 2, 0, []),
  (60, .invokestatic 266, 3, 1, [57, 1, 0, 1, 625, 104, 960, 624, 0, 0]), (63, .iload_n 1, 1, 0, []), (64, .if_icmp .ne 11, 3, 0, [36, 75]), (67, .iload 4, 2, 0, []), (69, .invokestatic 353, 3, 1, [266, 1, 0, 3, 1134, 89, 1132, 1133, 0, 0]), (72, .goto 4, 3, 0, [37, 76]),
  (75, .iconst 0, 1, 0, [0]), (76, .istore 5, 2, 0, []), (78, .iload 5, 2, 0, []), (80, .ifCond .le 50, 3, 0, [62, 130]), (83, .aload_n 0, 1, 0, []), (84, .getfield 25, 3, 0, [8, 2, 418, 0]),
  (87, .getfield 85, 3, 0, [7, 0, 246, 1]), (90, .iload 4, 2, 0, []), (92, .invokevirtual 356, 3, 1, [267, 2, 6, 3, 1138, 91, 1135, 1136, 1137, 0]), (95, .aload_n 0, 1, 0, []), (96, .getfield 25, 3, 0, [8, 2, 418, 0]), (99, .invokevirtual 359, 3, 1, [95, 1, 8, 1, 668, 92, 665, 666, 667, 0]),
  (102, .aload_n 0, 1, 0, []), (103, .getfield 25, 3, 0, [8, 2, 418, 0]), (106, .getfield 156, 3, 0, [7, 13, 271, 1]), (109, .ifCond .eq 21, 3, 0, [62, 130]), (112, .iload_n 3, 1, 0, []), (113, .iload 5, 2, 0, []),
  (115, .iadd, 1, 0, []), (116, .istore_n 3, 1, 0, []), (117, .aload_n 0, 1, 0, []), (118, .getfield 38, 3, 0, [8, 4, 420, 0]), (121, .aload_n 0, 1, 0, []), (122, .getfield 25, 3, 0, [8, 2, 418, 0]),
  (125, .iload 4, 2, 0, []), (127, .invokevirtual 341, 3, 1, [255, 3, 3, 3, 1106, 96, 1103, 1104, 1105, 0]), (130, .iinc 4 1, 3, 0, []), (133, .goto (-83), 3, 0, [26, 50]), (136, .iload_n 2, 1, 0, []), (137, .ifCond .ne 7, 3, 0, [68, 144]),
  (140, .iload_n 3, 1, 0, []), (141, .goto 10, 3, 0, [71, 151]), (144, .aload_n 0, 1, 0, []), (145, .getfield 38, 3, 0, [8, 4, 420, 0]), (148, .getfield 343, 3, 0, [2, 0, 369, 1]), (151, .ireturn, 1, 2, [1])]
noncomputable def mt_268 : mm_M := (⟨"DeafArray", "placed", "(II)I"⟩, prog_1_method_49_code, 6, (some (.int)), 4, 100, 8, 2, false)
/-- DeafArrayModel.placed(II)I -/
noncomputable def cd_269 : List mm_E := [
  (0, .iload_n 1, 1, 0, []), (1, .i2l, 1, 0, []), (2, .lconst 1, 1, 0, [1]), (3, .ldc2_w 399, 3, 0, [5, 0, 1783]), (6, .invokestatic 108, 3, 1, [16, 3, 0, 6, 1347, 99, 1345, 1346, 0, 0]), (9, .ifCond .eq 13, 3, 0, [12, 22]),
  (12, .iload_n 2, 1, 0, []), (13, .i2l, 1, 0, []), (14, .lconst 0, 1, 0, [0]), (15, .lconst 1, 1, 0, [1]), (16, .invokestatic 108, 3, 1, [16, 3, 0, 6, 1347, 99, 1345, 1346, 0, 0]), (19, .ifCond .ne 6, 3, 0, [14, 25]),
  (22, .bipush (-2), 2, 0, [4294967294]), (24, .ireturn, 1, 2, [1]), (25, .iconst 0, 1, 0, [0]), (26, .istore_n 3, 1, 0, []), (27, .iconst (-1), 1, 0, [4294967295]), (28, .istore 4, 2, 0, []),
  (30, .aload_n 0, 1, 0, []), (31, .aload_n 0, 1, 0, []), (32, .invokevirtual 184, 3, 1, [63, 1, 10, 1, 1429, 99, 1426, 1428, 45, 0]), (35, .invokevirtual 178, 3, 1, [103, 2, 10, 3, 1465, 99, 1462, 1464, 50, 0]), (38, .iconst 1, 1, 0, [1]), (39, .istore 5, 2, 0, []),
  (41, .iload 5, 2, 0, []), (43, .sipush 4096, 3, 0, [4096]), (46, .if_icmp .ge 122, 3, 0, [87, 168]), (49, .iload 5, 2, 0, []), (51, .invokestatic 121, 3, 1, [57, 1, 0, 1, 625, 104, 1495, 624, 0, 0]), (54, .iload_n 1, 1, 0, []),
  (55, .if_icmp .eq 6, 3, 0, [32, 61]), (58, .goto 104, 3, 0, [85, 162]), (61, .aload_n 0, 1, 0, []), (62, .iconst 0, 1, 0, [0]), (63, .putfield 118, 3, 0, [9, 8, 1227, 0]), (66, .iconst 0, 1, 0, [0]),
  (67, .istore 6, 2, 0, []), (69, .iload 6, 2, 0, []), (71, .bipush 12, 2, 0, [12]), (73, .if_icmp .ge 43, 3, 0, [61, 116]), (76, .iload 5, 2, 0, []), (78, .iload 6, 2, 0, []),
  (80, .ishr, 1, 0, []), (81, .iconst 1, 1, 0, [1]), (82, .iand, 1, 0, []), (83, .ifCond .ne 6, 3, 0, [47, 89]), (86, .goto 24, 3, 0, [59, 110]), (89, .aload_n 0, 1, 0, []),
  (90, .getfield 25, 3, 0, [9, 7, 1226, 0]), (93, .aload_n 0, 1, 0, []), (94, .getfield 118, 3, 0, [9, 8, 1227, 0]), (97, .iload 6, 2, 0, []), (99, .iastore, 1, 0, []), (100, .aload_n 0, 1, 0, []),
  (101, .dup, 1, 0, []), (102, .getfield 118, 3, 0, [9, 8, 1227, 0]), (105, .iconst 1, 1, 0, [1]), (106, .iadd, 1, 0, []), (107, .putfield 118, 3, 0, [9, 8, 1227, 0]), (110, .iinc 6 1, 3, 0, []),
  (113, .goto (-44), 3, 0, [37, 69]), (116, .aload_n 0, 1, 0, []), (117, .invokevirtual 181, 3, 1, [116, 1, 10, 8, 1469, 99, 1466, 1468, 51, 0]), (120, .iload_n 3, 1, 0, []), (121, .aload_n 0, 1, 0, []), (122, .getfield 151, 3, 0, [9, 15, 1234, 0]),
  (125, .ifCond .eq 7, 3, 0, [69, 132]), (128, .iconst 1, 1, 0, [1]), (129, .goto 4, 3, 0, [70, 133]), (132, .iconst 0, 1, 0, [0]), (133, .iadd, 1, 0, []), (134, .istore_n 3, 1, 0, []),
  (135, .aload_n 0, 1, 0, []), (136, .iload 4, 2, 0, []), (138, .iconst (-1), 1, 0, [4294967295]), (139, .if_icmp .ne 7, 3, 0, [78, 146]), (142, .iconst 1, 1, 0, [1]), (143, .goto 4, 3, 0, [79, 147]),
  (146, .iconst 0, 1, 0, [0]), (147, .invokevirtual 386, 3, 1, [257, 2, 10, 2, 1770, 99, 1767, 1769, 82, 0]), (150, .ifCond .eq 8, 3, 0, [83, 158]), (153, .iload 5, 2, 0, []), (155, .goto 5, 3, 0, [84, 160]), (158, .iload 4, 2, 0, []),
  (160, .istore 4, 2, 0, []), (162, .iinc 5 1, 3, 0, []), (165, .goto (-124), 3, 0, [24, 41]), (168, .iload_n 2, 1, 0, []), (169, .ifCond .ne 7, 3, 0, [91, 176]), (172, .iload_n 3, 1, 0, []),
  (173, .goto 5, 3, 0, [92, 178]), (176, .iload 4, 2, 0, []), (178, .ireturn, 1, 2, [1])]
noncomputable def mt_269 : mm_M := (⟨"DeafArrayModel", "placed", "(II)I"⟩, prog_11_method_107_code, 7, (some (.int)), 6, 151, 9, 2, false)
/-- DeafArray.better(I)I -/
noncomputable def cd_270 : List mm_E := [
  (0, .aload_n 0, 1, 0, []), (1, .getfield 21, 3, 0, [8, 1, 417, 0]), (4, .getfield 85, 3, 0, [7, 0, 246, 1]), (7, .iload_n 1, 1, 0, []), (8, .invokevirtual 122, 3, 1, [66, 2, 6, 2, 641, 91, 638, 639, 640, 0]), (11, .ifCond .eq 17, 3, 0, [12, 28]),
  (14, .aload_n 0, 1, 0, []), (15, .getfield 21, 3, 0, [8, 1, 417, 0]), (18, .getfield 85, 3, 0, [7, 0, 246, 1]), (21, .iload_n 1, 1, 0, []), (22, .invokevirtual 134, 3, 1, [67, 2, 6, 2, 649, 91, 646, 647, 648, 0]), (25, .ifCond .ne 6, 3, 0, [14, 31]),
  (28, .bipush (-2), 2, 0, [4294967294]), (30, .ireturn, 1, 2, [1]), (31, .aload_n 0, 1, 0, []), (32, .getfield 38, 3, 0, [8, 4, 420, 0]), (35, .invokevirtual 340, 3, 1, [254, 1, 3, 1, 1102, 96, 1099, 1100, 1101, 0]), (38, .aload_n 0, 1, 0, []),
  (39, .getfield 25, 3, 0, [8, 2, 418, 0]), (42, .getfield 85, 3, 0, [7, 0, 246, 1]), (45, .aload_n 0, 1, 0, []), (46, .getfield 21, 3, 0, [8, 1, 417, 0]), (49, .getfield 85, 3, 0, [7, 0, 246, 1]), (52, .invokevirtual 92, 3, 1, [40, 2, 6, 3, 605, 91, 602, 603, 604, 0]),
  (55, .iconst 0, 1, 0, [0]), (56, .istore_n 2, 1, 0, []), (57, .iload_n 2, 1, 0, []), (58, .bipush 12, 2, 0, [12]), (60, .if_icmp .ge 73, 3, 0, [63, 133]), (63, .aload_n 0, 1, 0, []),
  (64, .getfield 21, 3, 0, [8, 1, 417, 0]), (67, .getfield 85, 3, 0, [7, 0, 246, 1]), (70, .iload_n 2, 1, 0, []), (71, .invokevirtual 362, 3, 1, [28, 2, 6, 3, 567, 91, 1144, 565, 566, 0]), (74, .istore_n 3, 1, 0, []), (75, .iload_n 3, 1, 0, []),
  (76, .iconst (-1), 1, 0, [4294967295]), (77, .if_icmp .eq 8, 3, 0, [41, 85]), (80, .iload_n 3, 1, 0, []), (81, .iload_n 1, 1, 0, []), (82, .if_icmp .ne 45, 3, 0, [61, 127]), (85, .aload_n 0, 1, 0, []),
  (86, .getfield 25, 3, 0, [8, 2, 418, 0]), (89, .getfield 85, 3, 0, [7, 0, 246, 1]), (92, .getfield 130, 3, 0, [5, 0, 126, 1]), (95, .iload_n 1, 1, 0, []), (96, .iload_n 2, 1, 0, []), (97, .iastore, 1, 0, []),
  (98, .aload_n 0, 1, 0, []), (99, .getfield 25, 3, 0, [8, 2, 418, 0]), (102, .invokevirtual 359, 3, 1, [95, 1, 8, 1, 668, 92, 665, 666, 667, 0]), (105, .aload_n 0, 1, 0, []), (106, .getfield 25, 3, 0, [8, 2, 418, 0]), (109, .getfield 156, 3, 0, [7, 13, 271, 1]),
  (112, .ifCond .eq 15, 3, 0, [61, 127]), (115, .aload_n 0, 1, 0, []), (116, .getfield 38, 3, 0, [8, 4, 420, 0]), (119, .aload_n 0, 1, 0, []), (120, .getfield 25, 3, 0, [8, 2, 418, 0]), (123, .iload_n 2, 1, 0, []),
  (124, .invokevirtual 341, 3, 1, [255, 3, 3, 3, 1106, 96, 1103, 1104, 1105, 0]), (127, .iinc 2 1, 3, 0, []), (130, .goto (-73), 3, 0, [26, 57]), (133, .aload_n 0, 1, 0, []), (134, .getfield 38, 3, 0, [8, 4, 420, 0]), (137, .getfield 343, 3, 0, [2, 0, 369, 1]),
  (140, .ireturn, 1, 2, [1])]
noncomputable def mt_270 : mm_M := (⟨"DeafArray", "better", "(I)I"⟩, prog_1_method_50_code, 4, (some (.int)), 4, 100, 8, 1, false)
/-- DeafArrayModel.isTaken(I)Z -/
noncomputable def cd_271 : List mm_E := [
  (0, .iconst 0, 1, 0, [0]), (1, .istore_n 2, 1, 0, []), (2, .iload_n 2, 1, 0, []), (3, .aload_n 0, 1, 0, []), (4, .getfield 18, 3, 0, [9, 5, 1224, 0]), (7, .iconst 1, 1, 0, [1]),
  (8, .iaload, 1, 0, []), (9, .if_icmp .ge 23, 3, 0, [20, 32]), (12, .aload_n 0, 1, 0, []), (13, .getfield 18, 3, 0, [9, 5, 1224, 0]), (16, .iconst 2, 1, 0, [2]), (17, .iload_n 2, 1, 0, []),
  (18, .iadd, 1, 0, []), (19, .iaload, 1, 0, []), (20, .iload_n 1, 1, 0, []), (21, .if_icmp .ne 5, 3, 0, [18, 26]), (24, .iconst 1, 1, 0, [1]), (25, .ireturn, 1, 2, [2]),
  (26, .iinc 2 1, 3, 0, []), (29, .goto (-27), 3, 0, [2, 2]), (32, .iconst 0, 1, 0, [0]), (33, .ireturn, 1, 2, [2])]
noncomputable def mt_271 : mm_M := (⟨"DeafArrayModel", "isTaken", "(I)Z"⟩, prog_11_method_108_code, 3, (some (.boolean)), 0, 0, 9, 1, false)
/-- DeafArrayModel.better(I)I -/
noncomputable def cd_272 : List mm_E := [
  (0, .aload_n 0, 1, 0, []), (1, .iload_n 1, 1, 0, []), (2, .invokevirtual 288, 3, 1, [69, 2, 10, 2, 1437, 99, 1434, 1436, 46, 0]), (5, .ifCond .eq 11, 3, 0, [8, 16]), (8, .aload_n 0, 1, 0, []), (9, .iload_n 1, 1, 0, []),
  (10, .invokevirtual 114, 3, 1, [61, 2, 10, 2, 1425, 99, 1422, 1424, 44, 0]), (13, .ifCond .eq 6, 3, 0, [10, 19]), (16, .bipush (-2), 2, 0, [4294967294]), (18, .ireturn, 1, 2, [1]), (19, .aload_n 0, 1, 0, []), (20, .getfield 18, 3, 0, [9, 5, 1224, 0]),
  (23, .iconst 2, 1, 0, [2]), (24, .iload_n 1, 1, 0, []), (25, .iadd, 1, 0, []), (26, .iaload, 1, 0, []), (27, .istore_n 2, 1, 0, []), (28, .iconst (-1), 1, 0, [4294967295]),
  (29, .istore_n 3, 1, 0, []), (30, .iconst 0, 1, 0, [0]), (31, .istore 4, 2, 0, []), (33, .iload 4, 2, 0, []), (35, .bipush 12, 2, 0, [12]), (37, .if_icmp .ge 79, 3, 0, [66, 116]),
  (40, .iload 4, 2, 0, []), (42, .iload_n 2, 1, 0, []), (43, .if_icmp .eq 15, 3, 0, [32, 58]), (46, .aload_n 0, 1, 0, []), (47, .iload 4, 2, 0, []), (49, .invokevirtual 401, 3, 1, [271, 2, 10, 3, 1791, 99, 1788, 1790, 83, 0]),
  (52, .ifCond .eq 6, 3, 0, [32, 58]), (55, .goto 55, 3, 0, [64, 110]), (58, .aload_n 0, 1, 0, []), (59, .getfield 18, 3, 0, [9, 5, 1224, 0]), (62, .iconst 2, 1, 0, [2]), (63, .iload_n 1, 1, 0, []),
  (64, .iadd, 1, 0, []), (65, .iload 4, 2, 0, []), (67, .iastore, 1, 0, []), (68, .aload_n 0, 1, 0, []), (69, .iconst 0, 1, 0, [0]), (70, .aload_n 0, 1, 0, []),
  (71, .invokevirtual 184, 3, 1, [63, 1, 10, 1, 1429, 99, 1426, 1428, 45, 0]), (74, .invokevirtual 188, 3, 1, [117, 3, 10, 3, 1457, 99, 1454, 1456, 48, 0]), (77, .aload_n 0, 1, 0, []), (78, .iload_n 3, 1, 0, []), (79, .iconst (-1), 1, 0, [4294967295]), (80, .if_icmp .ne 7, 3, 0, [50, 87]),
  (83, .iconst 1, 1, 0, [1]), (84, .goto 4, 3, 0, [51, 88]), (87, .iconst 0, 1, 0, [0]), (88, .invokevirtual 386, 3, 1, [257, 2, 10, 2, 1770, 99, 1767, 1769, 82, 0]), (91, .ifCond .eq 8, 3, 0, [55, 99]), (94, .iload 4, 2, 0, []),
  (96, .goto 4, 3, 0, [56, 100]), (99, .iload_n 3, 1, 0, []), (100, .istore_n 3, 1, 0, []), (101, .aload_n 0, 1, 0, []), (102, .getfield 18, 3, 0, [9, 5, 1224, 0]), (105, .iconst 2, 1, 0, [2]),
  (106, .iload_n 1, 1, 0, []), (107, .iadd, 1, 0, []), (108, .iload_n 2, 1, 0, []), (109, .iastore, 1, 0, []), (110, .iinc 4 1, 3, 0, []), (113, .goto (-80), 3, 0, [21, 33]),
  (116, .iload_n 3, 1, 0, []), (117, .ireturn, 1, 2, [1])]
noncomputable def mt_272 : mm_M := (⟨"DeafArrayModel", "better", "(I)I"⟩, prog_11_method_109_code, 5, (some (.int)), 7, 173, 9, 1, false)
/-- DeafArray.isFactor(I)Z -/
noncomputable def cd_273 : List mm_E := [
  (0, .iload_n 0, 1, 0, []), (1, .bipush (-9), 2, 0, [4294967287]), (3, .if_icmp .lt 13, 3, 0, [8, 16]), (6, .iload_n 0, 1, 0, []), (7, .bipush 9, 2, 0, [9]), (9, .if_icmp .gt 7, 3, 0, [8, 16]),
  (12, .iconst 1, 1, 0, [1]), (13, .goto 4, 3, 0, [9, 17]), (16, .iconst 0, 1, 0, [0]), (17, .ireturn, 1, 2, [2])]
noncomputable def mt_273 : mm_M := (⟨"DeafArray", "isFactor", "(I)Z"⟩, prog_1_method_73_code, 1, (some (.boolean)), 0, 0, 8, 1, false)
/-- DeafArray.both(IIIII)J -/
noncomputable def cd_274 : List mm_E := [
  (0, .aload_n 0, 1, 0, []), (1, .invokevirtual 140, 3, 1, [100, 1, 9, 1, 664, 89, 661, 663, 12, 0]), (4, .aload_n 0, 1, 0, []), (5, .getfield 21, 3, 0, [8, 1, 417, 0]), (8, .getfield 156, 3, 0, [7, 13, 271, 1]), (11, .ifCond .eq 32, 3, 0, [18, 43]),
  (14, .iload_n 1, 1, 0, []), (15, .invokestatic 137, 3, 1, [71, 1, 0, 1, 656, 89, 654, 655, 0, 0]), (18, .ifCond .eq 25, 3, 0, [18, 43]), (21, .iload 4, 2, 0, []), (23, .invokestatic 137, 3, 1, [71, 1, 0, 1, 656, 89, 654, 655, 0, 0]), (26, .ifCond .eq 17, 3, 0, [18, 43]),
  (29, .iload_n 2, 1, 0, []), (30, .invokestatic 365, 3, 1, [273, 1, 0, 1, 1151, 89, 1149, 1150, 0, 0]), (33, .ifCond .eq 10, 3, 0, [18, 43]), (36, .iload_n 3, 1, 0, []), (37, .invokestatic 365, 3, 1, [273, 1, 0, 1, 1151, 89, 1149, 1150, 0, 0]), (40, .ifCond .ne 7, 3, 0, [20, 47]),
  (43, .ldc2_w 159, 3, 0, [9223372036854775808, 0, 783]), (46, .lreturn, 1, 2, [3]), (47, .aload_n 0, 1, 0, []), (48, .iload_n 1, 1, 0, []), (49, .invokevirtual 337, 3, 1, [251, 2, 9, 2, 1086, 89, 1083, 1085, 26, 0]), (52, .ifCond .ne 7, 3, 0, [26, 59]),
  (55, .ldc2_w 159, 3, 0, [9223372036854775808, 0, 783]), (58, .lreturn, 1, 2, [3]), (59, .aload_n 0, 1, 0, []), (60, .getfield 25, 3, 0, [8, 2, 418, 0]), (63, .getfield 85, 3, 0, [7, 0, 246, 1]), (66, .aload_n 0, 1, 0, []),
  (67, .getfield 25, 3, 0, [8, 2, 418, 0]), (70, .getfield 161, 3, 0, [7, 5, 256, 1]), (73, .iload 4, 2, 0, []), (75, .aload_n 0, 1, 0, []), (76, .getfield 59, 3, 0, [8, 7, 423, 0]), (79, .invokevirtual 291, 3, 1, [96, 4, 6, 5, 761, 91, 998, 759, 760, 0]),
  (82, .aload_n 0, 1, 0, []), (83, .getfield 59, 3, 0, [8, 7, 423, 0]), (86, .iload_n 3, 1, 0, []), (87, .i2l, 1, 0, []), (88, .aload_n 0, 1, 0, []), (89, .getfield 21, 3, 0, [8, 1, 417, 0]),
  (92, .getfield 165, 3, 0, [7, 16, 279, 1]), (95, .lmul, 1, 0, []), (96, .invokevirtual 368, 3, 1, [222, 2, 4, 3, 1015, 94, 1152, 1013, 1014, 0]), (99, .aload_n 0, 1, 0, []), (100, .getfield 59, 3, 0, [8, 7, 423, 0]), (103, .aload_n 0, 1, 0, []),
  (104, .getfield 21, 3, 0, [8, 1, 417, 0]), (107, .getfield 173, 3, 0, [7, 6, 259, 1]), (110, .iload 4, 2, 0, []), (112, .aaload, 1, 0, []), (113, .iload_n 2, 1, 0, []), (114, .i2l, 1, 0, []),
  (115, .aload_n 0, 1, 0, []), (116, .getfield 25, 3, 0, [8, 2, 418, 0]), (119, .getfield 165, 3, 0, [7, 16, 279, 1]), (122, .lmul, 1, 0, []), (123, .invokevirtual 372, 3, 1, [223, 3, 4, 4, 1019, 94, 1153, 1017, 1018, 0]), (126, .aload_n 0, 1, 0, []),
  (127, .aload_n 0, 1, 0, []), (128, .getfield 59, 3, 0, [8, 7, 423, 0]), (131, .aload_n 0, 1, 0, []), (132, .getfield 21, 3, 0, [8, 1, 417, 0]), (135, .getfield 165, 3, 0, [7, 16, 279, 1]), (138, .aload_n 0, 1, 0, []),
  (139, .getfield 25, 3, 0, [8, 2, 418, 0]), (142, .getfield 165, 3, 0, [7, 16, 279, 1]), (145, .lmul, 1, 0, []), (146, .iload 5, 2, 0, []), (148, .invokevirtual 169, 3, 1, [128, 4, 9, 5, 787, 89, 784, 786, 19, 0]), (151, .lreturn, 1, 2, [3])]
noncomputable def mt_274 : mm_M := (⟨"DeafArray", "both", "(IIIII)J"⟩, prog_1_method_51_code, 6, (some (.long)), 5, 121, 8, 5, false)
/-- DeafArrayModel.both(IIIII)J -/
noncomputable def cd_275 : List mm_E := [
  (0, .iload_n 1, 1, 0, []), (1, .invokestatic 291, 3, 1, [73, 1, 0, 1, 1444, 99, 1442, 1443, 0, 0]), (4, .ifCond .eq 52, 3, 0, [24, 56]), (7, .iload_n 2, 1, 0, []), (8, .i2l, 1, 0, []), (9, .ldc2_w 404, 3, 0, [18446744073709551607, 0, 1796]),
  (12, .ldc2_w 406, 3, 0, [9, 0, 1797]), (15, .invokestatic 108, 3, 1, [16, 3, 0, 6, 1347, 99, 1345, 1346, 0, 0]), (18, .ifCond .eq 38, 3, 0, [24, 56]), (21, .iload_n 3, 1, 0, []), (22, .i2l, 1, 0, []), (23, .ldc2_w 404, 3, 0, [18446744073709551607, 0, 1796]),
  (26, .ldc2_w 406, 3, 0, [9, 0, 1797]), (29, .invokestatic 108, 3, 1, [16, 3, 0, 6, 1347, 99, 1345, 1346, 0, 0]), (32, .ifCond .eq 24, 3, 0, [24, 56]), (35, .iload 4, 2, 0, []), (37, .invokestatic 291, 3, 1, [73, 1, 0, 1, 1444, 99, 1442, 1443, 0, 0]), (40, .ifCond .eq 16, 3, 0, [24, 56]),
  (43, .iload 5, 2, 0, []), (45, .i2l, 1, 0, []), (46, .lconst 0, 1, 0, [0]), (47, .ldc2_w 297, 3, 0, [4, 0, 1535]), (50, .invokestatic 108, 3, 1, [16, 3, 0, 6, 1347, 99, 1345, 1346, 0, 0]), (53, .ifCond .ne 7, 3, 0, [26, 60]),
  (56, .ldc2_w 299, 3, 0, [9223372036854775808, 0, 1536]), (59, .lreturn, 1, 2, [3]), (60, .aload_n 0, 1, 0, []), (61, .iconst 0, 1, 0, [0]), (62, .iload_n 1, 1, 0, []), (63, .invokevirtual 188, 3, 1, [117, 3, 10, 3, 1457, 99, 1454, 1456, 48, 0]),
  (66, .aload_n 0, 1, 0, []), (67, .getfield 151, 3, 0, [9, 15, 1234, 0]), (70, .ifCond .ne 7, 3, 0, [35, 77]), (73, .ldc2_w 299, 3, 0, [9223372036854775808, 0, 1536]), (76, .lreturn, 1, 2, [3]), (77, .aload_n 0, 1, 0, []),
  (78, .bipush 87, 2, 0, [87]), (80, .invokevirtual 81, 3, 1, [104, 2, 10, 3, 1481, 99, 1478, 1480, 54, 0]), (83, .aload_n 0, 1, 0, []), (84, .bipush 87, 2, 0, [87]), (86, .bipush 67, 2, 0, [67]), (88, .iload 4, 2, 0, []),
  (90, .iadd, 1, 0, []), (91, .lconst 1, 1, 0, [1]), (92, .invokevirtual 163, 3, 1, [113, 4, 10, 6, 1514, 99, 1511, 1513, 60, 0]), (95, .aload_n 0, 1, 0, []), (96, .getfield 158, 3, 0, [9, 16, 1235, 0]), (99, .lstore 6, 2, 0, []),
  (101, .aload_n 0, 1, 0, []), (102, .invokevirtual 294, 3, 1, [118, 1, 10, 1, 1453, 99, 1450, 1452, 47, 0]), (105, .ifCond .ne 7, 3, 0, [53, 112]), (108, .ldc2_w 299, 3, 0, [9223372036854775808, 0, 1536]), (111, .lreturn, 1, 2, [3]), (112, .iconst 0, 1, 0, [0]),
  (113, .istore 8, 2, 0, []), (115, .iload 8, 2, 0, []), (117, .iconst 4, 1, 0, [4]), (118, .if_icmp .ge 57, 3, 0, [90, 175]), (121, .aload_n 0, 1, 0, []), (122, .getfield 11, 3, 0, [9, 1, 1220, 0]),
  (125, .sipush 348, 3, 0, [348]), (128, .iload 8, 2, 0, []), (130, .iadd, 1, 0, []), (131, .aload_n 0, 1, 0, []), (132, .getfield 11, 3, 0, [9, 1, 1220, 0]), (135, .sipush 348, 3, 0, [348]),
  (138, .iload 8, 2, 0, []), (140, .iadd, 1, 0, []), (141, .laload, 1, 0, []), (142, .iload_n 3, 1, 0, []), (143, .i2l, 1, 0, []), (144, .lmul, 1, 0, []),
  (145, .aload_n 0, 1, 0, []), (146, .getfield 158, 3, 0, [9, 16, 1235, 0]), (149, .lmul, 1, 0, []), (150, .aload_n 0, 1, 0, []), (151, .bipush 67, 2, 0, [67]), (153, .iload 4, 2, 0, []),
  (155, .iadd, 1, 0, []), (156, .iload 8, 2, 0, []), (158, .invokevirtual 77, 3, 1, [110, 3, 10, 3, 1508, 99, 1505, 1507, 59, 0]), (161, .iload_n 2, 1, 0, []), (162, .i2l, 1, 0, []), (163, .lmul, 1, 0, []),
  (164, .lload 6, 2, 0, []), (166, .lmul, 1, 0, []), (167, .ladd, 1, 0, []), (168, .lastore, 1, 0, []), (169, .iinc 8 1, 3, 0, []), (172, .goto (-57), 3, 0, [55, 115]),
  (175, .aload_n 0, 1, 0, []), (176, .bipush 87, 2, 0, [87]), (178, .lload 6, 2, 0, []), (180, .aload_n 0, 1, 0, []), (181, .getfield 158, 3, 0, [9, 16, 1235, 0]), (184, .lmul, 1, 0, []),
  (185, .iload 5, 2, 0, []), (187, .invokevirtual 301, 3, 1, [131, 4, 10, 8, 1540, 99, 1537, 1539, 63, 0]), (190, .lreturn, 1, 2, [3])]
noncomputable def mt_275 : mm_M := (⟨"DeafArrayModel", "both", "(IIIII)J"⟩, prog_11_method_110_code, 9, (some (.long)), 8, 193, 9, 5, false)
/-- DeafArray$Out.write(I)V -/
noncomputable def cd_276 : List mm_E := [
  (0, .aload_n 0, 1, 0, []), (1, .getfield 15, 3, 0, [4, 1, 407, 0]), (4, .sipush 160, 3, 0, [160]), (7, .if_icmp .ge 23, 3, 0, [16, 30]), (10, .aload_n 0, 1, 0, []), (11, .getfield 9, 3, 0, [4, 0, 405, 0]),
  (14, .aload_n 0, 1, 0, []), (15, .getfield 15, 3, 0, [4, 1, 407, 0]), (18, .iload_n 1, 1, 0, []), (19, .iastore, 1, 0, []), (20, .aload_n 0, 1, 0, []), (21, .dup, 1, 0, []),
  (22, .getfield 15, 3, 0, [4, 1, 407, 0]), (25, .iconst 1, 1, 0, [1]), (26, .iadd, 1, 0, []), (27, .putfield 15, 3, 0, [4, 1, 407, 0]), (30, .return_, 1, 2, [0])]
noncomputable def mt_276 : mm_M := (⟨"DeafArray$Out", "write", "(I)V"⟩, prog_6_method_5_code, 2, none, 0, 0, 4, 1, false)
/-- DeafArray$Out.writeNumber(J)V -/
noncomputable def cd_277 : List mm_E := [
  (0, .lconst 1, 1, 0, [1]), (1, .lstore_n 3, 1, 0, []), (2, .iconst 0, 1, 0, [0]), (3, .istore 5, 2, 0, []), (5, .iload 5, 2, 0, []), (7, .bipush 18, 2, 0, [18]),
  (9, .if_icmp .ge 25, 3, 0, [19, 34]), (12, .lload_n 3, 1, 0, []), (13, .lload_n 1, 1, 0, []), (14, .ldc2_w 37, 3, 0, [10, 0, 1175]), (17, .ldiv, 1, 0, []), (18, .lcmp, 1, 0, []),
  (19, .ifCond .gt 15, 3, 0, [19, 34]), (22, .lload_n 3, 1, 0, []), (23, .ldc2_w 37, 3, 0, [10, 0, 1175]), (26, .lmul, 1, 0, []), (27, .lstore_n 3, 1, 0, []), (28, .iinc 5 1, 3, 0, []),
  (31, .goto (-26), 3, 0, [4, 5]), (34, .iconst 0, 1, 0, [0]), (35, .istore 5, 2, 0, []), (37, .iload 5, 2, 0, []), (39, .bipush 19, 2, 0, [19]), (41, .if_icmp .ge 37, 3, 0, [44, 78]),
  (44, .lload_n 3, 1, 0, []), (45, .lconst 0, 1, 0, [0]), (46, .lcmp, 1, 0, []), (47, .ifCond .le 31, 3, 0, [44, 78]), (50, .aload_n 0, 1, 0, []), (51, .ldc2_w 39, 3, 0, [48, 0, 1176]),
  (54, .lload_n 1, 1, 0, []), (55, .lload_n 3, 1, 0, []), (56, .ldiv, 1, 0, []), (57, .ldc2_w 37, 3, 0, [10, 0, 1175]), (60, .lrem, 1, 0, []), (61, .ladd, 1, 0, []),
  (62, .l2i, 1, 0, []), (63, .invokevirtual 23, 3, 1, [276, 2, 5, 2, 1169, 98, 1166, 1168, 30, 0]), (66, .lload_n 3, 1, 0, []), (67, .ldc2_w 37, 3, 0, [10, 0, 1175]), (70, .ldiv, 1, 0, []), (71, .lstore_n 3, 1, 0, []),
  (72, .iinc 5 1, 3, 0, []), (75, .goto (-38), 3, 0, [21, 37]), (78, .return_, 1, 2, [0])]
noncomputable def mt_277 : mm_M := (⟨"DeafArray$Out", "writeNumber", "(J)V"⟩, prog_6_method_4_code, 6, none, 1, 21, 4, 1, false)
/-- DeafArray$Out.writePart(JI)V -/
noncomputable def cd_278 : List mm_E := [
  (0, .lload_n 1, 1, 0, []), (1, .lconst 0, 1, 0, [0]), (2, .lcmp, 1, 0, []), (3, .ifCond .ne 4, 3, 0, [5, 7]), (6, .return_, 1, 2, [0]), (7, .lload_n 1, 1, 0, []),
  (8, .lconst 0, 1, 0, [0]), (9, .lcmp, 1, 0, []), (10, .ifCond .ge 12, 3, 0, [13, 22]), (13, .aload_n 0, 1, 0, []), (14, .bipush 45, 2, 0, [45]), (16, .invokevirtual 23, 3, 1, [276, 2, 5, 2, 1169, 98, 1166, 1168, 30, 0]),
  (19, .goto 16, 3, 0, [19, 35]), (22, .aload_n 0, 1, 0, []), (23, .getfield 15, 3, 0, [4, 1, 407, 0]), (26, .ifCond .le 9, 3, 0, [19, 35]), (29, .aload_n 0, 1, 0, []), (30, .bipush 43, 2, 0, [43]),
  (32, .invokevirtual 23, 3, 1, [276, 2, 5, 2, 1169, 98, 1166, 1168, 30, 0]), (35, .iload_n 3, 1, 0, []), (36, .ifCond .eq 12, 3, 0, [26, 48]), (39, .lload_n 1, 1, 0, []), (40, .invokestatic 31, 3, 1, [125, 1, 0, 2, 801, 93, 1170, 800, 0, 0]), (43, .lconst 1, 1, 0, [1]),
  (44, .lcmp, 1, 0, []), (45, .ifCond .eq 11, 3, 0, [30, 56]), (48, .aload_n 0, 1, 0, []), (49, .lload_n 1, 1, 0, []), (50, .invokestatic 31, 3, 1, [125, 1, 0, 2, 801, 93, 1170, 800, 0, 0]), (53, .invokevirtual 27, 3, 1, [277, 2, 5, 6, 1174, 98, 1171, 1173, 31, 0]),
  (56, .iconst 0, 1, 0, [0]), (57, .istore 4, 2, 0, []), (59, .iload 4, 2, 0, []), (61, .iload_n 3, 1, 0, []), (62, .if_icmp .ge 15, 3, 0, [40, 77]), (65, .aload_n 0, 1, 0, []),
  (66, .bipush 122, 2, 0, [122]), (68, .invokevirtual 23, 3, 1, [276, 2, 5, 2, 1169, 98, 1166, 1168, 30, 0]), (71, .iinc 4 1, 3, 0, []), (74, .goto (-15), 3, 0, [32, 59]), (77, .return_, 1, 2, [0])]
noncomputable def mt_278 : mm_M := (⟨"DeafArray$Out", "writePart", "(JI)V"⟩, prog_6_method_3_code, 5, none, 2, 46, 4, 2, false)
/-- DeafArray$Out.writeFraction([J)V -/
noncomputable def cd_279 : List mm_E := [
  (0, .aload_n 0, 1, 0, []), (1, .iconst 0, 1, 0, [0]), (2, .putfield 15, 3, 0, [4, 1, 407, 0]), (5, .iconst 0, 1, 0, [0]), (6, .istore_n 2, 1, 0, []), (7, .iload_n 2, 1, 0, []),
  (8, .iconst 4, 1, 0, [4]), (9, .if_icmp .ge 23, 3, 0, [20, 32]), (12, .iload_n 2, 1, 0, []), (13, .aload_n 1, 1, 0, []), (14, .arraylength, 1, 0, []), (15, .if_icmp .ge 17, 3, 0, [20, 32]),
  (18, .aload_n 0, 1, 0, []), (19, .aload_n 1, 1, 0, []), (20, .iload_n 2, 1, 0, []), (21, .laload, 1, 0, []), (22, .iload_n 2, 1, 0, []), (23, .invokevirtual 19, 3, 1, [278, 3, 5, 5, 1165, 98, 1162, 1164, 29, 0]),
  (26, .iinc 2 1, 3, 0, []), (29, .goto (-22), 3, 0, [5, 7]), (32, .aload_n 0, 1, 0, []), (33, .getfield 15, 3, 0, [4, 1, 407, 0]), (36, .ifCond .ne 9, 3, 0, [26, 45]), (39, .aload_n 0, 1, 0, []),
  (40, .bipush 48, 2, 0, [48]), (42, .invokevirtual 23, 3, 1, [276, 2, 5, 2, 1169, 98, 1166, 1168, 30, 0]), (45, .aload_n 1, 1, 0, []), (46, .arraylength, 1, 0, []), (47, .iconst 4, 1, 0, [4]), (48, .if_icmp .le 24, 3, 0, [44, 72]),
  (51, .aload_n 1, 1, 0, []), (52, .iconst 4, 1, 0, [4]), (53, .laload, 1, 0, []), (54, .lconst 1, 1, 0, [1]), (55, .lcmp, 1, 0, []), (56, .ifCond .eq 16, 3, 0, [44, 72]),
  (59, .aload_n 0, 1, 0, []), (60, .bipush 47, 2, 0, [47]), (62, .invokevirtual 23, 3, 1, [276, 2, 5, 2, 1169, 98, 1166, 1168, 30, 0]), (65, .aload_n 0, 1, 0, []), (66, .aload_n 1, 1, 0, []), (67, .iconst 4, 1, 0, [4]),
  (68, .laload, 1, 0, []), (69, .invokevirtual 27, 3, 1, [277, 2, 5, 6, 1174, 98, 1171, 1173, 31, 0]), (72, .return_, 1, 2, [0])]
noncomputable def mt_279 : mm_M := (⟨"DeafArray$Out", "writeFraction", "([J)V"⟩, prog_6_method_2_code, 3, none, 3, 70, 4, 1, false)
/-- DeafArray.tell(I)I -/
noncomputable def cd_280 : List mm_E := [
  (0, .aload_n 0, 1, 0, []), (1, .invokevirtual 140, 3, 1, [100, 1, 9, 1, 664, 89, 661, 663, 12, 0]), (4, .aload_n 0, 1, 0, []), (5, .getfield 21, 3, 0, [8, 1, 417, 0]), (8, .getfield 156, 3, 0, [7, 13, 271, 1]), (11, .ifCond .eq 17, 3, 0, [12, 28]),
  (14, .aload_n 0, 1, 0, []), (15, .getfield 21, 3, 0, [8, 1, 417, 0]), (18, .getfield 85, 3, 0, [7, 0, 246, 1]), (21, .iload_n 1, 1, 0, []), (22, .invokevirtual 122, 3, 1, [66, 2, 6, 2, 641, 91, 638, 639, 640, 0]), (25, .ifCond .ne 6, 3, 0, [14, 31]),
  (28, .bipush (-2), 2, 0, [4294967294]), (30, .ireturn, 1, 2, [1]), (31, .aload_n 0, 1, 0, []), (32, .aload_n 0, 1, 0, []), (33, .getfield 21, 3, 0, [8, 1, 417, 0]), (36, .getfield 161, 3, 0, [7, 5, 256, 1]),
  (39, .iload_n 1, 1, 0, []), (40, .aaload, 1, 0, []), (41, .aload_n 0, 1, 0, []), (42, .getfield 21, 3, 0, [8, 1, 417, 0]), (45, .getfield 165, 3, 0, [7, 16, 279, 1]), (48, .invokevirtual 376, 3, 1, [127, 3, 9, 7, 791, 89, 788, 790, 20, 0]),
  (51, .aload_n 0, 1, 0, []), (52, .getfield 52, 3, 0, [8, 6, 422, 0]), (55, .aload_n 0, 1, 0, []), (56, .getfield 63, 3, 0, [8, 8, 424, 0]), (59, .invokevirtual 379, 3, 1, [279, 2, 5, 3, 1161, 98, 1158, 1159, 1160, 0]), (62, .aload_n 0, 1, 0, []),
  (63, .getfield 52, 3, 0, [8, 6, 422, 0]), (66, .getfield 121, 3, 0, [4, 1, 408, 1]), (69, .ireturn, 1, 2, [1])]
noncomputable def mt_280 : mm_M := (⟨"DeafArray", "tell", "(I)I"⟩, prog_1_method_52_code, 2, (some (.int)), 5, 120, 8, 1, false)
/-- DeafArrayModel.tells(I)V -/
noncomputable def cd_281 : List mm_E := [
  (0, .aload_n 0, 1, 0, []), (1, .getfield 58, 3, 0, [9, 37, 1256, 0]), (4, .aload_n 0, 1, 0, []), (5, .getfield 285, 3, 0, [9, 38, 1257, 0]), (8, .iload_n 1, 1, 0, []), (9, .i2b, 1, 0, []),
  (10, .bastore, 1, 0, []), (11, .aload_n 0, 1, 0, []), (12, .dup, 1, 0, []), (13, .getfield 285, 3, 0, [9, 38, 1257, 0]), (16, .iconst 1, 1, 0, [1]), (17, .iadd, 1, 0, []),
  (18, .putfield 285, 3, 0, [9, 38, 1257, 0]), (21, .return_, 1, 2, [0])]
noncomputable def mt_281 : mm_M := (⟨"DeafArrayModel", "tells", "(I)V"⟩, prog_11_method_111_code, 2, none, 0, 0, 9, 1, false)
/-- DeafArrayModel.tellsNumber(J)V -/
noncomputable def cd_282 : List mm_E := [
  (0, .lconst 1, 1, 0, [1]), (1, .lstore_n 3, 1, 0, []), (2, .lload_n 1, 1, 0, []), (3, .lload_n 3, 1, 0, []), (4, .ldiv, 1, 0, []), (5, .ldc2_w 408, 3, 0, [10, 0, 1810]),
  (8, .lcmp, 1, 0, []), (9, .ifCond .lt 12, 3, 0, [13, 21]), (12, .lload_n 3, 1, 0, []), (13, .ldc2_w 408, 3, 0, [10, 0, 1810]), (16, .lmul, 1, 0, []), (17, .lstore_n 3, 1, 0, []),
  (18, .goto (-16), 3, 0, [2, 2]), (21, .lload_n 3, 1, 0, []), (22, .lconst 0, 1, 0, [0]), (23, .lcmp, 1, 0, []), (24, .ifCond .le 27, 3, 0, [32, 51]), (27, .aload_n 0, 1, 0, []),
  (28, .bipush 48, 2, 0, [48]), (30, .lload_n 1, 1, 0, []), (31, .lload_n 3, 1, 0, []), (32, .ldiv, 1, 0, []), (33, .ldc2_w 408, 3, 0, [10, 0, 1810]), (36, .lrem, 1, 0, []),
  (37, .l2i, 1, 0, []), (38, .iadd, 1, 0, []), (39, .invokevirtual 410, 3, 1, [281, 2, 10, 2, 1805, 99, 1802, 1804, 84, 0]), (42, .lload_n 3, 1, 0, []), (43, .ldc2_w 408, 3, 0, [10, 0, 1810]), (46, .ldiv, 1, 0, []),
  (47, .lstore_n 3, 1, 0, []), (48, .goto (-27), 3, 0, [13, 21]), (51, .return_, 1, 2, [0])]
noncomputable def mt_282 : mm_M := (⟨"DeafArrayModel", "tellsNumber", "(J)V"⟩, prog_11_method_112_code, 5, none, 1, 21, 9, 1, false)
/-- DeafArrayModel.tell(I)I -/
noncomputable def cd_283_0 : List mm_E := [
  (0, .aload_n 0, 1, 0, []), (1, .iload_n 1, 1, 0, []), (2, .invokevirtual 288, 3, 1, [69, 2, 10, 2, 1437, 99, 1434, 1436, 46, 0]), (5, .ifCond .eq 10, 3, 0, [7, 15]), (8, .aload_n 0, 1, 0, []), (9, .invokevirtual 294, 3, 1, [118, 1, 10, 1, 1453, 99, 1450, 1452, 47, 0]),
  (12, .ifCond .ne 6, 3, 0, [9, 18]), (15, .bipush (-2), 2, 0, [4294967294]), (17, .ireturn, 1, 2, [1]), (18, .aload_n 0, 1, 0, []), (19, .iconst 0, 1, 0, [0]), (20, .putfield 285, 3, 0, [9, 38, 1257, 0]),
  (23, .iconst 1, 1, 0, [1]), (24, .istore_n 2, 1, 0, []), (25, .aload_n 0, 1, 0, []), (26, .getfield 38, 3, 0, [9, 19, 1238, 0]), (29, .iload_n 1, 1, 0, []), (30, .iaload, 1, 0, []),
  (31, .iconst (-1), 1, 0, [4294967295]), (32, .if_icmp .ne 8, 3, 0, [22, 40]), (35, .bipush 81, 2, 0, [81]), (37, .goto 12, 3, 0, [28, 49]), (40, .bipush 62, 2, 0, [62]), (42, .aload_n 0, 1, 0, []),
  (43, .getfield 38, 3, 0, [9, 19, 1238, 0]), (46, .iload_n 1, 1, 0, []), (47, .iaload, 1, 0, []), (48, .iadd, 1, 0, []), (49, .istore_n 3, 1, 0, []), (50, .aload_n 0, 1, 0, []),
  (51, .getfield 38, 3, 0, [9, 19, 1238, 0]), (54, .iload_n 1, 1, 0, []), (55, .iaload, 1, 0, []), (56, .iconst (-1), 1, 0, [4294967295]), (57, .if_icmp .ne 7, 3, 0, [37, 64]), (60, .lconst 1, 1, 0, [1]),
  (61, .goto 7, 3, 0, [39, 68]), (64, .aload_n 0, 1, 0, []), (65, .getfield 158, 3, 0, [9, 16, 1235, 0]), (68, .lstore 4, 2, 0, []), (70, .aload_n 0, 1, 0, []), (71, .getfield 38, 3, 0, [9, 19, 1238, 0]),
  (74, .iload_n 1, 1, 0, []), (75, .iaload, 1, 0, []), (76, .iconst (-1), 1, 0, [4294967295]), (77, .if_icmp .ne 9, 3, 0, [49, 86]), (80, .aload_n 0, 1, 0, []), (81, .bipush 81, 2, 0, [81]),
  (83, .invokevirtual 81, 3, 1, [104, 2, 10, 3, 1481, 99, 1478, 1480, 54, 0]), (86, .iconst 0, 1, 0, [0]), (87, .istore 6, 2, 0, []), (89, .iload 6, 2, 0, []), (91, .iconst 4, 1, 0, [4]), (92, .if_icmp .ge 104, 3, 0, [103, 196]),
  (95, .aload_n 0, 1, 0, []), (96, .iload_n 3, 1, 0, []), (97, .lload 4, 2, 0, []), (99, .iload 6, 2, 0, []), (101, .invokevirtual 301, 3, 1, [131, 4, 10, 8, 1540, 99, 1537, 1539, 63, 0]), (104, .lstore 7, 2, 0, []),
  (106, .lload 7, 2, 0, []), (108, .lconst 0, 1, 0, [0]), (109, .lcmp, 1, 0, []), (110, .ifCond .ne 6, 3, 0, [65, 116]), (113, .goto 77, 3, 0, [101, 190]), (116, .lload 7, 2, 0, []),
  (118, .lconst 0, 1, 0, [0]), (119, .lcmp, 1, 0, []), (120, .ifCond .ge 12, 3, 0, [73, 132]), (123, .aload_n 0, 1, 0, []), (124, .bipush 45, 2, 0, [45]), (126, .invokevirtual 410, 3, 1, [281, 2, 10, 2, 1805, 99, 1802, 1804, 84, 0]),
  (129, .goto 13, 3, 0, [78, 142]), (132, .iload_n 2, 1, 0, []), (133, .ifCond .ne 9, 3, 0, [78, 142]), (136, .aload_n 0, 1, 0, []), (137, .bipush 43, 2, 0, [43]), (139, .invokevirtual 410, 3, 1, [281, 2, 10, 2, 1805, 99, 1802, 1804, 84, 0]),
  (142, .iconst 0, 1, 0, [0]), (143, .istore_n 2, 1, 0, []), (144, .iload 6, 2, 0, []), (146, .ifCond .eq 13, 3, 0, [87, 159]), (149, .lload 7, 2, 0, []), (151, .invokestatic 100, 3, 1, [125, 1, 0, 2, 801, 93, 1544, 800, 0, 0]),
  (154, .lconst 1, 1, 0, [1]), (155, .lcmp, 1, 0, []), (156, .ifCond .eq 12, 3, 0, [91, 168]), (159, .aload_n 0, 1, 0, []), (160, .lload 7, 2, 0, []), (162, .invokestatic 100, 3, 1, [125, 1, 0, 2, 801, 93, 1544, 800, 0, 0]),
  (165, .invokevirtual 413, 3, 1, [282, 2, 10, 5, 1809, 99, 1806, 1808, 85, 0]), (168, .iconst 0, 1, 0, [0]), (169, .istore 9, 2, 0, []), (171, .iload 9, 2, 0, []), (173, .iload 6, 2, 0, []), (175, .if_icmp .ge 15, 3, 0, [101, 190]),
  (178, .aload_n 0, 1, 0, []), (179, .bipush 122, 2, 0, [122]), (181, .invokevirtual 410, 3, 1, [281, 2, 10, 2, 1805, 99, 1802, 1804, 84, 0]), (184, .iinc 9 1, 3, 0, [])]
noncomputable def cd_283_1 : List mm_E := [
  (187, .goto (-16), 3, 0, [93, 171]), (190, .iinc 6 1, 3, 0, []), (193, .goto (-104), 3, 0, [51, 89]), (196, .iload_n 2, 1, 0, []), (197, .ifCond .eq 9, 3, 0, [108, 206]), (200, .aload_n 0, 1, 0, []),
  (201, .bipush 48, 2, 0, [48]), (203, .invokevirtual 410, 3, 1, [281, 2, 10, 2, 1805, 99, 1802, 1804, 84, 0]), (206, .aload_n 0, 1, 0, []), (207, .iload_n 3, 1, 0, []), (208, .lload 4, 2, 0, []), (210, .iconst 4, 1, 0, [4]),
  (211, .invokevirtual 301, 3, 1, [131, 4, 10, 8, 1540, 99, 1537, 1539, 63, 0]), (214, .lstore 6, 2, 0, []), (216, .lload 6, 2, 0, []), (218, .lconst 1, 1, 0, [1]), (219, .lcmp, 1, 0, []), (220, .ifCond .ne 8, 3, 0, [121, 228]),
  (223, .aload_n 0, 1, 0, []), (224, .getfield 285, 3, 0, [9, 38, 1257, 0]), (227, .ireturn, 1, 2, [1]), (228, .aload_n 0, 1, 0, []), (229, .bipush 47, 2, 0, [47]), (231, .invokevirtual 410, 3, 1, [281, 2, 10, 2, 1805, 99, 1802, 1804, 84, 0]),
  (234, .aload_n 0, 1, 0, []), (235, .lload 6, 2, 0, []), (237, .invokevirtual 413, 3, 1, [282, 2, 10, 5, 1809, 99, 1806, 1808, 85, 0]), (240, .aload_n 0, 1, 0, []), (241, .getfield 285, 3, 0, [9, 38, 1257, 0]), (244, .ireturn, 1, 2, [1])]
noncomputable def cd_283 : List mm_E := cd_283_0 ++ (cd_283_1)
noncomputable def mt_283 : mm_M := (⟨"DeafArrayModel", "tell", "(I)I"⟩, prog_11_method_113_code, 10, (some (.int)), 8, 193, 9, 1, false)
/-- DeafArray.octet(I)I -/
noncomputable def cd_284 : List mm_E := [
  (0, .iload_n 1, 1, 0, []), (1, .aload_n 0, 1, 0, []), (2, .getfield 52, 3, 0, [8, 6, 422, 0]), (5, .getfield 121, 3, 0, [4, 1, 408, 1]), (8, .invokestatic 126, 3, 1, [65, 2, 0, 2, 644, 89, 645, 643, 0, 0]), (11, .ifCond .eq 15, 3, 0, [12, 26]),
  (14, .aload_n 0, 1, 0, []), (15, .getfield 52, 3, 0, [8, 6, 422, 0]), (18, .getfield 383, 3, 0, [4, 0, 406, 1]), (21, .iload_n 1, 1, 0, []), (22, .iaload, 1, 0, []), (23, .goto 4, 3, 0, [13, 27]),
  (26, .iconst (-1), 1, 0, [4294967295]), (27, .ireturn, 1, 2, [1])]
noncomputable def mt_284 : mm_M := (⟨"DeafArray", "octet", "(I)I"⟩, prog_1_method_53_code, 2, (some (.int)), 1, 21, 8, 1, false)
/-- DeafArrayModel.octet(I)I -/
noncomputable def cd_285 : List mm_E := [
  (0, .iload_n 1, 1, 0, []), (1, .i2l, 1, 0, []), (2, .lconst 0, 1, 0, [0]), (3, .aload_n 0, 1, 0, []), (4, .getfield 285, 3, 0, [9, 38, 1257, 0]), (7, .iconst 1, 1, 0, [1]),
  (8, .isub, 1, 0, []), (9, .i2l, 1, 0, []), (10, .invokestatic 108, 3, 1, [16, 3, 0, 6, 1347, 99, 1345, 1346, 0, 0]), (13, .ifCond .eq 12, 3, 0, [15, 25]), (16, .aload_n 0, 1, 0, []), (17, .getfield 58, 3, 0, [9, 37, 1256, 0]),
  (20, .iload_n 1, 1, 0, []), (21, .baload, 1, 0, []), (22, .goto 4, 3, 0, [16, 26]), (25, .iconst (-1), 1, 0, [4294967295]), (26, .ireturn, 1, 2, [1])]
noncomputable def mt_285 : mm_M := (⟨"DeafArrayModel", "octet", "(I)I"⟩, prog_11_method_114_code, 2, (some (.int)), 1, 25, 9, 1, false)
/-- DeafArray.breaks(I)I -/
noncomputable def cd_286 : List mm_E := [
  (0, .aload_n 0, 1, 0, []), (1, .getfield 21, 3, 0, [8, 1, 417, 0]), (4, .getfield 85, 3, 0, [7, 0, 246, 1]), (7, .iload_n 1, 1, 0, []), (8, .invokevirtual 122, 3, 1, [66, 2, 6, 2, 641, 91, 638, 639, 640, 0]), (11, .ifCond .ne 6, 3, 0, [8, 17]),
  (14, .bipush (-2), 2, 0, [4294967294]), (16, .ireturn, 1, 2, [1]), (17, .aload_n 0, 1, 0, []), (18, .getfield 21, 3, 0, [8, 1, 417, 0]), (21, .getfield 85, 3, 0, [7, 0, 246, 1]), (24, .iload_n 1, 1, 0, []),
  (25, .invokevirtual 134, 3, 1, [67, 2, 6, 2, 649, 91, 646, 647, 648, 0]), (28, .ifCond .ne 6, 3, 0, [16, 34]), (31, .bipush (-5), 2, 0, [4294967291]), (33, .ireturn, 1, 2, [1]), (34, .aload_n 0, 1, 0, []), (35, .getfield 21, 3, 0, [8, 1, 417, 0]),
  (38, .getfield 85, 3, 0, [7, 0, 246, 1]), (41, .dup, 1, 0, []), (42, .getfield 256, 3, 0, [5, 3, 138, 1]), (45, .iconst 1, 1, 0, [1]), (46, .iload_n 1, 1, 0, []), (47, .ishl, 1, 0, []),
  (48, .ior, 1, 0, []), (49, .putfield 256, 3, 0, [5, 3, 138, 1]), (52, .aload_n 0, 1, 0, []), (53, .iconst 1, 1, 0, [1]), (54, .putfield 67, 3, 0, [8, 9, 425, 0]), (57, .aload_n 0, 1, 0, []),
  (58, .getfield 21, 3, 0, [8, 1, 417, 0]), (61, .getfield 85, 3, 0, [7, 0, 246, 1]), (64, .invokevirtual 105, 3, 1, [58, 1, 6, 1, 618, 91, 615, 616, 617, 0]), (67, .ireturn, 1, 2, [1])]
noncomputable def mt_286 : mm_M := (⟨"DeafArray", "breaks", "(I)I"⟩, prog_1_method_54_code, 2, (some (.int)), 2, 42, 8, 1, false)
/-- DeafArrayModel.breaks(I)I -/
noncomputable def cd_287 : List mm_E := [
  (0, .aload_n 0, 1, 0, []), (1, .iload_n 1, 1, 0, []), (2, .invokevirtual 288, 3, 1, [69, 2, 10, 2, 1437, 99, 1434, 1436, 46, 0]), (5, .ifCond .ne 6, 3, 0, [6, 11]), (8, .bipush (-2), 2, 0, [4294967294]), (10, .ireturn, 1, 2, [1]),
  (11, .aload_n 0, 1, 0, []), (12, .iload_n 1, 1, 0, []), (13, .invokevirtual 114, 3, 1, [61, 2, 10, 2, 1425, 99, 1422, 1424, 44, 0]), (16, .ifCond .eq 6, 3, 0, [12, 22]), (19, .bipush (-5), 2, 0, [4294967291]), (21, .ireturn, 1, 2, [1]),
  (22, .aload_n 0, 1, 0, []), (23, .getfield 18, 3, 0, [9, 5, 1224, 0]), (26, .bipush 7, 2, 0, [7]), (28, .iload_n 1, 1, 0, []), (29, .iadd, 1, 0, []), (30, .iconst 1, 1, 0, [1]),
  (31, .iastore, 1, 0, []), (32, .aload_n 0, 1, 0, []), (33, .invokevirtual 282, 3, 1, [62, 1, 10, 3, 1421, 99, 1418, 1420, 43, 0]), (36, .ireturn, 1, 2, [1])]
noncomputable def mt_287 : mm_M := (⟨"DeafArrayModel", "breaks", "(I)I"⟩, prog_11_method_115_code, 2, (some (.int)), 2, 46, 9, 1, false)
/-- DeafArray.mends(I)I -/
noncomputable def cd_288 : List mm_E := [
  (0, .aload_n 0, 1, 0, []), (1, .getfield 21, 3, 0, [8, 1, 417, 0]), (4, .getfield 85, 3, 0, [7, 0, 246, 1]), (7, .iload_n 1, 1, 0, []), (8, .invokevirtual 122, 3, 1, [66, 2, 6, 2, 641, 91, 638, 639, 640, 0]), (11, .ifCond .ne 6, 3, 0, [8, 17]),
  (14, .bipush (-2), 2, 0, [4294967294]), (16, .ireturn, 1, 2, [1]), (17, .aload_n 0, 1, 0, []), (18, .getfield 21, 3, 0, [8, 1, 417, 0]), (21, .getfield 85, 3, 0, [7, 0, 246, 1]), (24, .iload_n 1, 1, 0, []),
  (25, .invokevirtual 134, 3, 1, [67, 2, 6, 2, 649, 91, 646, 647, 648, 0]), (28, .ifCond .eq 6, 3, 0, [16, 34]), (31, .bipush (-5), 2, 0, [4294967291]), (33, .ireturn, 1, 2, [1]), (34, .aload_n 0, 1, 0, []), (35, .getfield 21, 3, 0, [8, 1, 417, 0]),
  (38, .getfield 85, 3, 0, [7, 0, 246, 1]), (41, .dup, 1, 0, []), (42, .getfield 256, 3, 0, [5, 3, 138, 1]), (45, .iconst 1, 1, 0, [1]), (46, .iload_n 1, 1, 0, []), (47, .ishl, 1, 0, []),
  (48, .iconst (-1), 1, 0, [4294967295]), (49, .ixor, 1, 0, []), (50, .iand, 1, 0, []), (51, .putfield 256, 3, 0, [5, 3, 138, 1]), (54, .aload_n 0, 1, 0, []), (55, .iconst 1, 1, 0, [1]),
  (56, .putfield 67, 3, 0, [8, 9, 425, 0]), (59, .aload_n 0, 1, 0, []), (60, .getfield 21, 3, 0, [8, 1, 417, 0]), (63, .getfield 85, 3, 0, [7, 0, 246, 1]), (66, .invokevirtual 105, 3, 1, [58, 1, 6, 1, 618, 91, 615, 616, 617, 0]), (69, .ireturn, 1, 2, [1])]
noncomputable def mt_288 : mm_M := (⟨"DeafArray", "mends", "(I)I"⟩, prog_1_method_55_code, 2, (some (.int)), 2, 42, 8, 1, false)
/-- DeafArrayModel.mends(I)I -/
noncomputable def cd_289 : List mm_E := [
  (0, .aload_n 0, 1, 0, []), (1, .iload_n 1, 1, 0, []), (2, .invokevirtual 288, 3, 1, [69, 2, 10, 2, 1437, 99, 1434, 1436, 46, 0]), (5, .ifCond .ne 6, 3, 0, [6, 11]), (8, .bipush (-2), 2, 0, [4294967294]), (10, .ireturn, 1, 2, [1]),
  (11, .aload_n 0, 1, 0, []), (12, .iload_n 1, 1, 0, []), (13, .invokevirtual 114, 3, 1, [61, 2, 10, 2, 1425, 99, 1422, 1424, 44, 0]), (16, .ifCond .ne 6, 3, 0, [12, 22]), (19, .bipush (-5), 2, 0, [4294967291]), (21, .ireturn, 1, 2, [1]),
  (22, .aload_n 0, 1, 0, []), (23, .getfield 18, 3, 0, [9, 5, 1224, 0]), (26, .bipush 7, 2, 0, [7]), (28, .iload_n 1, 1, 0, []), (29, .iadd, 1, 0, []), (30, .iconst 0, 1, 0, [0]),
  (31, .iastore, 1, 0, []), (32, .aload_n 0, 1, 0, []), (33, .invokevirtual 282, 3, 1, [62, 1, 10, 3, 1421, 99, 1418, 1420, 43, 0]), (36, .ireturn, 1, 2, [1])]
noncomputable def mt_289 : mm_M := (⟨"DeafArrayModel", "mends", "(I)I"⟩, prog_11_method_116_code, 2, (some (.int)), 2, 46, 9, 1, false)
/-- DeafArray.moves(II)I -/
noncomputable def cd_290 : List mm_E := [
  (0, .aload_n 0, 1, 0, []), (1, .getfield 21, 3, 0, [8, 1, 417, 0]), (4, .getfield 85, 3, 0, [7, 0, 246, 1]), (7, .iload_n 1, 1, 0, []), (8, .invokevirtual 122, 3, 1, [66, 2, 6, 2, 641, 91, 638, 639, 640, 0]), (11, .ifCond .eq 12, 3, 0, [10, 23]),
  (14, .iload_n 2, 1, 0, []), (15, .bipush 12, 2, 0, [12]), (17, .invokestatic 126, 3, 1, [65, 2, 0, 2, 644, 89, 645, 643, 0, 0]), (20, .ifCond .ne 6, 3, 0, [12, 26]), (23, .bipush (-2), 2, 0, [4294967294]), (25, .ireturn, 1, 2, [1]),
  (26, .aload_n 0, 1, 0, []), (27, .getfield 21, 3, 0, [8, 1, 417, 0]), (30, .getfield 85, 3, 0, [7, 0, 246, 1]), (33, .iload_n 2, 1, 0, []), (34, .invokevirtual 362, 3, 1, [28, 2, 6, 3, 567, 91, 1144, 565, 566, 0]), (37, .iconst (-1), 1, 0, [4294967295]),
  (38, .if_icmp .eq 6, 3, 0, [21, 44]), (41, .bipush (-5), 2, 0, [4294967291]), (43, .ireturn, 1, 2, [1]), (44, .aload_n 0, 1, 0, []), (45, .getfield 21, 3, 0, [8, 1, 417, 0]), (48, .getfield 85, 3, 0, [7, 0, 246, 1]),
  (51, .getfield 130, 3, 0, [5, 0, 126, 1]), (54, .iload_n 1, 1, 0, []), (55, .iaload, 1, 0, []), (56, .istore_n 3, 1, 0, []), (57, .aload_n 0, 1, 0, []), (58, .getfield 21, 3, 0, [8, 1, 417, 0]),
  (61, .getfield 85, 3, 0, [7, 0, 246, 1]), (64, .getfield 130, 3, 0, [5, 0, 126, 1]), (67, .iload_n 1, 1, 0, []), (68, .iload_n 2, 1, 0, []), (69, .iastore, 1, 0, []), (70, .aload_n 0, 1, 0, []),
  (71, .iconst 1, 1, 0, [1]), (72, .putfield 67, 3, 0, [8, 9, 425, 0]), (75, .iload_n 3, 1, 0, []), (76, .ireturn, 1, 2, [1])]
noncomputable def mt_290 : mm_M := (⟨"DeafArray", "moves", "(II)I"⟩, prog_1_method_56_code, 4, (some (.int)), 2, 42, 8, 2, false)
/-- DeafArrayModel.moves(II)I -/
noncomputable def cd_291 : List mm_E := [
  (0, .aload_n 0, 1, 0, []), (1, .iload_n 1, 1, 0, []), (2, .invokevirtual 288, 3, 1, [69, 2, 10, 2, 1437, 99, 1434, 1436, 46, 0]), (5, .ifCond .eq 15, 3, 0, [10, 20]), (8, .iload_n 2, 1, 0, []), (9, .i2l, 1, 0, []),
  (10, .lconst 0, 1, 0, [0]), (11, .ldc2_w 112, 3, 0, [11, 0, 1445]), (14, .invokestatic 108, 3, 1, [16, 3, 0, 6, 1347, 99, 1345, 1346, 0, 0]), (17, .ifCond .ne 6, 3, 0, [12, 23]), (20, .bipush (-2), 2, 0, [4294967294]), (22, .ireturn, 1, 2, [1]),
  (23, .aload_n 0, 1, 0, []), (24, .iload_n 2, 1, 0, []), (25, .invokevirtual 401, 3, 1, [271, 2, 10, 3, 1791, 99, 1788, 1790, 83, 0]), (28, .ifCond .eq 6, 3, 0, [18, 34]), (31, .bipush (-5), 2, 0, [4294967291]), (33, .ireturn, 1, 2, [1]),
  (34, .aload_n 0, 1, 0, []), (35, .getfield 18, 3, 0, [9, 5, 1224, 0]), (38, .iconst 2, 1, 0, [2]), (39, .iload_n 1, 1, 0, []), (40, .iadd, 1, 0, []), (41, .iaload, 1, 0, []),
  (42, .istore_n 3, 1, 0, []), (43, .aload_n 0, 1, 0, []), (44, .getfield 18, 3, 0, [9, 5, 1224, 0]), (47, .iconst 2, 1, 0, [2]), (48, .iload_n 1, 1, 0, []), (49, .iadd, 1, 0, []),
  (50, .iload_n 2, 1, 0, []), (51, .iastore, 1, 0, []), (52, .iload_n 3, 1, 0, []), (53, .ireturn, 1, 2, [1])]
noncomputable def mt_291 : mm_M := (⟨"DeafArrayModel", "moves", "(II)I"⟩, prog_11_method_117_code, 4, (some (.int)), 2, 46, 9, 2, false)
/-- DeafArray$Plan.isNone()Z -/
noncomputable def cd_292 : List mm_E := [
  (0, .aload_n 0, 1, 0, []), (1, .getfield 31, 3, 0, [5, 6, 148, 0]), (4, .ifCond .ne 7, 3, 0, [5, 11]), (7, .iconst 1, 1, 0, [1]), (8, .goto 4, 3, 0, [6, 12]), (11, .iconst 0, 1, 0, [0]),
  (12, .ireturn, 1, 2, [2])]
noncomputable def mt_292 : mm_M := (⟨"DeafArray$Plan", "isNone", "()Z"⟩, prog_7_method_4_code, 1, (some (.boolean)), 0, 0, 5, 0, false)
/-- DeafArray.look(I)I -/
noncomputable def cd_293 : List mm_E := [
  (0, .iload_n 1, 1, 0, []), (1, .invokestatic 137, 3, 1, [71, 1, 0, 1, 656, 89, 654, 655, 0, 0]), (4, .ifCond .eq 16, 3, 0, [8, 20]), (7, .aload_n 0, 1, 0, []), (8, .getfield 21, 3, 0, [8, 1, 417, 0]), (11, .getfield 85, 3, 0, [7, 0, 246, 1]),
  (14, .invokevirtual 386, 3, 1, [292, 1, 6, 1, 1200, 91, 1197, 1198, 1199, 0]), (17, .ifCond .eq 6, 3, 0, [10, 23]), (20, .bipush (-2), 2, 0, [4294967294]), (22, .ireturn, 1, 2, [1]), (23, .aload_n 0, 1, 0, []), (24, .getfield 21, 3, 0, [8, 1, 417, 0]),
  (27, .getfield 85, 3, 0, [7, 0, 246, 1]), (30, .getfield 112, 3, 0, [5, 4, 141, 1]), (33, .iload_n 1, 1, 0, []), (34, .if_icmp .ne 6, 3, 0, [18, 40]), (37, .bipush (-5), 2, 0, [4294967291]), (39, .ireturn, 1, 2, [1]),
  (40, .aload_n 0, 1, 0, []), (41, .getfield 21, 3, 0, [8, 1, 417, 0]), (44, .getfield 85, 3, 0, [7, 0, 246, 1]), (47, .getfield 112, 3, 0, [5, 4, 141, 1]), (50, .istore_n 2, 1, 0, []), (51, .aload_n 0, 1, 0, []),
  (52, .getfield 21, 3, 0, [8, 1, 417, 0]), (55, .getfield 85, 3, 0, [7, 0, 246, 1]), (58, .iload_n 1, 1, 0, []), (59, .invokevirtual 389, 3, 1, [250, 2, 6, 2, 1090, 91, 1087, 1088, 1089, 0]), (62, .aload_n 0, 1, 0, []), (63, .iconst 1, 1, 0, [1]),
  (64, .putfield 67, 3, 0, [8, 9, 425, 0]), (67, .iload_n 2, 1, 0, []), (68, .ireturn, 1, 2, [1])]
noncomputable def mt_293 : mm_M := (⟨"DeafArray", "look", "(I)I"⟩, prog_1_method_57_code, 3, (some (.int)), 2, 44, 8, 1, false)
/-- DeafArrayModel.isArray()Z -/
noncomputable def cd_294 : List mm_E := [
  (0, .aload_n 0, 1, 0, []), (1, .getfield 18, 3, 0, [9, 5, 1224, 0]), (4, .bipush 18, 2, 0, [18]), (6, .iaload, 1, 0, []), (7, .ifCond .le 7, 3, 0, [7, 14]), (10, .iconst 1, 1, 0, [1]),
  (11, .goto 4, 3, 0, [8, 15]), (14, .iconst 0, 1, 0, [0]), (15, .ireturn, 1, 2, [2])]
noncomputable def mt_294 : mm_M := (⟨"DeafArrayModel", "isArray", "()Z"⟩, prog_11_method_16_code, 1, (some (.boolean)), 0, 0, 9, 0, false)
/-- DeafArrayModel.takesOut(I)V -/
noncomputable def cd_295 : List mm_E := [
  (0, .iload_n 1, 1, 0, []), (1, .istore_n 2, 1, 0, []), (2, .iload_n 2, 1, 0, []), (3, .iconst 1, 1, 0, [1]), (4, .iadd, 1, 0, []), (5, .aload_n 0, 1, 0, []),
  (6, .getfield 18, 3, 0, [9, 5, 1224, 0]), (9, .bipush 13, 2, 0, [13]), (11, .iaload, 1, 0, []), (12, .if_icmp .ge 29, 3, 0, [26, 41]), (15, .aload_n 0, 1, 0, []), (16, .getfield 18, 3, 0, [9, 5, 1224, 0]),
  (19, .bipush 14, 2, 0, [14]), (21, .iload_n 2, 1, 0, []), (22, .iadd, 1, 0, []), (23, .aload_n 0, 1, 0, []), (24, .getfield 18, 3, 0, [9, 5, 1224, 0]), (27, .bipush 14, 2, 0, [14]),
  (29, .iload_n 2, 1, 0, []), (30, .iadd, 1, 0, []), (31, .iconst 1, 1, 0, [1]), (32, .iadd, 1, 0, []), (33, .iaload, 1, 0, []), (34, .iastore, 1, 0, []),
  (35, .iinc 2 1, 3, 0, []), (38, .goto (-36), 3, 0, [2, 2]), (41, .aload_n 0, 1, 0, []), (42, .getfield 18, 3, 0, [9, 5, 1224, 0]), (45, .bipush 13, 2, 0, [13]), (47, .dup2, 1, 0, []),
  (48, .iaload, 1, 0, []), (49, .iconst 1, 1, 0, [1]), (50, .isub, 1, 0, []), (51, .iastore, 1, 0, []), (52, .return_, 1, 2, [0])]
noncomputable def mt_295 : mm_M := (⟨"DeafArrayModel", "takesOut", "(I)V"⟩, prog_11_method_118_code, 3, none, 0, 0, 9, 1, false)
/-- DeafArrayModel.look(I)I -/
noncomputable def cd_296 : List mm_E := [
  (0, .aload_n 0, 1, 0, []), (1, .invokevirtual 417, 3, 1, [294, 1, 10, 1, 1834, 99, 1831, 1833, 86, 0]), (4, .ifCond .eq 10, 3, 0, [6, 14]), (7, .iload_n 1, 1, 0, []), (8, .invokestatic 291, 3, 1, [73, 1, 0, 1, 1444, 99, 1442, 1443, 0, 0]), (11, .ifCond .ne 6, 3, 0, [8, 17]),
  (14, .bipush (-2), 2, 0, [4294967294]), (16, .ireturn, 1, 2, [1]), (17, .aload_n 0, 1, 0, []), (18, .invokevirtual 184, 3, 1, [63, 1, 10, 1, 1429, 99, 1426, 1428, 45, 0]), (21, .istore_n 2, 1, 0, []), (22, .iload_n 2, 1, 0, []),
  (23, .iload_n 1, 1, 0, []), (24, .if_icmp .ne 6, 3, 0, [16, 30]), (27, .bipush (-5), 2, 0, [4294967291]), (29, .ireturn, 1, 2, [1]), (30, .aload_n 0, 1, 0, []), (31, .iload_n 1, 1, 0, []),
  (32, .invokevirtual 322, 3, 1, [182, 2, 10, 3, 1600, 99, 1597, 1599, 69, 0]), (35, .iconst (-1), 1, 0, [4294967295]), (36, .if_icmp .eq 12, 3, 0, [26, 48]), (39, .aload_n 0, 1, 0, []), (40, .aload_n 0, 1, 0, []), (41, .iload_n 1, 1, 0, []),
  (42, .invokevirtual 322, 3, 1, [182, 2, 10, 3, 1600, 99, 1597, 1599, 69, 0]), (45, .invokevirtual 420, 3, 1, [295, 2, 10, 3, 1838, 99, 1835, 1837, 87, 0]), (48, .aload_n 0, 1, 0, []), (49, .getfield 18, 3, 0, [9, 5, 1224, 0]), (52, .bipush 12, 2, 0, [12]), (54, .iload_n 1, 1, 0, []),
  (55, .iconst 1, 1, 0, [1]), (56, .iadd, 1, 0, []), (57, .iastore, 1, 0, []), (58, .iload_n 2, 1, 0, []), (59, .ireturn, 1, 2, [1])]
noncomputable def mt_296 : mm_M := (⟨"DeafArrayModel", "look", "(I)I"⟩, prog_11_method_119_code, 3, (some (.int)), 2, 45, 9, 1, false)
/-- DeafArray.deaf(I)I -/
noncomputable def cd_297 : List mm_E := [
  (0, .iload_n 1, 1, 0, []), (1, .invokestatic 137, 3, 1, [71, 1, 0, 1, 656, 89, 654, 655, 0, 0]), (4, .ifCond .eq 16, 3, 0, [8, 20]), (7, .aload_n 0, 1, 0, []), (8, .getfield 21, 3, 0, [8, 1, 417, 0]), (11, .getfield 85, 3, 0, [7, 0, 246, 1]),
  (14, .invokevirtual 386, 3, 1, [292, 1, 6, 1, 1200, 91, 1197, 1198, 1199, 0]), (17, .ifCond .eq 6, 3, 0, [10, 23]), (20, .bipush (-2), 2, 0, [4294967294]), (22, .ireturn, 1, 2, [1]), (23, .aload_n 0, 1, 0, []), (24, .getfield 21, 3, 0, [8, 1, 417, 0]),
  (27, .getfield 85, 3, 0, [7, 0, 246, 1]), (30, .invokevirtual 344, 3, 1, [32, 1, 6, 1, 584, 91, 1114, 582, 583, 0]), (33, .iload_n 1, 1, 0, []), (34, .ishr, 1, 0, []), (35, .iconst 1, 1, 0, [1]), (36, .iand, 1, 0, []),
  (37, .ifCond .ne 17, 3, 0, [25, 54]), (40, .aload_n 0, 1, 0, []), (41, .getfield 21, 3, 0, [8, 1, 417, 0]), (44, .getfield 85, 3, 0, [7, 0, 246, 1]), (47, .getfield 277, 3, 0, [5, 5, 147, 1]), (50, .iconst 4, 1, 0, [4]),
  (51, .if_icmp .ne 6, 3, 0, [27, 57]), (54, .bipush (-5), 2, 0, [4294967291]), (56, .ireturn, 1, 2, [1]), (57, .aload_n 0, 1, 0, []), (58, .getfield 21, 3, 0, [8, 1, 417, 0]), (61, .getfield 85, 3, 0, [7, 0, 246, 1]),
  (64, .iload_n 1, 1, 0, []), (65, .invokevirtual 392, 3, 1, [35, 2, 6, 2, 597, 91, 1119, 595, 596, 0]), (68, .aload_n 0, 1, 0, []), (69, .iconst 1, 1, 0, [1]), (70, .putfield 67, 3, 0, [8, 9, 425, 0]), (73, .aload_n 0, 1, 0, []),
  (74, .getfield 21, 3, 0, [8, 1, 417, 0]), (77, .getfield 85, 3, 0, [7, 0, 246, 1]), (80, .getfield 277, 3, 0, [5, 5, 147, 1]), (83, .ireturn, 1, 2, [1])]
noncomputable def mt_297 : mm_M := (⟨"DeafArray", "deaf", "(I)I"⟩, prog_1_method_58_code, 2, (some (.int)), 2, 42, 8, 1, false)
/-- DeafArrayModel.deaf(I)I -/
noncomputable def cd_298 : List mm_E := [
  (0, .aload_n 0, 1, 0, []), (1, .invokevirtual 417, 3, 1, [294, 1, 10, 1, 1834, 99, 1831, 1833, 86, 0]), (4, .ifCond .eq 10, 3, 0, [6, 14]), (7, .iload_n 1, 1, 0, []), (8, .invokestatic 291, 3, 1, [73, 1, 0, 1, 1444, 99, 1442, 1443, 0, 0]), (11, .ifCond .ne 6, 3, 0, [8, 17]),
  (14, .bipush (-2), 2, 0, [4294967294]), (16, .ireturn, 1, 2, [1]), (17, .aload_n 0, 1, 0, []), (18, .iload_n 1, 1, 0, []), (19, .invokevirtual 322, 3, 1, [182, 2, 10, 3, 1600, 99, 1597, 1599, 69, 0]), (22, .iconst (-1), 1, 0, [4294967295]),
  (23, .if_icmp .ne 22, 3, 0, [23, 45]), (26, .aload_n 0, 1, 0, []), (27, .invokevirtual 184, 3, 1, [63, 1, 10, 1, 1429, 99, 1426, 1428, 45, 0]), (30, .iload_n 1, 1, 0, []), (31, .if_icmp .eq 14, 3, 0, [23, 45]), (34, .aload_n 0, 1, 0, []),
  (35, .getfield 18, 3, 0, [9, 5, 1224, 0]), (38, .bipush 13, 2, 0, [13]), (40, .iaload, 1, 0, []), (41, .iconst 4, 1, 0, [4]), (42, .if_icmp .ne 6, 3, 0, [25, 48]), (45, .bipush (-5), 2, 0, [4294967291]),
  (47, .ireturn, 1, 2, [1]), (48, .aload_n 0, 1, 0, []), (49, .getfield 18, 3, 0, [9, 5, 1224, 0]), (52, .bipush 14, 2, 0, [14]), (54, .aload_n 0, 1, 0, []), (55, .getfield 18, 3, 0, [9, 5, 1224, 0]),
  (58, .bipush 13, 2, 0, [13]), (60, .iaload, 1, 0, []), (61, .iadd, 1, 0, []), (62, .iload_n 1, 1, 0, []), (63, .iastore, 1, 0, []), (64, .aload_n 0, 1, 0, []),
  (65, .getfield 18, 3, 0, [9, 5, 1224, 0]), (68, .bipush 13, 2, 0, [13]), (70, .dup2, 1, 0, []), (71, .iaload, 1, 0, []), (72, .iconst 1, 1, 0, [1]), (73, .iadd, 1, 0, []),
  (74, .iastore, 1, 0, []), (75, .aload_n 0, 1, 0, []), (76, .getfield 18, 3, 0, [9, 5, 1224, 0]), (79, .bipush 13, 2, 0, [13]), (81, .iaload, 1, 0, []), (82, .ireturn, 1, 2, [1])]
noncomputable def mt_298 : mm_M := (⟨"DeafArrayModel", "deaf", "(I)I"⟩, prog_11_method_120_code, 2, (some (.int)), 2, 45, 9, 1, false)
/-- DeafArray.hear(I)I -/
noncomputable def cd_299 : List mm_E := [
  (0, .iload_n 1, 1, 0, []), (1, .invokestatic 137, 3, 1, [71, 1, 0, 1, 656, 89, 654, 655, 0, 0]), (4, .ifCond .eq 16, 3, 0, [8, 20]), (7, .aload_n 0, 1, 0, []), (8, .getfield 21, 3, 0, [8, 1, 417, 0]), (11, .getfield 85, 3, 0, [7, 0, 246, 1]),
  (14, .invokevirtual 386, 3, 1, [292, 1, 6, 1, 1200, 91, 1197, 1198, 1199, 0]), (17, .ifCond .eq 6, 3, 0, [10, 23]), (20, .bipush (-2), 2, 0, [4294967294]), (22, .ireturn, 1, 2, [1]), (23, .aload_n 0, 1, 0, []), (24, .getfield 21, 3, 0, [8, 1, 417, 0]),
  (27, .getfield 85, 3, 0, [7, 0, 246, 1]), (30, .invokevirtual 115, 3, 1, [31, 1, 6, 3, 588, 91, 629, 586, 587, 0]), (33, .iload_n 1, 1, 0, []), (34, .ishr, 1, 0, []), (35, .iconst 1, 1, 0, [1]), (36, .iand, 1, 0, []),
  (37, .ifCond .ne 6, 3, 0, [21, 43]), (40, .bipush (-5), 2, 0, [4294967291]), (42, .ireturn, 1, 2, [1]), (43, .aload_n 0, 1, 0, []), (44, .getfield 21, 3, 0, [8, 1, 417, 0]), (47, .getfield 85, 3, 0, [7, 0, 246, 1]),
  (50, .iload_n 1, 1, 0, []), (51, .invokevirtual 395, 3, 1, [249, 2, 6, 4, 1094, 91, 1209, 1092, 1093, 0]), (54, .aload_n 0, 1, 0, []), (55, .iconst 1, 1, 0, [1]), (56, .putfield 67, 3, 0, [8, 9, 425, 0]), (59, .aload_n 0, 1, 0, []),
  (60, .getfield 21, 3, 0, [8, 1, 417, 0]), (63, .getfield 85, 3, 0, [7, 0, 246, 1]), (66, .getfield 277, 3, 0, [5, 5, 147, 1]), (69, .ireturn, 1, 2, [1])]
noncomputable def mt_299 : mm_M := (⟨"DeafArray", "hear", "(I)I"⟩, prog_1_method_59_code, 2, (some (.int)), 2, 41, 8, 1, false)
/-- DeafArrayModel.hear(I)I -/
noncomputable def cd_300 : List mm_E := [
  (0, .aload_n 0, 1, 0, []), (1, .invokevirtual 417, 3, 1, [294, 1, 10, 1, 1834, 99, 1831, 1833, 86, 0]), (4, .ifCond .eq 10, 3, 0, [6, 14]), (7, .iload_n 1, 1, 0, []), (8, .invokestatic 291, 3, 1, [73, 1, 0, 1, 1444, 99, 1442, 1443, 0, 0]), (11, .ifCond .ne 6, 3, 0, [8, 17]),
  (14, .bipush (-2), 2, 0, [4294967294]), (16, .ireturn, 1, 2, [1]), (17, .aload_n 0, 1, 0, []), (18, .iload_n 1, 1, 0, []), (19, .invokevirtual 322, 3, 1, [182, 2, 10, 3, 1600, 99, 1597, 1599, 69, 0]), (22, .iconst (-1), 1, 0, [4294967295]),
  (23, .if_icmp .ne 6, 3, 0, [15, 29]), (26, .bipush (-5), 2, 0, [4294967291]), (28, .ireturn, 1, 2, [1]), (29, .aload_n 0, 1, 0, []), (30, .aload_n 0, 1, 0, []), (31, .iload_n 1, 1, 0, []),
  (32, .invokevirtual 322, 3, 1, [182, 2, 10, 3, 1600, 99, 1597, 1599, 69, 0]), (35, .invokevirtual 420, 3, 1, [295, 2, 10, 3, 1838, 99, 1835, 1837, 87, 0]), (38, .aload_n 0, 1, 0, []), (39, .getfield 18, 3, 0, [9, 5, 1224, 0]), (42, .bipush 13, 2, 0, [13]), (44, .iaload, 1, 0, []),
  (45, .ireturn, 1, 2, [1])]
noncomputable def mt_300 : mm_M := (⟨"DeafArrayModel", "hear", "(I)I"⟩, prog_11_method_121_code, 2, (some (.int)), 2, 45, 9, 1, false)
/-- DeafArray.steps(I)I -/
noncomputable def cd_301 : List mm_E := [
  (0, .iload_n 1, 1, 0, []), (1, .iconst 1, 1, 0, [1]), (2, .if_icmp .lt 22, 3, 0, [11, 24]), (5, .iload_n 1, 1, 0, []), (6, .bipush 99, 2, 0, [99]), (8, .if_icmp .gt 16, 3, 0, [11, 24]),
  (11, .aload_n 0, 1, 0, []), (12, .getfield 21, 3, 0, [8, 1, 417, 0]), (15, .getfield 85, 3, 0, [7, 0, 246, 1]), (18, .invokevirtual 386, 3, 1, [292, 1, 6, 1, 1200, 91, 1197, 1198, 1199, 0]), (21, .ifCond .eq 6, 3, 0, [13, 27]), (24, .bipush (-2), 2, 0, [4294967294]),
  (26, .ireturn, 1, 2, [1]), (27, .aload_n 0, 1, 0, []), (28, .getfield 21, 3, 0, [8, 1, 417, 0]), (31, .getfield 85, 3, 0, [7, 0, 246, 1]), (34, .getfield 109, 3, 0, [5, 6, 151, 1]), (37, .istore_n 2, 1, 0, []),
  (38, .aload_n 0, 1, 0, []), (39, .getfield 21, 3, 0, [8, 1, 417, 0]), (42, .getfield 85, 3, 0, [7, 0, 246, 1]), (45, .iload_n 1, 1, 0, []), (46, .putfield 109, 3, 0, [5, 6, 151, 1]), (49, .iload_n 2, 1, 0, []),
  (50, .ireturn, 1, 2, [1])]
noncomputable def mt_301 : mm_M := (⟨"DeafArray", "steps", "(I)I"⟩, prog_1_method_60_code, 3, (some (.int)), 1, 20, 8, 1, false)
/-- DeafArrayModel.steps(I)I -/
noncomputable def cd_302 : List mm_E := [
  (0, .aload_n 0, 1, 0, []), (1, .invokevirtual 417, 3, 1, [294, 1, 10, 1, 1834, 99, 1831, 1833, 86, 0]), (4, .ifCond .eq 15, 3, 0, [9, 19]), (7, .iload_n 1, 1, 0, []), (8, .i2l, 1, 0, []), (9, .lconst 1, 1, 0, [1]),
  (10, .ldc2_w 331, 3, 0, [99, 0, 1612]), (13, .invokestatic 108, 3, 1, [16, 3, 0, 6, 1347, 99, 1345, 1346, 0, 0]), (16, .ifCond .ne 6, 3, 0, [11, 22]), (19, .bipush (-2), 2, 0, [4294967294]), (21, .ireturn, 1, 2, [1]), (22, .aload_n 0, 1, 0, []),
  (23, .getfield 18, 3, 0, [9, 5, 1224, 0]), (26, .iconst 0, 1, 0, [0]), (27, .iaload, 1, 0, []), (28, .istore_n 2, 1, 0, []), (29, .aload_n 0, 1, 0, []), (30, .getfield 18, 3, 0, [9, 5, 1224, 0]),
  (33, .iconst 0, 1, 0, [0]), (34, .iload_n 1, 1, 0, []), (35, .iastore, 1, 0, []), (36, .iload_n 2, 1, 0, []), (37, .ireturn, 1, 2, [1])]
noncomputable def mt_302 : mm_M := (⟨"DeafArrayModel", "steps", "(I)I"⟩, prog_11_method_122_code, 3, (some (.int)), 1, 25, 9, 1, false)
/-- DeafArrayLaw.law([I)Z -/
noncomputable def cd_303_0 : List mm_E := [
  (0, .new 7, 3, 0, [8, 10, 105, 106, 89]), (3, .dup, 1, 0, []), (4, .invokespecial 9, 3, 1, [10, 1, 9, 1, 109, 89, 107, 108, 0, 0]), (7, .astore_n 1, 1, 0, []), (8, .new 10, 3, 0, [9, 39, 1214, 1215, 99]), (11, .dup, 1, 0, []),
  (12, .invokespecial 12, 3, 1, [11, 1, 10, 1, 1218, 99, 1216, 1217, 0, 0]), (15, .astore_n 2, 1, 0, []), (16, .iconst 0, 1, 0, [0]), (17, .istore_n 3, 1, 0, []), (18, .iload_n 3, 1, 0, []), (19, .aload_n 0, 1, 0, []),
  (20, .arraylength, 1, 0, []), (21, .bipush 6, 2, 0, [6]), (23, .isub, 1, 0, []), (24, .if_icmp .gt 1856, 3, 0, [1260, 1880]), (27, .aload_n 0, 1, 0, []), (28, .iload_n 3, 1, 0, []),
  (29, .iaload, 1, 0, []), (30, .bipush 63, 2, 0, [63]), (32, .iand, 1, 0, []), (33, .tableswitch 1841 0 58 #[251, 314, 337, 350, 373, 396, 429, 462, 495, 508, 521, 555, 589, 623, 647, 680, 703, 746, 779, 813, 837, 880, 903, 916, 929, 962, 985, 998, 1031, 1044, 1067, 1090, 1134, 1147, 1181, 1215, 1249, 1283, 1296, 1319, 1352, 1375, 1388, 1422, 1435, 1448, 1461, 1504, 1537, 1560, 1624, 1647, 1670, 1693, 1716, 1749, 1772, 1795, 1818], 251, 0, [1258, 1874, 22, 284, 79, 347, 96, 370, 103, 383, 120, 406, 137, 429, 164, 462, 191, 495, 218, 528, 225, 541, 232, 554, 260, 588, 288, 622, 316, 656, 334, 680, 361, 713, 378, 736, 415, 779, 442, 812, 470, 846, 488, 870, 525, 913, 542, 936, 549, 949, 556, 962, 583, 995, 600, 1018, 607, 1031, 634, 1064, 641, 1077, 658, 1100, 675, 1123, 713, 1167, 720, 1180, 748, 1214, 776, 1248, 804, 1282, 832, 1316, 839, 1329, 856, 1352, 883, 1385, 900, 1408, 907, 1421, 935, 1455, 942, 1468, 949, 1481, 956, 1494, 993, 1537, 1020, 1570, 1037, 1593, 1095, 1657, 1112, 1680, 1129, 1703, 1146, 1726, 1163, 1749, 1190, 1782, 1207, 1805, 1224, 1828, 1241, 1851]), (284, .aload_n 1, 1, 0, []), (285, .aload_n 0, 1, 0, []),
  (286, .iload_n 3, 1, 0, []), (287, .iconst 1, 1, 0, [1]), (288, .iadd, 1, 0, []), (289, .iaload, 1, 0, []), (290, .aload_n 0, 1, 0, []), (291, .iload_n 3, 1, 0, []),
  (292, .iconst 2, 1, 0, [2]), (293, .iadd, 1, 0, []), (294, .iaload, 1, 0, []), (295, .aload_n 0, 1, 0, []), (296, .iload_n 3, 1, 0, []), (297, .iconst 3, 1, 0, [3]),
  (298, .iadd, 1, 0, []), (299, .iaload, 1, 0, []), (300, .aload_n 0, 1, 0, []), (301, .iload_n 3, 1, 0, []), (302, .iconst 4, 1, 0, [4]), (303, .iadd, 1, 0, []),
  (304, .iaload, 1, 0, []), (305, .aload_n 0, 1, 0, []), (306, .iload_n 3, 1, 0, []), (307, .iconst 5, 1, 0, [5]), (308, .iadd, 1, 0, []), (309, .iaload, 1, 0, []),
  (310, .invokevirtual 13, 3, 1, [13, 6, 9, 6, 450, 89, 447, 448, 449, 0]), (313, .aload_n 2, 1, 0, []), (314, .aload_n 0, 1, 0, []), (315, .iload_n 3, 1, 0, []), (316, .iconst 1, 1, 0, [1]), (317, .iadd, 1, 0, []),
  (318, .iaload, 1, 0, []), (319, .aload_n 0, 1, 0, []), (320, .iload_n 3, 1, 0, []), (321, .iconst 2, 1, 0, [2]), (322, .iadd, 1, 0, []), (323, .iaload, 1, 0, []),
  (324, .aload_n 0, 1, 0, []), (325, .iload_n 3, 1, 0, []), (326, .iconst 3, 1, 0, [3]), (327, .iadd, 1, 0, []), (328, .iaload, 1, 0, []), (329, .aload_n 0, 1, 0, []),
  (330, .iload_n 3, 1, 0, []), (331, .iconst 4, 1, 0, [4]), (332, .iadd, 1, 0, []), (333, .iaload, 1, 0, []), (334, .aload_n 0, 1, 0, []), (335, .iload_n 3, 1, 0, []),
  (336, .iconst 5, 1, 0, [5]), (337, .iadd, 1, 0, []), (338, .iaload, 1, 0, []), (339, .invokevirtual 17, 3, 1, [14, 6, 10, 7, 1340, 99, 1337, 1338, 1339, 0]), (342, .if_icmp .eq 1532, 3, 0, [1258, 1874]), (345, .iconst 0, 1, 0, [0]),
  (346, .ireturn, 1, 2, [2]), (347, .aload_n 1, 1, 0, []), (348, .aload_n 0, 1, 0, []), (349, .iload_n 3, 1, 0, []), (350, .iconst 1, 1, 0, [1]), (351, .iadd, 1, 0, []),
  (352, .iaload, 1, 0, []), (353, .invokevirtual 18, 3, 1, [15, 2, 9, 2, 458, 89, 455, 456, 457, 0]), (356, .aload_n 2, 1, 0, []), (357, .aload_n 0, 1, 0, []), (358, .iload_n 3, 1, 0, []), (359, .iconst 1, 1, 0, [1]),
  (360, .iadd, 1, 0, []), (361, .iaload, 1, 0, []), (362, .invokevirtual 22, 3, 1, [17, 2, 10, 2, 1344, 99, 1341, 1342, 1343, 0]), (365, .if_icmp .eq 1509, 3, 0, [1258, 1874]), (368, .iconst 0, 1, 0, [0]), (369, .ireturn, 1, 2, [2]),
  (370, .aload_n 1, 1, 0, []), (371, .invokevirtual 23, 3, 1, [41, 1, 9, 1, 462, 89, 459, 460, 461, 0]), (374, .aload_n 2, 1, 0, []), (375, .invokevirtual 27, 3, 1, [53, 1, 10, 2, 1355, 99, 1352, 1353, 1354, 0])]
noncomputable def cd_303_1 : List mm_E := [
  (378, .if_icmp .eq 1496, 3, 0, [1258, 1874]), (381, .iconst 0, 1, 0, [0]), (382, .ireturn, 1, 2, [2]), (383, .aload_n 1, 1, 0, []), (384, .aload_n 0, 1, 0, []), (385, .iload_n 3, 1, 0, []),
  (386, .iconst 1, 1, 0, [1]), (387, .iadd, 1, 0, []), (388, .iaload, 1, 0, []), (389, .invokevirtual 28, 3, 1, [54, 2, 9, 2, 610, 89, 607, 608, 609, 0]), (392, .aload_n 2, 1, 0, []), (393, .aload_n 0, 1, 0, []),
  (394, .iload_n 3, 1, 0, []), (395, .iconst 1, 1, 0, [1]), (396, .iadd, 1, 0, []), (397, .iaload, 1, 0, []), (398, .invokevirtual 31, 3, 1, [55, 2, 10, 2, 1351, 99, 1348, 1349, 1350, 0]), (401, .if_icmp .eq 1473, 3, 0, [1258, 1874]),
  (404, .iconst 0, 1, 0, [0]), (405, .ireturn, 1, 2, [2]), (406, .aload_n 1, 1, 0, []), (407, .aload_n 0, 1, 0, []), (408, .iload_n 3, 1, 0, []), (409, .iconst 1, 1, 0, [1]),
  (410, .iadd, 1, 0, []), (411, .iaload, 1, 0, []), (412, .invokevirtual 32, 3, 1, [60, 2, 9, 3, 614, 89, 611, 612, 613, 0]), (415, .aload_n 2, 1, 0, []), (416, .aload_n 0, 1, 0, []), (417, .iload_n 3, 1, 0, []),
  (418, .iconst 1, 1, 0, [1]), (419, .iadd, 1, 0, []), (420, .iaload, 1, 0, []), (421, .invokevirtual 35, 3, 1, [64, 2, 10, 4, 1417, 99, 1414, 1415, 1416, 0]), (424, .if_icmp .eq 1450, 3, 0, [1258, 1874]), (427, .iconst 0, 1, 0, [0]),
  (428, .ireturn, 1, 2, [2]), (429, .aload_n 1, 1, 0, []), (430, .aload_n 0, 1, 0, []), (431, .iload_n 3, 1, 0, []), (432, .iconst 1, 1, 0, [1]), (433, .iadd, 1, 0, []),
  (434, .iaload, 1, 0, []), (435, .aload_n 0, 1, 0, []), (436, .iload_n 3, 1, 0, []), (437, .iconst 2, 1, 0, [2]), (438, .iadd, 1, 0, []), (439, .iaload, 1, 0, []),
  (440, .invokevirtual 36, 3, 1, [68, 3, 9, 3, 637, 89, 634, 635, 636, 0]), (443, .aload_n 2, 1, 0, []), (444, .aload_n 0, 1, 0, []), (445, .iload_n 3, 1, 0, []), (446, .iconst 1, 1, 0, [1]), (447, .iadd, 1, 0, []),
  (448, .iaload, 1, 0, []), (449, .aload_n 0, 1, 0, []), (450, .iload_n 3, 1, 0, []), (451, .iconst 2, 1, 0, [2]), (452, .iadd, 1, 0, []), (453, .iaload, 1, 0, []),
  (454, .invokevirtual 40, 3, 1, [70, 3, 10, 3, 1433, 99, 1430, 1431, 1432, 0]), (457, .if_icmp .eq 1417, 3, 0, [1258, 1874]), (460, .iconst 0, 1, 0, [0]), (461, .ireturn, 1, 2, [2]), (462, .aload_n 1, 1, 0, []), (463, .aload_n 0, 1, 0, []),
  (464, .iload_n 3, 1, 0, []), (465, .iconst 1, 1, 0, [1]), (466, .iadd, 1, 0, []), (467, .iaload, 1, 0, []), (468, .aload_n 0, 1, 0, []), (469, .iload_n 3, 1, 0, []),
  (470, .iconst 2, 1, 0, [2]), (471, .iadd, 1, 0, []), (472, .iaload, 1, 0, []), (473, .invokevirtual 41, 3, 1, [72, 3, 9, 3, 653, 89, 650, 651, 652, 0]), (476, .aload_n 2, 1, 0, []), (477, .aload_n 0, 1, 0, []),
  (478, .iload_n 3, 1, 0, []), (479, .iconst 1, 1, 0, [1]), (480, .iadd, 1, 0, []), (481, .iaload, 1, 0, []), (482, .aload_n 0, 1, 0, []), (483, .iload_n 3, 1, 0, []),
  (484, .iconst 2, 1, 0, [2]), (485, .iadd, 1, 0, []), (486, .iaload, 1, 0, []), (487, .invokevirtual 44, 3, 1, [74, 3, 10, 3, 1441, 99, 1438, 1439, 1440, 0]), (490, .if_icmp .eq 1384, 3, 0, [1258, 1874]), (493, .iconst 0, 1, 0, [0]),
  (494, .ireturn, 1, 2, [2]), (495, .aload_n 1, 1, 0, []), (496, .aload_n 0, 1, 0, []), (497, .iload_n 3, 1, 0, []), (498, .iconst 1, 1, 0, [1]), (499, .iadd, 1, 0, []),
  (500, .iaload, 1, 0, []), (501, .aload_n 0, 1, 0, []), (502, .iload_n 3, 1, 0, []), (503, .iconst 2, 1, 0, [2])]
noncomputable def cd_303_2 : List mm_E := [
  (504, .iadd, 1, 0, []), (505, .iaload, 1, 0, []), (506, .invokevirtual 45, 3, 1, [101, 3, 9, 3, 660, 89, 657, 658, 659, 0]), (509, .aload_n 2, 1, 0, []), (510, .aload_n 0, 1, 0, []), (511, .iload_n 3, 1, 0, []),
  (512, .iconst 1, 1, 0, [1]), (513, .iadd, 1, 0, []), (514, .iaload, 1, 0, []), (515, .aload_n 0, 1, 0, []), (516, .iload_n 3, 1, 0, []), (517, .iconst 2, 1, 0, [2]),
  (518, .iadd, 1, 0, []), (519, .iaload, 1, 0, []), (520, .invokevirtual 48, 3, 1, [119, 3, 10, 3, 1449, 99, 1446, 1447, 1448, 0]), (523, .if_icmp .eq 1351, 3, 0, [1258, 1874]), (526, .iconst 0, 1, 0, [0]), (527, .ireturn, 1, 2, [2]),
  (528, .aload_n 1, 1, 0, []), (529, .invokevirtual 49, 3, 1, [120, 1, 9, 1, 774, 89, 771, 772, 773, 0]), (532, .aload_n 2, 1, 0, []), (533, .invokevirtual 52, 3, 1, [121, 1, 10, 1, 1526, 99, 1523, 1524, 1525, 0]), (536, .if_icmp .eq 1338, 3, 0, [1258, 1874]), (539, .iconst 0, 1, 0, [0]),
  (540, .ireturn, 1, 2, [2]), (541, .aload_n 1, 1, 0, []), (542, .invokevirtual 53, 3, 1, [122, 1, 9, 1, 778, 89, 775, 776, 777, 0]), (545, .aload_n 2, 1, 0, []), (546, .invokevirtual 56, 3, 1, [123, 1, 10, 1, 1530, 99, 1527, 1528, 1529, 0]), (549, .if_icmp .eq 1325, 3, 0, [1258, 1874]),
  (552, .iconst 0, 1, 0, [0]), (553, .ireturn, 1, 2, [2]), (554, .aload_n 1, 1, 0, []), (555, .aload_n 0, 1, 0, []), (556, .iload_n 3, 1, 0, []), (557, .iconst 1, 1, 0, [1]),
  (558, .iadd, 1, 0, []), (559, .iaload, 1, 0, []), (560, .aload_n 0, 1, 0, []), (561, .iload_n 3, 1, 0, []), (562, .iconst 2, 1, 0, [2]), (563, .iadd, 1, 0, []),
  (564, .iaload, 1, 0, []), (565, .invokevirtual 57, 3, 1, [129, 3, 9, 3, 782, 89, 779, 780, 781, 0]), (568, .aload_n 2, 1, 0, []), (569, .aload_n 0, 1, 0, []), (570, .iload_n 3, 1, 0, []), (571, .iconst 1, 1, 0, [1]),
  (572, .iadd, 1, 0, []), (573, .iaload, 1, 0, []), (574, .aload_n 0, 1, 0, []), (575, .iload_n 3, 1, 0, []), (576, .iconst 2, 1, 0, [2]), (577, .iadd, 1, 0, []),
  (578, .iaload, 1, 0, []), (579, .invokevirtual 61, 3, 1, [132, 3, 10, 3, 1534, 99, 1531, 1532, 1533, 0]), (582, .lcmp, 1, 0, []), (583, .ifCond .eq 1291, 3, 0, [1258, 1874]), (586, .iconst 0, 1, 0, [0]), (587, .ireturn, 1, 2, [2]),
  (588, .aload_n 1, 1, 0, []), (589, .aload_n 0, 1, 0, []), (590, .iload_n 3, 1, 0, []), (591, .iconst 1, 1, 0, [1]), (592, .iadd, 1, 0, []), (593, .iaload, 1, 0, []),
  (594, .aload_n 0, 1, 0, []), (595, .iload_n 3, 1, 0, []), (596, .iconst 2, 1, 0, [2]), (597, .iadd, 1, 0, []), (598, .iaload, 1, 0, []), (599, .invokevirtual 62, 3, 1, [133, 3, 9, 3, 805, 89, 802, 803, 804, 0]),
  (602, .aload_n 2, 1, 0, []), (603, .aload_n 0, 1, 0, []), (604, .iload_n 3, 1, 0, []), (605, .iconst 1, 1, 0, [1]), (606, .iadd, 1, 0, []), (607, .iaload, 1, 0, []),
  (608, .aload_n 0, 1, 0, []), (609, .iload_n 3, 1, 0, []), (610, .iconst 2, 1, 0, [2]), (611, .iadd, 1, 0, []), (612, .iaload, 1, 0, []), (613, .invokevirtual 65, 3, 1, [134, 3, 10, 3, 1548, 99, 1545, 1546, 1547, 0]),
  (616, .lcmp, 1, 0, []), (617, .ifCond .eq 1257, 3, 0, [1258, 1874]), (620, .iconst 0, 1, 0, [0]), (621, .ireturn, 1, 2, [2]), (622, .aload_n 1, 1, 0, []), (623, .aload_n 0, 1, 0, []),
  (624, .iload_n 3, 1, 0, []), (625, .iconst 1, 1, 0, [1]), (626, .iadd, 1, 0, []), (627, .iaload, 1, 0, []), (628, .aload_n 0, 1, 0, []), (629, .iload_n 3, 1, 0, []),
  (630, .iconst 2, 1, 0, [2]), (631, .iadd, 1, 0, []), (632, .iaload, 1, 0, []), (633, .invokevirtual 66, 3, 1, [136, 3, 9, 3, 809, 89, 806, 807, 808, 0])]
noncomputable def cd_303_3 : List mm_E := [
  (636, .aload_n 2, 1, 0, []), (637, .aload_n 0, 1, 0, []), (638, .iload_n 3, 1, 0, []), (639, .iconst 1, 1, 0, [1]), (640, .iadd, 1, 0, []), (641, .iaload, 1, 0, []),
  (642, .aload_n 0, 1, 0, []), (643, .iload_n 3, 1, 0, []), (644, .iconst 2, 1, 0, [2]), (645, .iadd, 1, 0, []), (646, .iaload, 1, 0, []), (647, .invokevirtual 69, 3, 1, [139, 3, 10, 3, 1552, 99, 1549, 1550, 1551, 0]),
  (650, .lcmp, 1, 0, []), (651, .ifCond .eq 1223, 3, 0, [1258, 1874]), (654, .iconst 0, 1, 0, [0]), (655, .ireturn, 1, 2, [2]), (656, .aload_n 1, 1, 0, []), (657, .aload_n 0, 1, 0, []),
  (658, .iload_n 3, 1, 0, []), (659, .iconst 1, 1, 0, [1]), (660, .iadd, 1, 0, []), (661, .iaload, 1, 0, []), (662, .invokevirtual 70, 3, 1, [142, 2, 9, 2, 816, 89, 813, 814, 815, 0]), (665, .aload_n 2, 1, 0, []),
  (666, .aload_n 0, 1, 0, []), (667, .iload_n 3, 1, 0, []), (668, .iconst 1, 1, 0, [1]), (669, .iadd, 1, 0, []), (670, .iaload, 1, 0, []), (671, .invokevirtual 74, 3, 1, [143, 2, 10, 2, 1565, 99, 1562, 1563, 1564, 0]),
  (674, .lcmp, 1, 0, []), (675, .ifCond .eq 1199, 3, 0, [1258, 1874]), (678, .iconst 0, 1, 0, [0]), (679, .ireturn, 1, 2, [2]), (680, .aload_n 1, 1, 0, []), (681, .aload_n 0, 1, 0, []),
  (682, .iload_n 3, 1, 0, []), (683, .iconst 1, 1, 0, [1]), (684, .iadd, 1, 0, []), (685, .iaload, 1, 0, []), (686, .aload_n 0, 1, 0, []), (687, .iload_n 3, 1, 0, []),
  (688, .iconst 2, 1, 0, [2]), (689, .iadd, 1, 0, []), (690, .iaload, 1, 0, []), (691, .invokevirtual 75, 3, 1, [146, 3, 9, 3, 828, 89, 825, 826, 827, 0]), (694, .aload_n 2, 1, 0, []), (695, .aload_n 0, 1, 0, []),
  (696, .iload_n 3, 1, 0, []), (697, .iconst 1, 1, 0, [1]), (698, .iadd, 1, 0, []), (699, .iaload, 1, 0, []), (700, .aload_n 0, 1, 0, []), (701, .iload_n 3, 1, 0, []),
  (702, .iconst 2, 1, 0, [2]), (703, .iadd, 1, 0, []), (704, .iaload, 1, 0, []), (705, .invokevirtual 78, 3, 1, [150, 3, 10, 3, 1569, 99, 1566, 1567, 1568, 0]), (708, .if_icmp .eq 1166, 3, 0, [1258, 1874]), (711, .iconst 0, 1, 0, [0]),
  (712, .ireturn, 1, 2, [2]), (713, .aload_n 1, 1, 0, []), (714, .aload_n 0, 1, 0, []), (715, .iload_n 3, 1, 0, []), (716, .iconst 1, 1, 0, [1]), (717, .iadd, 1, 0, []),
  (718, .iaload, 1, 0, []), (719, .invokevirtual 79, 3, 1, [152, 2, 9, 3, 840, 89, 837, 838, 839, 0]), (722, .aload_n 2, 1, 0, []), (723, .aload_n 0, 1, 0, []), (724, .iload_n 3, 1, 0, []), (725, .iconst 1, 1, 0, [1]),
  (726, .iadd, 1, 0, []), (727, .iaload, 1, 0, []), (728, .invokevirtual 82, 3, 1, [153, 2, 10, 5, 1584, 99, 1581, 1582, 1583, 0]), (731, .if_icmp .eq 1143, 3, 0, [1258, 1874]), (734, .iconst 0, 1, 0, [0]), (735, .ireturn, 1, 2, [2]),
  (736, .aload_n 1, 1, 0, []), (737, .aload_n 0, 1, 0, []), (738, .iload_n 3, 1, 0, []), (739, .iconst 1, 1, 0, [1]), (740, .iadd, 1, 0, []), (741, .iaload, 1, 0, []),
  (742, .aload_n 0, 1, 0, []), (743, .iload_n 3, 1, 0, []), (744, .iconst 2, 1, 0, [2]), (745, .iadd, 1, 0, []), (746, .iaload, 1, 0, []), (747, .aload_n 0, 1, 0, []),
  (748, .iload_n 3, 1, 0, []), (749, .iconst 3, 1, 0, [3]), (750, .iadd, 1, 0, []), (751, .iaload, 1, 0, []), (752, .invokevirtual 83, 3, 1, [158, 4, 9, 9, 849, 89, 846, 847, 848, 0]), (755, .aload_n 2, 1, 0, []),
  (756, .aload_n 0, 1, 0, []), (757, .iload_n 3, 1, 0, []), (758, .iconst 1, 1, 0, [1]), (759, .iadd, 1, 0, [])]
noncomputable def cd_303_4 : List mm_E := [
  (760, .iaload, 1, 0, []), (761, .aload_n 0, 1, 0, []), (762, .iload_n 3, 1, 0, []), (763, .iconst 2, 1, 0, [2]), (764, .iadd, 1, 0, []), (765, .iaload, 1, 0, []),
  (766, .aload_n 0, 1, 0, []), (767, .iload_n 3, 1, 0, []), (768, .iconst 3, 1, 0, [3]), (769, .iadd, 1, 0, []), (770, .iaload, 1, 0, []), (771, .invokevirtual 87, 3, 1, [161, 4, 10, 8, 1722, 99, 1719, 1720, 1721, 0]),
  (774, .if_icmp .eq 1100, 3, 0, [1258, 1874]), (777, .iconst 0, 1, 0, [0]), (778, .ireturn, 1, 2, [2]), (779, .aload_n 1, 1, 0, []), (780, .aload_n 0, 1, 0, []), (781, .iload_n 3, 1, 0, []),
  (782, .iconst 1, 1, 0, [1]), (783, .iadd, 1, 0, []), (784, .iaload, 1, 0, []), (785, .aload_n 0, 1, 0, []), (786, .iload_n 3, 1, 0, []), (787, .iconst 2, 1, 0, [2]),
  (788, .iadd, 1, 0, []), (789, .iaload, 1, 0, []), (790, .invokevirtual 88, 3, 1, [162, 3, 9, 6, 867, 89, 864, 865, 866, 0]), (793, .aload_n 2, 1, 0, []), (794, .aload_n 0, 1, 0, []), (795, .iload_n 3, 1, 0, []),
  (796, .iconst 1, 1, 0, [1]), (797, .iadd, 1, 0, []), (798, .iaload, 1, 0, []), (799, .aload_n 0, 1, 0, []), (800, .iload_n 3, 1, 0, []), (801, .iconst 2, 1, 0, [2]),
  (802, .iadd, 1, 0, []), (803, .iaload, 1, 0, []), (804, .invokevirtual 91, 3, 1, [163, 3, 10, 5, 1730, 99, 1727, 1728, 1729, 0]), (807, .if_icmp .eq 1067, 3, 0, [1258, 1874]), (810, .iconst 0, 1, 0, [0]), (811, .ireturn, 1, 2, [2]),
  (812, .aload_n 1, 1, 0, []), (813, .aload_n 0, 1, 0, []), (814, .iload_n 3, 1, 0, []), (815, .iconst 1, 1, 0, [1]), (816, .iadd, 1, 0, []), (817, .iaload, 1, 0, []),
  (818, .aload_n 0, 1, 0, []), (819, .iload_n 3, 1, 0, []), (820, .iconst 2, 1, 0, [2]), (821, .iadd, 1, 0, []), (822, .iaload, 1, 0, []), (823, .invokevirtual 92, 3, 1, [164, 3, 9, 3, 872, 89, 869, 870, 871, 0]),
  (826, .aload_n 2, 1, 0, []), (827, .aload_n 0, 1, 0, []), (828, .iload_n 3, 1, 0, []), (829, .iconst 1, 1, 0, [1]), (830, .iadd, 1, 0, []), (831, .iaload, 1, 0, []),
  (832, .aload_n 0, 1, 0, []), (833, .iload_n 3, 1, 0, []), (834, .iconst 2, 1, 0, [2]), (835, .iadd, 1, 0, []), (836, .iaload, 1, 0, []), (837, .invokevirtual 95, 3, 1, [165, 3, 10, 4, 1734, 99, 1731, 1732, 1733, 0]),
  (840, .lcmp, 1, 0, []), (841, .ifCond .eq 1033, 3, 0, [1258, 1874]), (844, .iconst 0, 1, 0, [0]), (845, .ireturn, 1, 2, [2]), (846, .aload_n 1, 1, 0, []), (847, .aload_n 0, 1, 0, []),
  (848, .iload_n 3, 1, 0, []), (849, .iconst 1, 1, 0, [1]), (850, .iadd, 1, 0, []), (851, .iaload, 1, 0, []), (852, .invokevirtual 96, 3, 1, [166, 2, 9, 2, 876, 89, 873, 874, 875, 0]), (855, .aload_n 2, 1, 0, []),
  (856, .aload_n 0, 1, 0, []), (857, .iload_n 3, 1, 0, []), (858, .iconst 1, 1, 0, [1]), (859, .iadd, 1, 0, []), (860, .iaload, 1, 0, []), (861, .invokevirtual 99, 3, 1, [167, 2, 10, 3, 1738, 99, 1735, 1736, 1737, 0]),
  (864, .lcmp, 1, 0, []), (865, .ifCond .eq 1009, 3, 0, [1258, 1874]), (868, .iconst 0, 1, 0, [0]), (869, .ireturn, 1, 2, [2]), (870, .aload_n 1, 1, 0, []), (871, .aload_n 0, 1, 0, []),
  (872, .iload_n 3, 1, 0, []), (873, .iconst 1, 1, 0, [1]), (874, .iadd, 1, 0, []), (875, .iaload, 1, 0, []), (876, .aload_n 0, 1, 0, []), (877, .iload_n 3, 1, 0, []),
  (878, .iconst 2, 1, 0, [2]), (879, .iadd, 1, 0, []), (880, .iaload, 1, 0, []), (881, .aload_n 0, 1, 0, [])]
noncomputable def cd_303_5 : List mm_E := [
  (882, .iload_n 3, 1, 0, []), (883, .iconst 3, 1, 0, [3]), (884, .iadd, 1, 0, []), (885, .iaload, 1, 0, []), (886, .invokevirtual 100, 3, 1, [168, 4, 9, 4, 880, 89, 877, 878, 879, 0]), (889, .aload_n 2, 1, 0, []),
  (890, .aload_n 0, 1, 0, []), (891, .iload_n 3, 1, 0, []), (892, .iconst 1, 1, 0, [1]), (893, .iadd, 1, 0, []), (894, .iaload, 1, 0, []), (895, .aload_n 0, 1, 0, []),
  (896, .iload_n 3, 1, 0, []), (897, .iconst 2, 1, 0, [2]), (898, .iadd, 1, 0, []), (899, .iaload, 1, 0, []), (900, .aload_n 0, 1, 0, []), (901, .iload_n 3, 1, 0, []),
  (902, .iconst 3, 1, 0, [3]), (903, .iadd, 1, 0, []), (904, .iaload, 1, 0, []), (905, .invokevirtual 103, 3, 1, [170, 4, 10, 4, 1742, 99, 1739, 1740, 1741, 0]), (908, .if_icmp .eq 966, 3, 0, [1258, 1874]), (911, .iconst 0, 1, 0, [0]),
  (912, .ireturn, 1, 2, [2]), (913, .aload_n 1, 1, 0, []), (914, .aload_n 0, 1, 0, []), (915, .iload_n 3, 1, 0, []), (916, .iconst 1, 1, 0, [1]), (917, .iadd, 1, 0, []),
  (918, .iaload, 1, 0, []), (919, .invokevirtual 104, 3, 1, [175, 2, 9, 4, 887, 89, 884, 885, 886, 0]), (922, .aload_n 2, 1, 0, []), (923, .aload_n 0, 1, 0, []), (924, .iload_n 3, 1, 0, []), (925, .iconst 1, 1, 0, [1]),
  (926, .iadd, 1, 0, []), (927, .iaload, 1, 0, []), (928, .invokevirtual 107, 3, 1, [177, 2, 10, 8, 1750, 99, 1747, 1748, 1749, 0]), (931, .if_icmp .eq 943, 3, 0, [1258, 1874]), (934, .iconst 0, 1, 0, [0]), (935, .ireturn, 1, 2, [2]),
  (936, .aload_n 1, 1, 0, []), (937, .invokevirtual 108, 3, 1, [178, 1, 9, 3, 910, 89, 907, 908, 909, 0]), (940, .aload_n 2, 1, 0, []), (941, .invokevirtual 111, 3, 1, [179, 1, 10, 3, 1588, 99, 1585, 1586, 1587, 0]), (944, .if_icmp .eq 930, 3, 0, [1258, 1874]), (947, .iconst 0, 1, 0, [0]),
  (948, .ireturn, 1, 2, [2]), (949, .aload_n 1, 1, 0, []), (950, .invokevirtual 112, 3, 1, [181, 1, 9, 3, 915, 89, 912, 913, 914, 0]), (953, .aload_n 2, 1, 0, []), (954, .invokevirtual 115, 3, 1, [184, 1, 10, 3, 1592, 99, 1589, 1590, 1591, 0]), (957, .if_icmp .eq 917, 3, 0, [1258, 1874]),
  (960, .iconst 0, 1, 0, [0]), (961, .ireturn, 1, 2, [2]), (962, .aload_n 1, 1, 0, []), (963, .aload_n 0, 1, 0, []), (964, .iload_n 3, 1, 0, []), (965, .iconst 1, 1, 0, [1]),
  (966, .iadd, 1, 0, []), (967, .iaload, 1, 0, []), (968, .aload_n 0, 1, 0, []), (969, .iload_n 3, 1, 0, []), (970, .iconst 2, 1, 0, [2]), (971, .iadd, 1, 0, []),
  (972, .iaload, 1, 0, []), (973, .invokevirtual 116, 3, 1, [186, 3, 9, 3, 925, 89, 922, 923, 924, 0]), (976, .aload_n 2, 1, 0, []), (977, .aload_n 0, 1, 0, []), (978, .iload_n 3, 1, 0, []), (979, .iconst 1, 1, 0, [1]),
  (980, .iadd, 1, 0, []), (981, .iaload, 1, 0, []), (982, .aload_n 0, 1, 0, []), (983, .iload_n 3, 1, 0, []), (984, .iconst 2, 1, 0, [2]), (985, .iadd, 1, 0, []),
  (986, .iaload, 1, 0, []), (987, .invokevirtual 119, 3, 1, [187, 3, 10, 4, 1608, 99, 1605, 1606, 1607, 0]), (990, .if_icmp .eq 884, 3, 0, [1258, 1874]), (993, .iconst 0, 1, 0, [0]), (994, .ireturn, 1, 2, [2]), (995, .aload_n 1, 1, 0, []),
  (996, .aload_n 0, 1, 0, []), (997, .iload_n 3, 1, 0, []), (998, .iconst 1, 1, 0, [1]), (999, .iadd, 1, 0, []), (1000, .iaload, 1, 0, []), (1001, .invokevirtual 120, 3, 1, [188, 2, 9, 2, 934, 89, 931, 932, 933, 0]),
  (1004, .aload_n 2, 1, 0, []), (1005, .aload_n 0, 1, 0, []), (1006, .iload_n 3, 1, 0, []), (1007, .iconst 1, 1, 0, [1]), (1008, .iadd, 1, 0, []), (1009, .iaload, 1, 0, []),
  (1010, .invokevirtual 123, 3, 1, [189, 2, 10, 2, 1616, 99, 1613, 1614, 1615, 0]), (1013, .if_icmp .eq 861, 3, 0, [1258, 1874]), (1016, .iconst 0, 1, 0, [0]), (1017, .ireturn, 1, 2, [2])]
noncomputable def cd_303_6 : List mm_E := [
  (1018, .aload_n 1, 1, 0, []), (1019, .invokevirtual 124, 3, 1, [190, 1, 9, 3, 938, 89, 935, 936, 937, 0]), (1022, .aload_n 2, 1, 0, []), (1023, .invokevirtual 127, 3, 1, [192, 1, 10, 3, 1620, 99, 1617, 1618, 1619, 0]), (1026, .if_icmp .eq 848, 3, 0, [1258, 1874]), (1029, .iconst 0, 1, 0, [0]),
  (1030, .ireturn, 1, 2, [2]), (1031, .aload_n 1, 1, 0, []), (1032, .aload_n 0, 1, 0, []), (1033, .iload_n 3, 1, 0, []), (1034, .iconst 1, 1, 0, [1]), (1035, .iadd, 1, 0, []),
  (1036, .iaload, 1, 0, []), (1037, .aload_n 0, 1, 0, []), (1038, .iload_n 3, 1, 0, []), (1039, .iconst 2, 1, 0, [2]), (1040, .iadd, 1, 0, []), (1041, .iaload, 1, 0, []),
  (1042, .invokevirtual 128, 3, 1, [194, 3, 9, 4, 942, 89, 939, 940, 941, 0]), (1045, .aload_n 2, 1, 0, []), (1046, .aload_n 0, 1, 0, []), (1047, .iload_n 3, 1, 0, []), (1048, .iconst 1, 1, 0, [1]), (1049, .iadd, 1, 0, []),
  (1050, .iaload, 1, 0, []), (1051, .aload_n 0, 1, 0, []), (1052, .iload_n 3, 1, 0, []), (1053, .iconst 2, 1, 0, [2]), (1054, .iadd, 1, 0, []), (1055, .iaload, 1, 0, []),
  (1056, .invokevirtual 131, 3, 1, [195, 3, 10, 3, 1628, 99, 1625, 1626, 1627, 0]), (1059, .if_icmp .eq 815, 3, 0, [1258, 1874]), (1062, .iconst 0, 1, 0, [0]), (1063, .ireturn, 1, 2, [2]), (1064, .aload_n 1, 1, 0, []), (1065, .invokevirtual 132, 3, 1, [196, 1, 9, 3, 950, 89, 947, 948, 949, 0]),
  (1068, .aload_n 2, 1, 0, []), (1069, .invokevirtual 135, 3, 1, [197, 1, 10, 3, 1632, 99, 1629, 1630, 1631, 0]), (1072, .if_icmp .eq 802, 3, 0, [1258, 1874]), (1075, .iconst 0, 1, 0, [0]), (1076, .ireturn, 1, 2, [2]), (1077, .aload_n 1, 1, 0, []),
  (1078, .aload_n 0, 1, 0, []), (1079, .iload_n 3, 1, 0, []), (1080, .iconst 1, 1, 0, [1]), (1081, .iadd, 1, 0, []), (1082, .iaload, 1, 0, []), (1083, .invokevirtual 136, 3, 1, [199, 2, 9, 3, 954, 89, 951, 952, 953, 0]),
  (1086, .aload_n 2, 1, 0, []), (1087, .aload_n 0, 1, 0, []), (1088, .iload_n 3, 1, 0, []), (1089, .iconst 1, 1, 0, [1]), (1090, .iadd, 1, 0, []), (1091, .iaload, 1, 0, []),
  (1092, .invokevirtual 139, 3, 1, [201, 2, 10, 3, 1636, 99, 1633, 1634, 1635, 0]), (1095, .if_icmp .eq 779, 3, 0, [1258, 1874]), (1098, .iconst 0, 1, 0, [0]), (1099, .ireturn, 1, 2, [2]), (1100, .aload_n 1, 1, 0, []), (1101, .aload_n 0, 1, 0, []),
  (1102, .iload_n 3, 1, 0, []), (1103, .iconst 1, 1, 0, [1]), (1104, .iadd, 1, 0, []), (1105, .iaload, 1, 0, []), (1106, .invokevirtual 140, 3, 1, [202, 2, 9, 3, 964, 89, 961, 962, 963, 0]), (1109, .aload_n 2, 1, 0, []),
  (1110, .aload_n 0, 1, 0, []), (1111, .iload_n 3, 1, 0, []), (1112, .iconst 1, 1, 0, [1]), (1113, .iadd, 1, 0, []), (1114, .iaload, 1, 0, []), (1115, .invokevirtual 143, 3, 1, [203, 2, 10, 6, 1754, 99, 1751, 1752, 1753, 0]),
  (1118, .if_icmp .eq 756, 3, 0, [1258, 1874]), (1121, .iconst 0, 1, 0, [0]), (1122, .ireturn, 1, 2, [2]), (1123, .aload_n 1, 1, 0, []), (1124, .aload_n 0, 1, 0, []), (1125, .iload_n 3, 1, 0, []),
  (1126, .iconst 1, 1, 0, [1]), (1127, .iadd, 1, 0, []), (1128, .iaload, 1, 0, []), (1129, .aload_n 0, 1, 0, []), (1130, .iload_n 3, 1, 0, []), (1131, .iconst 2, 1, 0, [2]),
  (1132, .iadd, 1, 0, []), (1133, .iaload, 1, 0, []), (1134, .aload_n 0, 1, 0, []), (1135, .iload_n 3, 1, 0, []), (1136, .iconst 3, 1, 0, [3]), (1137, .iadd, 1, 0, []),
  (1138, .iaload, 1, 0, []), (1139, .invokevirtual 144, 3, 1, [204, 4, 9, 4, 968, 89, 965, 966, 967, 0]), (1142, .aload_n 2, 1, 0, []), (1143, .aload_n 0, 1, 0, []), (1144, .iload_n 3, 1, 0, []), (1145, .iconst 1, 1, 0, [1]),
  (1146, .iadd, 1, 0, []), (1147, .iaload, 1, 0, []), (1148, .aload_n 0, 1, 0, []), (1149, .iload_n 3, 1, 0, [])]
noncomputable def cd_303_7 : List mm_E := [
  (1150, .iconst 2, 1, 0, [2]), (1151, .iadd, 1, 0, []), (1152, .iaload, 1, 0, []), (1153, .aload_n 0, 1, 0, []), (1154, .iload_n 3, 1, 0, []), (1155, .iconst 3, 1, 0, [3]),
  (1156, .iadd, 1, 0, []), (1157, .iaload, 1, 0, []), (1158, .invokevirtual 148, 3, 1, [206, 4, 10, 4, 1644, 99, 1641, 1642, 1643, 0]), (1161, .lcmp, 1, 0, []), (1162, .ifCond .eq 712, 3, 0, [1258, 1874]), (1165, .iconst 0, 1, 0, [0]),
  (1166, .ireturn, 1, 2, [2]), (1167, .aload_n 1, 1, 0, []), (1168, .invokevirtual 149, 3, 1, [207, 1, 9, 2, 974, 89, 971, 972, 973, 0]), (1171, .aload_n 2, 1, 0, []), (1172, .invokevirtual 152, 3, 1, [208, 1, 10, 8, 1652, 99, 1649, 1650, 1651, 0]), (1175, .if_icmp .eq 699, 3, 0, [1258, 1874]),
  (1178, .iconst 0, 1, 0, [0]), (1179, .ireturn, 1, 2, [2]), (1180, .aload_n 1, 1, 0, []), (1181, .aload_n 0, 1, 0, []), (1182, .iload_n 3, 1, 0, []), (1183, .iconst 1, 1, 0, [1]),
  (1184, .iadd, 1, 0, []), (1185, .iaload, 1, 0, []), (1186, .aload_n 0, 1, 0, []), (1187, .iload_n 3, 1, 0, []), (1188, .iconst 2, 1, 0, [2]), (1189, .iadd, 1, 0, []),
  (1190, .iaload, 1, 0, []), (1191, .invokevirtual 153, 3, 1, [213, 3, 9, 3, 978, 89, 975, 976, 977, 0]), (1194, .aload_n 2, 1, 0, []), (1195, .aload_n 0, 1, 0, []), (1196, .iload_n 3, 1, 0, []), (1197, .iconst 1, 1, 0, [1]),
  (1198, .iadd, 1, 0, []), (1199, .iaload, 1, 0, []), (1200, .aload_n 0, 1, 0, []), (1201, .iload_n 3, 1, 0, []), (1202, .iconst 2, 1, 0, [2]), (1203, .iadd, 1, 0, []),
  (1204, .iaload, 1, 0, []), (1205, .invokevirtual 156, 3, 1, [216, 3, 10, 3, 1656, 99, 1653, 1654, 1655, 0]), (1208, .lcmp, 1, 0, []), (1209, .ifCond .eq 665, 3, 0, [1258, 1874]), (1212, .iconst 0, 1, 0, [0]), (1213, .ireturn, 1, 2, [2]),
  (1214, .aload_n 1, 1, 0, []), (1215, .aload_n 0, 1, 0, []), (1216, .iload_n 3, 1, 0, []), (1217, .iconst 1, 1, 0, [1]), (1218, .iadd, 1, 0, []), (1219, .iaload, 1, 0, []),
  (1220, .aload_n 0, 1, 0, []), (1221, .iload_n 3, 1, 0, []), (1222, .iconst 2, 1, 0, [2]), (1223, .iadd, 1, 0, []), (1224, .iaload, 1, 0, []), (1225, .invokevirtual 157, 3, 1, [217, 3, 9, 3, 997, 89, 994, 995, 996, 0]),
  (1228, .aload_n 2, 1, 0, []), (1229, .aload_n 0, 1, 0, []), (1230, .iload_n 3, 1, 0, []), (1231, .iconst 1, 1, 0, [1]), (1232, .iadd, 1, 0, []), (1233, .iaload, 1, 0, []),
  (1234, .aload_n 0, 1, 0, []), (1235, .iload_n 3, 1, 0, []), (1236, .iconst 2, 1, 0, [2]), (1237, .iadd, 1, 0, []), (1238, .iaload, 1, 0, []), (1239, .invokevirtual 160, 3, 1, [219, 3, 10, 3, 1669, 99, 1666, 1667, 1668, 0]),
  (1242, .lcmp, 1, 0, []), (1243, .ifCond .eq 631, 3, 0, [1258, 1874]), (1246, .iconst 0, 1, 0, [0]), (1247, .ireturn, 1, 2, [2]), (1248, .aload_n 1, 1, 0, []), (1249, .aload_n 0, 1, 0, []),
  (1250, .iload_n 3, 1, 0, []), (1251, .iconst 1, 1, 0, [1]), (1252, .iadd, 1, 0, []), (1253, .iaload, 1, 0, []), (1254, .aload_n 0, 1, 0, []), (1255, .iload_n 3, 1, 0, []),
  (1256, .iconst 2, 1, 0, [2]), (1257, .iadd, 1, 0, []), (1258, .iaload, 1, 0, []), (1259, .invokevirtual 161, 3, 1, [220, 3, 9, 3, 1002, 89, 999, 1000, 1001, 0]), (1262, .aload_n 2, 1, 0, []), (1263, .aload_n 0, 1, 0, []),
  (1264, .iload_n 3, 1, 0, []), (1265, .iconst 1, 1, 0, [1]), (1266, .iadd, 1, 0, []), (1267, .iaload, 1, 0, []), (1268, .aload_n 0, 1, 0, []), (1269, .iload_n 3, 1, 0, []),
  (1270, .iconst 2, 1, 0, [2]), (1271, .iadd, 1, 0, []), (1272, .iaload, 1, 0, []), (1273, .invokevirtual 164, 3, 1, [221, 3, 10, 3, 1677, 99, 1674, 1675, 1676, 0])]
noncomputable def cd_303_8 : List mm_E := [
  (1276, .lcmp, 1, 0, []), (1277, .ifCond .eq 597, 3, 0, [1258, 1874]), (1280, .iconst 0, 1, 0, [0]), (1281, .ireturn, 1, 2, [2]), (1282, .aload_n 1, 1, 0, []), (1283, .aload_n 0, 1, 0, []),
  (1284, .iload_n 3, 1, 0, []), (1285, .iconst 1, 1, 0, [1]), (1286, .iadd, 1, 0, []), (1287, .iaload, 1, 0, []), (1288, .aload_n 0, 1, 0, []), (1289, .iload_n 3, 1, 0, []),
  (1290, .iconst 2, 1, 0, [2]), (1291, .iadd, 1, 0, []), (1292, .iaload, 1, 0, []), (1293, .invokevirtual 165, 3, 1, [225, 3, 9, 5, 1006, 89, 1003, 1004, 1005, 0]), (1296, .aload_n 2, 1, 0, []), (1297, .aload_n 0, 1, 0, []),
  (1298, .iload_n 3, 1, 0, []), (1299, .iconst 1, 1, 0, [1]), (1300, .iadd, 1, 0, []), (1301, .iaload, 1, 0, []), (1302, .aload_n 0, 1, 0, []), (1303, .iload_n 3, 1, 0, []),
  (1304, .iconst 2, 1, 0, [2]), (1305, .iadd, 1, 0, []), (1306, .iaload, 1, 0, []), (1307, .invokevirtual 168, 3, 1, [227, 3, 10, 5, 1681, 99, 1678, 1679, 1680, 0]), (1310, .lcmp, 1, 0, []), (1311, .ifCond .eq 563, 3, 0, [1258, 1874]),
  (1314, .iconst 0, 1, 0, [0]), (1315, .ireturn, 1, 2, [2]), (1316, .aload_n 1, 1, 0, []), (1317, .invokevirtual 169, 3, 1, [228, 1, 9, 2, 1023, 89, 1020, 1021, 1022, 0]), (1320, .aload_n 2, 1, 0, []), (1321, .invokevirtual 172, 3, 1, [229, 1, 10, 7, 1689, 99, 1686, 1687, 1688, 0]),
  (1324, .if_icmp .eq 550, 3, 0, [1258, 1874]), (1327, .iconst 0, 1, 0, [0]), (1328, .ireturn, 1, 2, [2]), (1329, .aload_n 1, 1, 0, []), (1330, .aload_n 0, 1, 0, []), (1331, .iload_n 3, 1, 0, []),
  (1332, .iconst 1, 1, 0, [1]), (1333, .iadd, 1, 0, []), (1334, .iaload, 1, 0, []), (1335, .invokevirtual 173, 3, 1, [230, 2, 9, 4, 1027, 89, 1024, 1025, 1026, 0]), (1338, .aload_n 2, 1, 0, []), (1339, .aload_n 0, 1, 0, []),
  (1340, .iload_n 3, 1, 0, []), (1341, .iconst 1, 1, 0, [1]), (1342, .iadd, 1, 0, []), (1343, .iaload, 1, 0, []), (1344, .invokevirtual 176, 3, 1, [231, 2, 10, 4, 1693, 99, 1690, 1691, 1692, 0]), (1347, .if_icmp .eq 527, 3, 0, [1258, 1874]),
  (1350, .iconst 0, 1, 0, [0]), (1351, .ireturn, 1, 2, [2]), (1352, .aload_n 1, 1, 0, []), (1353, .aload_n 0, 1, 0, []), (1354, .iload_n 3, 1, 0, []), (1355, .iconst 1, 1, 0, [1]),
  (1356, .iadd, 1, 0, []), (1357, .iaload, 1, 0, []), (1358, .aload_n 0, 1, 0, []), (1359, .iload_n 3, 1, 0, []), (1360, .iconst 2, 1, 0, [2]), (1361, .iadd, 1, 0, []),
  (1362, .iaload, 1, 0, []), (1363, .invokevirtual 177, 3, 1, [233, 3, 9, 4, 1032, 89, 1029, 1030, 1031, 0]), (1366, .aload_n 2, 1, 0, []), (1367, .aload_n 0, 1, 0, []), (1368, .iload_n 3, 1, 0, []), (1369, .iconst 1, 1, 0, [1]),
  (1370, .iadd, 1, 0, []), (1371, .iaload, 1, 0, []), (1372, .aload_n 0, 1, 0, []), (1373, .iload_n 3, 1, 0, []), (1374, .iconst 2, 1, 0, [2]), (1375, .iadd, 1, 0, []),
  (1376, .iaload, 1, 0, []), (1377, .invokevirtual 180, 3, 1, [234, 3, 10, 6, 1697, 99, 1694, 1695, 1696, 0]), (1380, .if_icmp .eq 494, 3, 0, [1258, 1874]), (1383, .iconst 0, 1, 0, [0]), (1384, .ireturn, 1, 2, [2]), (1385, .aload_n 1, 1, 0, []),
  (1386, .aload_n 0, 1, 0, []), (1387, .iload_n 3, 1, 0, []), (1388, .iconst 1, 1, 0, [1]), (1389, .iadd, 1, 0, []), (1390, .iaload, 1, 0, []), (1391, .invokevirtual 181, 3, 1, [239, 2, 9, 2, 1043, 89, 1040, 1041, 1042, 0]),
  (1394, .aload_n 2, 1, 0, []), (1395, .aload_n 0, 1, 0, []), (1396, .iload_n 3, 1, 0, []), (1397, .iconst 1, 1, 0, [1]), (1398, .iadd, 1, 0, []), (1399, .iaload, 1, 0, []),
  (1400, .invokevirtual 184, 3, 1, [242, 2, 10, 3, 1701, 99, 1698, 1699, 1700, 0]), (1403, .if_icmp .eq 471, 3, 0, [1258, 1874]), (1406, .iconst 0, 1, 0, [0]), (1407, .ireturn, 1, 2, [2])]
noncomputable def cd_303_9 : List mm_E := [
  (1408, .aload_n 1, 1, 0, []), (1409, .invokevirtual 185, 3, 1, [244, 1, 9, 2, 1065, 89, 1062, 1063, 1064, 0]), (1412, .aload_n 2, 1, 0, []), (1413, .invokevirtual 188, 3, 1, [245, 1, 10, 4, 1718, 99, 1715, 1716, 1717, 0]), (1416, .if_icmp .eq 458, 3, 0, [1258, 1874]), (1419, .iconst 0, 1, 0, [0]),
  (1420, .ireturn, 1, 2, [2]), (1421, .aload_n 1, 1, 0, []), (1422, .aload_n 0, 1, 0, []), (1423, .iload_n 3, 1, 0, []), (1424, .iconst 1, 1, 0, [1]), (1425, .iadd, 1, 0, []),
  (1426, .iaload, 1, 0, []), (1427, .aload_n 0, 1, 0, []), (1428, .iload_n 3, 1, 0, []), (1429, .iconst 2, 1, 0, [2]), (1430, .iadd, 1, 0, []), (1431, .iaload, 1, 0, []),
  (1432, .invokevirtual 189, 3, 1, [247, 3, 9, 4, 1074, 89, 1071, 1072, 1073, 0]), (1435, .aload_n 2, 1, 0, []), (1436, .aload_n 0, 1, 0, []), (1437, .iload_n 3, 1, 0, []), (1438, .iconst 1, 1, 0, [1]), (1439, .iadd, 1, 0, []),
  (1440, .iaload, 1, 0, []), (1441, .aload_n 0, 1, 0, []), (1442, .iload_n 3, 1, 0, []), (1443, .iconst 2, 1, 0, [2]), (1444, .iadd, 1, 0, []), (1445, .iaload, 1, 0, []),
  (1446, .invokevirtual 192, 3, 1, [248, 3, 10, 5, 1713, 99, 1710, 1711, 1712, 0]), (1449, .lcmp, 1, 0, []), (1450, .ifCond .eq 424, 3, 0, [1258, 1874]), (1453, .iconst 0, 1, 0, [0]), (1454, .ireturn, 1, 2, [2]), (1455, .aload_n 1, 1, 0, []),
  (1456, .invokevirtual 193, 3, 1, [252, 1, 9, 3, 1082, 89, 1079, 1080, 1081, 0]), (1459, .aload_n 2, 1, 0, []), (1460, .invokevirtual 196, 3, 1, [253, 1, 10, 3, 1774, 99, 1771, 1772, 1773, 0]), (1463, .if_icmp .eq 411, 3, 0, [1258, 1874]), (1466, .iconst 0, 1, 0, [0]), (1467, .ireturn, 1, 2, [2]),
  (1468, .aload_n 1, 1, 0, []), (1469, .invokevirtual 197, 3, 1, [256, 1, 9, 2, 1098, 89, 1095, 1096, 1097, 0]), (1472, .aload_n 2, 1, 0, []), (1473, .invokevirtual 200, 3, 1, [258, 1, 10, 3, 1778, 99, 1775, 1776, 1777, 0]), (1476, .if_icmp .eq 398, 3, 0, [1258, 1874]), (1479, .iconst 0, 1, 0, [0]),
  (1480, .ireturn, 1, 2, [2]), (1481, .aload_n 1, 1, 0, []), (1482, .invokevirtual 201, 3, 1, [260, 1, 9, 3, 1113, 89, 1110, 1111, 1112, 0]), (1485, .aload_n 2, 1, 0, []), (1486, .invokevirtual 204, 3, 1, [261, 1, 10, 3, 1766, 99, 1763, 1764, 1765, 0]), (1489, .if_icmp .eq 385, 3, 0, [1258, 1874]),
  (1492, .iconst 0, 1, 0, [0]), (1493, .ireturn, 1, 2, [2]), (1494, .aload_n 1, 1, 0, []), (1495, .aload_n 0, 1, 0, []), (1496, .iload_n 3, 1, 0, []), (1497, .iconst 1, 1, 0, [1]),
  (1498, .iadd, 1, 0, []), (1499, .iaload, 1, 0, []), (1500, .aload_n 0, 1, 0, []), (1501, .iload_n 3, 1, 0, []), (1502, .iconst 2, 1, 0, [2]), (1503, .iadd, 1, 0, []),
  (1504, .iaload, 1, 0, []), (1505, .aload_n 0, 1, 0, []), (1506, .iload_n 3, 1, 0, []), (1507, .iconst 3, 1, 0, [3]), (1508, .iadd, 1, 0, []), (1509, .iaload, 1, 0, []),
  (1510, .invokevirtual 205, 3, 1, [263, 4, 9, 5, 1123, 89, 1120, 1121, 1122, 0]), (1513, .aload_n 2, 1, 0, []), (1514, .aload_n 0, 1, 0, []), (1515, .iload_n 3, 1, 0, []), (1516, .iconst 1, 1, 0, [1]), (1517, .iadd, 1, 0, []),
  (1518, .iaload, 1, 0, []), (1519, .aload_n 0, 1, 0, []), (1520, .iload_n 3, 1, 0, []), (1521, .iconst 2, 1, 0, [2]), (1522, .iadd, 1, 0, []), (1523, .iaload, 1, 0, []),
  (1524, .aload_n 0, 1, 0, []), (1525, .iload_n 3, 1, 0, []), (1526, .iconst 3, 1, 0, [3]), (1527, .iadd, 1, 0, []), (1528, .iaload, 1, 0, []), (1529, .invokevirtual 208, 3, 1, [265, 4, 10, 9, 1758, 99, 1755, 1756, 1757, 0]),
  (1532, .if_icmp .eq 342, 3, 0, [1258, 1874]), (1535, .iconst 0, 1, 0, [0]), (1536, .ireturn, 1, 2, [2]), (1537, .aload_n 1, 1, 0, []), (1538, .aload_n 0, 1, 0, []), (1539, .iload_n 3, 1, 0, []),
  (1540, .iconst 1, 1, 0, [1]), (1541, .iadd, 1, 0, []), (1542, .iaload, 1, 0, []), (1543, .aload_n 0, 1, 0, [])]
noncomputable def cd_303_10 : List mm_E := [
  (1544, .iload_n 3, 1, 0, []), (1545, .iconst 2, 1, 0, [2]), (1546, .iadd, 1, 0, []), (1547, .iaload, 1, 0, []), (1548, .invokevirtual 209, 3, 1, [268, 3, 9, 6, 1131, 89, 1128, 1129, 1130, 0]), (1551, .aload_n 2, 1, 0, []),
  (1552, .aload_n 0, 1, 0, []), (1553, .iload_n 3, 1, 0, []), (1554, .iconst 1, 1, 0, [1]), (1555, .iadd, 1, 0, []), (1556, .iaload, 1, 0, []), (1557, .aload_n 0, 1, 0, []),
  (1558, .iload_n 3, 1, 0, []), (1559, .iconst 2, 1, 0, [2]), (1560, .iadd, 1, 0, []), (1561, .iaload, 1, 0, []), (1562, .invokevirtual 212, 3, 1, [269, 3, 10, 7, 1782, 99, 1779, 1780, 1781, 0]), (1565, .if_icmp .eq 309, 3, 0, [1258, 1874]),
  (1568, .iconst 0, 1, 0, [0]), (1569, .ireturn, 1, 2, [2]), (1570, .aload_n 1, 1, 0, []), (1571, .aload_n 0, 1, 0, []), (1572, .iload_n 3, 1, 0, []), (1573, .iconst 1, 1, 0, [1]),
  (1574, .iadd, 1, 0, []), (1575, .iaload, 1, 0, []), (1576, .invokevirtual 213, 3, 1, [270, 2, 9, 4, 1143, 89, 1140, 1141, 1142, 0]), (1579, .aload_n 2, 1, 0, []), (1580, .aload_n 0, 1, 0, []), (1581, .iload_n 3, 1, 0, []),
  (1582, .iconst 1, 1, 0, [1]), (1583, .iadd, 1, 0, []), (1584, .iaload, 1, 0, []), (1585, .invokevirtual 216, 3, 1, [272, 2, 10, 5, 1787, 99, 1784, 1785, 1786, 0]), (1588, .if_icmp .eq 286, 3, 0, [1258, 1874]), (1591, .iconst 0, 1, 0, [0]),
  (1592, .ireturn, 1, 2, [2]), (1593, .aload_n 1, 1, 0, []), (1594, .aload_n 0, 1, 0, []), (1595, .iload_n 3, 1, 0, []), (1596, .iconst 1, 1, 0, [1]), (1597, .iadd, 1, 0, []),
  (1598, .iaload, 1, 0, []), (1599, .aload_n 0, 1, 0, []), (1600, .iload_n 3, 1, 0, []), (1601, .iconst 2, 1, 0, [2]), (1602, .iadd, 1, 0, []), (1603, .iaload, 1, 0, []),
  (1604, .aload_n 0, 1, 0, []), (1605, .iload_n 3, 1, 0, []), (1606, .iconst 3, 1, 0, [3]), (1607, .iadd, 1, 0, []), (1608, .iaload, 1, 0, []), (1609, .aload_n 0, 1, 0, []),
  (1610, .iload_n 3, 1, 0, []), (1611, .iconst 4, 1, 0, [4]), (1612, .iadd, 1, 0, []), (1613, .iaload, 1, 0, []), (1614, .aload_n 0, 1, 0, []), (1615, .iload_n 3, 1, 0, []),
  (1616, .iconst 5, 1, 0, [5]), (1617, .iadd, 1, 0, []), (1618, .iaload, 1, 0, []), (1619, .invokevirtual 217, 3, 1, [274, 6, 9, 6, 1148, 89, 1145, 1146, 1147, 0]), (1622, .aload_n 2, 1, 0, []), (1623, .aload_n 0, 1, 0, []),
  (1624, .iload_n 3, 1, 0, []), (1625, .iconst 1, 1, 0, [1]), (1626, .iadd, 1, 0, []), (1627, .iaload, 1, 0, []), (1628, .aload_n 0, 1, 0, []), (1629, .iload_n 3, 1, 0, []),
  (1630, .iconst 2, 1, 0, [2]), (1631, .iadd, 1, 0, []), (1632, .iaload, 1, 0, []), (1633, .aload_n 0, 1, 0, []), (1634, .iload_n 3, 1, 0, []), (1635, .iconst 3, 1, 0, [3]),
  (1636, .iadd, 1, 0, []), (1637, .iaload, 1, 0, []), (1638, .aload_n 0, 1, 0, []), (1639, .iload_n 3, 1, 0, []), (1640, .iconst 4, 1, 0, [4]), (1641, .iadd, 1, 0, []),
  (1642, .iaload, 1, 0, []), (1643, .aload_n 0, 1, 0, []), (1644, .iload_n 3, 1, 0, []), (1645, .iconst 5, 1, 0, [5]), (1646, .iadd, 1, 0, []), (1647, .iaload, 1, 0, []),
  (1648, .invokevirtual 221, 3, 1, [275, 6, 10, 9, 1795, 99, 1792, 1793, 1794, 0]), (1651, .lcmp, 1, 0, []), (1652, .ifCond .eq 222, 3, 0, [1258, 1874]), (1655, .iconst 0, 1, 0, [0]), (1656, .ireturn, 1, 2, [2]), (1657, .aload_n 1, 1, 0, []),
  (1658, .aload_n 0, 1, 0, []), (1659, .iload_n 3, 1, 0, []), (1660, .iconst 1, 1, 0, [1]), (1661, .iadd, 1, 0, [])]
noncomputable def cd_303_11 : List mm_E := [
  (1662, .iaload, 1, 0, []), (1663, .invokevirtual 222, 3, 1, [280, 2, 9, 2, 1157, 89, 1154, 1155, 1156, 0]), (1666, .aload_n 2, 1, 0, []), (1667, .aload_n 0, 1, 0, []), (1668, .iload_n 3, 1, 0, []), (1669, .iconst 1, 1, 0, [1]),
  (1670, .iadd, 1, 0, []), (1671, .iaload, 1, 0, []), (1672, .invokevirtual 225, 3, 1, [283, 2, 10, 10, 1801, 99, 1798, 1799, 1800, 0]), (1675, .if_icmp .eq 199, 3, 0, [1258, 1874]), (1678, .iconst 0, 1, 0, [0]), (1679, .ireturn, 1, 2, [2]),
  (1680, .aload_n 1, 1, 0, []), (1681, .aload_n 0, 1, 0, []), (1682, .iload_n 3, 1, 0, []), (1683, .iconst 1, 1, 0, [1]), (1684, .iadd, 1, 0, []), (1685, .iaload, 1, 0, []),
  (1686, .invokevirtual 226, 3, 1, [284, 2, 9, 2, 1180, 89, 1177, 1178, 1179, 0]), (1689, .aload_n 2, 1, 0, []), (1690, .aload_n 0, 1, 0, []), (1691, .iload_n 3, 1, 0, []), (1692, .iconst 1, 1, 0, [1]), (1693, .iadd, 1, 0, []),
  (1694, .iaload, 1, 0, []), (1695, .invokevirtual 229, 3, 1, [285, 2, 10, 2, 1814, 99, 1811, 1812, 1813, 0]), (1698, .if_icmp .eq 176, 3, 0, [1258, 1874]), (1701, .iconst 0, 1, 0, [0]), (1702, .ireturn, 1, 2, [2]), (1703, .aload_n 1, 1, 0, []),
  (1704, .aload_n 0, 1, 0, []), (1705, .iload_n 3, 1, 0, []), (1706, .iconst 1, 1, 0, [1]), (1707, .iadd, 1, 0, []), (1708, .iaload, 1, 0, []), (1709, .invokevirtual 230, 3, 1, [286, 2, 9, 2, 1184, 89, 1181, 1182, 1183, 0]),
  (1712, .aload_n 2, 1, 0, []), (1713, .aload_n 0, 1, 0, []), (1714, .iload_n 3, 1, 0, []), (1715, .iconst 1, 1, 0, [1]), (1716, .iadd, 1, 0, []), (1717, .iaload, 1, 0, []),
  (1718, .invokevirtual 233, 3, 1, [287, 2, 10, 2, 1818, 99, 1815, 1816, 1817, 0]), (1721, .if_icmp .eq 153, 3, 0, [1258, 1874]), (1724, .iconst 0, 1, 0, [0]), (1725, .ireturn, 1, 2, [2]), (1726, .aload_n 1, 1, 0, []), (1727, .aload_n 0, 1, 0, []),
  (1728, .iload_n 3, 1, 0, []), (1729, .iconst 1, 1, 0, [1]), (1730, .iadd, 1, 0, []), (1731, .iaload, 1, 0, []), (1732, .invokevirtual 234, 3, 1, [288, 2, 9, 2, 1188, 89, 1185, 1186, 1187, 0]), (1735, .aload_n 2, 1, 0, []),
  (1736, .aload_n 0, 1, 0, []), (1737, .iload_n 3, 1, 0, []), (1738, .iconst 1, 1, 0, [1]), (1739, .iadd, 1, 0, []), (1740, .iaload, 1, 0, []), (1741, .invokevirtual 237, 3, 1, [289, 2, 10, 2, 1822, 99, 1819, 1820, 1821, 0]),
  (1744, .if_icmp .eq 130, 3, 0, [1258, 1874]), (1747, .iconst 0, 1, 0, [0]), (1748, .ireturn, 1, 2, [2]), (1749, .aload_n 1, 1, 0, []), (1750, .aload_n 0, 1, 0, []), (1751, .iload_n 3, 1, 0, []),
  (1752, .iconst 1, 1, 0, [1]), (1753, .iadd, 1, 0, []), (1754, .iaload, 1, 0, []), (1755, .aload_n 0, 1, 0, []), (1756, .iload_n 3, 1, 0, []), (1757, .iconst 2, 1, 0, [2]),
  (1758, .iadd, 1, 0, []), (1759, .iaload, 1, 0, []), (1760, .invokevirtual 238, 3, 1, [290, 3, 9, 4, 1192, 89, 1189, 1190, 1191, 0]), (1763, .aload_n 2, 1, 0, []), (1764, .aload_n 0, 1, 0, []), (1765, .iload_n 3, 1, 0, []),
  (1766, .iconst 1, 1, 0, [1]), (1767, .iadd, 1, 0, []), (1768, .iaload, 1, 0, []), (1769, .aload_n 0, 1, 0, []), (1770, .iload_n 3, 1, 0, []), (1771, .iconst 2, 1, 0, [2]),
  (1772, .iadd, 1, 0, []), (1773, .iaload, 1, 0, []), (1774, .invokevirtual 241, 3, 1, [291, 3, 10, 4, 1826, 99, 1823, 1824, 1825, 0]), (1777, .if_icmp .eq 97, 3, 0, [1258, 1874]), (1780, .iconst 0, 1, 0, [0]), (1781, .ireturn, 1, 2, [2]),
  (1782, .aload_n 1, 1, 0, []), (1783, .aload_n 0, 1, 0, []), (1784, .iload_n 3, 1, 0, []), (1785, .iconst 1, 1, 0, [1]), (1786, .iadd, 1, 0, []), (1787, .iaload, 1, 0, []),
  (1788, .invokevirtual 242, 3, 1, [293, 2, 9, 3, 1196, 89, 1193, 1194, 1195, 0]), (1791, .aload_n 2, 1, 0, []), (1792, .aload_n 0, 1, 0, []), (1793, .iload_n 3, 1, 0, [])]
noncomputable def cd_303_12 : List mm_E := [
  (1794, .iconst 1, 1, 0, [1]), (1795, .iadd, 1, 0, []), (1796, .iaload, 1, 0, []), (1797, .invokevirtual 245, 3, 1, [296, 2, 10, 3, 1830, 99, 1827, 1828, 1829, 0]), (1800, .if_icmp .eq 74, 3, 0, [1258, 1874]), (1803, .iconst 0, 1, 0, [0]),
  (1804, .ireturn, 1, 2, [2]), (1805, .aload_n 1, 1, 0, []), (1806, .aload_n 0, 1, 0, []), (1807, .iload_n 3, 1, 0, []), (1808, .iconst 1, 1, 0, [1]), (1809, .iadd, 1, 0, []),
  (1810, .iaload, 1, 0, []), (1811, .invokevirtual 246, 3, 1, [297, 2, 9, 2, 1204, 89, 1201, 1202, 1203, 0]), (1814, .aload_n 2, 1, 0, []), (1815, .aload_n 0, 1, 0, []), (1816, .iload_n 3, 1, 0, []), (1817, .iconst 1, 1, 0, [1]),
  (1818, .iadd, 1, 0, []), (1819, .iaload, 1, 0, []), (1820, .invokevirtual 249, 3, 1, [298, 2, 10, 2, 1842, 99, 1839, 1840, 1841, 0]), (1823, .if_icmp .eq 51, 3, 0, [1258, 1874]), (1826, .iconst 0, 1, 0, [0]), (1827, .ireturn, 1, 2, [2]),
  (1828, .aload_n 1, 1, 0, []), (1829, .aload_n 0, 1, 0, []), (1830, .iload_n 3, 1, 0, []), (1831, .iconst 1, 1, 0, [1]), (1832, .iadd, 1, 0, []), (1833, .iaload, 1, 0, []),
  (1834, .invokevirtual 250, 3, 1, [299, 2, 9, 2, 1208, 89, 1205, 1206, 1207, 0]), (1837, .aload_n 2, 1, 0, []), (1838, .aload_n 0, 1, 0, []), (1839, .iload_n 3, 1, 0, []), (1840, .iconst 1, 1, 0, [1]), (1841, .iadd, 1, 0, []),
  (1842, .iaload, 1, 0, []), (1843, .invokevirtual 253, 3, 1, [300, 2, 10, 2, 1846, 99, 1843, 1844, 1845, 0]), (1846, .if_icmp .eq 28, 3, 0, [1258, 1874]), (1849, .iconst 0, 1, 0, [0]), (1850, .ireturn, 1, 2, [2]), (1851, .aload_n 1, 1, 0, []),
  (1852, .aload_n 0, 1, 0, []), (1853, .iload_n 3, 1, 0, []), (1854, .iconst 1, 1, 0, [1]), (1855, .iadd, 1, 0, []), (1856, .iaload, 1, 0, []), (1857, .invokevirtual 254, 3, 1, [301, 2, 9, 3, 1213, 89, 1210, 1211, 1212, 0]),
  (1860, .aload_n 2, 1, 0, []), (1861, .aload_n 0, 1, 0, []), (1862, .iload_n 3, 1, 0, []), (1863, .iconst 1, 1, 0, [1]), (1864, .iadd, 1, 0, []), (1865, .iaload, 1, 0, []),
  (1866, .invokevirtual 257, 3, 1, [302, 2, 10, 3, 1850, 99, 1847, 1848, 1849, 0]), (1869, .if_icmp .eq 5, 3, 0, [1258, 1874]), (1872, .iconst 0, 1, 0, [0]), (1873, .ireturn, 1, 2, [2]), (1874, .iinc 3 6, 3, 0, []), (1877, .goto (-1859), 3, 0, [10, 18]),
  (1880, .iconst 1, 1, 0, [1]), (1881, .ireturn, 1, 2, [2])]
noncomputable def cd_303 : List mm_E := cd_303_0 ++ (cd_303_1 ++ (cd_303_2 ++ (cd_303_3 ++ (cd_303_4 ++ (cd_303_5 ++ (cd_303_6 ++ (cd_303_7 ++ (cd_303_8 ++ (cd_303_9 ++ (cd_303_10 ++ (cd_303_11 ++ (cd_303_12))))))))))))
noncomputable def mt_303 : mm_M := (⟨"DeafArrayLaw", "law", "([I)Z"⟩, code, 4, (some (.boolean)), 12, 488, 10, 1, false)
noncomputable def cdL0 : List (List mm_E) := [cd_0, cd_1, cd_2, cd_3, cd_4, cd_5, cd_6, cd_7, cd_8, cd_9, cd_10, cd_11, cd_12, cd_13, cd_14, cd_15, cd_16, cd_17, cd_18, cd_19, cd_20, cd_21, cd_22, cd_23, cd_24, cd_25, cd_26, cd_27, cd_28, cd_29, cd_30, cd_31, cd_32, cd_33, cd_34, cd_35, cd_36, cd_37, cd_38, cd_39]
noncomputable def cdL1 : List (List mm_E) := [cd_40, cd_41, cd_42, cd_43, cd_44, cd_45, cd_46, cd_47, cd_48, cd_49, cd_50, cd_51, cd_52, cd_53, cd_54, cd_55, cd_56, cd_57, cd_58, cd_59, cd_60, cd_61, cd_62, cd_63, cd_64, cd_65, cd_66, cd_67, cd_68, cd_69, cd_70, cd_71, cd_72, cd_73, cd_74, cd_75, cd_76, cd_77, cd_78, cd_79]
noncomputable def cdL2 : List (List mm_E) := [cd_80, cd_81, cd_82, cd_83, cd_84, cd_85, cd_86, cd_87, cd_88, cd_89, cd_90, cd_91, cd_92, cd_93, cd_94, cd_95, cd_96, cd_97, cd_98, cd_99, cd_100, cd_101, cd_102, cd_103, cd_104, cd_105, cd_106, cd_107, cd_108, cd_109, cd_110, cd_111, cd_112, cd_113, cd_114, cd_115, cd_116, cd_117, cd_118, cd_119]
noncomputable def cdL3 : List (List mm_E) := [cd_120, cd_121, cd_122, cd_123, cd_124, cd_125, cd_126, cd_127, cd_128, cd_129, cd_130, cd_131, cd_132, cd_133, cd_134, cd_135, cd_136, cd_137, cd_138, cd_139, cd_140, cd_141, cd_142, cd_143, cd_144, cd_145, cd_146, cd_147, cd_148, cd_149, cd_150, cd_151, cd_152, cd_153, cd_154, cd_155, cd_156, cd_157, cd_158, cd_159]
noncomputable def cdL4 : List (List mm_E) := [cd_160, cd_161, cd_162, cd_163, cd_164, cd_165, cd_166, cd_167, cd_168, cd_169, cd_170, cd_171, cd_172, cd_173, cd_174, cd_175, cd_176, cd_177, cd_178, cd_179, cd_180, cd_181, cd_182, cd_183, cd_184, cd_185, cd_186, cd_187, cd_188, cd_189, cd_190, cd_191, cd_192, cd_193, cd_194, cd_195, cd_196, cd_197, cd_198, cd_199]
noncomputable def cdL5 : List (List mm_E) := [cd_200, cd_201, cd_202, cd_203, cd_204, cd_205, cd_206, cd_207, cd_208, cd_209, cd_210, cd_211, cd_212, cd_213, cd_214, cd_215, cd_216, cd_217, cd_218, cd_219, cd_220, cd_221, cd_222, cd_223, cd_224, cd_225, cd_226, cd_227, cd_228, cd_229, cd_230, cd_231, cd_232, cd_233, cd_234, cd_235, cd_236, cd_237, cd_238, cd_239]
noncomputable def cdL6 : List (List mm_E) := [cd_240, cd_241, cd_242, cd_243, cd_244, cd_245, cd_246, cd_247, cd_248, cd_249, cd_250, cd_251, cd_252, cd_253, cd_254, cd_255, cd_256, cd_257, cd_258, cd_259, cd_260, cd_261, cd_262, cd_263, cd_264, cd_265, cd_266, cd_267, cd_268, cd_269, cd_270, cd_271, cd_272, cd_273, cd_274, cd_275, cd_276, cd_277, cd_278, cd_279]
noncomputable def cdL7 : List (List mm_E) := [cd_280, cd_281, cd_282, cd_283, cd_284, cd_285, cd_286, cd_287, cd_288, cd_289, cd_290, cd_291, cd_292, cd_293, cd_294, cd_295, cd_296, cd_297, cd_298, cd_299, cd_300, cd_301, cd_302, cd_303]
noncomputable def cdL : List (List mm_E) := cdL0 ++ (cdL1 ++ (cdL2 ++ (cdL3 ++ (cdL4 ++ (cdL5 ++ (cdL6 ++ (cdL7)))))))
noncomputable def mtL0 : List (mm_M) := [mt_0, mt_1, mt_2, mt_3, mt_4, mt_5, mt_6, mt_7, mt_8, mt_9, mt_10, mt_11, mt_12, mt_13, mt_14, mt_15, mt_16, mt_17, mt_18, mt_19, mt_20, mt_21, mt_22, mt_23, mt_24, mt_25, mt_26, mt_27, mt_28, mt_29, mt_30, mt_31, mt_32, mt_33, mt_34, mt_35, mt_36, mt_37, mt_38, mt_39]
noncomputable def mtL1 : List (mm_M) := [mt_40, mt_41, mt_42, mt_43, mt_44, mt_45, mt_46, mt_47, mt_48, mt_49, mt_50, mt_51, mt_52, mt_53, mt_54, mt_55, mt_56, mt_57, mt_58, mt_59, mt_60, mt_61, mt_62, mt_63, mt_64, mt_65, mt_66, mt_67, mt_68, mt_69, mt_70, mt_71, mt_72, mt_73, mt_74, mt_75, mt_76, mt_77, mt_78, mt_79]
noncomputable def mtL2 : List (mm_M) := [mt_80, mt_81, mt_82, mt_83, mt_84, mt_85, mt_86, mt_87, mt_88, mt_89, mt_90, mt_91, mt_92, mt_93, mt_94, mt_95, mt_96, mt_97, mt_98, mt_99, mt_100, mt_101, mt_102, mt_103, mt_104, mt_105, mt_106, mt_107, mt_108, mt_109, mt_110, mt_111, mt_112, mt_113, mt_114, mt_115, mt_116, mt_117, mt_118, mt_119]
noncomputable def mtL3 : List (mm_M) := [mt_120, mt_121, mt_122, mt_123, mt_124, mt_125, mt_126, mt_127, mt_128, mt_129, mt_130, mt_131, mt_132, mt_133, mt_134, mt_135, mt_136, mt_137, mt_138, mt_139, mt_140, mt_141, mt_142, mt_143, mt_144, mt_145, mt_146, mt_147, mt_148, mt_149, mt_150, mt_151, mt_152, mt_153, mt_154, mt_155, mt_156, mt_157, mt_158, mt_159]
noncomputable def mtL4 : List (mm_M) := [mt_160, mt_161, mt_162, mt_163, mt_164, mt_165, mt_166, mt_167, mt_168, mt_169, mt_170, mt_171, mt_172, mt_173, mt_174, mt_175, mt_176, mt_177, mt_178, mt_179, mt_180, mt_181, mt_182, mt_183, mt_184, mt_185, mt_186, mt_187, mt_188, mt_189, mt_190, mt_191, mt_192, mt_193, mt_194, mt_195, mt_196, mt_197, mt_198, mt_199]
noncomputable def mtL5 : List (mm_M) := [mt_200, mt_201, mt_202, mt_203, mt_204, mt_205, mt_206, mt_207, mt_208, mt_209, mt_210, mt_211, mt_212, mt_213, mt_214, mt_215, mt_216, mt_217, mt_218, mt_219, mt_220, mt_221, mt_222, mt_223, mt_224, mt_225, mt_226, mt_227, mt_228, mt_229, mt_230, mt_231, mt_232, mt_233, mt_234, mt_235, mt_236, mt_237, mt_238, mt_239]
noncomputable def mtL6 : List (mm_M) := [mt_240, mt_241, mt_242, mt_243, mt_244, mt_245, mt_246, mt_247, mt_248, mt_249, mt_250, mt_251, mt_252, mt_253, mt_254, mt_255, mt_256, mt_257, mt_258, mt_259, mt_260, mt_261, mt_262, mt_263, mt_264, mt_265, mt_266, mt_267, mt_268, mt_269, mt_270, mt_271, mt_272, mt_273, mt_274, mt_275, mt_276, mt_277, mt_278, mt_279]
noncomputable def mtL7 : List (mm_M) := [mt_280, mt_281, mt_282, mt_283, mt_284, mt_285, mt_286, mt_287, mt_288, mt_289, mt_290, mt_291, mt_292, mt_293, mt_294, mt_295, mt_296, mt_297, mt_298, mt_299, mt_300, mt_301, mt_302, mt_303]
noncomputable def mtL : List (mm_M) := mtL0 ++ (mtL1 ++ (mtL2 ++ (mtL3 ++ (mtL4 ++ (mtL5 ++ (mtL6 ++ (mtL7)))))))
noncomputable def cd (k : Nat) : List mm_E := cdL.getD k []
noncomputable def mt (k : Nat) : mm_M := mtL.getD k mt_0
