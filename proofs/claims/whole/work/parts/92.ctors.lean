/-! The constructors: name, code, locals, room, number of the class, places of their words. -/
abbrev Kd : Type := MethodName × ByteArray × Nat × (Nat × Nat × Nat × Nat) × Nat × (Nat × Nat × Nat × Nat)
def kd_0 : Kd := (⟨"OneReturns$Flow", "<init>", "()V"⟩, prog_2_method_1_code, 1, (1, 5, 192, 12), 0, (233, 91, 230, 232))
def kd_1 : Kd := (⟨"OneReturns$History", "<init>", "()V"⟩, prog_3_method_1_code, 2, (2, 17, 520, 32), 1, (357, 94, 354, 356))
def kd_2 : Kd := (⟨"OneReturns$Machine", "<init>", "()V"⟩, prog_5_method_1_code, 1, (1, 10, 1366, 12), 3, (255, 92, 252, 254))
def kd_3 : Kd := (⟨"OneReturns$Moment", "<init>", "()V"⟩, prog_6_method_1_code, 1, (1, 1, 60, 12), 4, (150, 89, 147, 149))
def kd_4 : Kd := (⟨"OneReturns$Reader", "<init>", "()V"⟩, prog_7_method_1_code, 1, (1, 4, 240, 12), 5, (110, 88, 107, 109))
def kd_5 : Kd := (⟨"OneReturns$Shrinker", "<init>", "()V"⟩, prog_8_method_1_code, 1, (2, 13, 731, 32), 6, (322, 93, 319, 321))
def kd_6 : Kd := (⟨"OneReturns$Tree", "<init>", "()V"⟩, prog_9_method_1_code, 1, (1, 10, 600, 12), 7, (173, 90, 170, 172))
def kd_7 : Kd := (⟨"OneReturns", "<init>", "()V"⟩, prog_1_method_1_code, 2, (6, 76, 3965, 134), 8, (102, 87, 99, 101))
def kd_8 : Kd := (⟨"OneReturnsModel", "<init>", "()V"⟩, prog_11_method_1_code, 1, (4, 33, 3752, 89), 9, (884, 96, 881, 883))
def kds : List Kd := [kd_0, kd_1, kd_2, kd_3, kd_4, kd_5, kd_6, kd_7, kd_8]
def kt_0 : List Ent := [(0, .aload_n 0, 1, 0, 0, 0), (1, .invokespecial 3, 3, 99, 0, 234), (4, .aload_n 0, 1, 0, 0, 0), (5, .bipush 60, 2, 0, 0, 0), (7, .newarray .int, 2, 0, 0, 0), (9, .putfield 9, 3, 0, 0, 235), (12, .aload_n 0, 1, 0, 0, 0), (13, .bipush 60, 2, 0, 0, 0), (15, .newarray .int, 2, 0, 0, 0), (17, .putfield 15, 3, 0, 1, 236), (20, .aload_n 0, 1, 0, 0, 0), (21, .bipush 60, 2, 0, 0, 0), (23, .newarray .int, 2, 0, 0, 0), (25, .putfield 18, 3, 0, 2, 237), (28, .aload_n 0, 1, 0, 0, 0), (29, .bipush 6, 2, 0, 0, 0), (31, .newarray .int, 2, 0, 0, 0), (33, .putfield 21, 3, 0, 3, 238), (36, .aload_n 0, 1, 0, 0, 0), (37, .bipush 6, 2, 0, 0, 0), (39, .newarray .int, 2, 0, 0, 0), (41, .putfield 24, 3, 0, 4, 239), (44, .return_, 1, 0, 0, 0)]
def kt_1 : List Ent := [(0, .aload_n 0, 1, 0, 0, 0), (1, .invokespecial 3, 3, 99, 0, 358), (4, .aload_n 0, 1, 0, 0, 0), (5, .bipush 8, 2, 0, 0, 0), (7, .anewarray 9, 3, 3, 0, 359), (10, .putfield 11, 3, 1, 0, 362), (13, .iconst 0, 1, 0, 0, 0), (14, .istore_n 1, 1, 0, 0, 0), (15, .iload_n 1, 1, 0, 0, 0), (16, .bipush 8, 2, 0, 0, 0), (18, .if_icmp .ge 22, 3, 40, 0, 0), (21, .aload_n 0, 1, 0, 0, 0), (22, .getfield 11, 3, 1, 0, 362), (25, .iload_n 1, 1, 0, 0, 0), (26, .new 9, 3, 3, 0, 359), (29, .dup, 1, 0, 0, 0), (30, .invokespecial 17, 3, 3, 0, 361), (33, .aastore, 1, 0, 0, 0), (34, .iinc 1 1, 3, 0, 0, 0), (37, .goto (-22), 3, 15, 0, 0), (40, .aload_n 0, 1, 0, 0, 0), (41, .iconst 0, 1, 0, 0, 0), (42, .putfield 18, 3, 1, 1, 363), (45, .aload_n 0, 1, 0, 0, 0), (46, .iconst 0, 1, 0, 0, 0), (47, .putfield 22, 3, 1, 2, 364), (50, .return_, 1, 0, 0, 0)]
def kt_2 : List Ent := [(0, .aload_n 0, 1, 0, 0, 0), (1, .invokespecial 3, 3, 99, 0, 256), (4, .aload_n 0, 1, 0, 0, 0), (5, .bipush 60, 2, 0, 0, 0), (7, .newarray .int, 2, 0, 0, 0), (9, .putfield 9, 3, 2, 4, 265), (12, .aload_n 0, 1, 0, 0, 0), (13, .iconst 3, 1, 0, 0, 0), (14, .newarray .int, 2, 0, 0, 0), (16, .putfield 15, 3, 2, 5, 267), (19, .aload_n 0, 1, 0, 0, 0), (20, .iconst 3, 1, 0, 0, 0), (21, .newarray .int, 2, 0, 0, 0), (23, .putfield 18, 3, 2, 6, 269), (26, .aload_n 0, 1, 0, 0, 0), (27, .bipush 100, 2, 0, 0, 0), (29, .newarray .int, 2, 0, 0, 0), (31, .putfield 21, 3, 2, 7, 270), (34, .aload_n 0, 1, 0, 0, 0), (35, .bipush 100, 2, 0, 0, 0), (37, .newarray .int, 2, 0, 0, 0), (39, .putfield 24, 3, 2, 8, 271), (42, .aload_n 0, 1, 0, 0, 0), (43, .bipush 100, 2, 0, 0, 0), (45, .newarray .int, 2, 0, 0, 0), (47, .putfield 27, 3, 2, 9, 272), (50, .aload_n 0, 1, 0, 0, 0), (51, .bipush 100, 2, 0, 0, 0), (53, .newarray .int, 2, 0, 0, 0), (55, .putfield 30, 3, 2, 10, 273), (58, .aload_n 0, 1, 0, 0, 0), (59, .sipush 300, 3, 0, 0, 0), (62, .newarray .int, 2, 0, 0, 0), (64, .putfield 33, 3, 2, 12, 275), (67, .aload_n 0, 1, 0, 0, 0), (68, .sipush 300, 3, 0, 0, 0), (71, .newarray .int, 2, 0, 0, 0), (73, .putfield 36, 3, 2, 13, 276), (76, .aload_n 0, 1, 0, 0, 0), (77, .sipush 300, 3, 0, 0, 0), (80, .newarray .int, 2, 0, 0, 0), (82, .putfield 39, 3, 2, 14, 277), (85, .return_, 1, 0, 0, 0)]
def kt_3 : List Ent := [(0, .aload_n 0, 1, 0, 0, 0), (1, .invokespecial 3, 3, 99, 0, 151), (4, .aload_n 0, 1, 0, 0, 0), (5, .bipush 60, 2, 0, 0, 0), (7, .newarray .int, 2, 0, 0, 0), (9, .putfield 9, 3, 3, 0, 152), (12, .aload_n 0, 1, 0, 0, 0), (13, .getfield 9, 3, 3, 0, 152), (16, .iconst 0, 1, 0, 0, 0), (17, .bipush 48, 2, 0, 0, 0), (19, .iastore, 1, 0, 0, 0), (20, .aload_n 0, 1, 0, 0, 0), (21, .iconst 1, 1, 0, 0, 0), (22, .putfield 15, 3, 3, 1, 154), (25, .aload_n 0, 1, 0, 0, 0), (26, .iconst 0, 1, 0, 0, 0), (27, .putfield 19, 3, 3, 2, 156), (30, .aload_n 0, 1, 0, 0, 0), (31, .iconst 0, 1, 0, 0, 0), (32, .putfield 22, 3, 3, 3, 158), (35, .return_, 1, 0, 0, 0)]
def kt_4 : List Ent := [(0, .aload_n 0, 1, 0, 0, 0), (1, .invokespecial 3, 3, 99, 0, 111), (4, .aload_n 0, 1, 0, 0, 0), (5, .bipush 60, 2, 0, 0, 0), (7, .newarray .int, 2, 0, 0, 0), (9, .putfield 9, 3, 4, 0, 112), (12, .aload_n 0, 1, 0, 0, 0), (13, .bipush 60, 2, 0, 0, 0), (15, .newarray .int, 2, 0, 0, 0), (17, .putfield 15, 3, 4, 2, 116), (20, .aload_n 0, 1, 0, 0, 0), (21, .bipush 60, 2, 0, 0, 0), (23, .newarray .int, 2, 0, 0, 0), (25, .putfield 18, 3, 4, 3, 117), (28, .aload_n 0, 1, 0, 0, 0), (29, .bipush 60, 2, 0, 0, 0), (31, .newarray .int, 2, 0, 0, 0), (33, .putfield 21, 3, 4, 4, 118), (36, .return_, 1, 0, 0, 0)]
def kt_5 : List Ent := [(0, .aload_n 0, 1, 0, 0, 0), (1, .invokespecial 3, 3, 99, 0, 323), (4, .aload_n 0, 1, 0, 0, 0), (5, .bipush 60, 2, 0, 0, 0), (7, .newarray .int, 2, 0, 0, 0), (9, .putfield 9, 3, 5, 0, 326), (12, .aload_n 0, 1, 0, 0, 0), (13, .bipush 60, 2, 0, 0, 0), (15, .newarray .int, 2, 0, 0, 0), (17, .putfield 15, 3, 5, 5, 336), (20, .aload_n 0, 1, 0, 0, 0), (21, .new 18, 3, 6, 0, 324), (24, .dup, 1, 0, 0, 0), (25, .invokespecial 20, 3, 6, 0, 325), (28, .putfield 21, 3, 5, 2, 330), (31, .return_, 1, 0, 0, 0)]
def kt_6 : List Ent := [(0, .aload_n 0, 1, 0, 0, 0), (1, .invokespecial 3, 3, 99, 0, 174), (4, .aload_n 0, 1, 0, 0, 0), (5, .iconst 0, 1, 0, 0, 0), (6, .putfield 9, 3, 6, 0, 175), (9, .aload_n 0, 1, 0, 0, 0), (10, .bipush 60, 2, 0, 0, 0), (12, .newarray .int, 2, 0, 0, 0), (14, .putfield 15, 3, 6, 1, 179), (17, .aload_n 0, 1, 0, 0, 0), (18, .bipush 60, 2, 0, 0, 0), (20, .newarray .int, 2, 0, 0, 0), (22, .putfield 19, 3, 6, 2, 184), (25, .aload_n 0, 1, 0, 0, 0), (26, .bipush 60, 2, 0, 0, 0), (28, .newarray .int, 2, 0, 0, 0), (30, .putfield 22, 3, 6, 3, 188), (33, .aload_n 0, 1, 0, 0, 0), (34, .bipush 60, 2, 0, 0, 0), (36, .newarray .int, 2, 0, 0, 0), (38, .putfield 25, 3, 6, 4, 191), (41, .aload_n 0, 1, 0, 0, 0), (42, .bipush 60, 2, 0, 0, 0), (44, .newarray .int, 2, 0, 0, 0), (46, .putfield 28, 3, 6, 5, 193), (49, .aload_n 0, 1, 0, 0, 0), (50, .bipush 60, 2, 0, 0, 0), (52, .newarray .int, 2, 0, 0, 0), (54, .putfield 31, 3, 6, 6, 195), (57, .aload_n 0, 1, 0, 0, 0), (58, .bipush 60, 2, 0, 0, 0), (60, .newarray .int, 2, 0, 0, 0), (62, .putfield 34, 3, 6, 7, 198), (65, .aload_n 0, 1, 0, 0, 0), (66, .bipush 60, 2, 0, 0, 0), (68, .newarray .int, 2, 0, 0, 0), (70, .putfield 37, 3, 6, 8, 201), (73, .aload_n 0, 1, 0, 0, 0), (74, .bipush 60, 2, 0, 0, 0), (76, .newarray .int, 2, 0, 0, 0), (78, .putfield 40, 3, 6, 9, 203), (81, .aload_n 0, 1, 0, 0, 0), (82, .bipush 60, 2, 0, 0, 0), (84, .newarray .int, 2, 0, 0, 0), (86, .putfield 43, 3, 6, 10, 205), (89, .return_, 1, 0, 0, 0)]
def kt_7 : List Ent := [(0, .aload_n 0, 1, 0, 0, 0), (1, .invokespecial 1, 3, 99, 0, 103), (4, .aload_n 0, 1, 0, 0, 0), (5, .bipush 60, 2, 0, 0, 0), (7, .newarray .int, 2, 0, 0, 0), (9, .putfield 9, 3, 7, 0, 438), (12, .aload_n 0, 1, 0, 0, 0), (13, .iconst 0, 1, 0, 0, 0), (14, .putfield 13, 3, 7, 1, 439), (17, .aload_n 0, 1, 0, 0, 0), (18, .new 17, 3, 4, 0, 106), (21, .dup, 1, 0, 0, 0), (22, .invokespecial 19, 3, 4, 0, 108), (25, .putfield 20, 3, 7, 2, 440), (28, .aload_n 0, 1, 0, 0, 0), (29, .new 24, 3, 3, 0, 146), (32, .dup, 1, 0, 0, 0), (33, .invokespecial 26, 3, 3, 0, 148), (36, .putfield 27, 3, 7, 3, 441), (39, .aload_n 0, 1, 0, 0, 0), (40, .new 31, 3, 6, 0, 169), (43, .dup, 1, 0, 0, 0), (44, .invokespecial 33, 3, 6, 0, 171), (47, .putfield 34, 3, 7, 4, 442), (50, .aload_n 0, 1, 0, 0, 0), (51, .new 38, 3, 0, 0, 229), (54, .dup, 1, 0, 0, 0), (55, .invokespecial 40, 3, 0, 0, 231), (58, .putfield 41, 3, 7, 5, 443), (61, .aload_n 0, 1, 0, 0, 0), (62, .new 45, 3, 2, 0, 251), (65, .dup, 1, 0, 0, 0), (66, .invokespecial 47, 3, 2, 0, 253), (69, .putfield 48, 3, 7, 6, 444), (72, .aload_n 0, 1, 0, 0, 0), (73, .new 52, 3, 5, 0, 318), (76, .dup, 1, 0, 0, 0), (77, .invokespecial 54, 3, 5, 0, 320), (80, .putfield 55, 3, 7, 7, 445), (83, .aload_n 0, 1, 0, 0, 0), (84, .new 59, 3, 1, 0, 353), (87, .dup, 1, 0, 0, 0), (88, .invokespecial 61, 3, 1, 0, 355), (91, .putfield 62, 3, 7, 8, 446), (94, .aload_n 0, 1, 0, 0, 0), (95, .iconst 2, 1, 0, 0, 0), (96, .anewarray 24, 3, 3, 0, 146), (99, .putfield 66, 3, 7, 9, 447), (102, .iconst 0, 1, 0, 0, 0), (103, .istore_n 1, 1, 0, 0, 0), (104, .iload_n 1, 1, 0, 0, 0), (105, .iconst 2, 1, 0, 0, 0), (106, .if_icmp .ge 22, 3, 128, 0, 0), (109, .aload_n 0, 1, 0, 0, 0), (110, .getfield 66, 3, 7, 9, 447), (113, .iload_n 1, 1, 0, 0, 0), (114, .new 24, 3, 3, 0, 146), (117, .dup, 1, 0, 0, 0), (118, .invokespecial 26, 3, 3, 0, 148), (121, .aastore, 1, 0, 0, 0), (122, .iinc 1 1, 3, 0, 0, 0), (125, .goto (-21), 3, 104, 0, 0), (128, .aload_n 0, 1, 0, 0, 0), (129, .iconst 2, 1, 0, 0, 0), (130, .newarray .int, 2, 0, 0, 0), (132, .putfield 70, 3, 7, 10, 448), (135, .aload_n 0, 1, 0, 0, 0), (136, .iconst 3, 1, 0, 0, 0), (137, .newarray .int, 2, 0, 0, 0), (139, .putfield 73, 3, 7, 11, 449), (142, .aload_n 0, 1, 0, 0, 0), (143, .iconst 3, 1, 0, 0, 0), (144, .newarray .int, 2, 0, 0, 0), (146, .putfield 76, 3, 7, 12, 450), (149, .aload_n 0, 1, 0, 0, 0), (150, .iconst 0, 1, 0, 0, 0), (151, .putfield 79, 3, 7, 13, 451), (154, .aload_n 0, 1, 0, 0, 0), (155, .iconst 0, 1, 0, 0, 0), (156, .putfield 82, 3, 7, 14, 452), (159, .aload_n 0, 1, 0, 0, 0), (160, .invokevirtual 85, 3, 101, 0, 373), (163, .return_, 1, 0, 0, 0)]
def kt_8 : List Ent := [(0, .aload_n 0, 1, 0, 0, 0), (1, .invokespecial 1, 3, 99, 0, 885), (4, .aload_n 0, 1, 0, 0, 0), (5, .bipush 60, 2, 0, 0, 0), (7, .newarray .int, 2, 0, 0, 0), (9, .putfield 7, 3, 8, 1, 924), (12, .aload_n 0, 1, 0, 0, 0), (13, .bipush 63, 2, 0, 0, 0), (15, .newarray .int, 2, 0, 0, 0), (17, .putfield 13, 3, 8, 3, 926), (20, .aload_n 0, 1, 0, 0, 0), (21, .sipush 504, 3, 0, 0, 0), (24, .newarray .int, 2, 0, 0, 0), (26, .putfield 16, 3, 8, 4, 927), (29, .aload_n 0, 1, 0, 0, 0), (30, .bipush 126, 2, 0, 0, 0), (32, .newarray .int, 2, 0, 0, 0), (34, .putfield 19, 3, 8, 6, 929), (37, .aload_n 0, 1, 0, 0, 0), (38, .iconst 2, 1, 0, 0, 0), (39, .newarray .boolean, 2, 0, 0, 0), (41, .putfield 22, 3, 8, 7, 930), (44, .aload_n 0, 1, 0, 0, 0), (45, .bipush 63, 2, 0, 0, 0), (47, .newarray .int, 2, 0, 0, 0), (49, .putfield 26, 3, 8, 8, 931), (52, .aload_n 0, 1, 0, 0, 0), (53, .bipush 6, 2, 0, 0, 0), (55, .newarray .int, 2, 0, 0, 0), (57, .putfield 29, 3, 8, 10, 933), (60, .aload_n 0, 1, 0, 0, 0), (61, .sipush 400, 3, 0, 0, 0), (64, .newarray .int, 2, 0, 0, 0), (66, .putfield 32, 3, 8, 12, 935), (69, .aload_n 0, 1, 0, 0, 0), (70, .sipush 128, 3, 0, 0, 0), (73, .newarray .boolean, 2, 0, 0, 0), (75, .putfield 35, 3, 8, 14, 937), (78, .aload_n 0, 1, 0, 0, 0), (79, .sipush 128, 3, 0, 0, 0), (82, .newarray .boolean, 2, 0, 0, 0), (84, .putfield 38, 3, 8, 15, 938), (87, .aload_n 0, 1, 0, 0, 0), (88, .bipush 60, 2, 0, 0, 0), (90, .newarray .int, 2, 0, 0, 0), (92, .putfield 41, 3, 8, 16, 939), (95, .aload_n 0, 1, 0, 0, 0), (96, .bipush 60, 2, 0, 0, 0), (98, .newarray .int, 2, 0, 0, 0), (100, .putfield 44, 3, 8, 21, 944), (103, .aload_n 0, 1, 0, 0, 0), (104, .bipush 60, 2, 0, 0, 0), (106, .newarray .int, 2, 0, 0, 0), (108, .putfield 47, 3, 8, 22, 945), (111, .aload_n 0, 1, 0, 0, 0), (112, .bipush 60, 2, 0, 0, 0), (114, .newarray .int, 2, 0, 0, 0), (116, .putfield 50, 3, 8, 23, 946), (119, .aload_n 0, 1, 0, 0, 0), (120, .bipush 60, 2, 0, 0, 0), (122, .newarray .int, 2, 0, 0, 0), (124, .putfield 53, 3, 8, 24, 947), (127, .aload_n 0, 1, 0, 0, 0), (128, .bipush 60, 2, 0, 0, 0), (130, .newarray .int, 2, 0, 0, 0), (132, .putfield 56, 3, 8, 25, 948), (135, .aload_n 0, 1, 0, 0, 0), (136, .sipush 180, 3, 0, 0, 0), (139, .newarray .int, 2, 0, 0, 0), (141, .putfield 59, 3, 8, 26, 949), (144, .aload_n 0, 1, 0, 0, 0), (145, .bipush 60, 2, 0, 0, 0), (147, .newarray .int, 2, 0, 0, 0), (149, .putfield 62, 3, 8, 27, 950), (152, .aload_n 0, 1, 0, 0, 0), (153, .bipush 60, 2, 0, 0, 0), (155, .newarray .boolean, 2, 0, 0, 0), (157, .putfield 65, 3, 8, 28, 951), (160, .aload_n 0, 1, 0, 0, 0), (161, .bipush 60, 2, 0, 0, 0), (163, .newarray .int, 2, 0, 0, 0), (165, .putfield 68, 3, 8, 29, 952), (168, .aload_n 0, 1, 0, 0, 0), (169, .bipush 60, 2, 0, 0, 0), (171, .newarray .int, 2, 0, 0, 0), (173, .putfield 71, 3, 8, 30, 953), (176, .aload_n 0, 1, 0, 0, 0), (177, .bipush 6, 2, 0, 0, 0), (179, .newarray .int, 2, 0, 0, 0), (181, .putfield 74, 3, 8, 31, 954), (184, .aload_n 0, 1, 0, 0, 0), (185, .bipush 60, 2, 0, 0, 0), (187, .newarray .int, 2, 0, 0, 0), (189, .putfield 77, 3, 8, 33, 956), (192, .aload_n 0, 1, 0, 0, 0), (193, .bipush 100, 2, 0, 0, 0), (195, .newarray .int, 2, 0, 0, 0), (197, .putfield 80, 3, 8, 35, 958), (200, .aload_n 0, 1, 0, 0, 0), (201, .bipush 100, 2, 0, 0, 0), (203, .newarray .int, 2, 0, 0, 0), (205, .putfield 83, 3, 8, 36, 959), (208, .aload_n 0, 1, 0, 0, 0), (209, .bipush 100, 2, 0, 0, 0), (211, .newarray .int, 2, 0, 0, 0), (213, .putfield 86, 3, 8, 37, 960), (216, .aload_n 0, 1, 0, 0, 0), (217, .bipush 100, 2, 0, 0, 0), (219, .newarray .int, 2, 0, 0, 0), (221, .putfield 89, 3, 8, 38, 961), (224, .aload_n 0, 1, 0, 0, 0), (225, .sipush 320, 3, 0, 0, 0), (228, .newarray .int, 2, 0, 0, 0), (230, .putfield 92, 3, 8, 40, 963), (233, .aload_n 0, 1, 0, 0, 0), (234, .sipush 320, 3, 0, 0, 0), (237, .newarray .int, 2, 0, 0, 0), (239, .putfield 95, 3, 8, 41, 964), (242, .aload_n 0, 1, 0, 0, 0), (243, .sipush 320, 3, 0, 0, 0), (246, .newarray .int, 2, 0, 0, 0), (248, .putfield 98, 3, 8, 42, 965), (251, .aload_n 0, 1, 0, 0, 0), (252, .bipush 60, 2, 0, 0, 0), (254, .newarray .int, 2, 0, 0, 0), (256, .putfield 101, 3, 8, 50, 973), (259, .aload_n 0, 1, 0, 0, 0), (260, .iconst 3, 1, 0, 0, 0), (261, .newarray .int, 2, 0, 0, 0), (263, .putfield 104, 3, 8, 51, 974), (266, .aload_n 0, 1, 0, 0, 0), (267, .iconst 3, 1, 0, 0, 0), (268, .newarray .int, 2, 0, 0, 0), (270, .putfield 107, 3, 8, 52, 975), (273, .aload_n 0, 1, 0, 0, 0), (274, .getfield 13, 3, 8, 3, 926), (277, .iconst 0, 1, 0, 0, 0), (278, .bipush 48, 2, 0, 0, 0), (280, .iastore, 1, 0, 0, 0), (281, .aload_n 0, 1, 0, 0, 0), (282, .getfield 13, 3, 8, 3, 926), (285, .bipush 60, 2, 0, 0, 0), (287, .iconst 1, 1, 0, 0, 0), (288, .iastore, 1, 0, 0, 0), (289, .aload_n 0, 1, 0, 0, 0), (290, .invokevirtual 110, 3, 127, 0, 886), (293, .return_, 1, 0, 0, 0)]
def kts : List (List Ent) := [kt_0, kt_1, kt_2, kt_3, kt_4, kt_5, kt_6, kt_7, kt_8]
def kA : Nat × Nat × Nat × Nat × Nat := (145, 1089, 360, 105, 104)
def kdOf (j : Nat) : Kd := (nth kds j).getD kd_0
def kT (j : Nat) : List Ent := (nth kts j).getD []
def kY (j : Nat) : MethodName := (kdOf j).1
def kC (j : Nat) : ByteArray := (kdOf j).2.1
def kL (j : Nat) : Nat := (kdOf j).2.2.1
def kRm (j : Nat) : Room := { frames := (kdOf j).2.2.2.1.1, cells := (kdOf j).2.2.2.1.2.1, slots := (kdOf j).2.2.2.1.2.2.1, locals := (kdOf j).2.2.2.1.2.2.2 }
def kO (j : Nat) : Nat := (kdOf j).2.2.2.2.1
def wsK (j : Nat) : List Cond := Cond.code (kY j) (kC j) (kL j) none :: gw
def kchk (j : Nat) : Bool := decide (lw_tbl[(kdOf j).2.2.2.2.2.1]? = some (Cond.code (kY j) (kC j) (kL j) none)) && decide (lw_tbl[(kdOf j).2.2.2.2.2.2.1]? = some (Cond.initialized (kY j).cls)) &&
  (match vwCl[j]? with
    | some r => decide (r.1 = (kY j).cls) && decide (lw_tbl[(kdOf j).2.2.2.2.2.2.2.1]? = some (Cond.instantiable r.1 r.2.2))
    | none => false) && decide (lw_tbl[(kdOf j).2.2.2.2.2.2.2.2]? = some (Cond.instanceMethod (kY j))) &&
  decide ((parseMethodDescriptor (kY j).desc).map (fun d => d.parameters.length) = some 0) && decide (cnm (kO j) = (kY j).cls) && plainName (kY j).cls && decide ((kY j).cls ≠ "java/lang/invoke/MethodHandle" ∧ (kY j).cls ≠ "java/lang/invoke/VarHandle") && decide ((kY j).name = "<init>")
set_option maxRecDepth 100000 in
theorem kchk_all : (List.range 9).all kchk = true := by decide +kernel
def krOk (d : Kd) (a : Nat) : Bool := decide ((kRm a).frames + 1 ≤ d.2.2.2.1.1) && decide (8 + (kL a + 11) + (kRm a).locals ≤ d.2.2.2.1.2.2.2)
def okK2 (d : Kd) (e : Ent) : Bool := match e.2.1 with
  | .iconst n => e.2.2.1 == 1 && decide (-2147483648 ≤ n) && decide (n < 2147483648)
  | .bipush n => e.2.2.1 == 2 && decide (-128 ≤ n) && decide (n < 128)
  | .sipush n => e.2.2.1 == 3 && decide (-32768 ≤ n) && decide (n < 32768)
  | .aload_n _ | .iload_n _ | .dup | .iastore | .aastore | .return_ => e.2.2.1 == 1
  | .istore_n i => e.2.2.1 == 1 && decide (i.val < d.2.2.1)
  | .iinc i _ => e.2.2.1 == 3 && decide (i < d.2.2.1)
  | .goto off | .if_icmp _ off => e.2.2.1 == 3 && decide ((e.1 : Int) + off = (e.2.2.2.1 : Int))
  | .newarray _ => e.2.2.1 == 2
  | .anewarray idx => e.2.2.1 == 3 && decide (lw_tbl[e.2.2.2.2.2]? = some (Cond.classLink d.1.cls idx "OneReturns$Moment"))
  | .new idx => e.2.2.1 == 3 && decide (e.2.2.2.1 < 9) && decide (lw_tbl[e.2.2.2.2.2]? = some (Cond.classLink d.1.cls idx (kY e.2.2.2.1).cls))
  | .getfield idx | .putfield idx => e.2.2.1 == 3 && fchk (d.2.2.2.2.1, idx, e.2.2.2.1, e.2.2.2.2.1, e.2.2.2.2.2)
  | .invokespecial idx => e.2.2.1 == 3 && (match Nat.beq e.2.2.2.1 99 with
    | true => decide (lw_tbl[e.2.2.2.2.2]? = some (Cond.methodLink d.1.cls idx Lib.objectInit))
    | false => decide (e.2.2.2.1 < 9) && decide (lw_tbl[e.2.2.2.2.2]? = some (Cond.methodLink d.1.cls idx (kY e.2.2.2.1))) && krOk d e.2.2.2.1)
  | .invokevirtual _ => e.2.2.1 == 3
  | _ => false
def okK (d : Kd) (e : Ent) : Bool := decide (decode d.2.1 e.1 = .ok (e.2.1, e.2.2.1)) && okK2 d e
set_option maxRecDepth 100000 in
theorem kk_0 : kt_0.all (okK kd_0) = true := by decide +kernel
set_option maxRecDepth 100000 in
theorem kk_1 : kt_1.all (okK kd_1) = true := by decide +kernel
set_option maxRecDepth 100000 in
theorem kk_2 : kt_2.all (okK kd_2) = true := by decide +kernel
set_option maxRecDepth 100000 in
theorem kk_3 : kt_3.all (okK kd_3) = true := by decide +kernel
set_option maxRecDepth 100000 in
theorem kk_4 : kt_4.all (okK kd_4) = true := by decide +kernel
set_option maxRecDepth 100000 in
theorem kk_5 : kt_5.all (okK kd_5) = true := by decide +kernel
set_option maxRecDepth 100000 in
theorem kk_6 : kt_6.all (okK kd_6) = true := by decide +kernel
set_option maxRecDepth 100000 in
theorem kk_7 : kt_7.all (okK kd_7) = true := by decide +kernel
set_option maxRecDepth 100000 in
theorem kk_8 : kt_8.all (okK kd_8) = true := by decide +kernel
theorem kk_all {j : Nat} {e : Ent} (hj : j < 9) (he : e ∈ kT j) : okK (kdOf j) e = true := by
  have key : (kT j).all (okK (kdOf j)) = true := by
    match j, hj with
    | 0, _ => exact kk_0
    | 1, _ => exact kk_1
    | 2, _ => exact kk_2
    | 3, _ => exact kk_3
    | 4, _ => exact kk_4
    | 5, _ => exact kk_5
    | 6, _ => exact kk_6
    | 7, _ => exact kk_7
    | 8, _ => exact kk_8
    | n + 9, h => exact absurd h (by omega)
  exact List.all_eq_true.mp key e he
/-- what the tables say of a constructor -/
theorem kok {j : Nat} (h : j < 9) : Cond.code (kY j) (kC j) (kL j) none ∈ gw ∧ Cond.initialized (kY j).cls ∈ gw ∧ (∃ r, vwCl[j]? = some r ∧ r.1 = (kY j).cls ∧ Cond.instantiable r.1 r.2.2 ∈ gw) ∧ Cond.instanceMethod (kY j) ∈ gw ∧
    (parseMethodDescriptor (kY j).desc).map (fun d => d.parameters.length) = some 0 ∧ cnm (kO j) = (kY j).cls ∧ plainName (kY j).cls = true ∧ ((kY j).cls ≠ "java/lang/invoke/MethodHandle" ∧ (kY j).cls ≠ "java/lang/invoke/VarHandle") ∧ (kY j).name = "<init>" := by
  have h1 := List.all_eq_true.mp kchk_all j (List.mem_range.mpr h)
  unfold kchk at h1
  simp only [Bool.and_eq_true, decide_eq_true_eq] at h1
  obtain ⟨⟨⟨⟨⟨⟨⟨⟨h2, h3⟩, h4⟩, h5⟩, h6⟩, h7⟩, h8⟩, h9⟩, h10⟩ := h1
  refine ⟨gw_of (List.mem_of_getElem? h2) rfl, gw_of (List.mem_of_getElem? h3) rfl, ?_, gw_of (List.mem_of_getElem? h5) rfl, h6, h7, h8, h9, h10⟩
  cases hv : vwCl[j]? with
  | none => rw [hv] at h4; cases h4
  | some r =>
    rw [hv] at h4
    simp only [Bool.and_eq_true, decide_eq_true_eq] at h4
    exact ⟨r, rfl, h4.1, gw_of (List.mem_of_getElem? h4.2) rfl⟩
theorem goodIn_wsK {j : Nat} (h : j < 9) : GoodIn gw (wsK j) := by
  intro w hw
  have hw' : w ∈ gw := by
    rcases List.mem_cons.mp hw with rfl | hw
    · exact (kok h).1
    · exact hw
  exact ⟨hw', gw_good w hw'⟩
set_option maxRecDepth 100000 in
theorem kwords : Cond.arrayClass .int ∈ gw ∧ Cond.arrayClass .boolean ∈ gw ∧ Cond.code Lib.objectInit ⟨#[0xb1]⟩ 1 none ∈ gw ∧ Cond.instanceMethod Lib.objectInit ∈ gw :=
  ⟨gw_of (List.mem_of_getElem? (i := 145) rfl) rfl, gw_of (List.mem_of_getElem? (i := 1089) rfl) rfl, gw_of (List.mem_of_getElem? (i := 105) rfl) rfl, gw_of (List.mem_of_getElem? (i := 104) rfl) rfl⟩
theorem kover : Cond.arrayOver (.object "OneReturns$Moment") ∈ lw_tbl := List.mem_of_getElem? (i := 360) rfl
