/-! the constructors: their tables -/
abbrev cx_T : Type := MethodName × ByteArray × Nat × Nat × Nat × String
def cx_sigs : List cx_T := [
  (yX9_init, cX9_init, 1, 84, 83, RX9),
  (yX3_init, cX3_init, 2, 170, 169, RX3),
  (yX5_init, cX5_init, 1, 197, 196, RX5),
  (yX8_init, cX8_init, 1, 218, 217, RX8),
  (yX4_init, cX4_init, 1, 232, 231, RX4),
  (yX1_init, cX1_init, 1, 248, 247, RX1),
  (yX6_init, cX6_init, 1, 265, 264, RX6),
  (yX0_init, cX0_init, 1, 285, 284, RX0),
  (yX7_init, cX7_init, 1, 316, 315, RX7),
  (yX10_init, cX10_init, 1, 76, 75, RX10),
  (yX11_init, cX11_init, 1, 1043, 1042, RX11)]
def kX9_init : List mj_E := [
  (0, .aload_n 0, 1, 0, 0, 0),
  (1, .invokespecial 3, 4, 9998, 0, 85),
  (4, .aload_n 0, 5, 0, 0, 0),
  (5, .bipush 8, 7, 0, 8, 0),
  (7, .newarray .int, 9, 0, 0, 0),
  (9, .putfield 9, 12, 576, 0, 86),
  (12, .aload_n 0, 13, 0, 0, 0),
  (13, .bipush 8, 15, 0, 8, 0),
  (15, .newarray .int, 17, 0, 0, 0),
  (17, .putfield 15, 20, 577, 0, 90),
  (20, .aload_n 0, 21, 0, 0, 0),
  (21, .bipush 8, 23, 0, 8, 0),
  (23, .newarray .int, 25, 0, 0, 0),
  (25, .putfield 18, 28, 578, 0, 94),
  (28, .aload_n 0, 29, 0, 0, 0),
  (29, .bipush 8, 31, 0, 8, 0),
  (31, .newarray .int, 33, 0, 0, 0),
  (33, .putfield 21, 36, 579, 0, 97),
  (36, .aload_n 0, 37, 0, 0, 0),
  (37, .bipush 8, 39, 0, 8, 0),
  (39, .newarray .int, 41, 0, 0, 0),
  (41, .putfield 24, 44, 580, 0, 100),
  (44, .aload_n 0, 45, 0, 0, 0),
  (45, .bipush 8, 47, 0, 8, 0),
  (47, .newarray .int, 49, 0, 0, 0),
  (49, .putfield 27, 52, 581, 0, 103),
  (52, .aload_n 0, 53, 0, 0, 0),
  (53, .bipush 8, 55, 0, 8, 0),
  (55, .newarray .int, 57, 0, 0, 0),
  (57, .putfield 30, 60, 582, 0, 107),
  (60, .aload_n 0, 61, 0, 0, 0),
  (61, .bipush 8, 63, 0, 8, 0),
  (63, .newarray .int, 65, 0, 0, 0),
  (65, .putfield 33, 68, 583, 0, 109),
  (68, .aload_n 0, 69, 0, 0, 0),
  (69, .bipush 8, 71, 0, 8, 0),
  (71, .newarray .int, 73, 0, 0, 0),
  (73, .putfield 36, 76, 584, 0, 111),
  (76, .aload_n 0, 77, 0, 0, 0),
  (77, .bipush 8, 79, 0, 8, 0),
  (79, .newarray .int, 81, 0, 0, 0),
  (81, .putfield 39, 84, 585, 0, 113),
  (84, .aload_n 0, 85, 0, 0, 0),
  (85, .iconst 1, 86, 0, 1, 0),
  (86, .putfield 42, 89, 586, 0, 115),
  (89, .return_, 90, 0, 0, 0)]
def kX3_init : List mj_E := [
  (0, .aload_n 0, 1, 0, 0, 0),
  (1, .invokespecial 3, 4, 9998, 0, 171),
  (4, .aload_n 0, 5, 0, 0, 0),
  (5, .bipush 12, 7, 0, 12, 0),
  (7, .anewarray 9, 10, 0, 0, 172),
  (10, .putfield 11, 13, 192, 0, 175),
  (13, .aload_n 0, 14, 0, 0, 0),
  (14, .iconst 2, 15, 0, 2, 0),
  (15, .anewarray 9, 18, 0, 0, 172),
  (18, .putfield 17, 21, 195, 0, 179),
  (21, .aload_n 0, 22, 0, 0, 0),
  (22, .iconst 2, 23, 0, 2, 0),
  (23, .newarray .boolean, 25, 3, 0, 0),
  (25, .putfield 20, 28, 196, 0, 180),
  (28, .iconst 0, 29, 0, 0, 0),
  (29, .istore_n 1, 30, 0, 0, 0),
  (30, .iload_n 1, 31, 0, 0, 0),
  (31, .bipush 12, 33, 0, 12, 0),
  (33, .if_icmp .ge 22, 36, 55, 0, 0),
  (36, .aload_n 0, 37, 0, 0, 0),
  (37, .getfield 11, 40, 192, 0, 175),
  (40, .iload_n 1, 41, 0, 0, 0),
  (41, .new 9, 44, 9, 0, 172),
  (44, .dup, 45, 0, 0, 0),
  (45, .invokespecial 24, 48, 0, 0, 174),
  (48, .aastore, 49, 0, 0, 0),
  (49, .iinc 1 1, 52, 0, 1, 0),
  (52, .goto (-22), 55, 30, 0, 0),
  (55, .iconst 0, 56, 0, 0, 0),
  (56, .istore_n 1, 57, 0, 0, 0),
  (57, .iload_n 1, 58, 0, 0, 0),
  (58, .iconst 2, 59, 0, 2, 0),
  (59, .if_icmp .ge 22, 62, 81, 0, 0),
  (62, .aload_n 0, 63, 0, 0, 0),
  (63, .getfield 17, 66, 195, 0, 179),
  (66, .iload_n 1, 67, 0, 0, 0),
  (67, .new 9, 70, 9, 0, 172),
  (70, .dup, 71, 0, 0, 0),
  (71, .invokespecial 24, 74, 0, 0, 174),
  (74, .aastore, 75, 0, 0, 0),
  (75, .iinc 1 1, 78, 0, 1, 0),
  (78, .goto (-21), 81, 57, 0, 0),
  (81, .return_, 82, 0, 0, 0)]
def kX5_init : List mj_E := [
  (0, .aload_n 0, 1, 0, 0, 0),
  (1, .invokespecial 3, 4, 9998, 0, 198),
  (4, .aload_n 0, 5, 0, 0, 0),
  (5, .bipush 80, 7, 0, 80, 0),
  (7, .newarray .char, 9, 4, 0, 0),
  (9, .putfield 11, 12, 320, 0, 199),
  (12, .return_, 13, 0, 0, 0)]
def kX8_init : List mj_E := [
  (0, .aload_n 0, 1, 0, 0, 0),
  (1, .invokespecial 1, 4, 9998, 0, 219),
  (4, .aload_n 0, 5, 0, 0, 0),
  (5, .iconst 5, 6, 0, 5, 0),
  (6, .newarray .int, 8, 0, 0, 0),
  (8, .putfield 9, 11, 512, 0, 220),
  (11, .aload_n 0, 12, 0, 0, 0),
  (12, .iconst 3, 13, 0, 3, 0),
  (13, .putfield 13, 16, 513, 0, 221),
  (16, .aload_n 0, 17, 0, 0, 0),
  (17, .getfield 9, 20, 512, 0, 220),
  (20, .iconst 0, 21, 0, 0, 0),
  (21, .bipush 100, 23, 0, 100, 0),
  (23, .iastore, 24, 0, 0, 0),
  (24, .aload_n 0, 25, 0, 0, 0),
  (25, .getfield 9, 28, 512, 0, 220),
  (28, .iconst 1, 29, 0, 1, 0),
  (29, .bipush 98, 31, 0, 98, 0),
  (31, .iastore, 32, 0, 0, 0),
  (32, .aload_n 0, 33, 0, 0, 0),
  (33, .getfield 9, 36, 512, 0, 220),
  (36, .iconst 2, 37, 0, 2, 0),
  (37, .bipush 103, 39, 0, 103, 0),
  (39, .iastore, 40, 0, 0, 0),
  (40, .return_, 41, 0, 0, 0)]
def kX4_init : List mj_E := [
  (0, .aload_n 0, 1, 0, 0, 0),
  (1, .invokespecial 1, 4, 9998, 0, 233),
  (4, .aload_n 0, 5, 0, 0, 0),
  (5, .bipush 8, 7, 0, 8, 0),
  (7, .newarray .long, 9, 1, 0, 0),
  (9, .putfield 9, 12, 256, 0, 234),
  (12, .return_, 13, 0, 0, 0)]
def kX1_init : List mj_E := [
  (0, .aload_n 0, 1, 0, 0, 0),
  (1, .invokespecial 3, 4, 9998, 0, 249),
  (4, .aload_n 0, 5, 0, 0, 0),
  (5, .bipush 12, 7, 0, 12, 0),
  (7, .newarray .int, 9, 0, 0, 0),
  (9, .putfield 11, 12, 64, 0, 250),
  (12, .aload_n 0, 13, 0, 0, 0),
  (13, .bipush 12, 15, 0, 12, 0),
  (15, .newarray .int, 17, 0, 0, 0),
  (17, .putfield 15, 20, 65, 0, 251),
  (20, .return_, 21, 0, 0, 0)]
def kX6_init : List mj_E := [
  (0, .aload_n 0, 1, 0, 0, 0),
  (1, .invokespecial 3, 4, 9998, 0, 266),
  (4, .aload_n 0, 5, 0, 0, 0),
  (5, .bipush 10, 7, 0, 10, 0),
  (7, .newarray .int, 9, 0, 0, 0),
  (9, .putfield 11, 12, 384, 0, 267),
  (12, .aload_n 0, 13, 0, 0, 0),
  (13, .bipush 10, 15, 0, 10, 0),
  (15, .newarray .int, 17, 0, 0, 0),
  (17, .putfield 15, 20, 385, 0, 268),
  (20, .aload_n 0, 21, 0, 0, 0),
  (21, .sipush 151, 24, 0, 151, 0),
  (24, .newarray .int, 26, 0, 0, 0),
  (26, .putfield 18, 29, 386, 0, 269),
  (29, .return_, 30, 0, 0, 0)]
def kX0_init : List mj_E := [
  (0, .aload_n 0, 1, 0, 0, 0),
  (1, .invokespecial 3, 4, 9998, 0, 286),
  (4, .return_, 5, 0, 0, 0)]
def kX7_init : List mj_E := [
  (0, .aload_n 0, 1, 0, 0, 0),
  (1, .invokespecial 5, 4, 9998, 0, 317),
  (4, .aload_n 0, 5, 0, 0, 0),
  (5, .bipush 64, 7, 0, 64, 0),
  (7, .newarray .int, 9, 0, 0, 0),
  (9, .putfield 11, 12, 448, 0, 318),
  (12, .aload_n 0, 13, 0, 0, 0),
  (13, .bipush 64, 15, 0, 64, 0),
  (15, .newarray .int, 17, 0, 0, 0),
  (17, .putfield 15, 20, 449, 0, 319),
  (20, .aload_n 0, 21, 0, 0, 0),
  (21, .bipush 64, 23, 0, 64, 0),
  (23, .newarray .int, 25, 0, 0, 0),
  (25, .putfield 18, 28, 450, 0, 320),
  (28, .aload_n 0, 29, 0, 0, 0),
  (29, .bipush 8, 31, 0, 8, 0),
  (31, .newarray .int, 33, 0, 0, 0),
  (33, .putfield 21, 36, 451, 0, 321),
  (36, .aload_n 0, 37, 0, 0, 0),
  (37, .sipush 136, 40, 0, 136, 0),
  (40, .newarray .int, 42, 0, 0, 0),
  (42, .putfield 24, 45, 452, 0, 322),
  (45, .aload_n 0, 46, 0, 0, 0),
  (46, .sipush 136, 49, 0, 136, 0),
  (49, .newarray .int, 51, 0, 0, 0),
  (51, .putfield 27, 54, 453, 0, 323),
  (54, .return_, 55, 0, 0, 0)]
def kX10_init : List mj_E := [
  (0, .aload_n 0, 1, 0, 0, 0),
  (1, .invokespecial 1, 4, 9998, 0, 77),
  (4, .aload_n 0, 5, 0, 0, 0),
  (5, .new 7, 8, 9, 0, 80),
  (8, .dup, 9, 0, 0, 0),
  (9, .invokespecial 9, 12, 0, 0, 82),
  (12, .putfield 10, 15, 640, 0, 340),
  (15, .aload_n 0, 16, 0, 0, 0),
  (16, .new 7, 19, 9, 0, 80),
  (19, .dup, 20, 0, 0, 0),
  (20, .invokespecial 9, 23, 0, 0, 82),
  (23, .putfield 16, 26, 641, 0, 341),
  (26, .aload_n 0, 27, 0, 0, 0),
  (27, .new 7, 30, 9, 0, 80),
  (30, .dup, 31, 0, 0, 0),
  (31, .invokespecial 9, 34, 0, 0, 82),
  (34, .putfield 19, 37, 642, 0, 342),
  (37, .aload_n 0, 38, 0, 0, 0),
  (38, .new 22, 41, 3, 0, 166),
  (41, .dup, 42, 0, 0, 0),
  (42, .invokespecial 24, 45, 1, 0, 168),
  (45, .putfield 25, 48, 643, 0, 343),
  (48, .aload_n 0, 49, 0, 0, 0),
  (49, .new 29, 52, 5, 0, 193),
  (52, .dup, 53, 0, 0, 0),
  (53, .invokespecial 31, 56, 2, 0, 195),
  (56, .putfield 32, 59, 644, 0, 344),
  (59, .aload_n 0, 60, 0, 0, 0),
  (60, .new 36, 63, 8, 0, 214),
  (63, .dup, 64, 0, 0, 0),
  (64, .invokespecial 38, 67, 3, 0, 216),
  (67, .putfield 39, 70, 645, 0, 345),
  (70, .aload_n 0, 71, 0, 0, 0),
  (71, .new 36, 74, 8, 0, 214),
  (74, .dup, 75, 0, 0, 0),
  (75, .invokespecial 38, 78, 3, 0, 216),
  (78, .putfield 43, 81, 646, 0, 346),
  (81, .aload_n 0, 82, 0, 0, 0),
  (82, .new 46, 85, 4, 0, 228),
  (85, .dup, 86, 0, 0, 0),
  (86, .invokespecial 48, 89, 4, 0, 230),
  (89, .putfield 49, 92, 647, 0, 347),
  (92, .aload_n 0, 93, 0, 0, 0),
  (93, .new 53, 96, 1, 0, 244),
  (96, .dup, 97, 0, 0, 0),
  (97, .invokespecial 55, 100, 5, 0, 246),
  (100, .putfield 56, 103, 648, 0, 348),
  (103, .aload_n 0, 104, 0, 0, 0),
  (104, .new 60, 107, 6, 0, 261),
  (107, .dup, 108, 0, 0, 0),
  (108, .invokespecial 62, 111, 6, 0, 263),
  (111, .putfield 63, 114, 649, 0, 349),
  (114, .aload_n 0, 115, 0, 0, 0),
  (115, .new 67, 118, 0, 0, 281),
  (118, .dup, 119, 0, 0, 0),
  (119, .invokespecial 69, 122, 7, 0, 283),
  (122, .putfield 70, 125, 650, 0, 350),
  (125, .aload_n 0, 126, 0, 0, 0),
  (126, .new 74, 129, 7, 0, 312),
  (129, .dup, 130, 0, 0, 0),
  (130, .invokespecial 76, 133, 8, 0, 314),
  (133, .putfield 77, 136, 651, 0, 351),
  (136, .aload_n 0, 137, 0, 0, 0),
  (137, .bipush 64, 139, 0, 64, 0),
  (139, .newarray .int, 141, 0, 0, 0),
  (141, .putfield 81, 144, 652, 0, 352),
  (144, .aload_n 0, 145, 0, 0, 0),
  (145, .bipush 9, 147, 0, 9, 0),
  (147, .newarray .long, 149, 1, 0, 0),
  (149, .putfield 85, 152, 653, 0, 353),
  (152, .return_, 153, 0, 0, 0)]
def kX11_init : List mj_E := [
  (0, .aload_n 0, 1, 0, 0, 0),
  (1, .invokespecial 3, 4, 9998, 0, 1044),
  (4, .aload_n 0, 5, 0, 0, 0),
  (5, .bipush 43, 7, 0, 43, 0),
  (7, .newarray .int, 9, 0, 0, 0),
  (9, .putfield 9, 12, 704, 0, 1045),
  (12, .aload_n 0, 13, 0, 0, 0),
  (13, .bipush 80, 15, 0, 80, 0),
  (15, .newarray .byte, 17, 2, 0, 0),
  (17, .putfield 13, 20, 705, 0, 1046),
  (20, .aload_n 0, 21, 0, 0, 0),
  (21, .bipush 16, 23, 0, 16, 0),
  (23, .newarray .long, 25, 1, 0, 0),
  (25, .putfield 17, 28, 707, 0, 1048),
  (28, .aload_n 0, 29, 0, 0, 0),
  (29, .iconst 5, 30, 0, 5, 0),
  (30, .newarray .byte, 32, 2, 0, 0),
  (32, .putfield 21, 35, 710, 0, 1051),
  (35, .aload_n 0, 36, 0, 0, 0),
  (36, .iconst 5, 37, 0, 5, 0),
  (37, .newarray .byte, 39, 2, 0, 0),
  (39, .putfield 24, 42, 711, 0, 1052),
  (42, .aload_n 0, 43, 0, 0, 0),
  (43, .iconst 3, 44, 0, 3, 0),
  (44, .putfield 27, 47, 712, 0, 1053),
  (47, .aload_n 0, 48, 0, 0, 0),
  (48, .bipush 8, 50, 0, 8, 0),
  (50, .newarray .int, 52, 0, 0, 0),
  (52, .putfield 31, 55, 715, 0, 1056),
  (55, .aload_n 0, 56, 0, 0, 0),
  (56, .bipush 24, 58, 0, 24, 0),
  (58, .newarray .int, 60, 0, 0, 0),
  (60, .putfield 34, 63, 721, 0, 1062),
  (63, .aload_n 0, 64, 0, 0, 0),
  (64, .sipush 516, 67, 0, 516, 0),
  (67, .newarray .int, 69, 0, 0, 0),
  (69, .putfield 37, 72, 722, 0, 1063),
  (72, .aload_n 0, 73, 0, 0, 0),
  (73, .bipush 43, 75, 0, 43, 0),
  (75, .newarray .int, 77, 0, 0, 0),
  (77, .putfield 40, 80, 724, 0, 1065),
  (80, .aload_n 0, 81, 0, 0, 0),
  (81, .bipush 43, 83, 0, 43, 0),
  (83, .newarray .int, 85, 0, 0, 0),
  (85, .putfield 43, 88, 725, 0, 1066),
  (88, .aload_n 0, 89, 0, 0, 0),
  (89, .sipush 160, 92, 0, 160, 0),
  (92, .newarray .int, 94, 0, 0, 0),
  (94, .putfield 46, 97, 729, 0, 1070),
  (97, .aload_n 0, 98, 0, 0, 0),
  (98, .bipush 64, 100, 0, 64, 0),
  (100, .newarray .int, 102, 0, 0, 0),
  (102, .putfield 49, 105, 730, 0, 1071),
  (105, .aload_n 0, 106, 0, 0, 0),
  (106, .sipush 192, 109, 0, 192, 0),
  (109, .newarray .int, 111, 0, 0, 0),
  (111, .putfield 52, 114, 731, 0, 1072),
  (114, .aload_n 0, 115, 0, 0, 0),
  (115, .bipush 64, 117, 0, 64, 0),
  (117, .newarray .int, 119, 0, 0, 0),
  (119, .putfield 55, 122, 733, 0, 1074),
  (122, .aload_n 0, 123, 0, 0, 0),
  (123, .bipush 8, 125, 0, 8, 0),
  (125, .newarray .int, 127, 0, 0, 0),
  (127, .putfield 58, 130, 734, 0, 1075),
  (130, .aload_n 0, 131, 0, 0, 0),
  (131, .bipush 64, 133, 0, 64, 0),
  (133, .newarray .boolean, 135, 3, 0, 0),
  (135, .putfield 61, 138, 735, 0, 1076),
  (138, .aload_n 0, 139, 0, 0, 0),
  (139, .bipush 8, 141, 0, 8, 0),
  (141, .newarray .boolean, 143, 3, 0, 0),
  (143, .putfield 65, 146, 736, 0, 1077),
  (146, .aload_n 0, 147, 0, 0, 0),
  (147, .bipush 8, 149, 0, 8, 0),
  (149, .newarray .boolean, 151, 3, 0, 0),
  (151, .putfield 68, 154, 737, 0, 1078),
  (154, .aload_n 0, 155, 0, 0, 0),
  (155, .bipush 12, 157, 0, 12, 0),
  (157, .newarray .int, 159, 0, 0, 0),
  (159, .putfield 71, 162, 738, 0, 1079),
  (162, .aload_n 0, 163, 0, 0, 0),
  (163, .bipush 12, 165, 0, 12, 0),
  (165, .newarray .int, 167, 0, 0, 0),
  (167, .putfield 74, 170, 739, 0, 1080),
  (170, .aload_n 0, 171, 0, 0, 0),
  (171, .bipush 10, 173, 0, 10, 0),
  (173, .newarray .int, 175, 0, 0, 0),
  (175, .putfield 77, 178, 741, 0, 1082),
  (178, .aload_n 0, 179, 0, 0, 0),
  (179, .bipush 10, 181, 0, 10, 0),
  (181, .newarray .int, 183, 0, 0, 0),
  (183, .putfield 80, 186, 742, 0, 1083),
  (186, .aload_n 0, 187, 0, 0, 0),
  (187, .sipush 151, 190, 0, 151, 0),
  (190, .newarray .int, 192, 0, 0, 0),
  (192, .putfield 83, 195, 744, 0, 1085),
  (195, .aload_n 0, 196, 0, 0, 0),
  (196, .sipush 201, 199, 0, 201, 0),
  (199, .newarray .boolean, 201, 3, 0, 0),
  (201, .putfield 86, 204, 745, 0, 1086),
  (204, .aload_n 0, 205, 0, 0, 0),
  (205, .bipush 86, 207, 0, 86, 0),
  (207, .newarray .int, 209, 0, 0, 0),
  (209, .putfield 89, 212, 748, 0, 1089),
  (212, .aload_n 0, 213, 0, 0, 0),
  (213, .iconst 2, 214, 0, 2, 0),
  (214, .newarray .boolean, 216, 3, 0, 0),
  (216, .putfield 92, 219, 749, 0, 1090),
  (219, .aload_n 0, 220, 0, 0, 0),
  (220, .getfield 9, 223, 704, 0, 1045),
  (223, .bipush 40, 225, 0, 40, 0),
  (225, .iconst 1, 226, 0, 1, 0),
  (226, .iastore, 227, 0, 0, 0),
  (227, .aload_n 0, 228, 0, 0, 0),
  (228, .getfield 21, 231, 710, 0, 1051),
  (231, .iconst 0, 232, 0, 0, 0),
  (232, .bipush 100, 234, 0, 100, 0),
  (234, .bastore, 235, 0, 0, 0),
  (235, .aload_n 0, 236, 0, 0, 0),
  (236, .getfield 21, 239, 710, 0, 1051),
  (239, .iconst 1, 240, 0, 1, 0),
  (240, .bipush 98, 242, 0, 98, 0),
  (242, .bastore, 243, 0, 0, 0),
  (243, .aload_n 0, 244, 0, 0, 0),
  (244, .getfield 21, 247, 710, 0, 1051),
  (247, .iconst 2, 248, 0, 2, 0),
  (248, .bipush 103, 250, 0, 103, 0),
  (250, .bastore, 251, 0, 0, 0),
  (251, .return_, 252, 0, 0, 0)]
def cx_cods : List (List mj_E) := [kX9_init, kX3_init, kX5_init, kX8_init, kX4_init, kX1_init, kX6_init, kX0_init, kX7_init, kX10_init, kX11_init]
/-- how many cells and slots a constructor makes -/
def cx_cnt : List (Nat × Nat) := [(10, 80), (157, 1374), (1, 80), (1, 5), (1, 8), (2, 24), (3, 171), (0, 0), (6, 472), (216, 2538), (26, 1835)]
/-! cells that are made one after another, as data; a machine over them that the kernel runs -/
abbrev cX : Type := (Nat × Nat × List (Nat × Int32)) ⊕ ((Nat × List (Nat × Nat)) ⊕ (Nat × List Value))
def cx_u : List (Nat × Int32) → Nat → Int32
  | [] => fun _ => 0
  | (k, x) :: r => upd (cx_u r) k x
def cx_r : List (Nat × Nat) → Nat → Option Nat
  | [] => fun _ => none
  | (k, b) :: r => va_up (cx_r r) k (some b)
def cx_c : cX → mj_C
  | .inl (t, n, us) => match t with
    | 1 => .inl (1, n, .inr (.inl (fun _ => 0)))
    | t => .inl (t, n, .inl (cx_u us))
  | .inr (.inl (n, us)) => .inl (5, n, .inr (.inr (.inr (.inr (cx_r us)))))
  | .inr (.inr (ci, fs)) => .inr (ci, fs)
def cx_new (i : Instr) (aux : Nat) (st : List Value) : Option (cX × Nat × List Value) := match i with
  | .new _ => match mj_cls[aux]? with
    | some q => some (.inr (.inr (aux, (List.range q.2.2).map fun k => defaultValue (mj_fty aux k))), q.2.2, st)
    | none => none
  | .newarray _ => match st with
    | .int n :: r => match decide (¬ n < 0) && Nat.ble n.toNatClampNeg 4096 && Nat.ble aux 4 with
      | true => some (.inl (aux, n.toNatClampNeg, []), n.toNatClampNeg, r)
      | false => none
    | _ => none
  | .anewarray _ => match st with
    | .int n :: r => match decide (¬ n < 0) && Nat.ble n.toNatClampNeg 4096 with
      | true => some (.inr (.inl (n.toNatClampNeg, [])), n.toNatClampNeg, r)
      | false => none
    | _ => none
  | _ => none
def cx_in (j : Int32) (n : Nat) : Bool := decide (¬ j < 0) && Nat.ble (j.toNatClampNeg + 1) n
def cx_mem (i : Instr) (aux : Nat) (st : List Value) (cs : List cX) : Option (List Value × List cX) := match i with
  | .getfield _ => match st with
    | .ref a :: r => match cs[a]? with
      | some (.inr (.inr (ci, fs))) => match Nat.beq ci (aux / 64) with
        | true => match fs[aux % 64]? with
          | some v => some (v :: r, cs)
          | none => none
        | false => none
      | _ => none
    | _ => none
  | .putfield _ => match st with
    | v :: .ref a :: r => match cs[a]? with
      | some (.inr (.inr (ci, fs))) => match Nat.beq ci (aux / 64) && Nat.ble (aux % 64 + 1) fs.length && mj_fit (mj_fty (aux / 64) (aux % 64)) v with
        | true => some (r, cs.set a (.inr (.inr (ci, fs.set (aux % 64) v))))
        | false => none
      | _ => none
    | _ => none
  | .iastore => match st with
    | .int x :: .int j :: .ref a :: r => match cs[a]? with
      | some (.inl (0, n, us)) => match cx_in j n with
        | true => some (r, cs.set a (.inl (0, n, (j.toNatClampNeg, x) :: us)))
        | false => none
      | _ => none
    | _ => none
  | .bastore => match st with
    | .int x :: .int j :: .ref a :: r => match cs[a]? with
      | some (.inl (2, n, us)) => match cx_in j n with
        | true => some (r, cs.set a (.inl (2, n, (j.toNatClampNeg, vp_nar .byte x) :: us)))
        | false => none
      | _ => none
    | _ => none
  | .aastore => match st with
    | .ref b :: .int j :: .ref a :: r => match cs[a]? with
      | some (.inr (.inl (n, us))) => match cs[b]? with
        | some (.inr (.inr (9, _))) => match cx_in j n with
          | true => some (r, cs.set a (.inr (.inl (n, (j.toNatClampNeg, b) :: us))))
          | false => none
        | _ => none
      | _ => none
    | _ => none
  | _ => none
def cx_if (i : Instr) (aux nx : Nat) (st : List Value) : Option (Nat × List Value) := match i with
  | .if_icmp .ge _ => match st with
    | .int y :: .int x :: r => match decide (y ≤ x) with
      | true => some (aux, r)
      | false => some (nx, r)
    | _ => none
  | _ => none
def cx_sum (st : List Value) : Bool := Nat.ble (st.map fun v => v.category).sum 8
def cx_go (B : Nat → List cX → Nat → Option (List cX)) (mC mS : Nat) (tb : List mj_E) : Nat → Nat → Nat → List cX → Nat → mj_L → List Value → Option (List cX)
  | 0, _, _, _, _, _, _ => none
  | n + 1, c, s, cs, pc, L, st => match mj_at tb pc with
    | none => none
    | some (i, nx, aux, cv) => match mj_pure i nx aux cv L st with
      | some (pc', L', st') => cx_go B mC mS tb n c s cs pc' L' st'
      | none => match cx_if i aux nx st with
        | some (pc', st') => cx_go B mC mS tb n c s cs pc' L st'
        | none => match cx_mem i aux st cs with
          | some (st', cs') => cx_go B mC mS tb n c s cs' nx L st'
          | none => match cx_new i aux st with
            | some (q, k, r) => match Nat.ble (c + 1) mC && Nat.ble (s + k) mS with
              | true => cx_go B mC mS tb n (c + 1) (s + k) (cs ++ [q]) nx L (.ref cs.length :: r)
              | false => none
            | none => match i with
              | .invokespecial _ => match st with
                | .ref b :: r => match Nat.beq aux 9998 with
                  | true => match cx_sum r with
                    | true => cx_go B mC mS tb n c s cs nx L r
                    | false => none
                  | false => match cx_cnt[aux]? with
                    | none => none
                    | some q => match cx_sum r && Nat.ble (c + q.1) mC && Nat.ble (s + q.2) mS with
                      | true => match B aux cs b with
                        | some cs' => cx_go B mC mS tb n (c + q.1) (s + q.2) cs' nx L r
                        | none => none
                      | false => none
                | _ => none
              | .return_ => match st with
                | [] => match Nat.beq c mC && Nat.beq s mS with
                  | true => some cs
                  | false => none
                | _ => none
              | _ => none
def cx_B : Nat → Nat → List cX → Nat → Option (List cX)
  | 0 => fun _ _ _ => none
  | d + 1 => fun k cs b => match cx_sigs[k]? with
    | none => none
    | some sg => match cx_cods[k]? with
      | none => none
      | some tb => match cx_cnt[k]? with
        | none => none
        | some q => match Nat.ble 1 sg.2.2.1 with
          | true => cx_go (cx_B d) q.1 q.2 tb 400 0 0 cs 0 (mj_ent [.ref b] sg.2.2.1) []
          | false => none
/-! the checks of the tables -/
def cx_w (w : Jvm.Cond) : Bool := decide (w ∈ lw_tbl) && goodWord w
theorem cx_w_ok {w : Jvm.Cond} (h : cx_w w = true) : w ∈ ms_T := by
  unfold cx_w at h
  simp only [Bool.and_eq_true, decide_eq_true_eq] at h
  exact List.mem_filter.mpr h
def cx_arr (aux : Nat) (t : ArrayType) : Bool := match aux with
  | 0 => decide (t = .int)
  | 1 => decide (t = .long)
  | 2 => decide (t = .byte)
  | 3 => decide (t = .boolean)
  | 4 => decide (t = .char)
  | _ => false
def cx_chk (own : String) (bs : ByteArray) (q : mj_E) : Bool := match q.2.1 with
  | .new ix => decide (decode bs q.1 = .ok (.new ix, 3)) && Nat.beq q.2.2.1 (q.1 + 3) && (match mj_cls[q.2.2.2.1]? with
    | some r => ms_in q.2.2.2.2.2 (.classLink own ix r.1) && cx_w (.instantiable r.1 r.2.2) && cx_w (.initialized r.1)
    | none => false)
  | .newarray t => decide (decode bs q.1 = .ok (.newarray t, 2)) && Nat.beq q.2.2.1 (q.1 + 2) && cx_arr q.2.2.2.1 t && cx_w (.arrayClass (newarray.typeOf t))
  | .anewarray ix => decide (decode bs q.1 = .ok (.anewarray ix, 3)) && Nat.beq q.2.2.1 (q.1 + 3) && ms_in q.2.2.2.2.2 (.classLink own ix "FairSlots$World")
  | .aastore => decide (decode bs q.1 = .ok (.aastore, 1)) && Nat.beq q.2.2.1 (q.1 + 1)
  | .putfield ix => decide (decode bs q.1 = .ok (.putfield ix, 3)) && Nat.beq q.2.2.1 (q.1 + 3) && (match mj_cls[q.2.2.2.1 / 64]? with
    | some r => Nat.ble (q.2.2.2.1 % 64 + 1) r.2.2 && ms_in q.2.2.2.2.2 (.fieldLink own ix (r.2.1 (q.2.2.2.1 % 64)).1 (r.2.1 (q.2.2.2.1 % 64)).2.1 (r.2.1 (q.2.2.2.1 % 64)).2.2.1) && (!(r.2.1 (q.2.2.2.1 % 64)).2.2.2 || decide ((r.2.1 (q.2.2.2.1 % 64)).1 = own))
    | none => false)
  | .invokespecial ix => decide (decode bs q.1 = .ok (.invokespecial ix, 3)) && Nat.beq q.2.2.1 (q.1 + 3) && (match Nat.beq q.2.2.2.1 9998 with
    | true => ms_in q.2.2.2.2.2 (.methodLink own ix objectInit)
    | false => match cx_sigs[q.2.2.2.1]? with
      | some sg => ms_in q.2.2.2.2.2 (.methodLink own ix sg.1)
      | none => false)
  | _ => ms_chk own bs q
def cx_sig (sg : cx_T) : Bool := ms_in sg.2.2.2.1 (.code sg.1 sg.2.1 sg.2.2.1 none) && ms_in sg.2.2.2.2.1 (.instanceMethod sg.1) && decide (sg.2.2.2.2.2 = sg.1.cls) && plainName sg.1.cls && decide (sg.1.cls ≠ "java/lang/invoke/MethodHandle") && decide (sg.1.cls ≠ "java/lang/invoke/VarHandle") && Nat.ble sg.2.2.1 41 && cx_w (.initialized sg.1.cls) && decide ((parseMethodDescriptor sg.1.desc).map (fun d => d.parameters.length) = some 0) && decide (sg.1.name = "<init>")
def cx_OK : Prop := ∀ (k : Nat) (sg : cx_T) (tb : List mj_E), cx_sigs[k]? = some sg → cx_cods[k]? = some tb → cx_sig sg = true ∧ tb.all (cx_chk sg.2.2.2.2.2 sg.2.1) = true
set_option maxRecDepth 100000 in
theorem cx_tabs : (cx_sigs.zip cx_cods).all (fun q => cx_sig q.1 && q.2.all (cx_chk q.1.2.2.2.2.2 q.1.2.1)) = true := by decide +kernel
theorem cx_ok_tabs : cx_OK := by
  intro k sg tb h1 h2
  have h := List.all_eq_true.mp cx_tabs (sg, tb) (List.mem_of_getElem? (i := k) (by rw [List.getElem?_zip_eq_some]; exact ⟨h1, h2⟩))
  simpa using h
set_option maxRecDepth 100000 in
theorem cx_oi : Cond.instanceMethod objectInit ∈ ms_T ∧ Cond.code objectInit ⟨#[0xb1]⟩ 1 none ∈ ms_T := ⟨cx_w_ok (by decide +kernel), cx_w_ok (by decide +kernel)⟩
