/-! the law: its tables, piece by piece -/
def kl_h : List mj_E := [
  (23, .iload 4, 25, 0, 0, 0),
  (25, .aload_n 0, 26, 0, 0, 0),
  (26, .arraylength, 27, 0, 0, 0),
  (27, .iconst 5, 28, 0, 5, 0),
  (28, .isub, 29, 0, 0, 0),
  (29, .if_icmp .gt 1412, 32, 1441, 0, 0),
  (32, .aload_n 0, 33, 0, 0, 0),
  (33, .iload 4, 35, 0, 0, 0),
  (35, .iaload, 36, 0, 0, 0),
  (36, .bipush 63, 38, 0, 63, 0),
  (38, .iand, 39, 0, 0, 0),
  (39, .tableswitch 1396 0 46 #[201, 226, 251, 264, 277, 345, 425, 486, 499, 524, 549, 574, 599, 612, 625, 650, 663, 676, 689, 714, 739, 776, 789, 802, 839, 864, 889, 914, 939, 952, 965, 1002, 1015, 1028, 1041, 1078, 1091, 1104, 1117, 1166, 1191, 1216, 1229, 1266, 1291, 1316, 1341], 240, 0, 0, 0)]
def kl_e : List mj_E := [
  (1435, .iinc 4 5, 1438, 0, 5, 0),
  (1438, .goto (-1415), 1441, 23, 0, 0),
  (1441, .iconst 1, 1442, 0, 1, 0),
  (1442, .ireturn, 1443, 0, 0, 0)]
def kl_0 : List mj_E := [
  (240, .aload_n 1, 241, 0, 0, 0),
  (241, .aload_n 0, 242, 0, 0, 0),
  (242, .iload 4, 244, 0, 0, 0),
  (244, .iconst 1, 245, 0, 1, 0),
  (245, .iadd, 246, 0, 0, 0),
  (246, .iaload, 247, 0, 0, 0),
  (247, .invokevirtual 27, 250, 74, 0, 383),
  (250, .aload_n 2, 251, 0, 0, 0),
  (251, .aload_n 0, 252, 0, 0, 0),
  (252, .iload 4, 254, 0, 0, 0),
  (254, .iconst 1, 255, 0, 1, 0),
  (255, .iadd, 256, 0, 0, 0),
  (256, .iaload, 257, 0, 0, 0),
  (257, .invokevirtual 31, 260, 151, 0, 1189),
  (260, .if_icmp .eq 1175, 263, 1435, 0, 0),
  (263, .iconst 0, 264, 0, 0, 0),
  (264, .ireturn, 265, 0, 0, 0)]
def kl_1 : List mj_E := [
  (265, .aload_n 1, 266, 0, 0, 0),
  (266, .aload_n 0, 267, 0, 0, 0),
  (267, .iload 4, 269, 0, 0, 0),
  (269, .iconst 1, 270, 0, 1, 0),
  (270, .iadd, 271, 0, 0, 0),
  (271, .iaload, 272, 0, 0, 0),
  (272, .invokevirtual 32, 275, 75, 0, 391),
  (275, .aload_n 2, 276, 0, 0, 0),
  (276, .aload_n 0, 277, 0, 0, 0),
  (277, .iload 4, 279, 0, 0, 0),
  (279, .iconst 1, 280, 0, 1, 0),
  (280, .iadd, 281, 0, 0, 0),
  (281, .iaload, 282, 0, 0, 0),
  (282, .invokevirtual 36, 285, 152, 0, 1193),
  (285, .if_icmp .eq 1150, 288, 1435, 0, 0),
  (288, .iconst 0, 289, 0, 0, 0),
  (289, .ireturn, 290, 0, 0, 0)]
def kl_2 : List mj_E := [
  (290, .aload_n 1, 291, 0, 0, 0),
  (291, .invokevirtual 37, 294, 76, 0, 399),
  (294, .aload_n 2, 295, 0, 0, 0),
  (295, .invokevirtual 41, 298, 163, 0, 1200),
  (298, .if_icmp .eq 1137, 301, 1435, 0, 0),
  (301, .iconst 0, 302, 0, 0, 0),
  (302, .ireturn, 303, 0, 0, 0)]
def kl_3 : List mj_E := [
  (303, .aload_n 1, 304, 0, 0, 0),
  (304, .invokevirtual 42, 307, 77, 0, 473),
  (307, .aload_n 2, 308, 0, 0, 0),
  (308, .invokevirtual 45, 311, 166, 0, 1266),
  (311, .if_icmp .eq 1124, 314, 1435, 0, 0),
  (314, .iconst 0, 315, 0, 0, 0),
  (315, .ireturn, 316, 0, 0, 0)]
def kl_4a : List mj_E := [
  (316, .aload_n 1, 317, 0, 0, 0),
  (317, .aload_n 0, 318, 0, 0, 0),
  (318, .iload 4, 320, 0, 0, 0),
  (320, .iconst 1, 321, 0, 1, 0),
  (321, .iadd, 322, 0, 0, 0),
  (322, .iaload, 323, 0, 0, 0),
  (323, .aload_n 0, 324, 0, 0, 0),
  (324, .iload 4, 326, 0, 0, 0),
  (326, .iconst 2, 327, 0, 2, 0),
  (327, .iadd, 328, 0, 0, 0),
  (328, .iaload, 329, 0, 0, 0),
  (329, .aload_n 3, 330, 0, 0, 0)]
def kl_4b : List mj_E := [
  (333, .istore 5, 335, 0, 0, 0),
  (335, .aload_n 2, 336, 0, 0, 0),
  (336, .aload_n 0, 337, 0, 0, 0),
  (337, .iload 4, 339, 0, 0, 0),
  (339, .iconst 1, 340, 0, 1, 0),
  (340, .iadd, 341, 0, 0, 0),
  (341, .iaload, 342, 0, 0, 0),
  (342, .aload_n 0, 343, 0, 0, 0),
  (343, .iload 4, 345, 0, 0, 0),
  (345, .iconst 2, 346, 0, 2, 0),
  (346, .iadd, 347, 0, 0, 0),
  (347, .iaload, 348, 0, 0, 0),
  (348, .invokevirtual 51, 351, 167, 0, 1277),
  (351, .istore 6, 353, 0, 0, 0),
  (353, .aload_n 2, 354, 0, 0, 0),
  (354, .invokevirtual 52, 357, 131, 0, 1185),
  (357, .iload 5, 359, 0, 0, 0),
  (359, .if_icmp .eq 5, 362, 364, 0, 0),
  (362, .iconst 0, 363, 0, 0, 0),
  (363, .ireturn, 364, 0, 0, 0),
  (364, .iload 5, 366, 0, 0, 0),
  (366, .ifCond .ne 15, 369, 381, 0, 0),
  (369, .aload_n 3, 370, 0, 0, 0),
  (370, .iconst 0, 371, 0, 0, 0),
  (371, .laload, 372, 0, 0, 0),
  (372, .iload 6, 374, 0, 0, 0),
  (374, .i2l, 375, 0, 0, 0),
  (375, .lcmp, 376, 0, 0, 0),
  (376, .ifCond .eq 5, 379, 381, 0, 0),
  (379, .iconst 0, 380, 0, 0, 0),
  (380, .ireturn, 381, 0, 0, 0),
  (381, .goto 1054, 384, 1435, 0, 0)]
def kl_5a : List mj_E := [
  (384, .aload_n 1, 385, 0, 0, 0),
  (385, .aload_n 0, 386, 0, 0, 0),
  (386, .iload 4, 388, 0, 0, 0),
  (388, .iconst 1, 389, 0, 1, 0),
  (389, .iadd, 390, 0, 0, 0),
  (390, .iaload, 391, 0, 0, 0),
  (391, .aload_n 0, 392, 0, 0, 0),
  (392, .iload 4, 394, 0, 0, 0),
  (394, .iconst 2, 395, 0, 2, 0),
  (395, .iadd, 396, 0, 0, 0),
  (396, .iaload, 397, 0, 0, 0),
  (397, .aload_n 0, 398, 0, 0, 0),
  (398, .iload 4, 400, 0, 0, 0),
  (400, .iconst 3, 401, 0, 3, 0),
  (401, .iadd, 402, 0, 0, 0),
  (402, .iaload, 403, 0, 0, 0),
  (403, .aload_n 3, 404, 0, 0, 0)]
def kl_5b : List mj_E := [
  (407, .istore 5, 409, 0, 0, 0),
  (409, .aload_n 2, 410, 0, 0, 0),
  (410, .aload_n 0, 411, 0, 0, 0),
  (411, .iload 4, 413, 0, 0, 0),
  (413, .iconst 1, 414, 0, 1, 0),
  (414, .iadd, 415, 0, 0, 0),
  (415, .iaload, 416, 0, 0, 0),
  (416, .aload_n 0, 417, 0, 0, 0),
  (417, .iload 4, 419, 0, 0, 0),
  (419, .iconst 2, 420, 0, 2, 0),
  (420, .iadd, 421, 0, 0, 0),
  (421, .iaload, 422, 0, 0, 0),
  (422, .aload_n 0, 423, 0, 0, 0),
  (423, .iload 4, 425, 0, 0, 0),
  (425, .iconst 3, 426, 0, 3, 0),
  (426, .iadd, 427, 0, 0, 0),
  (427, .iaload, 428, 0, 0, 0),
  (428, .invokevirtual 58, 431, 168, 0, 1289),
  (431, .istore 6, 433, 0, 0, 0),
  (433, .aload_n 2, 434, 0, 0, 0),
  (434, .invokevirtual 52, 437, 131, 0, 1185),
  (437, .iload 5, 439, 0, 0, 0),
  (439, .if_icmp .eq 5, 442, 444, 0, 0),
  (442, .iconst 0, 443, 0, 0, 0),
  (443, .ireturn, 444, 0, 0, 0),
  (444, .iload 5, 446, 0, 0, 0),
  (446, .ifCond .ne 15, 449, 461, 0, 0),
  (449, .aload_n 3, 450, 0, 0, 0),
  (450, .iconst 0, 451, 0, 0, 0),
  (451, .laload, 452, 0, 0, 0),
  (452, .iload 6, 454, 0, 0, 0),
  (454, .i2l, 455, 0, 0, 0),
  (455, .lcmp, 456, 0, 0, 0),
  (456, .ifCond .eq 5, 459, 461, 0, 0),
  (459, .iconst 0, 460, 0, 0, 0),
  (460, .ireturn, 461, 0, 0, 0),
  (461, .goto 974, 464, 1435, 0, 0)]
def kl_6 : List mj_E := [
  (464, .aload_n 1, 465, 0, 0, 0),
  (465, .aload_n 0, 466, 0, 0, 0),
  (466, .iload 4, 468, 0, 0, 0),
  (468, .iconst 1, 469, 0, 1, 0),
  (469, .iadd, 470, 0, 0, 0),
  (470, .iaload, 471, 0, 0, 0),
  (471, .aload_n 0, 472, 0, 0, 0),
  (472, .iload 4, 474, 0, 0, 0),
  (474, .iconst 2, 475, 0, 2, 0),
  (475, .iadd, 476, 0, 0, 0),
  (476, .iaload, 477, 0, 0, 0),
  (477, .aload_n 0, 478, 0, 0, 0),
  (478, .iload 4, 480, 0, 0, 0),
  (480, .iconst 3, 481, 0, 3, 0),
  (481, .iadd, 482, 0, 0, 0),
  (482, .iaload, 483, 0, 0, 0),
  (483, .aload_n 0, 484, 0, 0, 0),
  (484, .iload 4, 486, 0, 0, 0),
  (486, .iconst 4, 487, 0, 4, 0),
  (487, .iadd, 488, 0, 0, 0),
  (488, .iaload, 489, 0, 0, 0),
  (489, .invokevirtual 59, 492, 80, 0, 494),
  (492, .aload_n 2, 493, 0, 0, 0),
  (493, .aload_n 0, 494, 0, 0, 0),
  (494, .iload 4, 496, 0, 0, 0),
  (496, .iconst 1, 497, 0, 1, 0),
  (497, .iadd, 498, 0, 0, 0),
  (498, .iaload, 499, 0, 0, 0),
  (499, .aload_n 0, 500, 0, 0, 0),
  (500, .iload 4, 502, 0, 0, 0),
  (502, .iconst 2, 503, 0, 2, 0),
  (503, .iadd, 504, 0, 0, 0),
  (504, .iaload, 505, 0, 0, 0),
  (505, .aload_n 0, 506, 0, 0, 0),
  (506, .iload 4, 508, 0, 0, 0),
  (508, .iconst 3, 509, 0, 3, 0),
  (509, .iadd, 510, 0, 0, 0),
  (510, .iaload, 511, 0, 0, 0),
  (511, .aload_n 0, 512, 0, 0, 0),
  (512, .iload 4, 514, 0, 0, 0),
  (514, .iconst 4, 515, 0, 4, 0),
  (515, .iadd, 516, 0, 0, 0),
  (516, .iaload, 517, 0, 0, 0),
  (517, .invokevirtual 63, 520, 169, 0, 1308),
  (520, .if_icmp .eq 915, 523, 1435, 0, 0),
  (523, .iconst 0, 524, 0, 0, 0),
  (524, .ireturn, 525, 0, 0, 0)]
def kl_7 : List mj_E := [
  (525, .aload_n 1, 526, 0, 0, 0),
  (526, .invokevirtual 64, 529, 82, 0, 505),
  (529, .aload_n 2, 530, 0, 0, 0),
  (530, .invokevirtual 67, 533, 173, 0, 1312),
  (533, .if_icmp .eq 902, 536, 1435, 0, 0),
  (536, .iconst 0, 537, 0, 0, 0),
  (537, .ireturn, 538, 0, 0, 0)]
def kl_8 : List mj_E := [
  (538, .aload_n 1, 539, 0, 0, 0),
  (539, .aload_n 0, 540, 0, 0, 0),
  (540, .iload 4, 542, 0, 0, 0),
  (542, .iconst 1, 543, 0, 1, 0),
  (543, .iadd, 544, 0, 0, 0),
  (544, .iaload, 545, 0, 0, 0),
  (545, .invokevirtual 68, 548, 83, 0, 554),
  (548, .aload_n 2, 549, 0, 0, 0),
  (549, .aload_n 0, 550, 0, 0, 0),
  (550, .iload 4, 552, 0, 0, 0),
  (552, .iconst 1, 553, 0, 1, 0),
  (553, .iadd, 554, 0, 0, 0),
  (554, .iaload, 555, 0, 0, 0),
  (555, .invokevirtual 71, 558, 175, 0, 1342),
  (558, .if_icmp .eq 877, 561, 1435, 0, 0),
  (561, .iconst 0, 562, 0, 0, 0),
  (562, .ireturn, 563, 0, 0, 0)]
def kl_9 : List mj_E := [
  (563, .aload_n 1, 564, 0, 0, 0),
  (564, .aload_n 0, 565, 0, 0, 0),
  (565, .iload 4, 567, 0, 0, 0),
  (567, .iconst 1, 568, 0, 1, 0),
  (568, .iadd, 569, 0, 0, 0),
  (569, .iaload, 570, 0, 0, 0),
  (570, .invokevirtual 72, 573, 84, 0, 563),
  (573, .aload_n 2, 574, 0, 0, 0),
  (574, .aload_n 0, 575, 0, 0, 0),
  (575, .iload 4, 577, 0, 0, 0),
  (577, .iconst 1, 578, 0, 1, 0),
  (578, .iadd, 579, 0, 0, 0),
  (579, .iaload, 580, 0, 0, 0),
  (580, .invokevirtual 75, 583, 177, 0, 1350),
  (583, .if_icmp .eq 852, 586, 1435, 0, 0),
  (586, .iconst 0, 587, 0, 0, 0),
  (587, .ireturn, 588, 0, 0, 0)]
def kl_10 : List mj_E := [
  (588, .aload_n 1, 589, 0, 0, 0),
  (589, .aload_n 0, 590, 0, 0, 0),
  (590, .iload 4, 592, 0, 0, 0),
  (592, .iconst 1, 593, 0, 1, 0),
  (593, .iadd, 594, 0, 0, 0),
  (594, .iaload, 595, 0, 0, 0),
  (595, .invokevirtual 76, 598, 85, 0, 576),
  (598, .aload_n 2, 599, 0, 0, 0),
  (599, .aload_n 0, 600, 0, 0, 0),
  (600, .iload 4, 602, 0, 0, 0),
  (602, .iconst 1, 603, 0, 1, 0),
  (603, .iadd, 604, 0, 0, 0),
  (604, .iaload, 605, 0, 0, 0),
  (605, .invokevirtual 79, 608, 180, 0, 1358),
  (608, .if_icmp .eq 827, 611, 1435, 0, 0),
  (611, .iconst 0, 612, 0, 0, 0),
  (612, .ireturn, 613, 0, 0, 0)]
def kl_11 : List mj_E := [
  (613, .aload_n 1, 614, 0, 0, 0),
  (614, .aload_n 0, 615, 0, 0, 0),
  (615, .iload 4, 617, 0, 0, 0),
  (617, .iconst 1, 618, 0, 1, 0),
  (618, .iadd, 619, 0, 0, 0),
  (619, .iaload, 620, 0, 0, 0),
  (620, .invokevirtual 80, 623, 86, 0, 604),
  (623, .aload_n 2, 624, 0, 0, 0),
  (624, .aload_n 0, 625, 0, 0, 0),
  (625, .iload 4, 627, 0, 0, 0),
  (627, .iconst 1, 628, 0, 1, 0),
  (628, .iadd, 629, 0, 0, 0),
  (629, .iaload, 630, 0, 0, 0),
  (630, .invokevirtual 83, 633, 181, 0, 1368),
  (633, .if_icmp .eq 802, 636, 1435, 0, 0),
  (636, .iconst 0, 637, 0, 0, 0),
  (637, .ireturn, 638, 0, 0, 0)]
def kl_12 : List mj_E := [
  (638, .aload_n 1, 639, 0, 0, 0),
  (639, .invokevirtual 84, 642, 88, 0, 612),
  (642, .aload_n 2, 643, 0, 0, 0),
  (643, .invokevirtual 87, 646, 182, 0, 1372),
  (646, .if_icmp .eq 789, 649, 1435, 0, 0),
  (649, .iconst 0, 650, 0, 0, 0),
  (650, .ireturn, 651, 0, 0, 0)]
def kl_13 : List mj_E := [
  (651, .aload_n 1, 652, 0, 0, 0),
  (652, .invokevirtual 88, 655, 90, 0, 631),
  (655, .aload_n 2, 656, 0, 0, 0),
  (656, .invokevirtual 91, 659, 185, 0, 1384),
  (659, .if_icmp .eq 776, 662, 1435, 0, 0),
  (662, .iconst 0, 663, 0, 0, 0),
  (663, .ireturn, 664, 0, 0, 0)]
def kl_14 : List mj_E := [
  (664, .aload_n 1, 665, 0, 0, 0),
  (665, .aload_n 0, 666, 0, 0, 0),
  (666, .iload 4, 668, 0, 0, 0),
  (668, .iconst 1, 669, 0, 1, 0),
  (669, .iadd, 670, 0, 0, 0),
  (670, .iaload, 671, 0, 0, 0),
  (671, .invokevirtual 92, 674, 91, 0, 639),
  (674, .aload_n 2, 675, 0, 0, 0),
  (675, .aload_n 0, 676, 0, 0, 0),
  (676, .iload 4, 678, 0, 0, 0),
  (678, .iconst 1, 679, 0, 1, 0),
  (679, .iadd, 680, 0, 0, 0),
  (680, .iaload, 681, 0, 0, 0),
  (681, .invokevirtual 95, 684, 187, 0, 1388),
  (684, .if_icmp .eq 751, 687, 1435, 0, 0),
  (687, .iconst 0, 688, 0, 0, 0),
  (688, .ireturn, 689, 0, 0, 0)]
def kl_15 : List mj_E := [
  (689, .aload_n 1, 690, 0, 0, 0),
  (690, .invokevirtual 96, 693, 92, 0, 658),
  (693, .aload_n 2, 694, 0, 0, 0),
  (694, .invokevirtual 99, 697, 188, 0, 1399),
  (697, .if_icmp .eq 738, 700, 1435, 0, 0),
  (700, .iconst 0, 701, 0, 0, 0),
  (701, .ireturn, 702, 0, 0, 0)]
def kl_16 : List mj_E := [
  (702, .aload_n 1, 703, 0, 0, 0),
  (703, .invokevirtual 100, 706, 93, 0, 663),
  (706, .aload_n 2, 707, 0, 0, 0),
  (707, .invokevirtual 103, 710, 189, 0, 1403),
  (710, .if_icmp .eq 725, 713, 1435, 0, 0),
  (713, .iconst 0, 714, 0, 0, 0),
  (714, .ireturn, 715, 0, 0, 0)]
def kl_17 : List mj_E := [
  (715, .aload_n 1, 716, 0, 0, 0),
  (716, .invokevirtual 104, 719, 94, 0, 670),
  (719, .aload_n 2, 720, 0, 0, 0),
  (720, .invokevirtual 107, 723, 191, 0, 1407),
  (723, .if_icmp .eq 712, 726, 1435, 0, 0),
  (726, .iconst 0, 727, 0, 0, 0),
  (727, .ireturn, 728, 0, 0, 0)]
def kl_18 : List mj_E := [
  (728, .aload_n 1, 729, 0, 0, 0),
  (729, .aload_n 0, 730, 0, 0, 0),
  (730, .iload 4, 732, 0, 0, 0),
  (732, .iconst 1, 733, 0, 1, 0),
  (733, .iadd, 734, 0, 0, 0),
  (734, .iaload, 735, 0, 0, 0),
  (735, .invokevirtual 108, 738, 95, 0, 682),
  (738, .aload_n 2, 739, 0, 0, 0),
  (739, .aload_n 0, 740, 0, 0, 0),
  (740, .iload 4, 742, 0, 0, 0),
  (742, .iconst 1, 743, 0, 1, 0),
  (743, .iadd, 744, 0, 0, 0),
  (744, .iaload, 745, 0, 0, 0),
  (745, .invokevirtual 111, 748, 192, 0, 1414),
  (748, .if_icmp .eq 687, 751, 1435, 0, 0),
  (751, .iconst 0, 752, 0, 0, 0),
  (752, .ireturn, 753, 0, 0, 0)]
def kl_19 : List mj_E := [
  (753, .aload_n 1, 754, 0, 0, 0),
  (754, .aload_n 0, 755, 0, 0, 0),
  (755, .iload 4, 757, 0, 0, 0),
  (757, .iconst 1, 758, 0, 1, 0),
  (758, .iadd, 759, 0, 0, 0),
  (759, .iaload, 760, 0, 0, 0),
  (760, .invokevirtual 112, 763, 96, 0, 687),
  (763, .aload_n 2, 764, 0, 0, 0),
  (764, .aload_n 0, 765, 0, 0, 0),
  (765, .iload 4, 767, 0, 0, 0),
  (767, .iconst 1, 768, 0, 1, 0),
  (768, .iadd, 769, 0, 0, 0),
  (769, .iaload, 770, 0, 0, 0),
  (770, .invokevirtual 115, 773, 193, 0, 1418),
  (773, .if_icmp .eq 662, 776, 1435, 0, 0),
  (776, .iconst 0, 777, 0, 0, 0),
  (777, .ireturn, 778, 0, 0, 0)]
def kl_20 : List mj_E := [
  (778, .aload_n 1, 779, 0, 0, 0),
  (779, .aload_n 0, 780, 0, 0, 0),
  (780, .iload 4, 782, 0, 0, 0),
  (782, .iconst 1, 783, 0, 1, 0),
  (783, .iadd, 784, 0, 0, 0),
  (784, .iaload, 785, 0, 0, 0),
  (785, .aload_n 0, 786, 0, 0, 0),
  (786, .iload 4, 788, 0, 0, 0),
  (788, .iconst 2, 789, 0, 2, 0),
  (789, .iadd, 790, 0, 0, 0),
  (790, .iaload, 791, 0, 0, 0),
  (791, .invokevirtual 116, 794, 97, 0, 691),
  (794, .aload_n 2, 795, 0, 0, 0),
  (795, .aload_n 0, 796, 0, 0, 0),
  (796, .iload 4, 798, 0, 0, 0),
  (798, .iconst 1, 799, 0, 1, 0),
  (799, .iadd, 800, 0, 0, 0),
  (800, .iaload, 801, 0, 0, 0),
  (801, .aload_n 0, 802, 0, 0, 0),
  (802, .iload 4, 804, 0, 0, 0),
  (804, .iconst 2, 805, 0, 2, 0),
  (805, .iadd, 806, 0, 0, 0),
  (806, .iaload, 807, 0, 0, 0),
  (807, .invokevirtual 119, 810, 194, 0, 1422),
  (810, .if_icmp .eq 625, 813, 1435, 0, 0),
  (813, .iconst 0, 814, 0, 0, 0),
  (814, .ireturn, 815, 0, 0, 0)]
def kl_21 : List mj_E := [
  (815, .aload_n 1, 816, 0, 0, 0),
  (816, .invokevirtual 120, 819, 98, 0, 696),
  (819, .aload_n 2, 820, 0, 0, 0),
  (820, .invokevirtual 123, 823, 195, 0, 1426),
  (823, .if_icmp .eq 612, 826, 1435, 0, 0),
  (826, .iconst 0, 827, 0, 0, 0),
  (827, .ireturn, 828, 0, 0, 0)]
def kl_22 : List mj_E := [
  (828, .aload_n 1, 829, 0, 0, 0),
  (829, .invokevirtual 124, 832, 99, 0, 700),
  (832, .aload_n 2, 833, 0, 0, 0),
  (833, .invokevirtual 127, 836, 196, 0, 1430),
  (836, .if_icmp .eq 599, 839, 1435, 0, 0),
  (839, .iconst 0, 840, 0, 0, 0),
  (840, .ireturn, 841, 0, 0, 0)]
def kl_23 : List mj_E := [
  (841, .aload_n 1, 842, 0, 0, 0),
  (842, .aload_n 0, 843, 0, 0, 0),
  (843, .iload 4, 845, 0, 0, 0),
  (845, .iconst 1, 846, 0, 1, 0),
  (846, .iadd, 847, 0, 0, 0),
  (847, .iaload, 848, 0, 0, 0),
  (848, .aload_n 0, 849, 0, 0, 0),
  (849, .iload 4, 851, 0, 0, 0),
  (851, .iconst 2, 852, 0, 2, 0),
  (852, .iadd, 853, 0, 0, 0),
  (853, .iaload, 854, 0, 0, 0),
  (854, .invokevirtual 128, 857, 100, 0, 709),
  (857, .aload_n 2, 858, 0, 0, 0),
  (858, .aload_n 0, 859, 0, 0, 0),
  (859, .iload 4, 861, 0, 0, 0),
  (861, .iconst 1, 862, 0, 1, 0),
  (862, .iadd, 863, 0, 0, 0),
  (863, .iaload, 864, 0, 0, 0),
  (864, .aload_n 0, 865, 0, 0, 0),
  (865, .iload 4, 867, 0, 0, 0),
  (867, .iconst 2, 868, 0, 2, 0),
  (868, .iadd, 869, 0, 0, 0),
  (869, .iaload, 870, 0, 0, 0),
  (870, .invokevirtual 131, 873, 197, 0, 1434),
  (873, .if_icmp .eq 562, 876, 1435, 0, 0),
  (876, .iconst 0, 877, 0, 0, 0),
  (877, .ireturn, 878, 0, 0, 0)]
def kl_24 : List mj_E := [
  (878, .aload_n 1, 879, 0, 0, 0),
  (879, .aload_n 0, 880, 0, 0, 0),
  (880, .iload 4, 882, 0, 0, 0),
  (882, .iconst 1, 883, 0, 1, 0),
  (883, .iadd, 884, 0, 0, 0),
  (884, .iaload, 885, 0, 0, 0),
  (885, .invokevirtual 132, 888, 101, 0, 717),
  (888, .aload_n 2, 889, 0, 0, 0),
  (889, .aload_n 0, 890, 0, 0, 0),
  (890, .iload 4, 892, 0, 0, 0),
  (892, .iconst 1, 893, 0, 1, 0),
  (893, .iadd, 894, 0, 0, 0),
  (894, .iaload, 895, 0, 0, 0),
  (895, .invokevirtual 135, 898, 198, 0, 1439),
  (898, .if_icmp .eq 537, 901, 1435, 0, 0),
  (901, .iconst 0, 902, 0, 0, 0),
  (902, .ireturn, 903, 0, 0, 0)]
def kl_25 : List mj_E := [
  (903, .aload_n 1, 904, 0, 0, 0),
  (904, .aload_n 0, 905, 0, 0, 0),
  (905, .iload 4, 907, 0, 0, 0),
  (907, .iconst 1, 908, 0, 1, 0),
  (908, .iadd, 909, 0, 0, 0),
  (909, .iaload, 910, 0, 0, 0),
  (910, .invokevirtual 136, 913, 103, 0, 728),
  (913, .aload_n 2, 914, 0, 0, 0),
  (914, .aload_n 0, 915, 0, 0, 0),
  (915, .iload 4, 917, 0, 0, 0),
  (917, .iconst 1, 918, 0, 1, 0),
  (918, .iadd, 919, 0, 0, 0),
  (919, .iaload, 920, 0, 0, 0),
  (920, .invokevirtual 139, 923, 199, 0, 1443),
  (923, .if_icmp .eq 512, 926, 1435, 0, 0),
  (926, .iconst 0, 927, 0, 0, 0),
  (927, .ireturn, 928, 0, 0, 0)]
def kl_26 : List mj_E := [
  (928, .aload_n 1, 929, 0, 0, 0),
  (929, .aload_n 0, 930, 0, 0, 0),
  (930, .iload 4, 932, 0, 0, 0),
  (932, .iconst 1, 933, 0, 1, 0),
  (933, .iadd, 934, 0, 0, 0),
  (934, .iaload, 935, 0, 0, 0),
  (935, .invokevirtual 140, 938, 104, 0, 740),
  (938, .aload_n 2, 939, 0, 0, 0),
  (939, .aload_n 0, 940, 0, 0, 0),
  (940, .iload 4, 942, 0, 0, 0),
  (942, .iconst 1, 943, 0, 1, 0),
  (943, .iadd, 944, 0, 0, 0),
  (944, .iaload, 945, 0, 0, 0),
  (945, .invokevirtual 143, 948, 203, 0, 1447),
  (948, .if_icmp .eq 487, 951, 1435, 0, 0),
  (951, .iconst 0, 952, 0, 0, 0),
  (952, .ireturn, 953, 0, 0, 0)]
def kl_27 : List mj_E := [
  (953, .aload_n 1, 954, 0, 0, 0),
  (954, .aload_n 0, 955, 0, 0, 0),
  (955, .iload 4, 957, 0, 0, 0),
  (957, .iconst 1, 958, 0, 1, 0),
  (958, .iadd, 959, 0, 0, 0),
  (959, .iaload, 960, 0, 0, 0),
  (960, .invokevirtual 144, 963, 105, 0, 788),
  (963, .aload_n 2, 964, 0, 0, 0),
  (964, .aload_n 0, 965, 0, 0, 0),
  (965, .iload 4, 967, 0, 0, 0),
  (967, .iconst 1, 968, 0, 1, 0),
  (968, .iadd, 969, 0, 0, 0),
  (969, .iaload, 970, 0, 0, 0),
  (970, .invokevirtual 147, 973, 204, 0, 1463),
  (973, .if_icmp .eq 462, 976, 1435, 0, 0),
  (976, .iconst 0, 977, 0, 0, 0),
  (977, .ireturn, 978, 0, 0, 0)]
def kl_28 : List mj_E := [
  (978, .aload_n 1, 979, 0, 0, 0),
  (979, .invokevirtual 148, 982, 107, 0, 796),
  (982, .aload_n 2, 983, 0, 0, 0),
  (983, .invokevirtual 151, 986, 205, 0, 1467),
  (986, .if_icmp .eq 449, 989, 1435, 0, 0),
  (989, .iconst 0, 990, 0, 0, 0),
  (990, .ireturn, 991, 0, 0, 0)]
def kl_29 : List mj_E := [
  (991, .aload_n 1, 992, 0, 0, 0),
  (992, .invokevirtual 152, 995, 108, 0, 801),
  (995, .aload_n 2, 996, 0, 0, 0),
  (996, .invokevirtual 155, 999, 206, 0, 1471),
  (999, .if_icmp .eq 436, 1002, 1435, 0, 0),
  (1002, .iconst 0, 1003, 0, 0, 0),
  (1003, .ireturn, 1004, 0, 0, 0)]
def kl_30 : List mj_E := [
  (1004, .aload_n 1, 1005, 0, 0, 0),
  (1005, .aload_n 0, 1006, 0, 0, 0),
  (1006, .iload 4, 1008, 0, 0, 0),
  (1008, .iconst 1, 1009, 0, 1, 0),
  (1009, .iadd, 1010, 0, 0, 0),
  (1010, .iaload, 1011, 0, 0, 0),
  (1011, .aload_n 0, 1012, 0, 0, 0),
  (1012, .iload 4, 1014, 0, 0, 0),
  (1014, .iconst 2, 1015, 0, 2, 0),
  (1015, .iadd, 1016, 0, 0, 0),
  (1016, .iaload, 1017, 0, 0, 0),
  (1017, .invokevirtual 156, 1020, 109, 0, 809),
  (1020, .aload_n 2, 1021, 0, 0, 0),
  (1021, .aload_n 0, 1022, 0, 0, 0),
  (1022, .iload 4, 1024, 0, 0, 0),
  (1024, .iconst 1, 1025, 0, 1, 0),
  (1025, .iadd, 1026, 0, 0, 0),
  (1026, .iaload, 1027, 0, 0, 0),
  (1027, .aload_n 0, 1028, 0, 0, 0),
  (1028, .iload 4, 1030, 0, 0, 0),
  (1030, .iconst 2, 1031, 0, 2, 0),
  (1031, .iadd, 1032, 0, 0, 0),
  (1032, .iaload, 1033, 0, 0, 0),
  (1033, .invokevirtual 159, 1036, 209, 0, 1475),
  (1036, .if_icmp .eq 399, 1039, 1435, 0, 0),
  (1039, .iconst 0, 1040, 0, 0, 0),
  (1040, .ireturn, 1041, 0, 0, 0)]
def kl_31 : List mj_E := [
  (1041, .aload_n 1, 1042, 0, 0, 0),
  (1042, .invokevirtual 160, 1045, 110, 0, 821),
  (1045, .aload_n 2, 1046, 0, 0, 0),
  (1046, .invokevirtual 163, 1049, 210, 0, 1485),
  (1049, .if_icmp .eq 386, 1052, 1435, 0, 0),
  (1052, .iconst 0, 1053, 0, 0, 0),
  (1053, .ireturn, 1054, 0, 0, 0)]
def kl_32 : List mj_E := [
  (1054, .aload_n 1, 1055, 0, 0, 0),
  (1055, .invokevirtual 164, 1058, 111, 0, 829),
  (1058, .aload_n 2, 1059, 0, 0, 0),
  (1059, .invokevirtual 167, 1062, 213, 0, 1489),
  (1062, .if_icmp .eq 373, 1065, 1435, 0, 0),
  (1065, .iconst 0, 1066, 0, 0, 0),
  (1066, .ireturn, 1067, 0, 0, 0)]
def kl_33 : List mj_E := [
  (1067, .aload_n 1, 1068, 0, 0, 0),
  (1068, .invokevirtual 168, 1071, 112, 0, 845),
  (1071, .aload_n 2, 1072, 0, 0, 0),
  (1072, .invokevirtual 171, 1075, 214, 0, 1501),
  (1075, .if_icmp .eq 360, 1078, 1435, 0, 0),
  (1078, .iconst 0, 1079, 0, 0, 0),
  (1079, .ireturn, 1080, 0, 0, 0)]
def kl_34 : List mj_E := [
  (1080, .aload_n 1, 1081, 0, 0, 0),
  (1081, .aload_n 0, 1082, 0, 0, 0),
  (1082, .iload 4, 1084, 0, 0, 0),
  (1084, .iconst 1, 1085, 0, 1, 0),
  (1085, .iadd, 1086, 0, 0, 0),
  (1086, .iaload, 1087, 0, 0, 0),
  (1087, .aload_n 0, 1088, 0, 0, 0),
  (1088, .iload 4, 1090, 0, 0, 0),
  (1090, .iconst 2, 1091, 0, 2, 0),
  (1091, .iadd, 1092, 0, 0, 0),
  (1092, .iaload, 1093, 0, 0, 0),
  (1093, .invokevirtual 172, 1096, 113, 0, 852),
  (1096, .aload_n 2, 1097, 0, 0, 0),
  (1097, .aload_n 0, 1098, 0, 0, 0),
  (1098, .iload 4, 1100, 0, 0, 0),
  (1100, .iconst 1, 1101, 0, 1, 0),
  (1101, .iadd, 1102, 0, 0, 0),
  (1102, .iaload, 1103, 0, 0, 0),
  (1103, .aload_n 0, 1104, 0, 0, 0),
  (1104, .iload 4, 1106, 0, 0, 0),
  (1106, .iconst 2, 1107, 0, 2, 0),
  (1107, .iadd, 1108, 0, 0, 0),
  (1108, .iaload, 1109, 0, 0, 0),
  (1109, .invokevirtual 175, 1112, 215, 0, 1506),
  (1112, .if_icmp .eq 323, 1115, 1435, 0, 0),
  (1115, .iconst 0, 1116, 0, 0, 0),
  (1116, .ireturn, 1117, 0, 0, 0)]
def kl_35 : List mj_E := [
  (1117, .aload_n 1, 1118, 0, 0, 0),
  (1118, .invokevirtual 176, 1121, 114, 0, 860),
  (1121, .aload_n 2, 1122, 0, 0, 0),
  (1122, .invokevirtual 179, 1125, 216, 0, 1510),
  (1125, .if_icmp .eq 310, 1128, 1435, 0, 0),
  (1128, .iconst 0, 1129, 0, 0, 0),
  (1129, .ireturn, 1130, 0, 0, 0)]
def kl_36 : List mj_E := [
  (1130, .aload_n 1, 1131, 0, 0, 0),
  (1131, .invokevirtual 180, 1134, 115, 0, 868),
  (1134, .aload_n 2, 1135, 0, 0, 0),
  (1135, .invokevirtual 183, 1138, 218, 0, 1514),
  (1138, .if_icmp .eq 297, 1141, 1435, 0, 0),
  (1141, .iconst 0, 1142, 0, 0, 0),
  (1142, .ireturn, 1143, 0, 0, 0)]
def kl_37 : List mj_E := [
  (1143, .aload_n 1, 1144, 0, 0, 0),
  (1144, .invokevirtual 184, 1147, 116, 0, 877),
  (1147, .aload_n 2, 1148, 0, 0, 0),
  (1148, .invokevirtual 187, 1151, 219, 0, 1522),
  (1151, .if_icmp .eq 284, 1154, 1435, 0, 0),
  (1154, .iconst 0, 1155, 0, 0, 0),
  (1155, .ireturn, 1156, 0, 0, 0)]
def kl_38 : List mj_E := [
  (1156, .aload_n 1, 1157, 0, 0, 0),
  (1157, .aload_n 0, 1158, 0, 0, 0),
  (1158, .iload 4, 1160, 0, 0, 0),
  (1160, .iconst 1, 1161, 0, 1, 0),
  (1161, .iadd, 1162, 0, 0, 0),
  (1162, .iaload, 1163, 0, 0, 0),
  (1163, .aload_n 0, 1164, 0, 0, 0),
  (1164, .iload 4, 1166, 0, 0, 0),
  (1166, .iconst 2, 1167, 0, 2, 0),
  (1167, .iadd, 1168, 0, 0, 0),
  (1168, .iaload, 1169, 0, 0, 0),
  (1169, .aload_n 0, 1170, 0, 0, 0),
  (1170, .iload 4, 1172, 0, 0, 0),
  (1172, .iconst 3, 1173, 0, 3, 0),
  (1173, .iadd, 1174, 0, 0, 0),
  (1174, .iaload, 1175, 0, 0, 0),
  (1175, .invokevirtual 188, 1178, 117, 0, 888),
  (1178, .aload_n 2, 1179, 0, 0, 0),
  (1179, .aload_n 0, 1180, 0, 0, 0),
  (1180, .iload 4, 1182, 0, 0, 0),
  (1182, .iconst 1, 1183, 0, 1, 0),
  (1183, .iadd, 1184, 0, 0, 0),
  (1184, .iaload, 1185, 0, 0, 0),
  (1185, .aload_n 0, 1186, 0, 0, 0),
  (1186, .iload 4, 1188, 0, 0, 0),
  (1188, .iconst 2, 1189, 0, 2, 0),
  (1189, .iadd, 1190, 0, 0, 0),
  (1190, .iaload, 1191, 0, 0, 0),
  (1191, .aload_n 0, 1192, 0, 0, 0),
  (1192, .iload 4, 1194, 0, 0, 0),
  (1194, .iconst 3, 1195, 0, 3, 0),
  (1195, .iadd, 1196, 0, 0, 0),
  (1196, .iaload, 1197, 0, 0, 0),
  (1197, .invokevirtual 191, 1200, 220, 0, 1526),
  (1200, .if_icmp .eq 235, 1203, 1435, 0, 0),
  (1203, .iconst 0, 1204, 0, 0, 0),
  (1204, .ireturn, 1205, 0, 0, 0)]
def kl_39 : List mj_E := [
  (1205, .aload_n 1, 1206, 0, 0, 0),
  (1206, .aload_n 0, 1207, 0, 0, 0),
  (1207, .iload 4, 1209, 0, 0, 0),
  (1209, .iconst 1, 1210, 0, 1, 0),
  (1210, .iadd, 1211, 0, 0, 0),
  (1211, .iaload, 1212, 0, 0, 0),
  (1212, .invokevirtual 192, 1215, 118, 0, 896),
  (1215, .aload_n 2, 1216, 0, 0, 0),
  (1216, .aload_n 0, 1217, 0, 0, 0),
  (1217, .iload 4, 1219, 0, 0, 0),
  (1219, .iconst 1, 1220, 0, 1, 0),
  (1220, .iadd, 1221, 0, 0, 0),
  (1221, .iaload, 1222, 0, 0, 0),
  (1222, .invokevirtual 195, 1225, 222, 0, 1531),
  (1225, .if_icmp .eq 210, 1228, 1435, 0, 0),
  (1228, .iconst 0, 1229, 0, 0, 0),
  (1229, .ireturn, 1230, 0, 0, 0)]
def kl_40 : List mj_E := [
  (1230, .aload_n 1, 1231, 0, 0, 0),
  (1231, .aload_n 0, 1232, 0, 0, 0),
  (1232, .iload 4, 1234, 0, 0, 0),
  (1234, .iconst 1, 1235, 0, 1, 0),
  (1235, .iadd, 1236, 0, 0, 0),
  (1236, .iaload, 1237, 0, 0, 0),
  (1237, .invokevirtual 196, 1240, 119, 0, 900),
  (1240, .aload_n 2, 1241, 0, 0, 0),
  (1241, .aload_n 0, 1242, 0, 0, 0),
  (1242, .iload 4, 1244, 0, 0, 0),
  (1244, .iconst 1, 1245, 0, 1, 0),
  (1245, .iadd, 1246, 0, 0, 0),
  (1246, .iaload, 1247, 0, 0, 0),
  (1247, .invokevirtual 199, 1250, 225, 0, 1539),
  (1250, .if_icmp .eq 185, 1253, 1435, 0, 0),
  (1253, .iconst 0, 1254, 0, 0, 0),
  (1254, .ireturn, 1255, 0, 0, 0)]
def kl_41 : List mj_E := [
  (1255, .aload_n 1, 1256, 0, 0, 0),
  (1256, .invokevirtual 200, 1259, 122, 0, 910),
  (1259, .aload_n 2, 1260, 0, 0, 0),
  (1260, .invokevirtual 203, 1263, 227, 0, 1549),
  (1263, .if_icmp .eq 172, 1266, 1435, 0, 0),
  (1266, .iconst 0, 1267, 0, 0, 0),
  (1267, .ireturn, 1268, 0, 0, 0)]
def kl_42 : List mj_E := [
  (1268, .aload_n 1, 1269, 0, 0, 0),
  (1269, .aload_n 0, 1270, 0, 0, 0),
  (1270, .iload 4, 1272, 0, 0, 0),
  (1272, .iconst 1, 1273, 0, 1, 0),
  (1273, .iadd, 1274, 0, 0, 0),
  (1274, .iaload, 1275, 0, 0, 0),
  (1275, .aload_n 0, 1276, 0, 0, 0),
  (1276, .iload 4, 1278, 0, 0, 0),
  (1278, .iconst 2, 1279, 0, 2, 0),
  (1279, .iadd, 1280, 0, 0, 0),
  (1280, .iaload, 1281, 0, 0, 0),
  (1281, .invokevirtual 204, 1284, 124, 0, 918),
  (1284, .aload_n 2, 1285, 0, 0, 0),
  (1285, .aload_n 0, 1286, 0, 0, 0),
  (1286, .iload 4, 1288, 0, 0, 0),
  (1288, .iconst 1, 1289, 0, 1, 0),
  (1289, .iadd, 1290, 0, 0, 0),
  (1290, .iaload, 1291, 0, 0, 0),
  (1291, .aload_n 0, 1292, 0, 0, 0),
  (1292, .iload 4, 1294, 0, 0, 0),
  (1294, .iconst 2, 1295, 0, 2, 0),
  (1295, .iadd, 1296, 0, 0, 0),
  (1296, .iaload, 1297, 0, 0, 0),
  (1297, .invokevirtual 207, 1300, 230, 0, 1557),
  (1300, .if_icmp .eq 135, 1303, 1435, 0, 0),
  (1303, .iconst 0, 1304, 0, 0, 0),
  (1304, .ireturn, 1305, 0, 0, 0)]
def kl_43 : List mj_E := [
  (1305, .aload_n 1, 1306, 0, 0, 0),
  (1306, .aload_n 0, 1307, 0, 0, 0),
  (1307, .iload 4, 1309, 0, 0, 0),
  (1309, .iconst 1, 1310, 0, 1, 0),
  (1310, .iadd, 1311, 0, 0, 0),
  (1311, .iaload, 1312, 0, 0, 0),
  (1312, .invokevirtual 208, 1315, 127, 0, 933),
  (1315, .aload_n 2, 1316, 0, 0, 0),
  (1316, .aload_n 0, 1317, 0, 0, 0),
  (1317, .iload 4, 1319, 0, 0, 0),
  (1319, .iconst 1, 1320, 0, 1, 0),
  (1320, .iadd, 1321, 0, 0, 0),
  (1321, .iaload, 1322, 0, 0, 0),
  (1322, .invokevirtual 211, 1325, 231, 0, 1569),
  (1325, .if_icmp .eq 110, 1328, 1435, 0, 0),
  (1328, .iconst 0, 1329, 0, 0, 0),
  (1329, .ireturn, 1330, 0, 0, 0)]
def kl_44 : List mj_E := [
  (1330, .aload_n 1, 1331, 0, 0, 0),
  (1331, .aload_n 0, 1332, 0, 0, 0),
  (1332, .iload 4, 1334, 0, 0, 0),
  (1334, .iconst 1, 1335, 0, 1, 0),
  (1335, .iadd, 1336, 0, 0, 0),
  (1336, .iaload, 1337, 0, 0, 0),
  (1337, .invokevirtual 212, 1340, 128, 0, 941),
  (1340, .aload_n 2, 1341, 0, 0, 0),
  (1341, .aload_n 0, 1342, 0, 0, 0),
  (1342, .iload 4, 1344, 0, 0, 0),
  (1344, .iconst 1, 1345, 0, 1, 0),
  (1345, .iadd, 1346, 0, 0, 0),
  (1346, .iaload, 1347, 0, 0, 0),
  (1347, .invokevirtual 215, 1350, 232, 0, 1573),
  (1350, .if_icmp .eq 85, 1353, 1435, 0, 0),
  (1353, .iconst 0, 1354, 0, 0, 0),
  (1354, .ireturn, 1355, 0, 0, 0)]
def kl_45 : List mj_E := [
  (1355, .aload_n 1, 1356, 0, 0, 0),
  (1356, .aload_n 0, 1357, 0, 0, 0),
  (1357, .iload 4, 1359, 0, 0, 0),
  (1359, .iconst 1, 1360, 0, 1, 0),
  (1360, .iadd, 1361, 0, 0, 0),
  (1361, .iaload, 1362, 0, 0, 0),
  (1362, .invokevirtual 216, 1365, 129, 0, 949),
  (1365, .aload_n 2, 1366, 0, 0, 0),
  (1366, .aload_n 0, 1367, 0, 0, 0),
  (1367, .iload 4, 1369, 0, 0, 0),
  (1369, .iconst 1, 1370, 0, 1, 0),
  (1370, .iadd, 1371, 0, 0, 0),
  (1371, .iaload, 1372, 0, 0, 0),
  (1372, .invokevirtual 219, 1375, 233, 0, 1577),
  (1375, .if_icmp .eq 60, 1378, 1435, 0, 0),
  (1378, .iconst 0, 1379, 0, 0, 0),
  (1379, .ireturn, 1380, 0, 0, 0)]
def kl_46a : List mj_E := [
  (1380, .aload_n 1, 1381, 0, 0, 0),
  (1381, .aload_n 0, 1382, 0, 0, 0),
  (1382, .iload 4, 1384, 0, 0, 0),
  (1384, .iconst 1, 1385, 0, 1, 0),
  (1385, .iadd, 1386, 0, 0, 0),
  (1386, .iaload, 1387, 0, 0, 0),
  (1387, .aload_n 3, 1388, 0, 0, 0)]
def kl_46b : List mj_E := [
  (1391, .istore 5, 1393, 0, 0, 0),
  (1393, .aload_n 2, 1394, 0, 0, 0),
  (1394, .aload_n 0, 1395, 0, 0, 0),
  (1395, .iload 4, 1397, 0, 0, 0),
  (1397, .iconst 1, 1398, 0, 1, 0),
  (1398, .iadd, 1399, 0, 0, 0),
  (1399, .iaload, 1400, 0, 0, 0),
  (1400, .invokevirtual 223, 1403, 234, 0, 1581),
  (1403, .lstore 6, 1405, 0, 0, 0),
  (1405, .aload_n 2, 1406, 0, 0, 0),
  (1406, .invokevirtual 52, 1409, 131, 0, 1185),
  (1409, .iload 5, 1411, 0, 0, 0),
  (1411, .if_icmp .eq 5, 1414, 1416, 0, 0),
  (1414, .iconst 0, 1415, 0, 0, 0),
  (1415, .ireturn, 1416, 0, 0, 0),
  (1416, .iload 5, 1418, 0, 0, 0),
  (1418, .ifCond .ne 14, 1421, 1432, 0, 0),
  (1421, .aload_n 3, 1422, 0, 0, 0),
  (1422, .iconst 0, 1423, 0, 0, 0),
  (1423, .laload, 1424, 0, 0, 0),
  (1424, .lload 6, 1426, 0, 0, 0),
  (1426, .lcmp, 1427, 0, 0, 0),
  (1427, .ifCond .eq 5, 1430, 1432, 0, 0),
  (1430, .iconst 0, 1431, 0, 0, 0),
  (1431, .ireturn, 1432, 0, 0, 0),
  (1432, .goto 3, 1435, 1435, 0, 0)]
def kh_task : List mj_E := [
  (0, .aload_n 3, 1, 0, 0, 0),
  (1, .iconst 0, 2, 0, 0, 0),
  (2, .aload_n 0, 3, 0, 0, 0),
  (3, .iload_n 1, 4, 0, 0, 0),
  (4, .iload_n 2, 5, 0, 0, 0),
  (5, .invokevirtual 7, 8, 78, 0, 957),
  (8, .i2l, 9, 0, 0, 0),
  (9, .lastore, 10, 0, 0, 0),
  (10, .goto 7, 13, 17, 0, 0),
  (13, .astore 4, 15, 0, 0, 0),
  (15, .iconst 1, 16, 0, 1, 0),
  (16, .ireturn, 17, 0, 0, 0),
  (17, .iconst 0, 18, 0, 0, 0),
  (18, .ireturn, 19, 0, 0, 0)]
def kh_part : List mj_E := [
  (0, .aload 4, 2, 0, 0, 0),
  (2, .iconst 0, 3, 0, 0, 0),
  (3, .aload_n 0, 4, 0, 0, 0),
  (4, .iload_n 1, 5, 0, 0, 0),
  (5, .iload_n 2, 6, 0, 0, 0),
  (6, .iload_n 3, 7, 0, 0, 0),
  (7, .invokevirtual 15, 10, 79, 0, 1025),
  (10, .i2l, 11, 0, 0, 0),
  (11, .lastore, 12, 0, 0, 0),
  (12, .goto 7, 15, 19, 0, 0),
  (15, .astore 5, 17, 0, 0, 0),
  (17, .iconst 1, 18, 0, 1, 0),
  (18, .ireturn, 19, 0, 0, 0),
  (19, .iconst 0, 20, 0, 0, 0),
  (20, .ireturn, 21, 0, 0, 0)]
def kh_row : List mj_E := [
  (0, .aload_n 2, 1, 0, 0, 0),
  (1, .iconst 0, 2, 0, 0, 0),
  (2, .aload_n 0, 3, 0, 0, 0),
  (3, .iload_n 1, 4, 0, 0, 0),
  (4, .invokevirtual 19, 7, 130, 0, 1035),
  (7, .lastore, 8, 0, 0, 0),
  (8, .goto 6, 11, 14, 0, 0),
  (11, .astore_n 3, 12, 0, 0, 0),
  (12, .iconst 1, 13, 0, 1, 0),
  (13, .ireturn, 14, 0, 0, 0),
  (14, .iconst 0, 15, 0, 0, 0),
  (15, .ireturn, 16, 0, 0, 0)]
set_option maxRecDepth 100000 in
theorem kl_h_ok : kl_h.all (ms_chk hL code) = true := by decide +kernel
set_option maxRecDepth 100000 in
theorem kl_e_ok : kl_e.all (ms_chk hL code) = true := by decide +kernel
set_option maxRecDepth 100000 in
theorem kl_0_ok : kl_0.all (ms_chk hL code) = true := by decide +kernel
set_option maxRecDepth 100000 in
theorem kl_1_ok : kl_1.all (ms_chk hL code) = true := by decide +kernel
set_option maxRecDepth 100000 in
theorem kl_2_ok : kl_2.all (ms_chk hL code) = true := by decide +kernel
set_option maxRecDepth 100000 in
theorem kl_3_ok : kl_3.all (ms_chk hL code) = true := by decide +kernel
set_option maxRecDepth 100000 in
theorem kl_4a_ok : kl_4a.all (ms_chk hL code) = true := by decide +kernel
set_option maxRecDepth 100000 in
theorem kl_4b_ok : kl_4b.all (ms_chk hL code) = true := by decide +kernel
set_option maxRecDepth 100000 in
theorem kl_5a_ok : kl_5a.all (ms_chk hL code) = true := by decide +kernel
set_option maxRecDepth 100000 in
theorem kl_5b_ok : kl_5b.all (ms_chk hL code) = true := by decide +kernel
set_option maxRecDepth 100000 in
theorem kl_6_ok : kl_6.all (ms_chk hL code) = true := by decide +kernel
set_option maxRecDepth 100000 in
theorem kl_7_ok : kl_7.all (ms_chk hL code) = true := by decide +kernel
set_option maxRecDepth 100000 in
theorem kl_8_ok : kl_8.all (ms_chk hL code) = true := by decide +kernel
set_option maxRecDepth 100000 in
theorem kl_9_ok : kl_9.all (ms_chk hL code) = true := by decide +kernel
set_option maxRecDepth 100000 in
theorem kl_10_ok : kl_10.all (ms_chk hL code) = true := by decide +kernel
set_option maxRecDepth 100000 in
theorem kl_11_ok : kl_11.all (ms_chk hL code) = true := by decide +kernel
set_option maxRecDepth 100000 in
theorem kl_12_ok : kl_12.all (ms_chk hL code) = true := by decide +kernel
set_option maxRecDepth 100000 in
theorem kl_13_ok : kl_13.all (ms_chk hL code) = true := by decide +kernel
set_option maxRecDepth 100000 in
theorem kl_14_ok : kl_14.all (ms_chk hL code) = true := by decide +kernel
set_option maxRecDepth 100000 in
theorem kl_15_ok : kl_15.all (ms_chk hL code) = true := by decide +kernel
set_option maxRecDepth 100000 in
theorem kl_16_ok : kl_16.all (ms_chk hL code) = true := by decide +kernel
set_option maxRecDepth 100000 in
theorem kl_17_ok : kl_17.all (ms_chk hL code) = true := by decide +kernel
set_option maxRecDepth 100000 in
theorem kl_18_ok : kl_18.all (ms_chk hL code) = true := by decide +kernel
set_option maxRecDepth 100000 in
theorem kl_19_ok : kl_19.all (ms_chk hL code) = true := by decide +kernel
set_option maxRecDepth 100000 in
theorem kl_20_ok : kl_20.all (ms_chk hL code) = true := by decide +kernel
set_option maxRecDepth 100000 in
theorem kl_21_ok : kl_21.all (ms_chk hL code) = true := by decide +kernel
set_option maxRecDepth 100000 in
theorem kl_22_ok : kl_22.all (ms_chk hL code) = true := by decide +kernel
set_option maxRecDepth 100000 in
theorem kl_23_ok : kl_23.all (ms_chk hL code) = true := by decide +kernel
set_option maxRecDepth 100000 in
theorem kl_24_ok : kl_24.all (ms_chk hL code) = true := by decide +kernel
set_option maxRecDepth 100000 in
theorem kl_25_ok : kl_25.all (ms_chk hL code) = true := by decide +kernel
set_option maxRecDepth 100000 in
theorem kl_26_ok : kl_26.all (ms_chk hL code) = true := by decide +kernel
set_option maxRecDepth 100000 in
theorem kl_27_ok : kl_27.all (ms_chk hL code) = true := by decide +kernel
set_option maxRecDepth 100000 in
theorem kl_28_ok : kl_28.all (ms_chk hL code) = true := by decide +kernel
set_option maxRecDepth 100000 in
theorem kl_29_ok : kl_29.all (ms_chk hL code) = true := by decide +kernel
set_option maxRecDepth 100000 in
theorem kl_30_ok : kl_30.all (ms_chk hL code) = true := by decide +kernel
set_option maxRecDepth 100000 in
theorem kl_31_ok : kl_31.all (ms_chk hL code) = true := by decide +kernel
set_option maxRecDepth 100000 in
theorem kl_32_ok : kl_32.all (ms_chk hL code) = true := by decide +kernel
set_option maxRecDepth 100000 in
theorem kl_33_ok : kl_33.all (ms_chk hL code) = true := by decide +kernel
set_option maxRecDepth 100000 in
theorem kl_34_ok : kl_34.all (ms_chk hL code) = true := by decide +kernel
set_option maxRecDepth 100000 in
theorem kl_35_ok : kl_35.all (ms_chk hL code) = true := by decide +kernel
set_option maxRecDepth 100000 in
theorem kl_36_ok : kl_36.all (ms_chk hL code) = true := by decide +kernel
set_option maxRecDepth 100000 in
theorem kl_37_ok : kl_37.all (ms_chk hL code) = true := by decide +kernel
set_option maxRecDepth 100000 in
theorem kl_38_ok : kl_38.all (ms_chk hL code) = true := by decide +kernel
set_option maxRecDepth 100000 in
theorem kl_39_ok : kl_39.all (ms_chk hL code) = true := by decide +kernel
set_option maxRecDepth 100000 in
theorem kl_40_ok : kl_40.all (ms_chk hL code) = true := by decide +kernel
set_option maxRecDepth 100000 in
theorem kl_41_ok : kl_41.all (ms_chk hL code) = true := by decide +kernel
set_option maxRecDepth 100000 in
theorem kl_42_ok : kl_42.all (ms_chk hL code) = true := by decide +kernel
set_option maxRecDepth 100000 in
theorem kl_43_ok : kl_43.all (ms_chk hL code) = true := by decide +kernel
set_option maxRecDepth 100000 in
theorem kl_44_ok : kl_44.all (ms_chk hL code) = true := by decide +kernel
set_option maxRecDepth 100000 in
theorem kl_45_ok : kl_45.all (ms_chk hL code) = true := by decide +kernel
set_option maxRecDepth 100000 in
theorem kl_46a_ok : kl_46a.all (ms_chk hL code) = true := by decide +kernel
set_option maxRecDepth 100000 in
theorem kl_46b_ok : kl_46b.all (ms_chk hL code) = true := by decide +kernel
set_option maxRecDepth 100000 in
theorem kh_task_ok : kh_task.all (ms_chk hL method_3_code) = true ∧ kh_task.all (fun q => decide (q.2.1 ≠ .arraylength)) = true := by decide +kernel
set_option maxRecDepth 100000 in
theorem kh_part_ok : kh_part.all (ms_chk hL method_4_code) = true ∧ kh_part.all (fun q => decide (q.2.1 ≠ .arraylength)) = true := by decide +kernel
set_option maxRecDepth 100000 in
theorem kh_row_ok : kh_row.all (ms_chk hL method_5_code) = true ∧ kh_row.all (fun q => decide (q.2.1 ≠ .arraylength)) = true := by decide +kernel
