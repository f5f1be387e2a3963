theorem mem_ps {big : List Cond} (ws : List Cond) (ps : List Nat) (hp : ws = ps.filterMap (fun i => big[i]?)) : ∀ w ∈ ws, w ∈ big := by
  intro w h
  rw [hp] at h
  obtain ⟨i, -, hi⟩ := List.mem_filterMap.mp h
  exact List.mem_of_getElem? hi
set_option maxRecDepth 100000 in
theorem wL_wsL_law_r1 : ∀ w ∈ wsL_law_r1, w ∈ lw_tbl := mem_ps _ [71, 72, 56, 846, 847, 65, 1298, 73, 74, 75, 76, 77, 78, 79, 80, 57, 295, 105, 296, 107, 297, 109, 110, 58] (by decide +kernel)
set_option maxRecDepth 100000 in
theorem wL_wsL_law_r2 : ∀ w ∈ wsL_law_r2, w ∈ lw_tbl := mem_ps _ [298, 129, 130, 59, 299, 175, 176, 60, 300, 104, 301, 302, 303, 244, 245, 62, 304, 258, 63, 277, 64, 82, 83, 84] (by decide +kernel)
set_option maxRecDepth 100000 in
theorem wL_wsL_law_r3 : ∀ w ∈ wsL_law_r3, w ∈ lw_tbl := mem_ps _ [88, 85, 90, 87, 93, 112, 113, 114, 115, 119, 132, 133, 134, 145, 146, 148, 149, 177, 178, 179, 180, 209, 210, 211] (by decide +kernel)
set_option maxRecDepth 100000 in
theorem wL_wsL_law_r4 : ∀ w ∈ wsL_law_r4, w ∈ lw_tbl := mem_ps _ [201, 212, 213, 181, 214, 215, 216, 183, 61, 185, 186, 187, 247, 248, 249, 250, 260, 261, 262, 263, 264, 279, 280, 281] (by decide +kernel)
set_option maxRecDepth 100000 in
theorem wL_wsL_law_r5 : ∀ w ∈ wsL_law_r5, w ∈ lw_tbl := mem_ps _ [284, 282, 285, 848, 849, 850, 851, 853, 854, 855, 856, 857, 858, 859, 852, 861, 1025, 862, 863, 864, 865, 866, 867, 868] (by decide +kernel)
set_option maxRecDepth 100000 in
theorem wL_wsL_law_r6 : ∀ w ∈ wsL_law_r6, w ∈ lw_tbl := mem_ps _ [869, 870, 871, 872, 874, 881, 883, 884, 888, 889, 890, 891, 892, 893, 894, 895, 896, 897, 898, 899, 900, 901, 905, 906] (by decide +kernel)
set_option maxRecDepth 100000 in
theorem wL_wsL_law_r7 : ∀ w ∈ wsL_law_r7, w ∈ lw_tbl := mem_ps _ [908, 326, 327, 328, 329, 336, 340, 330, 331, 332, 333, 334, 335, 337, 338, 339, 341, 342, 343, 344, 265, 345, 346, 347] (by decide +kernel)
set_option maxRecDepth 100000 in
theorem wL_wsL_law_r8 : ∀ w ∈ wsL_law_r8, w ∈ lw_tbl := mem_ps _ [348, 353, 355, 354, 66, 349, 351, 0, 352, 356, 357, 358, 359, 266, 1026, 1027, 1028, 1029, 1037, 1038, 1043, 1030, 1031, 1032] (by decide +kernel)
set_option maxRecDepth 100000 in
theorem wL_wsL_law_r9 : ∀ w ∈ wsL_law_r9, w ∈ lw_tbl := mem_ps _ [1033, 1034, 1035, 1036, 1039, 1040, 1041, 1042, 360, 361, 362, 363, 364, 365, 366, 367, 1044, 1045, 1046, 1047, 368, 369, 370, 371] (by decide +kernel)
set_option maxRecDepth 100000 in
theorem wL_wsL_law_r10 : ∀ w ∈ wsL_law_r10, w ∈ lw_tbl := mem_ps _ [372, 1048, 1049, 1050, 1051, 1052, 1053, 373, 374, 375, 376, 1054, 1055, 1056, 1057, 1058, 1059, 1060, 377, 378, 379, 380, 381, 383] (by decide +kernel)
set_option maxRecDepth 100000 in
theorem wL_wsL_law_r11 : ∀ w ∈ wsL_law_r11, w ∈ lw_tbl := mem_ps _ [1, 384, 385, 1061, 1062, 1063, 1064, 860, 386, 387, 388, 389, 393, 390, 391, 392, 394, 396, 2, 397, 398, 399, 400, 401] (by decide +kernel)
set_option maxRecDepth 100000 in
theorem wL_wsL_law_r12 : ∀ w ∈ wsL_law_r12, w ∈ lw_tbl := mem_ps _ [402, 403, 404, 405, 406, 1065, 1066, 1067, 1068, 1069, 1070, 875, 1075, 1071, 1073, 31, 1074, 1076, 1078, 32, 1079, 1080, 407, 408] (by decide +kernel)
set_option maxRecDepth 100000 in
theorem wL_wsL_law_r13 : ∀ w ∈ wsL_law_r13, w ∈ lw_tbl := mem_ps _ [409, 410, 1081, 1082, 1083, 1084, 411, 412, 413, 414, 415, 416, 417, 418, 116, 419, 420, 421, 422, 1085, 1086, 1087, 1088, 1089] (by decide +kernel)
set_option maxRecDepth 100000 in
theorem wL_wsL_law_r14 : ∀ w ∈ wsL_law_r14, w ∈ lw_tbl := mem_ps _ [873, 1090, 423, 424, 425, 426, 427, 428, 429, 430, 1091, 1092, 1093, 1094, 431, 432, 433, 434, 435, 436, 437, 438, 118, 439] (by decide +kernel)
set_option maxRecDepth 100000 in
theorem wL_wsL_law_r15 : ∀ w ∈ wsL_law_r15, w ∈ lw_tbl := mem_ps _ [440, 441, 442, 135, 138, 139, 141, 142, 143, 144, 147, 443, 445, 3, 446, 447, 449, 4, 450, 451, 453, 5, 454, 455] (by decide +kernel)
set_option maxRecDepth 100000 in
theorem wL_wsL_law_r16 : ∀ w ∈ wsL_law_r16, w ∈ lw_tbl := mem_ps _ [456, 457, 458, 460, 6, 461, 462, 463, 464, 465, 466, 467, 468, 469, 471, 7, 472, 473, 475, 8, 476, 477, 478, 480] (by decide +kernel)
set_option maxRecDepth 100000 in
theorem wL_wsL_law_r17 : ∀ w ∈ wsL_law_r17, w ∈ lw_tbl := mem_ps _ [482, 9, 483, 484, 485, 487, 10, 488, 489, 490, 492, 11, 493, 494, 495, 496, 497, 498, 499, 501, 12, 502, 1095, 1096] (by decide +kernel)
set_option maxRecDepth 100000 in
theorem wL_wsL_law_r18 : ∀ w ∈ wsL_law_r18, w ∈ lw_tbl := mem_ps _ [1097, 1098, 876, 878, 879, 880, 1099, 1101, 33, 1102, 1103, 877, 1120, 1104, 1106, 34, 1107, 1108, 1110, 35, 1111, 1112, 1114, 36] (by decide +kernel)
set_option maxRecDepth 100000 in
theorem wL_wsL_law_r19 : ∀ w ∈ wsL_law_r19, w ∈ lw_tbl := mem_ps _ [1115, 1116, 1118, 37, 1119, 1121, 1123, 38, 1124, 1125, 1126, 1127, 1129, 39, 1130, 503, 504, 505, 506, 507, 508, 509, 510, 511] (by decide +kernel)
set_option maxRecDepth 100000 in
theorem wL_wsL_law_r20 : ∀ w ∈ wsL_law_r20, w ∈ lw_tbl := mem_ps _ [286, 521, 512, 513, 514, 515, 516, 517, 518, 519, 67, 520, 1131, 1132, 1133, 1134, 1135, 522, 523, 524, 525, 526, 535, 527] (by decide +kernel)
set_option maxRecDepth 100000 in
theorem wL_wsL_law_r21 : ∀ w ∈ wsL_law_r21, w ∈ lw_tbl := mem_ps _ [528, 529, 530, 531, 532, 533, 534, 1136, 1137, 1138, 1139, 1140, 1141, 1142, 882, 1143, 1145, 40, 1146, 1147, 1148, 1150, 41, 1151] (by decide +kernel)
set_option maxRecDepth 100000 in
theorem wL_wsL_law_r22 : ∀ w ∈ wsL_law_r22, w ∈ lw_tbl := mem_ps _ [536, 537, 538, 539, 540, 571, 541, 543, 13, 544, 545, 546, 547, 548, 549, 551, 14, 552, 553, 554, 555, 556, 557, 558] (by decide +kernel)
set_option maxRecDepth 100000 in
theorem wL_wsL_law_r23 : ∀ w ∈ wsL_law_r23, w ∈ lw_tbl := mem_ps _ [559, 560, 565, 566, 568, 569, 570, 561, 563, 15, 564, 567, 1152, 1153, 1154, 1155, 1156, 1164, 1157, 1159, 42, 1160, 1161, 1162] (by decide +kernel)
set_option maxRecDepth 100000 in
theorem wL_wsL_law_r24 : ∀ w ∈ wsL_law_r24, w ∈ lw_tbl := mem_ps _ [1163, 572, 573, 574, 575, 576, 578, 16, 579, 580, 581, 1165, 1166, 1167, 1168, 582, 583, 584, 585, 586, 587, 588, 589, 590] (by decide +kernel)
set_option maxRecDepth 100000 in
theorem wL_wsL_law_r25 : ∀ w ∈ wsL_law_r25, w ∈ lw_tbl := mem_ps _ [591, 202, 203, 204, 206, 208, 592, 593, 594, 595, 596, 597, 598, 599, 636, 600, 601, 602, 603, 188, 189, 190, 191, 604] (by decide +kernel)
set_option maxRecDepth 100000 in
theorem wL_wsL_law_r26 : ∀ w ∈ wsL_law_r26, w ∈ lw_tbl := mem_ps _ [606, 17, 607, 628, 608, 610, 18, 611, 612, 613, 615, 19, 616, 617, 618, 619, 620, 621, 622, 68, 623, 624, 625, 626] (by decide +kernel)
set_option maxRecDepth 100000 in
theorem wL_wsL_law_r27 : ∀ w ∈ wsL_law_r27, w ∈ lw_tbl := mem_ps _ [67, 627, 629, 630, 631, 632, 633, 634, 635, 637, 639, 20, 640, 641, 642, 643, 644, 645, 646, 647, 648, 649, 651, 21] (by decide +kernel)
set_option maxRecDepth 100000 in
theorem wL_wsL_law_r28 : ∀ w ∈ wsL_law_r28, w ∈ lw_tbl := mem_ps _ [652, 653, 654, 1169, 1170, 1171, 1172, 1173, 1174, 887, 886, 885, 1175, 1177, 43, 1178, 1179, 1181, 44, 1182, 1183, 1185, 45, 1186] (by decide +kernel)
set_option maxRecDepth 100000 in
theorem wL_wsL_law_r29 : ∀ w ∈ wsL_law_r29, w ∈ lw_tbl := mem_ps _ [1187, 1188, 1189, 1190, 1192, 46, 1193, 1194, 1195, 1196, 1197, 1199, 47, 1200, 1201, 1203, 48, 1204, 655, 656, 657, 658, 659, 660] (by decide +kernel)
set_option maxRecDepth 100000 in
theorem wL_wsL_law_r30 : ∀ w ∈ wsL_law_r30, w ∈ lw_tbl := mem_ps _ [661, 662, 663, 664, 665, 666, 1205, 1206, 1207, 1208, 667, 668, 669, 670, 671, 672, 673, 674, 675, 1209, 1210, 1211, 1212, 676] (by decide +kernel)
set_option maxRecDepth 100000 in
theorem wL_wsL_law_r31 : ∀ w ∈ wsL_law_r31, w ∈ lw_tbl := mem_ps _ [677, 678, 679, 680, 681, 682, 683, 684, 685, 686, 687, 688, 689, 690, 692, 22, 693, 694, 1213, 1214, 1215, 1216, 1217, 1218] (by decide +kernel)
set_option maxRecDepth 100000 in
theorem wL_wsL_law_r32 : ∀ w ∈ wsL_law_r32, w ∈ lw_tbl := mem_ps _ [1219, 1220, 1221, 695, 696, 697, 698, 699, 700, 701, 702, 703, 704, 705, 706, 707, 1222, 1223, 1224, 1225, 1226, 1228, 49, 1229] (by decide +kernel)
set_option maxRecDepth 100000 in
theorem wL_wsL_law_r33 : ∀ w ∈ wsL_law_r33, w ∈ lw_tbl := mem_ps _ [708, 709, 710, 711, 712, 713, 714, 715, 716, 1230, 1231, 1232, 1233, 1234, 717, 718, 719, 720, 721, 723, 23, 724, 725, 726] (by decide +kernel)
set_option maxRecDepth 100000 in
theorem wL_wsL_law_r34 : ∀ w ∈ wsL_law_r34, w ∈ lw_tbl := mem_ps _ [69, 727, 728, 729, 730, 731, 732, 733, 734, 735, 736, 737, 738, 739, 740, 1235, 1236, 1237, 1238, 904, 1239, 1241, 50, 1242] (by decide +kernel)
set_option maxRecDepth 100000 in
theorem wL_wsL_law_r35 : ∀ w ∈ wsL_law_r35, w ∈ lw_tbl := mem_ps _ [902, 903, 1243, 1244, 1245, 741, 742, 743, 744, 745, 746, 747, 748, 749, 750, 751, 752, 753, 754, 1246, 1247, 1248, 1249, 1250] (by decide +kernel)
set_option maxRecDepth 100000 in
theorem wL_wsL_law_r36 : ∀ w ∈ wsL_law_r36, w ∈ lw_tbl := mem_ps _ [755, 756, 757, 758, 759, 761, 24, 762, 763, 764, 765, 766, 767, 70, 768, 1251, 1252, 1253, 1254, 1255, 1257, 51, 1258, 907] (by decide +kernel)
set_option maxRecDepth 100000 in
theorem wL_wsL_law_r37 : ∀ w ∈ wsL_law_r37, w ∈ lw_tbl := mem_ps _ [1259, 1261, 52, 1262, 769, 770, 771, 772, 773, 774, 775, 776, 777, 778, 779, 1263, 1264, 1265, 1266, 780, 781, 782, 783, 784] (by decide +kernel)
set_option maxRecDepth 100000 in
theorem wL_wsL_law_r38 : ∀ w ∈ wsL_law_r38, w ∈ lw_tbl := mem_ps _ [785, 787, 25, 788, 801, 789, 790, 791, 792, 251, 793, 795, 26, 796, 797, 798, 799, 800, 802, 803, 804, 805, 806, 807] (by decide +kernel)
set_option maxRecDepth 100000 in
theorem wL_wsL_law_r39 : ∀ w ∈ wsL_law_r39, w ∈ lw_tbl := mem_ps _ [808, 809, 810, 811, 813, 27, 814, 1267, 1268, 1269, 1270, 1271, 909, 1276, 1272, 1274, 53, 1275, 1277, 1279, 54, 1280, 815, 816] (by decide +kernel)
set_option maxRecDepth 100000 in
theorem wL_wsL_law_r40 : ∀ w ∈ wsL_law_r40, w ∈ lw_tbl := mem_ps _ [817, 818, 1281, 1282, 1283, 1284, 1285, 819, 820, 821, 822, 823, 824, 825, 1286, 1287, 1288, 1289, 826, 827, 828, 829, 830, 832] (by decide +kernel)
set_option maxRecDepth 100000 in
theorem wL_wsL_law_r41 : ∀ w ∈ wsL_law_r41, w ∈ lw_tbl := mem_ps _ [28, 833, 1290, 1291, 1292, 1293, 834, 835, 836, 837, 838, 840, 29, 841, 842, 844, 30, 845, 1294, 1295, 1296, 1297] (by decide +kernel)
set_option maxRecDepth 100000 in
theorem wL_wsX110 : ∀ w ∈ wsX110, w ∈ lw_tbl := mem_ps _ [305, 307, 309, 311, 313, 315, 317, 319, 321, 323] (by decide +kernel)
set_option maxRecDepth 100000 in
theorem wL_wsX120 : ∀ w ∈ wsX120, w ∈ lw_tbl := mem_ps _ [910, 912, 914, 916, 918, 920, 922, 924, 926, 928, 930, 932, 934, 936, 938, 940, 942, 944, 946, 948, 950, 952, 954, 956, 958, 960, 962, 964, 966, 968, 970, 972, 974, 976, 978, 980, 982, 984, 986, 988, 990, 992, 994, 996, 998, 1000, 1002, 1004, 1006, 1008, 1010, 1012, 1014, 1016, 1018, 1020, 1022] (by decide +kernel)
set_option maxRecDepth 100000 in
theorem wL_wsX80 : ∀ w ∈ wsX80, w ∈ lw_tbl := mem_ps _ [95, 97, 99, 101] (by decide +kernel)
set_option maxRecDepth 100000 in
theorem wL_wsX90 : ∀ w ∈ wsX90, w ∈ lw_tbl := mem_ps _ [120, 122, 124, 126] (by decide +kernel)
set_option maxRecDepth 100000 in
theorem wL_wsX40 : ∀ w ∈ wsX40, w ∈ lw_tbl := mem_ps _ [150, 152, 154, 156, 158, 160, 162, 164, 166, 168, 170, 172] (by decide +kernel)
set_option maxRecDepth 100000 in
theorem wL_wsX00 : ∀ w ∈ wsX00, w ∈ lw_tbl := mem_ps _ [217, 219, 221, 223, 225, 227, 229, 231, 233, 235, 237, 239, 241] (by decide +kernel)
set_option maxRecDepth 100000 in
theorem wL_wsX20 : ∀ w ∈ wsX20, w ∈ lw_tbl := mem_ps _ [253, 255] (by decide +kernel)
set_option maxRecDepth 100000 in
theorem wL_wsX70 : ∀ w ∈ wsX70, w ∈ lw_tbl := mem_ps _ [268, 270, 272, 274] (by decide +kernel)
set_option maxRecDepth 100000 in
theorem wL_wsX100 : ∀ w ∈ wsX100, w ∈ lw_tbl := mem_ps _ [288, 290, 292] (by decide +kernel)
set_option maxRecDepth 100000 in
theorem wL_wsX50 : ∀ w ∈ wsX50, w ∈ lw_tbl := mem_ps _ [192, 194, 196, 198] (by decide +kernel)
theorem wsL_law_in : ∀ w ∈ wsL_law, w ∈ lw_tbl := (List.forall_mem_append.mpr ⟨(List.forall_mem_append.mpr ⟨(List.forall_mem_append.mpr ⟨(List.forall_mem_append.mpr ⟨(List.forall_mem_append.mpr ⟨(List.forall_mem_append.mpr ⟨(List.forall_mem_append.mpr ⟨(List.forall_mem_append.mpr ⟨(List.forall_mem_append.mpr ⟨(List.forall_mem_append.mpr ⟨(List.forall_mem_append.mpr ⟨(List.forall_mem_append.mpr ⟨wL_wsL_law_r1, (List.forall_mem_append.mpr ⟨wL_wsL_law_r2, (List.forall_mem_append.mpr ⟨wL_wsL_law_r3, (List.forall_mem_append.mpr ⟨wL_wsL_law_r4, (List.forall_mem_append.mpr ⟨wL_wsL_law_r5, (List.forall_mem_append.mpr ⟨wL_wsL_law_r6, (List.forall_mem_append.mpr ⟨wL_wsL_law_r7, (List.forall_mem_append.mpr ⟨wL_wsL_law_r8, (List.forall_mem_append.mpr ⟨wL_wsL_law_r9, (List.forall_mem_append.mpr ⟨wL_wsL_law_r10, (List.forall_mem_append.mpr ⟨wL_wsL_law_r11, (List.forall_mem_append.mpr ⟨wL_wsL_law_r12, (List.forall_mem_append.mpr ⟨wL_wsL_law_r13, (List.forall_mem_append.mpr ⟨wL_wsL_law_r14, (List.forall_mem_append.mpr ⟨wL_wsL_law_r15, (List.forall_mem_append.mpr ⟨wL_wsL_law_r16, (List.forall_mem_append.mpr ⟨wL_wsL_law_r17, (List.forall_mem_append.mpr ⟨wL_wsL_law_r18, (List.forall_mem_append.mpr ⟨wL_wsL_law_r19, (List.forall_mem_append.mpr ⟨wL_wsL_law_r20, (List.forall_mem_append.mpr ⟨wL_wsL_law_r21, (List.forall_mem_append.mpr ⟨wL_wsL_law_r22, (List.forall_mem_append.mpr ⟨wL_wsL_law_r23, (List.forall_mem_append.mpr ⟨wL_wsL_law_r24, (List.forall_mem_append.mpr ⟨wL_wsL_law_r25, (List.forall_mem_append.mpr ⟨wL_wsL_law_r26, (List.forall_mem_append.mpr ⟨wL_wsL_law_r27, (List.forall_mem_append.mpr ⟨wL_wsL_law_r28, (List.forall_mem_append.mpr ⟨wL_wsL_law_r29, (List.forall_mem_append.mpr ⟨wL_wsL_law_r30, (List.forall_mem_append.mpr ⟨wL_wsL_law_r31, (List.forall_mem_append.mpr ⟨wL_wsL_law_r32, (List.forall_mem_append.mpr ⟨wL_wsL_law_r33, (List.forall_mem_append.mpr ⟨wL_wsL_law_r34, (List.forall_mem_append.mpr ⟨wL_wsL_law_r35, (List.forall_mem_append.mpr ⟨wL_wsL_law_r36, (List.forall_mem_append.mpr ⟨wL_wsL_law_r37, (List.forall_mem_append.mpr ⟨wL_wsL_law_r38, (List.forall_mem_append.mpr ⟨wL_wsL_law_r39, (List.forall_mem_append.mpr ⟨wL_wsL_law_r40, wL_wsL_law_r41⟩)⟩)⟩)⟩)⟩)⟩)⟩)⟩)⟩)⟩)⟩)⟩)⟩)⟩)⟩)⟩)⟩)⟩)⟩)⟩)⟩)⟩)⟩)⟩)⟩)⟩)⟩)⟩)⟩)⟩)⟩)⟩)⟩)⟩)⟩)⟩)⟩)⟩)⟩)⟩), wL_wsX110⟩), wL_wsX120⟩), wL_wsX80⟩), wL_wsX90⟩), wL_wsX40⟩), wL_wsX00⟩), wL_wsX20⟩), wL_wsX70⟩), wL_wsX100⟩), wL_wsX50⟩), (fun _ h => absurd h List.not_mem_nil)⟩)
