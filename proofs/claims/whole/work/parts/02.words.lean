def zyn (k : Nat) : MethodName := (zmt.getD k (⟨"", "", ""⟩, ⟨#[]⟩, 0, none, 0, 0, 0)).1
def zwIni : List Cond := (List.range 8).map (fun ci => Cond.initialized (zcn ci))
set_option maxRecDepth 100000 in
theorem zwIni_p : zwIni = [102, 106, 105, 107, 104, 103, 101, 108].filterMap (fun i => lw_tbl[i]?) := rfl
def zwK (e : zMT) : List Cond := match e.2.2.2.2.2.1 with
  | 0 => [.static e.1]
  | 1 => [.instanceMethod e.1, .selects e.1.cls e.1 e.1]
  | _ => [.instanceMethod e.1]
def zwM0 : List Cond := zmt0.flatMap zwK
set_option maxRecDepth 100000 in
theorem zwM0_p : zwM0 = [122, 311, 312, 370, 371, 844, 845, 852, 853, 864, 865, 228, 551, 552, 564, 5, 581, 6, 651, 652, 601, 602, 607, 8, 620, 9, 634, 12, 630, 11, 624, 10, 639, 13, 216, 444, 445, 452, 460, 461, 464, 467, 468, 761, 762, 540, 4, 252, 697, 698, 718, 719, 722, 702, 14, 179, 475, 476, 471, 472, 481, 482, 485, 486, 611, 612, 489, 490, 494, 3, 497].filterMap (fun i => lw_tbl[i]?) := rfl
def zwM1 : List Cond := zmt1.flatMap zwK
set_option maxRecDepth 100000 in
theorem zwM1_p : zwM1 = [500, 501, 615, 616, 508, 509, 592, 593, 597, 7, 706, 707, 836, 837, 129, 315, 316, 330, 331, 358, 359, 326, 327, 387, 388, 342, 343, 391, 392, 338, 339, 558, 559, 514, 515, 411, 412, 543, 544, 587, 588, 567, 568, 576, 577, 571, 572, 346, 347, 322, 323, 350, 351, 415, 416, 424, 425, 334, 335, 354, 355, 366, 407, 408, 535, 536, 448, 449, 363, 2, 523, 524, 518, 519, 527, 528, 531, 532].filterMap (fun i => lw_tbl[i]?) := rfl
def zwM2 : List Cond := zmt2.flatMap zwK
set_option maxRecDepth 100000 in
theorem zwM2_p : zwM2 = [435, 436, 872, 873, 876, 877, 880, 881, 114, 299, 300, 379, 380, 304, 0, 383, 384, 402, 403, 419, 420, 431, 432, 440, 441, 547, 548, 642, 643, 647, 648, 656, 657, 660, 661, 664, 665, 669, 670, 673, 674, 677, 678, 683, 684, 689, 690, 693, 694, 710, 711, 714, 715, 728, 729, 732, 733, 736, 737, 740, 743, 746, 747, 757, 758, 751, 15, 765, 766, 769, 770, 773, 774, 777, 778, 788, 789].filterMap (fun i => lw_tbl[i]?) := rfl
def zwM3 : List Cond := zmt3.flatMap zwK
set_option maxRecDepth 100000 in
theorem zwM3_p : zwM3 = [794, 795, 782, 16, 798, 799, 803, 804, 808, 17, 812, 813, 817, 818, 821, 825, 828, 829, 833, 18, 840, 841, 848, 849, 856, 857, 860, 861, 868, 869, 308, 1, 395, 398, 504, 887, 1014, 1018, 23, 1046, 30, 1011, 22, 1062, 32, 1007, 21, 1066, 33, 1069, 1084, 1087, 1390, 86, 1103, 37, 1030, 26, 1081, 35, 1123, 41, 1119, 40, 1022, 24, 1003, 20, 1026, 25].filterMap (fun i => lw_tbl[i]?) := rfl
def zwM4 : List Cond := zmt4.flatMap zwK
set_option maxRecDepth 100000 in
theorem zwM4_p : zwM4 = [1034, 27, 999, 19, 1042, 29, 1050, 31, 994, 995, 1053, 1054, 1057, 1058, 1077, 34, 1072, 1073, 1095, 36, 1090, 1091, 1098, 1099, 1163, 1146, 1157, 1143, 46, 1154, 48, 1150, 47, 1160, 1139, 45, 1135, 44, 1131, 43, 1127, 42, 1115, 39, 1175, 51, 1171, 50, 1167, 49, 1111, 38, 1179, 52, 1106, 1107, 1182, 1183, 1235, 64, 1231, 63, 1191, 53, 1223, 61, 1219, 60, 1239, 65, 1227, 62, 1251, 68, 1215, 59].filterMap (fun i => lw_tbl[i]?) := rfl
def zwM5 : List Cond := zmt5.flatMap zwK
set_option maxRecDepth 100000 in
theorem zwM5_p : zwM5 = [1247, 67, 1207, 57, 1211, 58, 1203, 56, 1199, 55, 1186, 1187, 1255, 69, 1243, 66, 1195, 54, 1258, 1259, 1279, 73, 1295, 77, 1291, 76, 1283, 74, 1303, 79, 1299, 78, 1287, 75, 1271, 71, 1275, 72, 1307, 80, 1267, 70, 1262, 1263, 1310, 1311, 1314, 1315, 1318, 1319, 1322, 1323, 1326, 1327, 1330, 1331, 1334, 1335, 1350, 1347, 82, 1354, 83, 1343, 81, 1338, 1339, 1357, 1358, 1361, 1362, 1365, 1366, 1369, 1370, 1378, 84, 1373, 1374].filterMap (fun i => lw_tbl[i]?) := rfl
def zwM6 : List Cond := zmt6.flatMap zwK
set_option maxRecDepth 100000 in
theorem zwM6_p : zwM6 = [1386, 85, 1393, 1381, 1382, 1396, 1397, 1405, 87, 1400, 1401, 1408, 1409, 1412, 1413, 1416, 1417, 1425, 88, 1420, 1421, 1428, 1429, 1441, 90, 1445, 91, 1437, 89, 1432, 1433, 1448, 1449, 1452, 1453, 1456, 1457, 1473, 94, 1477, 95, 1465, 92, 1469, 93, 1460, 1461, 1038, 28, 1485, 96, 1480, 1481, 1488, 1489, 1492, 1493, 1496, 1497, 1505, 97, 1509, 98, 1513, 99, 1500, 1501].filterMap (fun i => lw_tbl[i]?) := rfl
def zwL (x : (Nat × Nat) × Nat) : Cond := .methodLink (zcn x.1.1) x.1.2 (zyn x.2)
def zwLN (x : (Nat × Nat) × Nat) : Cond := .methodLinkNest (zcn x.1.1) x.1.2 (zyn x.2) "BusRanges"
def zwF (x : (Nat × Nat) × Nat × Nat) : Cond := .fieldLink (zcn x.1.1) x.1.2 (zcn x.2.1) (zct x.2.1 x.2.2).2.1 (zct x.2.1 x.2.2).2.2.1
def zwC (x : (Nat × Nat) × Nat) : Cond := .classLink (zcn x.1.1) x.1.2 (zcn x.2)
def zwLk0 : List Cond := zlk_0.map zwL
set_option maxRecDepth 100000 in
theorem zwLk0_p : zwLk0 = [373, 374, 554, 555, 556, 557, 561, 562, 600, 599, 566, 570, 579, 584, 585, 586, 591, 654, 604, 605, 614, 618, 637, 609, 610, 622, 628, 632, 626, 627, 447, 451, 459, 513, 517, 526, 530, 538, 454, 463, 455, 456, 457, 466, 507, 470, 488, 499, 542, 700, 721, 726, 724, 725, 704, 705, 474, 478, 479, 480].filterMap (fun i => lw_tbl[i]?) := rfl
def zwLk1 : List Cond := zlk_1.map zwL
set_option maxRecDepth 100000 in
theorem zwLk1_p : zwLk1 = [484, 492, 496, 595, 329, 341, 438, 590, 574, 575, 410, 325, 414, 349, 337, 345, 357, 361, 365, 521, 522, 534, 121, 302, 306, 321, 333, 353, 368, 369, 386, 390, 394, 397, 400, 405, 406, 422, 423, 434, 443, 550, 645, 650, 310, 667, 680, 681, 686, 687, 696, 717, 739, 742, 749, 755, 760, 753, 754, 780].filterMap (fun i => lw_tbl[i]?) := rfl
def zwLk2 : List Cond := zlk_2.map zwL
set_option maxRecDepth 100000 in
theorem zwLk2_p : zwLk2 = [785, 786, 791, 792, 784, 801, 806, 810, 815, 820, 824, 823, 831, 835, 843, 851, 314, 863, 871, 875, 879, 883, 1013, 1016, 1009, 1083, 1064, 1028, 1121, 1005, 1020, 1001, 1024, 1032, 1044, 1048, 997, 1036, 1040, 1060, 1068, 1079, 1075, 1086, 1093, 1101, 1156, 1145, 1152, 1141, 1137, 1148, 1159, 1162, 1133, 1117, 1125, 1173, 1113, 1129].filterMap (fun i => lw_tbl[i]?) := rfl
def zwLk3 : List Cond := zlk_3.map zwL
set_option maxRecDepth 100000 in
theorem zwLk3_p : zwLk3 = [1165, 1169, 1177, 1109, 1221, 1229, 1233, 1237, 1213, 1217, 1249, 1225, 1205, 1209, 1201, 1189, 1193, 1241, 1245, 1253, 1197, 1293, 1289, 1297, 1277, 1281, 1285, 1301, 1269, 1273, 1305, 1265, 1349, 1345, 1352, 1341, 1376, 1384, 1388, 1392, 1403, 1423, 1435, 1439, 1443, 1471, 1475, 1463, 1467, 1483, 1503, 1507, 1511, 113, 886, 298, 993, 378, 1052, 382].filterMap (fun i => lw_tbl[i]?) := rfl
def zwLk4 : List Cond := zlk_4.map zwL
set_option maxRecDepth 100000 in
theorem zwLk4_p : zwLk4 = [1056, 401, 1071, 418, 1089, 430, 1097, 439, 1105, 659, 1181, 546, 1185, 641, 1257, 646, 1309, 655, 1261, 663, 1313, 668, 1317, 672, 1321, 676, 1325, 682, 1329, 688, 1333, 692, 1337, 709, 1356, 713, 1372, 793, 1411, 727, 1431, 731, 1447, 764, 1360, 768, 1364, 772, 1368, 745, 1380, 756, 1395, 776, 1399, 787, 1407, 797, 1415, 802].filterMap (fun i => lw_tbl[i]?) := rfl
def zwLk5 : List Cond := zlk_5.map zwL
set_option maxRecDepth 100000 in
theorem zwLk5_p : zwLk5 = [1419, 811, 1427, 735, 1451, 816, 1455, 827, 1459, 839, 1479, 847, 1487, 855, 1491, 859, 1495, 867, 1499].filterMap (fun i => lw_tbl[i]?) := rfl
def zwFl0 : List Cond := zfl_0.map zwF
set_option maxRecDepth 100000 in
theorem zwFl0_p : zwFl0 = [159, 160, 161, 163, 233, 234, 235, 236, 237, 197, 188, 192, 195, 185, 221, 142, 139, 198, 189, 184, 194, 257, 258, 260, 262, 187, 183, 182, 186, 190, 191, 193, 196, 140, 132, 133, 135, 136, 138, 143, 273, 274, 275, 276, 277, 278, 279, 280, 134, 144, 137, 141, 259, 261, 263, 162, 164, 890, 891, 893].filterMap (fun i => lw_tbl[i]?) := rfl
def zwFl1 : List Cond := zfl_1.map zwF
set_option maxRecDepth 100000 in
theorem zwFl1_p : zwFl1 = [894, 895, 896, 897, 898, 900, 903, 904, 905, 906, 907, 910, 911, 917, 918, 919, 920, 921, 892, 899, 901, 902, 908, 909, 912, 913, 914, 915, 916, 922, 923].filterMap (fun i => lw_tbl[i]?) := rfl
def zwCl : List Cond := zcl.map zwC
set_option maxRecDepth 100000 in
theorem zwCl_p : zwCl = [125, 231, 219, 255, 119, 174, 176, 213, 225, 249, 111, 884].filterMap (fun i => lw_tbl[i]?) := rfl
def zwIn : List Cond := (List.range 8).map (fun ci => Cond.instantiable (zcn ci) (zcN ci))
set_option maxRecDepth 100000 in
theorem zwIn_p : zwIn = [120, 226, 214, 250, 177, 127, 112, 885].filterMap (fun i => lw_tbl[i]?) := rfl
def zwU0 : List Cond := u_ws RX0 TX0 4
set_option maxRecDepth 100000 in
theorem zwU0_p : zwU0 = [165, 167, 169, 171].filterMap (fun i => lw_tbl[i]?) := rfl
def zwU1 : List Cond := u_ws RX1 TX1 5
set_option maxRecDepth 100000 in
theorem zwU1_p : zwU1 = [238, 240, 242, 244, 246].filterMap (fun i => lw_tbl[i]?) := rfl
def zwU2 : List Cond := u_ws RX2 TX2 1
set_option maxRecDepth 100000 in
theorem zwU2_p : zwU2 = [222].filterMap (fun i => lw_tbl[i]?) := rfl
def zwU3 : List Cond := u_ws RX3 TX3 4
set_option maxRecDepth 100000 in
theorem zwU3_p : zwU3 = [264, 266, 268, 270].filterMap (fun i => lw_tbl[i]?) := rfl
def zwU4 : List Cond := u_ws RX4 TX4 6
set_option maxRecDepth 100000 in
theorem zwU4_p : zwU4 = [199, 201, 203, 205, 207, 209].filterMap (fun i => lw_tbl[i]?) := rfl
def zwU5 : List Cond := u_ws RX5 TX5 6
set_option maxRecDepth 100000 in
theorem zwU5_p : zwU5 = [145, 147, 149, 151, 153, 155].filterMap (fun i => lw_tbl[i]?) := rfl
def zwU6 : List Cond := u_ws RX6 TX6 8
set_option maxRecDepth 100000 in
theorem zwU6_p : zwU6 = [281, 283, 285, 287, 289, 291, 293, 295].filterMap (fun i => lw_tbl[i]?) := rfl
def zwU7 : List Cond := u_ws RX7 TX7 34
set_option maxRecDepth 100000 in
theorem zwU7_p : zwU7 = [924, 926, 928, 930, 932, 934, 936, 938, 940, 942, 944, 946, 948, 950, 952, 954, 956, 958, 960, 962, 964, 966, 968, 970, 972, 974, 976, 978, 980, 982, 984, 986, 988, 990].filterMap (fun i => lw_tbl[i]?) := rfl
def znn (j : Nat) : MethodName := match j with
  | 0 => Lib.Math.max.name
  | 1 => Lib.Math.min.name
  | _ => arraycopyName
def zwNa (x : (Nat × Nat) × Nat) : Cond := .methodLink (zcn x.1.1) x.1.2 (znn x.2)
def zwNat : List Cond := zna.map zwNa
set_option maxRecDepth 100000 in
theorem zwNat_p : zwNat = [375, 636, 458, 512, 511, 318, 427].filterMap (fun i => lw_tbl[i]?) := rfl
def zwNat2 : List Cond := [.static Lib.Math.max.name, .static Lib.Math.min.name, .static arraycopyName, .native arraycopyName, .initialized "java/lang/Math", .initialized "java/lang/System", .instanceMethod Lib.objectInit, .arrayClass .int, .arrayClass .boolean]
set_option maxRecDepth 100000 in
theorem zwNat2_p : zwNat2 = [428, 376, 319, 320, 110, 109, 117, 158, 212].filterMap (fun i => lw_tbl[i]?) := rfl
def zwNat3 : List Cond := [.code Lib.Math.max.name Lib.Math.max.code 2 (some .int), .code Lib.Math.min.name Lib.Math.min.code 2 (some .int), .code Lib.objectInit ⟨#[0xb1]⟩ 1 none]
set_option maxRecDepth 100000 in
theorem zwNat3_p : zwNat3 = [429, 377, 118].filterMap (fun i => lw_tbl[i]?) := rfl
def zwOi : List Cond := zoi.map (fun x => Cond.methodLink (zcn x.1) x.2 Lib.objectInit)
set_option maxRecDepth 100000 in
theorem zwOi_p : zwOi = [124, 230, 218, 254, 181, 131, 116, 889].filterMap (fun i => lw_tbl[i]?) := rfl
def zwLkN : List Cond := zlkN.map zwLN
set_option maxRecDepth 100000 in
theorem zwLkN_p : zwLkN = [128, 232, 583, 220, 506, 256, 503, 175, 178, 215, 227, 251].filterMap (fun i => lw_tbl[i]?) := rfl
def zwAo : List Cond := [Cond.arrayOver (.object RX5)]
set_option maxRecDepth 100000 in
theorem zwAo_p : zwAo = [126].filterMap (fun i => lw_tbl[i]?) := rfl
def zgw : List Cond := zmt0.map zcw ++ (zmt1.map zcw ++ (zmt2.map zcw ++ (zmt3.map zcw ++ (zmt4.map zcw ++ (zmt5.map zcw ++ (zmt6.map zcw ++ (zwIni ++ (zwM0 ++ (zwM1 ++ (zwM2 ++ (zwM3 ++ (zwM4 ++ (zwM5 ++ (zwM6 ++ (zwLk0 ++ (zwLk1 ++ (zwLk2 ++ (zwLk3 ++ (zwLk4 ++ (zwLk5 ++ (zwFl0 ++ (zwFl1 ++ (zwCl ++ (zwIn ++ (zwU0 ++ (zwU1 ++ (zwU2 ++ (zwU3 ++ (zwU4 ++ (zwU5 ++ (zwU6 ++ (zwU7 ++ (zwNat ++ (zwNat2 ++ (zwNat3 ++ (zwOi))))))))))))))))))))))))))))))))))))
theorem zin_r {big : List Cond} (ws : List Cond) (ps : List Nat) (hp : ws = ps.filterMap (fun i => big[i]?)) : ∀ w ∈ ws, w ∈ big := by
  intro w hw
  rw [hp] at hw
  obtain ⟨i, -, hi⟩ := List.mem_filterMap.mp hw
  exact List.mem_of_getElem? hi
theorem zgw_in : ∀ w ∈ zgw, w ∈ lw_tbl := by
  unfold zgw
  refine List.forall_mem_append.mpr ⟨zin_r _ _ zmt0_p, ?_⟩
  refine List.forall_mem_append.mpr ⟨zin_r _ _ zmt1_p, ?_⟩
  refine List.forall_mem_append.mpr ⟨zin_r _ _ zmt2_p, ?_⟩
  refine List.forall_mem_append.mpr ⟨zin_r _ _ zmt3_p, ?_⟩
  refine List.forall_mem_append.mpr ⟨zin_r _ _ zmt4_p, ?_⟩
  refine List.forall_mem_append.mpr ⟨zin_r _ _ zmt5_p, ?_⟩
  refine List.forall_mem_append.mpr ⟨zin_r _ _ zmt6_p, ?_⟩
  refine List.forall_mem_append.mpr ⟨zin_r _ _ zwIni_p, ?_⟩
  refine List.forall_mem_append.mpr ⟨zin_r _ _ zwM0_p, ?_⟩
  refine List.forall_mem_append.mpr ⟨zin_r _ _ zwM1_p, ?_⟩
  refine List.forall_mem_append.mpr ⟨zin_r _ _ zwM2_p, ?_⟩
  refine List.forall_mem_append.mpr ⟨zin_r _ _ zwM3_p, ?_⟩
  refine List.forall_mem_append.mpr ⟨zin_r _ _ zwM4_p, ?_⟩
  refine List.forall_mem_append.mpr ⟨zin_r _ _ zwM5_p, ?_⟩
  refine List.forall_mem_append.mpr ⟨zin_r _ _ zwM6_p, ?_⟩
  refine List.forall_mem_append.mpr ⟨zin_r _ _ zwLk0_p, ?_⟩
  refine List.forall_mem_append.mpr ⟨zin_r _ _ zwLk1_p, ?_⟩
  refine List.forall_mem_append.mpr ⟨zin_r _ _ zwLk2_p, ?_⟩
  refine List.forall_mem_append.mpr ⟨zin_r _ _ zwLk3_p, ?_⟩
  refine List.forall_mem_append.mpr ⟨zin_r _ _ zwLk4_p, ?_⟩
  refine List.forall_mem_append.mpr ⟨zin_r _ _ zwLk5_p, ?_⟩
  refine List.forall_mem_append.mpr ⟨zin_r _ _ zwFl0_p, ?_⟩
  refine List.forall_mem_append.mpr ⟨zin_r _ _ zwFl1_p, ?_⟩
  refine List.forall_mem_append.mpr ⟨zin_r _ _ zwCl_p, ?_⟩
  refine List.forall_mem_append.mpr ⟨zin_r _ _ zwIn_p, ?_⟩
  refine List.forall_mem_append.mpr ⟨zin_r _ _ zwU0_p, ?_⟩
  refine List.forall_mem_append.mpr ⟨zin_r _ _ zwU1_p, ?_⟩
  refine List.forall_mem_append.mpr ⟨zin_r _ _ zwU2_p, ?_⟩
  refine List.forall_mem_append.mpr ⟨zin_r _ _ zwU3_p, ?_⟩
  refine List.forall_mem_append.mpr ⟨zin_r _ _ zwU4_p, ?_⟩
  refine List.forall_mem_append.mpr ⟨zin_r _ _ zwU5_p, ?_⟩
  refine List.forall_mem_append.mpr ⟨zin_r _ _ zwU6_p, ?_⟩
  refine List.forall_mem_append.mpr ⟨zin_r _ _ zwU7_p, ?_⟩
  refine List.forall_mem_append.mpr ⟨zin_r _ _ zwNat_p, ?_⟩
  refine List.forall_mem_append.mpr ⟨zin_r _ _ zwNat2_p, ?_⟩
  refine List.forall_mem_append.mpr ⟨zin_r _ _ zwNat3_p, ?_⟩
  exact zin_r _ _ zwOi_p
set_option maxRecDepth 100000 in
theorem zgw_good : zgw.all goodWord = true := by decide +kernel
theorem zwLkN_in : ∀ w ∈ zwLkN, w ∈ lw_tbl := zin_r _ _ zwLkN_p
theorem zwAo_in : ∀ w ∈ zwAo, w ∈ lw_tbl := zin_r _ _ zwAo_p
theorem zgw_ok : GoodIn lw_tbl zgw := fun w h => ⟨zgw_in w h, good_of_word (List.all_eq_true.mp zgw_good w h)⟩
