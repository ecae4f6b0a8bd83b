/-! ===== the walk's words are the tables' ===== -/
def zIsC : Cond → Bool
  | .code .. => true
  | .codeWith .. => true
  | _ => false
theorem zPl {big ws : List Cond} (ps pn : List Nat) (hp : ws.filter zIsC = ps.filterMap (fun i => big[i]?)) (hn : pn.map (fun i => big[i]?) = (ws.filter (fun w => !zIsC w)).map some) : ∀ w ∈ ws, w ∈ big := by
  intro w hw
  by_cases hc : zIsC w = true
  · have h1 : w ∈ ws.filter zIsC := List.mem_filter.mpr ⟨hw, hc⟩
    rw [hp] at h1
    obtain ⟨i, -, hi⟩ := List.mem_filterMap.mp h1
    exact List.mem_of_getElem? hi
  · have h1 : w ∈ ws.filter (fun w => !zIsC w) := List.mem_filter.mpr ⟨hw, by simpa using hc⟩
    have h2 : some w ∈ (ws.filter (fun w => !zIsC w)).map some := List.mem_map.mpr ⟨w, h1, rfl⟩
    rw [← hn] at h2
    obtain ⟨i, _, hi⟩ := List.mem_map.mp h2
    exact List.mem_of_getElem? hi
set_option maxRecDepth 100000 in
theorem zl_0 : ∀ w ∈ zc_0, w ∈ lw_tbl := zPl [1233, 1220, 679, 673, 682, 927, 685, 657, 709, 1056, 1060, 706, 676, 82, 87] [680, 681, 58, 707, 708, 677, 678, 88, 81, 96, 89, 102, 103, 106, 84] rfl (by decide +kernel)
set_option maxRecDepth 100000 in
theorem zl_1 : ∀ w ∈ zc_1, w ∈ lw_tbl := zPl [101, 871, 304, 308, 314, 300, 876, 190] [46, 86, 107, 90, 309, 311, 310, 57, 108, 312, 313, 61, 301, 303, 1, 47, 305, 306, 307, 191, 192, 193] rfl (by decide +kernel)
set_option maxRecDepth 100000 in
theorem zl_2 : ∀ w ∈ zc_2, w ∈ lw_tbl := zPl [803, 811, 626, 610, 606, 727, 723, 779, 807, 953] [607, 608, 609, 728, 604, 605, 724, 624, 625, 725, 726, 52, 603, 808, 809, 810, 812, 777, 778, 853] rfl (by decide +kernel)
set_option maxRecDepth 100000 in
theorem zl_3 : ∀ w ∈ zc_3, w ∈ lw_tbl := zPl [852, 1438, 848, 150, 1373, 228, 325, 322, 614, 318] [854, 849, 851, 10, 151, 152, 155, 154, 323, 324, 67, 319, 226, 227, 320, 321, 611, 612, 613, 1089] rfl (by decide +kernel)
set_option maxRecDepth 100000 in
theorem zl_4 : ∀ w ∈ zc_4, w ∈ lw_tbl := zPl [1088, 816, 1098, 1093, 447, 443, 987, 996] [316, 317, 123, 122, 157, 156, 1094, 814, 815, 48, 1095, 1096, 1097, 448, 567, 566, 444, 445, 446, 62, 426, 994] rfl (by decide +kernel)
set_option maxRecDepth 100000 in
theorem zl_5 : ∀ w ∈ zc_5, w ∈ lw_tbl := zPl [993, 990, 983, 1115, 1111, 1121] [995, 64, 991, 992, 984, 985, 986, 988, 989, 63, 1116, 441, 442, 1117, 981, 982, 158, 1112, 1114, 29, 50, 1090, 1092, 25] rfl (by decide +kernel)
set_option maxRecDepth 100000 in
theorem zl_6 : ∀ w ∈ zc_6, w ∈ lw_tbl := zPl [1107, 1129, 1125, 1137, 762, 1145] [1108, 1110, 28, 1118, 1120, 30, 1126, 1128, 32, 1122, 1124, 31, 1104, 1106, 27, 1146, 761, 1131, 1134, 1136, 33, 1142, 1144, 34] rfl (by decide +kernel)
set_option maxRecDepth 100000 in
theorem zl_7 : ∀ w ∈ zc_7, w ∈ lw_tbl := zPl [1102, 1179, 1184, 391, 1176, 1172, 1168, 1163, 1159, 1063] [1180, 390, 1181, 1177, 1178, 1182, 1183, 1173, 1174, 1175, 1169, 1170, 1171, 1165, 1166, 1167, 1160, 1162, 38, 1217] rfl (by decide +kernel)
set_option maxRecDepth 100000 in
theorem zl_8 : ∀ w ∈ zc_8, w ∈ lw_tbl := zPl [1215, 646, 1224, 1048, 1228, 1155] [1062, 66, 643, 645, 4, 1229, 1047, 1156, 1158, 37, 1212, 1214, 39, 1218, 1219, 1221, 1222, 1223, 1225, 1227, 40, 1231, 1232, 1152] rfl (by decide +kernel)
set_option maxRecDepth 100000 in
theorem zl_9 : ∀ w ∈ zc_9, w ∈ lw_tbl := zPl [1151, 1084, 1267, 642, 907, 654, 755, 1294, 788] [1154, 36, 1085, 1086, 1087, 1099, 1101, 26, 1148, 1150, 35, 670, 640, 641, 669, 652, 653, 789, 705, 785, 786] rfl (by decide +kernel)
set_option maxRecDepth 100000 in
theorem zl_10 : ∀ w ∈ zc_10, w ∈ lw_tbl := zPl [784, 797, 668, 718, 713, 1377, 1392, 1388, 134, 1076] [787, 798, 782, 783, 799, 714, 672, 715, 716, 717, 719, 675, 1389, 1391, 43, 135, 129, 136, 137, 138] rfl (by decide +kernel)
set_option maxRecDepth 100000 in
theorem zl_11 : ∀ w ∈ zc_11, w ∈ lw_tbl := zPl [1350, 1080, 978, 974, 970, 1007, 966, 1013, 1022, 1017] [975, 977, 20, 49, 971, 973, 19, 979, 980, 967, 969, 18, 1004, 1006, 21, 1008, 1020, 1021, 1043, 1044] rfl (by decide +kernel)
set_option maxRecDepth 100000 in
theorem zl_12 : ∀ w ∈ zc_12, w ∈ lw_tbl := zPl [1041, 1036, 1029] [1037, 1038, 684, 1039, 1040, 1045, 656, 1046, 1052, 926, 1054, 1055, 1058, 1059, 1061, 1069, 1030, 963, 965, 17, 1032, 1033, 1035, 24, 1011, 1012, 1014] rfl (by decide +kernel)
set_option maxRecDepth 100000 in
theorem zl_13 : ∀ w ∈ zc_13, w ∈ lw_tbl := zPl [961, 174, 638, 635, 703, 831] [1016, 22, 1026, 1028, 23, 175, 177, 178, 176, 636, 637, 51, 651, 671, 700, 701, 702, 704, 923, 683, 925, 632, 633, 634] rfl (by decide +kernel)
set_option maxRecDepth 100000 in
theorem zl_14 : ∀ w ∈ zc_14, w ∈ lw_tbl := zPl [922, 631, 660, 688, 664, 650, 695] [639, 689, 691, 665, 666, 667, 674, 655, 658, 659, 686, 687, 661, 663, 6, 623, 627, 628, 630, 3, 647, 649, 5] rfl (by decide +kernel)
set_option maxRecDepth 100000 in
theorem zl_15 : ∀ w ∈ zc_15, w ∈ lw_tbl := zPl [622, 699, 1403, 1421, 944, 936, 120, 1362, 862] [693, 694, 710, 711, 712, 938, 940, 945, 939, 920, 921, 937, 941, 943, 15, 121, 863, 80, 83, 199, 97] rfl (by decide +kernel)
set_option maxRecDepth 100000 in
theorem zl_16 : ∀ w ∈ zc_16, w ∈ lw_tbl := zPl [79] [98, 200, 116, 117, 201, 130, 131, 202, 146, 147, 203, 170, 171, 204, 186, 187, 205, 99, 100, 119, 133, 148, 149, 172, 173, 189, 619, 620, 621] rfl (by decide +kernel)
set_option maxRecDepth 100000 in
theorem zl_17 : ∀ w ∈ zc_17, w ∈ lw_tbl := zPl [618, 224, 737] [696, 697, 698, 720, 721, 722, 229, 56, 225, 297, 298, 299, 315, 615, 617, 2, 45, 729, 739, 60, 738, 734, 736, 7, 752, 753, 754] rfl (by decide +kernel)
set_option maxRecDepth 100000 in
theorem zl_18 : ∀ w ∈ zc_18, w ∈ lw_tbl := zPl [733, 759, 1263, 774, 1272, 1259, 1282] [763, 59, 760, 766, 767, 1264, 1265, 1266, 780, 1260, 1262, 41, 772, 773, 1269, 1271, 42, 1274, 1275, 1283, 904, 905, 906] rfl (by decide +kernel)
set_option maxRecDepth 100000 in
theorem zl_19 : ∀ w ∈ zc_19, w ∈ lw_tbl := zPl [903, 1290, 771, 915, 899] [900, 902, 13, 1291, 1292, 1293, 776, 781, 825, 916, 917, 827, 918, 919, 928, 828, 829, 830, 909, 910, 911, 826, 912, 914, 14] rfl (by decide +kernel)
set_option maxRecDepth 100000 in
theorem zl_20 : ∀ w ∈ zc_20, w ∈ lw_tbl := zPl [838, 1317, 932, 824, 820, 793, 835] [836, 837, 933, 934, 935, 821, 823, 9, 794, 795, 796, 800, 801, 802, 804, 805, 806, 813, 817, 819, 8, 840, 950] rfl (by decide +kernel)
set_option maxRecDepth 100000 in
theorem zl_21 : ∀ w ∈ zc_21, w ∈ lw_tbl := zPl [949, 1434, 844, 1332, 1339, 1346] [951, 952, 1435, 1436, 1437, 845, 846, 847, 958, 959, 960, 1073, 1074, 1075, 1077, 1078, 1079, 1347, 1348, 1349, 859, 860, 861, 1359] rfl (by decide +kernel)
set_option maxRecDepth 100000 in
theorem zl_22 : ∀ w ∈ zc_22, w ∈ lw_tbl := zPl [1357, 1448, 1456, 858, 1474, 1369, 1384, 1399, 1410, 1417] [1360, 1361, 1081, 1082, 1083, 1370, 1371, 1372, 1374, 1375, 1376, 1385, 1386, 1387, 1400, 1401, 1402, 1418, 1419, 1420] rfl (by decide +kernel)
set_option maxRecDepth 100000 in
theorem zl_23 : ∀ w ∈ zc_23, w ∈ lw_tbl := zPl [867, 884, 890, 895, 957] [868, 869, 870, 873, 874, 875, 885, 891, 769, 770, 882, 883, 896, 897, 898, 881, 886, 791, 792, 887, 889, 11, 892, 894, 12] rfl (by decide +kernel)
set_option maxRecDepth 100000 in
theorem zl_24 : ∀ w ∈ zc_24, w ∈ lw_tbl := zPl [880] [929, 930, 931, 946, 947, 948, 954, 956, 16, 400, 401, 402, 403, 404, 406, 407, 408, 1542, 411, 1541, 1545, 481, 1544, 1540, 1543, 1539, 1546, 530, 522] rfl (by decide +kernel)
set_option maxRecDepth 100000 in
theorem zl_25 : ∀ w ∈ zc_25, w ∈ lw_tbl := zPl [1238, 1242] [355, 523, 525, 528, 529, 536, 515, 1239, 1243, 1247, 221, 222, 223, 1251, 730, 731, 732, 756, 757, 758, 1256, 1257, 1258, 1279, 1280, 1281, 1287, 1288] rfl (by decide +kernel)
set_option maxRecDepth 100000 in
theorem zl_26 : ∀ w ∈ zc_26, w ∈ lw_tbl := zPl [] [1289, 768, 1310, 1314, 1315, 1316, 1321, 1252, 790, 832, 833, 834, 1325, 1431, 1432, 1433, 841, 842, 843, 1329, 1330, 1331, 1336, 1337, 1338, 1343, 1344, 1345, 1354, 1355] rfl (by decide +kernel)
set_option maxRecDepth 100000 in
theorem zl_27 : ∀ w ∈ zc_27, w ∈ lw_tbl := zPl [] [1356, 1445, 1446, 1447, 1453, 1454, 1455, 1366, 1367, 1368, 1381, 1382, 1383, 1396, 1397, 1398, 1407, 1408, 1409, 1414, 1415, 1416, 864, 865, 866, 877, 878, 879, 1301, 1302] rfl (by decide +kernel)
set_option maxRecDepth 100000 in
theorem zl_28 : ∀ w ∈ zc_28, w ∈ lw_tbl := zPl [1303, 1250, 1255, 1278, 1286, 1306, 1309, 1313, 1320, 1324] [44, 1248, 1249, 1253, 1254, 1276, 1277, 1284, 1285, 1304, 1305, 1307, 1308, 1311, 1312, 1318, 1319, 1322, 1323, 1326] rfl (by decide +kernel)
set_option maxRecDepth 100000 in
theorem zl_29 : ∀ w ∈ zc_29, w ∈ lw_tbl := zPl [1328, 1335, 1342, 1353, 1365, 1380, 1395, 1406, 1413, 1424] [1327, 1333, 1334, 1340, 1341, 1351, 1352, 1363, 1364, 1378, 1379, 1393, 1394, 1404, 1405, 1411, 1412, 1422, 1423, 1425] rfl (by decide +kernel)
set_option maxRecDepth 100000 in
theorem zl_30 : ∀ w ∈ zc_30, w ∈ lw_tbl := zPl [1427, 1430, 1441, 1444, 1452, 1300, 1246, 1460, 1469] [1426, 1428, 1429, 1439, 1440, 1442, 1443, 1450, 1451, 75, 76, 77, 78, 1244, 1245, 1298, 1299, 855, 856, 857, 1470] rfl (by decide +kernel)
set_option maxRecDepth 100000 in
theorem zl_31 : ∀ w ∈ zc_31, w ∈ lw_tbl := zPl [1466] [1467, 1468, 1471, 1472, 1473, 1475, 1476, 1477, 1478, 1479, 1480, 1481, 1482, 1483, 1484, 1485, 1486, 1487, 1488, 1489, 1490, 1491, 1492, 1493, 1494, 1495, 1496, 1497, 1498] rfl (by decide +kernel)
set_option maxRecDepth 100000 in
theorem zl_32 : ∀ w ∈ zc_32, w ∈ lw_tbl := zPl [] [1499, 1500, 1501, 1502, 1503, 1504, 1505, 1506, 1507, 1508, 1509, 1510, 1511, 1512, 1513, 1514, 1515, 1516, 1517, 1518, 1519, 1520, 1521, 1522, 1523, 1524, 1525, 1526, 1527, 1464] rfl (by decide +kernel)
set_option maxRecDepth 100000 in
theorem zl_33 : ∀ w ∈ zc_33, w ∈ lw_tbl := zPl [1463, 1530, 1297] [1465, 1531, 1532, 1533, 1534, 1535, 1536, 1537, 1295, 1296, 1461, 1462, 1528, 1529, 1458, 1459, 1240, 1241, 1236, 1237] rfl (by decide +kernel)
