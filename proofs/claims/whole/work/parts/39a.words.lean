/-! ===== the walk's words are the tables' ===== -/
def zIsC : Cond → Bool
  | .code .. => true
  | .codeWith .. => true
  | _ => false
theorem zPl {big ws : List Cond} (ps pn : List Nat) (hp : ws.filter zIsC = ps.filterMap (fun i => big[i]?)) (hn : pn.map (fun i => big[i]?) = (ws.filter (fun w => !zIsC w)).map some) : ∀ w ∈ ws, w ∈ big := by
  intro w hw
  by_cases hc : zIsC w = true
  · have h1 : w ∈ ws.filter zIsC := List.mem_filter.mpr ⟨hw, hc⟩
    rw [hp] at h1
    obtain ⟨i, -, hi⟩ := List.mem_filterMap.mp h1
    exact List.mem_of_getElem? hi
  · have h1 : w ∈ ws.filter (fun w => !zIsC w) := List.mem_filter.mpr ⟨hw, by simpa using hc⟩
    have h2 : some w ∈ (ws.filter (fun w => !zIsC w)).map some := List.mem_map.mpr ⟨w, h1, rfl⟩
    rw [← hn] at h2
    obtain ⟨i, _, hi⟩ := List.mem_map.mp h2
    exact List.mem_of_getElem? hi
set_option maxRecDepth 100000 in
theorem zl_0 : ∀ w ∈ zc_0, w ∈ lw_tbl := zPl [846, 824, 931, 934, 1004, 1024, 1018, 1007, 901, 1127, 1131, 898, 1214, 139, 144] [1019, 1003, 129, 899, 900, 1215, 930, 145, 138, 153, 146, 159, 160, 163, 141] rfl (by decide +kernel)
set_option maxRecDepth 100000 in
theorem zl_1 : ∀ w ∈ zc_1, w ∈ lw_tbl := zPl [158, 857, 1178, 433, 1174, 1504, 247, 909, 917, 875, 657] [102, 143, 164, 147, 1179, 436, 435, 114, 165, 1180, 432, 115, 1175, 1176, 1177, 248, 249, 250, 654] rfl (by decide +kernel)
set_option maxRecDepth 100000 in
theorem zl_2 : ∀ w ∈ zc_2, w ∈ lw_tbl := zPl [653, 1247, 1243, 905, 913, 1052, 1366] [655, 656, 1248, 651, 652, 1244, 873, 874, 1245, 1246, 108, 650, 914, 915, 916, 918, 903, 904, 1367, 1368, 1363, 1365, 41] rfl (by decide +kernel)
set_option maxRecDepth 100000 in
theorem zl_3 : ∀ w ∈ zc_3, w ∈ lw_tbl := zPl [1362, 1379, 207, 1443, 312, 318, 315, 661, 308, 304, 285] [208, 209, 212, 211, 316, 317, 116, 309, 310, 311, 313, 314, 658, 659, 660, 305, 306, 307, 180] rfl (by decide +kernel)
set_option maxRecDepth 100000 in
theorem zl_4 : ∀ w ∈ zc_4, w ∈ lw_tbl := zPl [670, 665, 475, 471, 696, 705, 702] [179, 214, 213, 666, 283, 284, 104, 667, 668, 669, 476, 614, 613, 472, 473, 474, 120, 454, 703, 704, 123, 700, 701] rfl (by decide +kernel)
set_option maxRecDepth 100000 in
theorem zl_5 : ∀ w ∈ zc_5, w ∈ lw_tbl := zPl [699, 692, 687, 683, 716] [693, 694, 695, 697, 698, 124, 688, 469, 470, 689, 690, 691, 215, 684, 686, 5, 106, 662, 664, 1, 680, 682, 4, 713, 715] rfl (by decide +kernel)
set_option maxRecDepth 100000 in
theorem zl_6 : ∀ w ∈ zc_6, w ∈ lw_tbl := zPl [679, 724, 720, 732, 743, 740, 674, 776, 781] [6, 721, 723, 8, 717, 719, 7, 676, 678, 3, 741, 742, 726, 729, 731, 9, 737, 739, 10, 777, 291] rfl (by decide +kernel)
set_option maxRecDepth 100000 in
theorem zl_7 : ∀ w ∈ zc_7, w ∈ lw_tbl := zPl [292, 773, 769, 765, 760, 756, 816, 812, 832] [778, 774, 775, 779, 780, 770, 771, 772, 766, 767, 768, 762, 763, 764, 757, 759, 14, 814, 815, 130, 829] rfl (by decide +kernel)
set_option maxRecDepth 100000 in
theorem zl_8 : ∀ w ∈ zc_8, w ∈ lw_tbl := zPl [828, 839, 836, 752, 748] [831, 16, 837, 838, 753, 755, 13, 809, 811, 15, 822, 823, 825, 826, 827, 833, 835, 17, 844, 845, 749, 751, 12, 301, 302] rfl (by decide +kernel)
set_option maxRecDepth 100000 in
theorem zl_9 : ∀ w ∈ zc_9, w ∈ lw_tbl := zPl [300, 1286, 883, 993, 895, 1260, 1313, 891, 887] [303, 671, 673, 2, 745, 747, 11, 880, 881, 882, 892, 893, 894, 896, 897, 888, 889, 890, 884, 885, 886] rfl (by decide +kernel)
set_option maxRecDepth 100000 in
theorem zl_10 : ∀ w ∈ zc_10, w ∈ lw_tbl := zPl [879, 1211, 1238, 1233, 1447, 1462, 1458, 191, 1140, 1404, 1144, 1077] [902, 1234, 933, 1235, 1236, 1237, 1239, 1213, 1459, 1461, 42, 192, 186, 193, 194, 195, 1074, 1076] rfl (by decide +kernel)
set_option maxRecDepth 100000 in
theorem zl_11 : ∀ w ∈ zc_11, w ∈ lw_tbl := zPl [1073, 1069, 1083, 1065, 1089, 1098, 1093, 1117] [30, 105, 1070, 1072, 29, 1078, 1079, 1066, 1068, 28, 1080, 1082, 31, 1084, 1096, 1097, 1119, 1120, 1113, 1114, 1017, 1115] rfl (by decide +kernel)
set_option maxRecDepth 100000 in
theorem zl_12 : ∀ w ∈ zc_12, w ∈ lw_tbl := zPl [1112, 1105] [1116, 1121, 1006, 1122, 1123, 1023, 1125, 1126, 1129, 1130, 1132, 1133, 1106, 1062, 1064, 27, 1108, 1109, 1111, 34, 1087, 1088, 1090, 1092, 32, 1102, 1104, 33] rfl (by decide +kernel)
set_option maxRecDepth 100000 in
theorem zl_13 : ∀ w ∈ zc_13, w ∈ lw_tbl := zPl [1060, 231, 947, 1011, 944, 938, 1015, 1195, 1203] [232, 234, 235, 233, 945, 946, 107, 939, 940, 941, 942, 943, 948, 1020, 1016, 1022, 1025, 1009, 1010, 1036, 1219] rfl (by decide +kernel)
set_option maxRecDepth 100000 in
theorem zl_14 : ∀ w ∈ zc_14, w ∈ lw_tbl := zPl [1218, 1207, 1199, 1225, 1189] [1221, 1208, 1209, 1210, 1212, 1200, 1201, 1202, 1216, 1217, 1204, 1206, 38, 1190, 1191, 1192, 1194, 36, 1196, 1198, 37, 1223, 1224, 1230, 1231] rfl (by decide +kernel)
set_option maxRecDepth 100000 in
theorem zl_15 : ∀ w ∈ zc_15, w ∈ lw_tbl := zPl [1229, 1473, 1492, 1043, 1034, 177, 1416, 289] [1232, 1037, 1039, 1044, 1038, 1013, 1014, 1035, 1040, 1042, 25, 178, 290, 137, 140, 256, 154, 155, 103, 257, 173, 174] rfl (by decide +kernel)
set_option maxRecDepth 100000 in
theorem zl_16 : ∀ w ∈ zc_16, w ∈ lw_tbl := zPl [136] [258, 187, 188, 259, 203, 204, 260, 227, 228, 261, 243, 244, 262, 156, 157, 176, 190, 205, 206, 229, 230, 246, 1186, 1187, 1188, 1226, 1227, 1228, 1240] rfl (by decide +kernel)
set_option maxRecDepth 100000 in
theorem zl_17 : ∀ w ∈ zc_17, w ∈ lw_tbl := zPl [1185, 1153, 960, 1256] [1241, 1242, 1155, 113, 1154, 1171, 1172, 1173, 1181, 1182, 1184, 35, 101, 872, 962, 127, 961, 957, 959, 21, 1257, 1258, 1259, 869, 117, 1269] rfl (by decide +kernel)
set_option maxRecDepth 100000 in
theorem zl_18 : ∀ w ∈ zc_18, w ∈ lw_tbl := zPl [1268, 1282, 868, 1291, 1278, 1301, 989] [977, 1271, 1283, 1284, 1285, 923, 1279, 1281, 39, 866, 867, 1288, 1290, 40, 1293, 1294, 1302, 990, 991, 992, 986, 988, 23] rfl (by decide +kernel)
set_option maxRecDepth 100000 in
theorem zl_19 : ∀ w ∈ zc_19, w ∈ lw_tbl := zPl [1309, 956, 1001, 985, 1331, 1328] [1310, 1311, 1312, 975, 976, 928, 1002, 1005, 932, 1008, 1012, 1026, 935, 936, 937, 995, 996, 997, 929, 998, 1000, 24, 1329, 1330] rfl (by decide +kernel)
set_option maxRecDepth 100000 in
theorem zl_20 : ∀ w ∈ zc_20, w ∈ lw_tbl := zPl [1030, 927, 922, 865, 1347, 1048] [1031, 1032, 1033, 924, 926, 19, 876, 877, 878, 906, 907, 908, 910, 911, 912, 282, 919, 921, 18, 1145, 1049, 1050, 1051, 1359] rfl (by decide +kernel)
set_option maxRecDepth 100000 in
theorem zl_21 : ∀ w ∈ zc_21, w ∈ lw_tbl := zPl [1358, 1375, 1386, 1393, 1400, 1411, 1423] [1360, 1361, 1376, 1377, 1378, 1057, 1058, 1059, 1137, 1138, 1139, 1141, 1142, 1143, 1401, 1402, 1403, 286, 287, 288, 1413, 1414, 1415] rfl (by decide +kernel)
set_option maxRecDepth 100000 in
theorem zl_22 : ∀ w ∈ zc_22, w ∈ lw_tbl := zPl [1431, 281, 296, 1439, 1454, 1469, 1480, 1488] [297, 298, 299, 1440, 1441, 1442, 1444, 1445, 1446, 1455, 1456, 1457, 1470, 1471, 1472, 1481, 1489, 1490, 1491, 854, 855, 856] rfl (by decide +kernel)
set_option maxRecDepth 100000 in
theorem zl_23 : ∀ w ∈ zc_23, w ∈ lw_tbl := zPl [1499, 860, 952, 981, 1056] [1501, 1502, 1503, 861, 953, 954, 955, 858, 859, 982, 983, 984, 853, 862, 863, 864, 949, 951, 20, 978, 980, 22, 1027, 1028, 1029] rfl (by decide +kernel)
set_option maxRecDepth 100000 in
theorem zl_24 : ∀ w ∈ zc_24, w ∈ lw_tbl := zPl [852, 1509, 1575, 1583, 1609, 1591, 1579, 1594, 1598, 1638] [1045, 1046, 1047, 1053, 1055, 26, 1510, 1511, 1512, 1514, 1519, 1521, 1522, 1527, 1516, 1513, 1580, 1582, 43, 109] rfl (by decide +kernel)
set_option maxRecDepth 100000 in
theorem zl_25 : ∀ w ∈ zc_25, w ∈ lw_tbl := zPl [1606, 1627, 1650, 1669, 1662, 1666, 1587, 1602, 1619] [1607, 1608, 1603, 1605, 46, 1624, 1626, 47, 1595, 1597, 45, 1636, 1637, 1667, 1668, 1588, 1590, 44, 1592, 1593, 1617] rfl (by decide +kernel)
set_option maxRecDepth 100000 in
theorem zl_26 : ∀ w ∈ zc_26, w ∈ lw_tbl := zPl [1616, 1613, 1635, 1631, 1623, 1642, 1646, 1688, 1695, 1692, 1685] [1618, 1614, 1615, 1628, 1630, 48, 1632, 1634, 49, 1647, 1649, 50, 1686, 1687, 1693, 1694, 1689, 1691, 57] rfl (by decide +kernel)
set_option maxRecDepth 100000 in
theorem zl_27 : ∀ w ∈ zc_27, w ∈ lw_tbl := zPl [1699, 1681, 1707, 1703, 1711, 1658, 1654] [1682, 1684, 56, 1517, 1518, 1704, 1706, 60, 1659, 1661, 52, 1663, 1665, 53, 1655, 1657, 51, 1678, 1680, 55, 1696, 1698, 58] rfl (by decide +kernel)
set_option maxRecDepth 100000 in
theorem zl_28 : ∀ w ∈ zc_28, w ∈ lw_tbl := zPl [1677, 1673, 1715, 1727, 1723, 1719, 1751, 1739, 1743, 1747] [1700, 1702, 59, 1708, 1710, 61, 1674, 1676, 54, 1724, 1726, 63, 1720, 1722, 62, 1520, 1740, 1742, 66, 1515] rfl (by decide +kernel)
set_option maxRecDepth 100000 in
theorem zl_29 : ∀ w ∈ zc_29, w ∈ lw_tbl := zPl [1735, 1731, 1755, 1763, 1759, 1771, 1767, 1777, 1797] [1736, 1738, 65, 1744, 1746, 67, 1748, 1750, 68, 1732, 1734, 64, 1760, 1762, 69, 1772, 1773, 1768, 1770, 70, 1523] rfl (by decide +kernel)
set_option maxRecDepth 100000 in
theorem zl_30 : ∀ w ∈ zc_30, w ∈ lw_tbl := zPl [1793, 1801, 1789, 1805, 1817, 1813, 1809] [1790, 1792, 73, 1794, 1796, 74, 1798, 1800, 75, 1786, 1788, 72, 1802, 1804, 76, 1806, 1808, 77, 1810, 1812, 78, 1814, 1816] rfl (by decide +kernel)
set_option maxRecDepth 100000 in
theorem zl_31 : ∀ w ∈ zc_31, w ∈ lw_tbl := zPl [1785, 1781, 1821, 1825, 1829, 1833, 1837, 1841, 1857, 1861, 1869, 1865] [79, 1782, 1784, 71, 1525, 1524, 1854, 1856, 82, 1526, 1866, 1868, 85, 1528, 1858, 1860, 83, 1862] rfl (by decide +kernel)
set_option maxRecDepth 100000 in
theorem zl_32 : ∀ w ∈ zc_32, w ∈ lw_tbl := zPl [1877, 1881, 1893, 1905, 1901, 1897, 1889, 1885, 1873, 1909] [1864, 84, 1529, 1890, 1892, 91, 1902, 1904, 94, 1894, 1896, 92, 1898, 1900, 93, 1886, 1888, 90, 1870, 1872] rfl (by decide +kernel)
set_option maxRecDepth 100000 in
theorem zl_33 : ∀ w ∈ zc_33, w ∈ lw_tbl := zPl [1853, 1849, 1845, 1913, 1921, 1917, 1929] [86, 1874, 1876, 87, 1878, 1880, 88, 1882, 1884, 89, 1906, 1908, 95, 1850, 1852, 81, 1846, 1848, 80, 1918, 1920, 96, 1926] rfl (by decide +kernel)
set_option maxRecDepth 100000 in
theorem zl_34 : ∀ w ∈ zc_34, w ∈ lw_tbl := zPl [1925, 1933, 1937, 1946, 1951, 1941] [1928, 97, 1947, 1530, 1943, 1945, 98, 1942, 1948, 1950, 99, 424, 425, 426, 427, 428, 430, 431, 434, 1958, 439, 1957, 1961, 509] rfl (by decide +kernel)
set_option maxRecDepth 100000 in
theorem zl_35 : ∀ w ∈ zc_35, w ∈ lw_tbl := zPl [] [1960, 1956, 1959, 1955, 1962, 558, 550, 381, 551, 553, 556, 557, 564, 543, 1149, 1150, 1151, 1152, 1252, 1253, 1254, 1255, 1265, 1266, 1267, 1275, 1276, 1277, 1298, 1299] rfl (by decide +kernel)
set_option maxRecDepth 100000 in
theorem zl_36 : ∀ w ∈ zc_36, w ∈ lw_tbl := zPl [] [1300, 1306, 1307, 1308, 1317, 1321, 1325, 1326, 1327, 1336, 1264, 1340, 1344, 1345, 1346, 1351, 1355, 1356, 1357, 1372, 1373, 1374, 1383, 1384, 1385, 1390, 1391, 1392, 1397, 1398] rfl (by decide +kernel)
set_option maxRecDepth 100000 in
theorem zl_37 : ∀ w ∈ zc_37, w ∈ lw_tbl := zPl [] [1399, 1408, 1409, 1410, 1420, 1421, 1422, 1428, 1429, 1430, 1436, 1437, 1438, 1451, 1452, 1453, 1466, 1467, 1468, 1477, 1478, 1479, 1485, 1486, 1487, 1496, 1497, 1498, 132, 133] rfl (by decide +kernel)
set_option maxRecDepth 100000 in
theorem zl_38 : ∀ w ∈ zc_38, w ∈ lw_tbl := zPl [1148, 1251, 1263] [1505, 1506, 1952, 1953, 134, 135, 1507, 1508, 1146, 1147, 100, 1584, 1585, 1586, 1572, 1573, 1574, 1249, 1250, 1599, 1600, 1601, 1261, 1262, 1610, 1611, 1612] rfl (by decide +kernel)
set_option maxRecDepth 100000 in
theorem zl_39 : ∀ w ∈ zc_39, w ∈ lw_tbl := zPl [1274, 1297, 1305, 1316, 1320] [1272, 1273, 1620, 1621, 1622, 1295, 1296, 1639, 1640, 1641, 1303, 1304, 1643, 1644, 1645, 1314, 1315, 1651, 1652, 1653, 1318, 1319, 1670, 1671, 1672] rfl (by decide +kernel)
set_option maxRecDepth 100000 in
theorem zl_40 : ∀ w ∈ zc_40, w ∈ lw_tbl := zPl [1324, 1335, 1339, 1343, 1350] [1322, 1323, 1712, 1713, 1714, 1333, 1334, 1716, 1717, 1718, 1337, 1338, 1728, 1729, 1730, 1341, 1342, 1752, 1753, 1754, 1348, 1349, 1756, 1757, 1758] rfl (by decide +kernel)
set_option maxRecDepth 100000 in
theorem zl_41 : ∀ w ∈ zc_41, w ∈ lw_tbl := zPl [1354, 1371, 1382, 1389, 1396] [1352, 1353, 1764, 1765, 1766, 1369, 1370, 1774, 1775, 1776, 1380, 1381, 1778, 1779, 1780, 1387, 1388, 1818, 1819, 1820, 1394, 1395, 1822, 1823, 1824] rfl (by decide +kernel)
set_option maxRecDepth 100000 in
theorem zl_42 : ∀ w ∈ zc_42, w ∈ lw_tbl := zPl [1407, 1419, 1427] [1405, 1406, 1826, 1827, 1828, 1417, 1418, 1830, 1831, 1832, 1425, 1426, 1834, 1835, 1836, 278, 279, 280, 1838, 1839, 1840, 293, 294, 295, 1842, 1843, 1844] rfl (by decide +kernel)
set_option maxRecDepth 100000 in
theorem zl_43 : ∀ w ∈ zc_43, w ∈ lw_tbl := zPl [1435, 1450, 1465, 1476, 1484] [1433, 1434, 1910, 1911, 1912, 1448, 1449, 1914, 1915, 1916, 1463, 1464, 1922, 1923, 1924, 1474, 1475, 1930, 1931, 1932, 1482, 1483, 1934, 1935, 1936] rfl (by decide +kernel)
set_option maxRecDepth 100000 in
theorem zl_44 : ∀ w ∈ zc_44, w ∈ lw_tbl := zPl [1495] [1493, 1494, 1576, 1577, 1578, 849, 850, 851, 1938, 1939, 1940] rfl (by decide +kernel)
