/-! ===== the walk's words are the tables' ===== -/
def zIsC : Cond → Bool
  | .code .. => true
  | .codeWith .. => true
  | _ => false
theorem zPl {big ws : List Cond} (ps pn : List Nat) (hp : ws.filter zIsC = ps.filterMap (fun i => big[i]?)) (hn : pn.map (fun i => big[i]?) = (ws.filter (fun w => !zIsC w)).map some) : ∀ w ∈ ws, w ∈ big := by
  intro w hw
  by_cases hc : zIsC w = true
  · have h1 : w ∈ ws.filter zIsC := List.mem_filter.mpr ⟨hw, hc⟩
    rw [hp] at h1
    obtain ⟨i, -, hi⟩ := List.mem_filterMap.mp h1
    exact List.mem_of_getElem? hi
  · have h1 : w ∈ ws.filter (fun w => !zIsC w) := List.mem_filter.mpr ⟨hw, by simpa using hc⟩
    have h2 : some w ∈ (ws.filter (fun w => !zIsC w)).map some := List.mem_map.mpr ⟨w, h1, rfl⟩
    rw [← hn] at h2
    obtain ⟨i, _, hi⟩ := List.mem_map.mp h2
    exact List.mem_of_getElem? hi
set_option maxRecDepth 100000 in
theorem zl_0 : ∀ w ∈ zc_0, w ∈ lw_tbl := zPl [847, 825, 932, 935, 1005, 1025, 1019, 1008, 902, 1128, 1132, 899, 1219, 140, 145] [1020, 1004, 130, 900, 901, 1220, 931, 146, 139, 154, 147, 160, 161, 164, 142] rfl (by decide +kernel)
set_option maxRecDepth 100000 in
theorem zl_1 : ∀ w ∈ zc_1, w ∈ lw_tbl := zPl [159, 858, 1179, 1183, 434, 1175, 1508, 248] [103, 144, 165, 148, 1184, 437, 436, 115, 166, 1185, 433, 116, 1176, 1178, 35, 104, 1180, 1181, 1182, 249, 250, 251] rfl (by decide +kernel)
set_option maxRecDepth 100000 in
theorem zl_2 : ∀ w ∈ zc_2, w ∈ lw_tbl := zPl [910, 918, 876, 658, 654, 1252, 1248, 906, 914, 1053] [655, 656, 657, 1253, 652, 653, 1249, 874, 875, 1250, 1251, 109, 651, 915, 916, 917, 919, 904, 905, 1372] rfl (by decide +kernel)
set_option maxRecDepth 100000 in
theorem zl_3 : ∀ w ∈ zc_3, w ∈ lw_tbl := zPl [1371, 1367, 1384, 208, 1448, 313, 319, 316, 662, 309] [1373, 1368, 1370, 42, 209, 210, 213, 212, 317, 318, 117, 310, 311, 312, 314, 315, 659, 660, 661, 306] rfl (by decide +kernel)
set_option maxRecDepth 100000 in
theorem zl_4 : ∀ w ∈ zc_4, w ∈ lw_tbl := zPl [305, 286, 671, 666, 476, 472, 697, 706] [307, 308, 181, 180, 215, 214, 667, 284, 285, 105, 668, 669, 670, 477, 615, 614, 473, 474, 475, 121, 455, 704] rfl (by decide +kernel)
set_option maxRecDepth 100000 in
theorem zl_5 : ∀ w ∈ zc_5, w ∈ lw_tbl := zPl [703, 700, 693, 688, 684, 717] [705, 124, 701, 702, 694, 695, 696, 698, 699, 125, 689, 470, 471, 690, 691, 692, 216, 685, 687, 5, 107, 663, 665, 1] rfl (by decide +kernel)
set_option maxRecDepth 100000 in
theorem zl_6 : ∀ w ∈ zc_6, w ∈ lw_tbl := zPl [680, 725, 721, 733, 744, 741] [681, 683, 4, 714, 716, 6, 722, 724, 8, 718, 720, 7, 677, 679, 3, 742, 743, 727, 730, 732, 9, 738, 740, 10] rfl (by decide +kernel)
set_option maxRecDepth 100000 in
theorem zl_7 : ∀ w ∈ zc_7, w ∈ lw_tbl := zPl [675, 777, 782, 293, 774, 770, 766, 761, 757, 817] [778, 292, 779, 775, 776, 780, 781, 771, 772, 773, 767, 768, 769, 763, 764, 765, 758, 760, 14, 815] rfl (by decide +kernel)
set_option maxRecDepth 100000 in
theorem zl_8 : ∀ w ∈ zc_8, w ∈ lw_tbl := zPl [813, 833, 829, 840, 837, 753] [816, 131, 830, 832, 16, 838, 839, 754, 756, 13, 810, 812, 15, 823, 824, 826, 827, 828, 834, 836, 17, 845, 846, 750] rfl (by decide +kernel)
set_option maxRecDepth 100000 in
theorem zl_9 : ∀ w ∈ zc_9, w ∈ lw_tbl := zPl [749, 301, 1291, 884, 994, 896, 1265, 1318, 892] [752, 12, 302, 303, 304, 672, 674, 2, 746, 748, 11, 881, 882, 883, 893, 894, 895, 897, 898, 889, 890] rfl (by decide +kernel)
set_option maxRecDepth 100000 in
theorem zl_10 : ∀ w ∈ zc_10, w ∈ lw_tbl := zPl [888, 880, 1216, 1243, 1238, 1452, 1467, 1463, 192, 1141] [891, 885, 886, 887, 903, 1239, 934, 1240, 1241, 1242, 1244, 1218, 1464, 1466, 43, 193, 187, 194, 195, 196] rfl (by decide +kernel)
set_option maxRecDepth 100000 in
theorem zl_11 : ∀ w ∈ zc_11, w ∈ lw_tbl := zPl [1409, 1145, 1078, 1074, 1070, 1084, 1066, 1090, 1099, 1094] [1075, 1077, 30, 106, 1071, 1073, 29, 1079, 1080, 1067, 1069, 28, 1081, 1083, 31, 1085, 1097, 1098, 1120, 1121] rfl (by decide +kernel)
set_option maxRecDepth 100000 in
theorem zl_12 : ∀ w ∈ zc_12, w ∈ lw_tbl := zPl [1118, 1113, 1106] [1114, 1115, 1018, 1116, 1117, 1122, 1007, 1123, 1124, 1024, 1126, 1127, 1130, 1131, 1133, 1134, 1107, 1063, 1065, 27, 1109, 1110, 1112, 34, 1088, 1089, 1091] rfl (by decide +kernel)
set_option maxRecDepth 100000 in
theorem zl_13 : ∀ w ∈ zc_13, w ∈ lw_tbl := zPl [1061, 232, 948, 1012, 945, 939] [1093, 32, 1103, 1105, 33, 233, 235, 236, 234, 946, 947, 108, 940, 941, 942, 943, 944, 949, 1021, 1017, 1023, 1026, 1010, 1011] rfl (by decide +kernel)
set_option maxRecDepth 100000 in
theorem zl_14 : ∀ w ∈ zc_14, w ∈ lw_tbl := zPl [1016, 1200, 1208, 1223, 1212, 1204, 1230] [1037, 1224, 1226, 1213, 1214, 1215, 1217, 1205, 1206, 1207, 1221, 1222, 1209, 1211, 39, 1195, 1196, 1197, 1199, 37, 1201, 1203, 38] rfl (by decide +kernel)
set_option maxRecDepth 100000 in
theorem zl_15 : ∀ w ∈ zc_15, w ∈ lw_tbl := zPl [1194, 1234, 1478, 1496, 1044, 1035, 178, 1421, 290] [1228, 1229, 1235, 1236, 1237, 1038, 1040, 1045, 1039, 1014, 1015, 1036, 1041, 1043, 25, 179, 291, 138, 141, 257, 155] rfl (by decide +kernel)
set_option maxRecDepth 100000 in
theorem zl_16 : ∀ w ∈ zc_16, w ∈ lw_tbl := zPl [137] [156, 258, 174, 175, 259, 188, 189, 260, 204, 205, 261, 228, 229, 262, 244, 245, 263, 157, 158, 177, 191, 206, 207, 230, 231, 247, 1191, 1192, 1193] rfl (by decide +kernel)
set_option maxRecDepth 100000 in
theorem zl_17 : ∀ w ∈ zc_17, w ∈ lw_tbl := zPl [1190, 1154, 961] [1231, 1232, 1233, 1245, 1246, 1247, 1156, 114, 1155, 1172, 1173, 1174, 1186, 1187, 1189, 36, 102, 873, 963, 128, 962, 958, 960, 21, 1262, 1263, 1264] rfl (by decide +kernel)
set_option maxRecDepth 100000 in
theorem zl_18 : ∀ w ∈ zc_18, w ∈ lw_tbl := zPl [1261, 1273, 1287, 869, 1296, 1283, 1306] [870, 118, 1274, 978, 1276, 1288, 1289, 1290, 924, 1284, 1286, 40, 867, 868, 1293, 1295, 41, 1298, 1299, 1307, 991, 992, 993] rfl (by decide +kernel)
set_option maxRecDepth 100000 in
theorem zl_19 : ∀ w ∈ zc_19, w ∈ lw_tbl := zPl [990, 1314, 957, 1002, 986] [987, 989, 23, 1315, 1316, 1317, 976, 977, 929, 1003, 1006, 933, 1009, 1013, 1027, 936, 937, 938, 996, 997, 998, 930, 999, 1001, 24] rfl (by decide +kernel)
set_option maxRecDepth 100000 in
theorem zl_20 : ∀ w ∈ zc_20, w ∈ lw_tbl := zPl [1336, 1333, 1031, 928, 923, 866, 1352] [1334, 1335, 1032, 1033, 1034, 925, 927, 19, 877, 878, 879, 907, 908, 909, 911, 912, 913, 283, 920, 922, 18, 1146, 1050] rfl (by decide +kernel)
set_option maxRecDepth 100000 in
theorem zl_21 : ∀ w ∈ zc_21, w ∈ lw_tbl := zPl [1049, 1363, 1380, 1391, 1398, 1405] [1051, 1052, 1364, 1365, 1366, 1381, 1382, 1383, 1058, 1059, 1060, 1138, 1139, 1140, 1142, 1143, 1144, 1406, 1407, 1408, 287, 288, 289, 1418] rfl (by decide +kernel)
set_option maxRecDepth 100000 in
theorem zl_22 : ∀ w ∈ zc_22, w ∈ lw_tbl := zPl [1416, 1428, 1436, 282, 297, 1444, 1459, 1474, 1485, 1492] [1419, 1420, 298, 299, 300, 1445, 1446, 1447, 1449, 1450, 1451, 1460, 1461, 1462, 1475, 1476, 1477, 1493, 1494, 1495] rfl (by decide +kernel)
set_option maxRecDepth 100000 in
theorem zl_23 : ∀ w ∈ zc_23, w ∈ lw_tbl := zPl [1503, 861, 953, 982, 1057] [855, 856, 857, 1505, 1506, 1507, 862, 954, 955, 956, 859, 860, 983, 984, 985, 854, 863, 864, 865, 950, 952, 20, 979, 981, 22] rfl (by decide +kernel)
set_option maxRecDepth 100000 in
theorem zl_24 : ∀ w ∈ zc_24, w ∈ lw_tbl := zPl [853, 1513, 1579, 1587, 1613, 1595, 1583] [1028, 1029, 1030, 1046, 1047, 1048, 1054, 1056, 26, 1514, 1515, 1516, 1518, 1523, 1525, 1526, 1531, 1520, 1517, 1584, 1586, 44, 110] rfl (by decide +kernel)
set_option maxRecDepth 100000 in
theorem zl_25 : ∀ w ∈ zc_25, w ∈ lw_tbl := zPl [1598, 1602, 1642, 1610, 1631, 1654, 1673, 1666, 1670, 1591] [1611, 1612, 1607, 1609, 47, 1628, 1630, 48, 1599, 1601, 46, 1640, 1641, 1671, 1672, 1592, 1594, 45, 1596, 1597] rfl (by decide +kernel)
set_option maxRecDepth 100000 in
theorem zl_26 : ∀ w ∈ zc_26, w ∈ lw_tbl := zPl [1606, 1623, 1620, 1617, 1639, 1635, 1627, 1646, 1650, 1692, 1699, 1696] [1621, 1622, 1618, 1619, 1632, 1634, 49, 1636, 1638, 50, 1651, 1653, 51, 1690, 1691, 1697, 1698, 1693] rfl (by decide +kernel)
set_option maxRecDepth 100000 in
theorem zl_27 : ∀ w ∈ zc_27, w ∈ lw_tbl := zPl [1689, 1703, 1685, 1711, 1707, 1715, 1662, 1658] [1695, 58, 1686, 1688, 57, 1521, 1522, 1708, 1710, 61, 1663, 1665, 53, 1667, 1669, 54, 1659, 1661, 52, 1682, 1684, 56] rfl (by decide +kernel)
set_option maxRecDepth 100000 in
theorem zl_28 : ∀ w ∈ zc_28, w ∈ lw_tbl := zPl [1681, 1677, 1719, 1731, 1727, 1723, 1755, 1743, 1747] [1700, 1702, 59, 1704, 1706, 60, 1712, 1714, 62, 1678, 1680, 55, 1728, 1730, 64, 1724, 1726, 63, 1524, 1744, 1746] rfl (by decide +kernel)
set_option maxRecDepth 100000 in
theorem zl_29 : ∀ w ∈ zc_29, w ∈ lw_tbl := zPl [1751, 1739, 1735, 1759, 1767, 1763, 1775, 1771] [67, 1519, 1740, 1742, 66, 1748, 1750, 68, 1752, 1754, 69, 1736, 1738, 65, 1764, 1766, 70, 1776, 1777, 1772, 1774, 71] rfl (by decide +kernel)
set_option maxRecDepth 100000 in
theorem zl_30 : ∀ w ∈ zc_30, w ∈ lw_tbl := zPl [1781, 1801, 1797, 1805, 1793, 1809, 1821, 1817, 1813] [1527, 1794, 1796, 74, 1798, 1800, 75, 1802, 1804, 76, 1790, 1792, 73, 1806, 1808, 77, 1810, 1812, 78, 1814, 1816] rfl (by decide +kernel)
set_option maxRecDepth 100000 in
theorem zl_31 : ∀ w ∈ zc_31, w ∈ lw_tbl := zPl [1789, 1785, 1825, 1829, 1833, 1837, 1841, 1845, 1861, 1865, 1873, 1869] [79, 1818, 1820, 80, 1786, 1788, 72, 1529, 1528, 1858, 1860, 83, 1530, 1870, 1872, 86, 1532, 1862] rfl (by decide +kernel)
set_option maxRecDepth 100000 in
theorem zl_32 : ∀ w ∈ zc_32, w ∈ lw_tbl := zPl [1881, 1885, 1897, 1909, 1905, 1901, 1893, 1889, 1877] [1864, 84, 1866, 1868, 85, 1533, 1894, 1896, 92, 1906, 1908, 95, 1898, 1900, 93, 1902, 1904, 94, 1890, 1892, 91] rfl (by decide +kernel)
set_option maxRecDepth 100000 in
theorem zl_33 : ∀ w ∈ zc_33, w ∈ lw_tbl := zPl [1913, 1857, 1853, 1849, 1917, 1925] [1874, 1876, 87, 1878, 1880, 88, 1882, 1884, 89, 1886, 1888, 90, 1910, 1912, 96, 1854, 1856, 82, 1850, 1852, 81, 1922, 1924, 97] rfl (by decide +kernel)
set_option maxRecDepth 100000 in
theorem zl_34 : ∀ w ∈ zc_34, w ∈ lw_tbl := zPl [1921, 1933, 1929, 1937, 1941, 1950, 1955, 1945] [1930, 1932, 98, 1951, 1534, 1947, 1949, 99, 1946, 1952, 1954, 100, 425, 426, 427, 428, 429, 431, 432, 435, 1962, 440] rfl (by decide +kernel)
set_option maxRecDepth 100000 in
theorem zl_35 : ∀ w ∈ zc_35, w ∈ lw_tbl := zPl [] [1961, 1965, 510, 1964, 1960, 1963, 1959, 1966, 559, 551, 382, 552, 554, 557, 558, 565, 544, 1150, 1151, 1152, 1153, 1257, 1258, 1259, 1260, 1270, 1271, 1272, 1280, 1281] rfl (by decide +kernel)
set_option maxRecDepth 100000 in
theorem zl_36 : ∀ w ∈ zc_36, w ∈ lw_tbl := zPl [] [1282, 1303, 1304, 1305, 1311, 1312, 1313, 1322, 1326, 1330, 1331, 1332, 1341, 1269, 1345, 1349, 1350, 1351, 1356, 1360, 1361, 1362, 1377, 1378, 1379, 1388, 1389, 1390, 1395, 1396] rfl (by decide +kernel)
set_option maxRecDepth 100000 in
theorem zl_37 : ∀ w ∈ zc_37, w ∈ lw_tbl := zPl [] [1397, 1402, 1403, 1404, 1413, 1414, 1415, 1425, 1426, 1427, 1433, 1434, 1435, 1441, 1442, 1443, 1456, 1457, 1458, 1471, 1472, 1473, 1482, 1483, 1484, 1489, 1490, 1491, 1500, 1501] rfl (by decide +kernel)
set_option maxRecDepth 100000 in
theorem zl_38 : ∀ w ∈ zc_38, w ∈ lw_tbl := zPl [1149, 1256, 1268] [1502, 133, 134, 1509, 1510, 1956, 1957, 135, 136, 1511, 1512, 1147, 1148, 101, 1588, 1589, 1590, 1576, 1577, 1578, 1254, 1255, 1603, 1604, 1605, 1266, 1267] rfl (by decide +kernel)
set_option maxRecDepth 100000 in
theorem zl_39 : ∀ w ∈ zc_39, w ∈ lw_tbl := zPl [1279, 1302, 1310, 1321, 1325] [1614, 1615, 1616, 1277, 1278, 1624, 1625, 1626, 1300, 1301, 1643, 1644, 1645, 1308, 1309, 1647, 1648, 1649, 1319, 1320, 1655, 1656, 1657, 1323, 1324] rfl (by decide +kernel)
set_option maxRecDepth 100000 in
theorem zl_40 : ∀ w ∈ zc_40, w ∈ lw_tbl := zPl [1329, 1340, 1344, 1348, 1355] [1674, 1675, 1676, 1327, 1328, 1716, 1717, 1718, 1338, 1339, 1720, 1721, 1722, 1342, 1343, 1732, 1733, 1734, 1346, 1347, 1756, 1757, 1758, 1353, 1354] rfl (by decide +kernel)
set_option maxRecDepth 100000 in
theorem zl_41 : ∀ w ∈ zc_41, w ∈ lw_tbl := zPl [1359, 1376, 1387, 1394, 1401] [1760, 1761, 1762, 1357, 1358, 1768, 1769, 1770, 1374, 1375, 1778, 1779, 1780, 1385, 1386, 1782, 1783, 1784, 1392, 1393, 1822, 1823, 1824, 1399, 1400] rfl (by decide +kernel)
set_option maxRecDepth 100000 in
theorem zl_42 : ∀ w ∈ zc_42, w ∈ lw_tbl := zPl [1412, 1424, 1432] [1826, 1827, 1828, 1410, 1411, 1830, 1831, 1832, 1422, 1423, 1834, 1835, 1836, 1430, 1431, 1838, 1839, 1840, 279, 280, 281, 1842, 1843, 1844, 294, 295, 296] rfl (by decide +kernel)
set_option maxRecDepth 100000 in
theorem zl_43 : ∀ w ∈ zc_43, w ∈ lw_tbl := zPl [1440, 1455, 1470, 1481, 1488] [1846, 1847, 1848, 1438, 1439, 1914, 1915, 1916, 1453, 1454, 1918, 1919, 1920, 1468, 1469, 1926, 1927, 1928, 1479, 1480, 1934, 1935, 1936, 1486, 1487] rfl (by decide +kernel)
set_option maxRecDepth 100000 in
theorem zl_44 : ∀ w ∈ zc_44, w ∈ lw_tbl := zPl [1499] [1938, 1939, 1940, 1497, 1498, 1580, 1581, 1582, 850, 851, 852, 1942, 1943, 1944] rfl (by decide +kernel)
