/-- the methods but the law -/
def mAll : List Nat := (List.range 318).map (· + 1)
/-- of them, those of objects -/
def mVirt : List Nat := [1, 2, 3, 4, 5, 6, 7, 8, 9, 10, 11, 12, 13, 14, 15, 16, 17, 18, 19, 20, 21, 22, 23, 24, 25, 26, 27, 28, 29, 30, 31, 32, 33, 34, 35, 36, 37, 38, 39, 40, 41, 42, 43, 44, 45, 46, 47, 48, 49, 50, 51, 52, 53, 54, 55, 56, 57, 58, 59, 60, 61, 62, 63, 64, 65, 66, 67, 68, 69, 70, 71, 72, 73, 74, 75, 76, 77, 78, 79, 80, 81, 82, 83, 84, 85, 86, 87, 88, 89, 90, 91, 92, 93, 94, 95, 96, 97, 98, 99, 100, 101, 102, 103, 104, 106, 107, 108, 109, 110, 111, 112, 113, 114, 115, 116, 118, 119, 120, 121, 122, 123, 124, 125, 126, 127, 128, 129, 130, 131, 133, 135, 136, 137, 138, 139, 140, 141, 142, 143, 144, 145, 146, 148, 149, 150, 151, 152, 153, 154, 155, 156, 157, 158, 159, 160, 161, 162, 163, 164, 165, 166, 167, 168, 169, 170, 171, 172, 173, 174, 175, 177, 178, 179, 180, 181, 182, 183, 184, 185, 186, 187, 188, 189, 190, 191, 192, 193, 194, 195, 196, 197, 198, 199, 200, 201, 202, 203, 204, 206, 207, 209, 210, 211, 212, 213, 214, 215, 216, 217, 218, 219, 220, 222, 224, 226, 227, 228, 229, 231, 233, 234, 235, 236, 238, 239, 240, 241, 242, 243, 244, 246, 249, 251, 252, 253, 255, 257, 258, 260, 262, 263, 264, 265, 269, 272, 273, 274, 275, 276, 277, 278, 280, 281, 282, 284, 285, 286, 288, 289, 292, 294, 295, 296, 297, 298, 300, 303, 304, 305, 306, 308, 309, 311, 312, 315, 316, 317, 318]
set_option maxRecDepth 100000 in
set_option maxHeartbeats 4000000 in
theorem ok_cw_0 : GoodIn lw_tbl (((mAll.drop (20 * 0)).take 20).map cwC) := goodIn_r _ [658, 1639, 666, 1643, 923, 1741, 927, 1745, 971, 1785, 979, 1793, 991, 1805, 1009, 1816, 1022, 1829, 1027, 1837] rfl (by decide +kernel)
set_option maxRecDepth 100000 in
set_option maxHeartbeats 4000000 in
theorem ok_cw_1 : GoodIn lw_tbl (((mAll.drop (20 * 1)).take 20).map cwC) := goodIn_r _ [1035, 1845, 1039, 1849, 1055, 1869, 1059, 1874, 1086, 1893, 1090, 1897, 1103, 1911, 1107, 1915, 1125, 1932, 1147, 1945] rfl (by decide +kernel)
set_option maxRecDepth 100000 in
set_option maxHeartbeats 4000000 in
theorem ok_cw_2 : GoodIn lw_tbl (((mAll.drop (20 * 2)).take 20).map cwC) := goodIn_r _ [1163, 1949, 1167, 1953, 1171, 1957, 1179, 1961, 1183, 1965, 1211, 1974, 1219, 1982, 1241, 1990, 1261, 2006, 1269, 2014] rfl (by decide +kernel)
set_option maxRecDepth 100000 in
set_option maxHeartbeats 4000000 in
theorem ok_cw_3 : GoodIn lw_tbl (((mAll.drop (20 * 3)).take 20).map cwC) := goodIn_r _ [1277, 2018, 1293, 2026, 1297, 2030, 1323, 2051, 1349, 2059, 1353, 2063, 1395, 2071, 1414, 2086, 1422, 2091, 1447, 2108] rfl (by decide +kernel)
set_option maxRecDepth 100000 in
set_option maxHeartbeats 4000000 in
theorem ok_cw_4 : GoodIn lw_tbl (((mAll.drop (20 * 4)).take 20).map cwC) := goodIn_r _ [1455, 2112, 1463, 2116, 1475, 2120, 1487, 2127, 1491, 2131, 1500, 2136, 1507, 2143, 1511, 2147, 1515, 2151, 662, 670] rfl (by decide +kernel)
set_option maxRecDepth 100000 in
set_option maxHeartbeats 4000000 in
theorem ok_cw_5 : GoodIn lw_tbl (((mAll.drop (20 * 5)).take 20).map cwC) := goodIn_r _ [812, 904, 911, 919, 1646, 1650, 1672, 1680, 1676, 1693, 1697, 1701, 1737, 1689, 1685, 931, 934, 938, 942, 948] rfl (by decide +kernel)
set_option maxRecDepth 100000 in
set_option maxHeartbeats 4000000 in
theorem ok_cw_6 : GoodIn lw_tbl (((mAll.drop (20 * 6)).take 20).map cwC) := goodIn_r _ [1749, 1753, 1764, 1768, 1772, 975, 1789, 983, 1797, 1801, 995, 1002, 1809, 1812, 1013, 1821, 1018, 1757, 1833, 1031] rfl (by decide +kernel)
set_option maxRecDepth 100000 in
set_option maxHeartbeats 4000000 in
theorem ok_cw_7 : GoodIn lw_tbl (((mAll.drop (20 * 7)).take 20).map cwC) := goodIn_r _ [1841, 1043, 1047, 1853, 1857, 987, 1062, 1066, 1070, 1879, 1889, 1094, 1902, 1825, 1111, 1920, 1928, 1129, 1937, 1941] rfl (by decide +kernel)
set_option maxRecDepth 100000 in
set_option maxHeartbeats 4000000 in
theorem ok_cw_8 : GoodIn lw_tbl (((mAll.drop (20 * 8)).take 20).map cwC) := goodIn_r _ [1151, 1155, 1159, 1924, 1175, 1187, 1970, 1215, 1978, 1223, 1986, 1245, 1994, 1265, 2010, 1272, 1281, 1998, 2002, 2022] rfl (by decide +kernel)
set_option maxRecDepth 100000 in
set_option maxHeartbeats 4000000 in
theorem ok_cw_9 : GoodIn lw_tbl (((mAll.drop (20 * 9)).take 20).map cwC) := goodIn_r _ [1301, 1315, 2034, 2044, 1327, 2055, 1357, 2067, 1305, 999, 1309, 1399, 1406, 2039, 2075, 2082, 1418, 1426, 2095, 2100] rfl (by decide +kernel)
set_option maxRecDepth 100000 in
set_option maxHeartbeats 4000000 in
theorem ok_cw_10 : GoodIn lw_tbl (((mAll.drop (20 * 10)).take 20).map cwC) := goodIn_r _ [1451, 1459, 1467, 1479, 2123, 1495, 2155, 676, 680, 744, 816, 820, 828, 840, 856, 860, 896, 900, 824, 844] rfl (by decide +kernel)
set_option maxRecDepth 100000 in
set_option maxHeartbeats 4000000 in
theorem ok_cw_11 : GoodIn lw_tbl (((mAll.drop (20 * 11)).take 20).map cwC) := goodIn_r _ [915, 1654, 1657, 1661, 1667, 692, 702, 1705, 953, 1760, 1776, 1051, 1861, 1074, 1883, 1098, 1081, 1906, 1115, 1133] rfl (by decide +kernel)
set_option maxRecDepth 100000 in
set_option maxHeartbeats 4000000 in
theorem ok_cw_12 : GoodIn lw_tbl (((mAll.drop (20 * 12)).take 20).map cwC) := goodIn_r _ [1191, 1199, 1203, 1227, 1250, 1254, 1285, 1288, 1319, 2047, 1333, 1341, 1345, 1336, 1362, 1380, 1387, 1391, 1402, 1410] rfl (by decide +kernel)
set_option maxRecDepth 100000 in
set_option maxHeartbeats 4000000 in
theorem ok_cw_13 : GoodIn lw_tbl (((mAll.drop (20 * 13)).take 20).map cwC) := goodIn_r _ [2078, 1430, 1435, 2104, 1471, 1483, 1365, 683, 687, 747, 750, 832, 836, 848, 852, 864, 696, 706, 709, 1709] rfl (by decide +kernel)
set_option maxRecDepth 100000 in
set_option maxHeartbeats 4000000 in
theorem ok_cw_14 : GoodIn lw_tbl (((mAll.drop (20 * 14)).take 20).map cwC) := goodIn_r _ [1721, 957, 1779, 1865, 1119, 1138, 1195, 1207, 1232, 1236, 1257, 1369, 1376, 1440, 740, 755, 868, 892, 712, 1713] rfl (by decide +kernel)
set_option maxRecDepth 100000 in
set_option maxHeartbeats 4000000 in
theorem ok_cw_15 : GoodIn lw_tbl (((mAll.drop (20 * 15)).take 20).map cwC) := goodIn_r _ [960, 963, 1142, 1373, 759, 872, 717, 1717, 1725, 763, 876, 1729, 766, 773, 880, 1733, 884, 888] rfl (by decide +kernel)
theorem ok_cw : GoodIn lw_tbl (mAll.map cwC) := chunk_all _ _ 20 16 (by decide) (by decide +kernel) (fun i hi => match i, hi with
  | 0, _ => ok_cw_0
  | 1, _ => ok_cw_1
  | 2, _ => ok_cw_2
  | 3, _ => ok_cw_3
  | 4, _ => ok_cw_4
  | 5, _ => ok_cw_5
  | 6, _ => ok_cw_6
  | 7, _ => ok_cw_7
  | 8, _ => ok_cw_8
  | 9, _ => ok_cw_9
  | 10, _ => ok_cw_10
  | 11, _ => ok_cw_11
  | 12, _ => ok_cw_12
  | 13, _ => ok_cw_13
  | 14, _ => ok_cw_14
  | 15, _ => ok_cw_15
  | j + 16, h => absurd h (by omega))
set_option maxRecDepth 100000 in
set_option maxHeartbeats 4000000 in
theorem ok_yw_0 : GoodIn lw_tbl (((mAll.drop (20 * 0)).take 20).map ywC) := goodIn_r _ [656, 1637, 664, 1641, 921, 1739, 925, 1743, 969, 1783, 977, 1791, 989, 1803, 1007, 1814, 1020, 1827, 1025, 1835] rfl (by decide +kernel)
set_option maxRecDepth 100000 in
set_option maxHeartbeats 4000000 in
theorem ok_yw_1 : GoodIn lw_tbl (((mAll.drop (20 * 1)).take 20).map ywC) := goodIn_r _ [1033, 1843, 1037, 1847, 1053, 1867, 1057, 1872, 1084, 1891, 1088, 1895, 1101, 1909, 1105, 1913, 1123, 1930, 1145, 1943] rfl (by decide +kernel)
set_option maxRecDepth 100000 in
set_option maxHeartbeats 4000000 in
theorem ok_yw_2 : GoodIn lw_tbl (((mAll.drop (20 * 2)).take 20).map ywC) := goodIn_r _ [1161, 1947, 1165, 1951, 1169, 1955, 1177, 1959, 1181, 1963, 1209, 1972, 1217, 1980, 1239, 1988, 1259, 2004, 1267, 2012] rfl (by decide +kernel)
set_option maxRecDepth 100000 in
set_option maxHeartbeats 4000000 in
theorem ok_yw_3 : GoodIn lw_tbl (((mAll.drop (20 * 3)).take 20).map ywC) := goodIn_r _ [1275, 2016, 1291, 2024, 1295, 2028, 1321, 2049, 1347, 2057, 1351, 2061, 1393, 2069, 1412, 2084, 1420, 2089, 1445, 2106] rfl (by decide +kernel)
set_option maxRecDepth 100000 in
set_option maxHeartbeats 4000000 in
theorem ok_yw_4 : GoodIn lw_tbl (((mAll.drop (20 * 4)).take 20).map ywC) := goodIn_r _ [1453, 2110, 1461, 2114, 1473, 2118, 1485, 2125, 1489, 2129, 1498, 2134, 1505, 2141, 1509, 2145, 1513, 2149, 660, 668] rfl (by decide +kernel)
set_option maxRecDepth 100000 in
set_option maxHeartbeats 4000000 in
theorem ok_yw_5 : GoodIn lw_tbl (((mAll.drop (20 * 5)).take 20).map ywC) := goodIn_r _ [810, 902, 909, 917, 1645, 1649, 1671, 1679, 1675, 1692, 1696, 1700, 1736, 1688, 1684, 930, 933, 937, 940, 946] rfl (by decide +kernel)
set_option maxRecDepth 100000 in
set_option maxHeartbeats 4000000 in
theorem ok_yw_6 : GoodIn lw_tbl (((mAll.drop (20 * 6)).take 20).map ywC) := goodIn_r _ [1748, 1752, 1763, 1767, 1771, 974, 1788, 982, 1796, 1800, 994, 1001, 1808, 1811, 1011, 1820, 1016, 1756, 1832, 1029] rfl (by decide +kernel)
set_option maxRecDepth 100000 in
set_option maxHeartbeats 4000000 in
theorem ok_yw_7 : GoodIn lw_tbl (((mAll.drop (20 * 7)).take 20).map ywC) := goodIn_r _ [1840, 1041, 1045, 1852, 1856, 985, 1061, 1064, 1068, 1878, 1888, 1092, 1901, 1824, 1110, 1919, 1927, 1128, 1936, 1940] rfl (by decide +kernel)
set_option maxRecDepth 100000 in
set_option maxHeartbeats 4000000 in
theorem ok_yw_8 : GoodIn lw_tbl (((mAll.drop (20 * 8)).take 20).map ywC) := goodIn_r _ [1149, 1153, 1157, 1923, 1173, 1185, 1969, 1213, 1977, 1221, 1985, 1243, 1993, 1263, 2009, 1271, 1279, 1997, 2001, 2021] rfl (by decide +kernel)
set_option maxRecDepth 100000 in
set_option maxHeartbeats 4000000 in
theorem ok_yw_9 : GoodIn lw_tbl (((mAll.drop (20 * 9)).take 20).map ywC) := goodIn_r _ [1300, 1313, 2033, 2043, 1325, 2054, 1355, 2066, 1303, 997, 1307, 1397, 1404, 2038, 2074, 2081, 1416, 1425, 2094, 2099] rfl (by decide +kernel)
set_option maxRecDepth 100000 in
set_option maxHeartbeats 4000000 in
theorem ok_yw_10 : GoodIn lw_tbl (((mAll.drop (20 * 10)).take 20).map ywC) := goodIn_r _ [1449, 1457, 1465, 1477, 2122, 1493, 2154, 675, 679, 743, 814, 819, 827, 839, 855, 859, 895, 899, 823, 843] rfl (by decide +kernel)
set_option maxRecDepth 100000 in
set_option maxHeartbeats 4000000 in
theorem ok_yw_11 : GoodIn lw_tbl (((mAll.drop (20 * 11)).take 20).map ywC) := goodIn_r _ [914, 1653, 1656, 1660, 1666, 690, 700, 1704, 951, 1759, 1775, 1050, 1860, 1073, 1882, 1097, 1080, 1905, 1113, 1131] rfl (by decide +kernel)
set_option maxRecDepth 100000 in
set_option maxHeartbeats 4000000 in
theorem ok_yw_12 : GoodIn lw_tbl (((mAll.drop (20 * 12)).take 20).map ywC) := goodIn_r _ [1190, 1198, 1202, 1226, 1249, 1253, 1284, 1287, 1318, 2046, 1332, 1340, 1344, 1335, 1361, 1379, 1386, 1390, 1401, 1409] rfl (by decide +kernel)
set_option maxRecDepth 100000 in
set_option maxHeartbeats 4000000 in
theorem ok_yw_13 : GoodIn lw_tbl (((mAll.drop (20 * 13)).take 20).map ywC) := goodIn_r _ [2077, 1428, 1433, 2103, 1470, 1482, 1364, 682, 686, 746, 749, 831, 834, 847, 851, 863, 694, 704, 708, 1708] rfl (by decide +kernel)
set_option maxRecDepth 100000 in
set_option maxHeartbeats 4000000 in
theorem ok_yw_14 : GoodIn lw_tbl (((mAll.drop (20 * 14)).take 20).map ywC) := goodIn_r _ [1720, 956, 1778, 1864, 1118, 1137, 1194, 1206, 1231, 1235, 1256, 1368, 1375, 1439, 739, 753, 867, 890, 711, 1712] rfl (by decide +kernel)
set_option maxRecDepth 100000 in
set_option maxHeartbeats 4000000 in
theorem ok_yw_15 : GoodIn lw_tbl (((mAll.drop (20 * 15)).take 20).map ywC) := goodIn_r _ [959, 962, 1141, 1372, 757, 871, 716, 1716, 1724, 762, 875, 1728, 765, 772, 879, 1732, 883, 887] rfl (by decide +kernel)
theorem ok_yw : GoodIn lw_tbl (mAll.map ywC) := chunk_all _ _ 20 16 (by decide) (by decide +kernel) (fun i hi => match i, hi with
  | 0, _ => ok_yw_0
  | 1, _ => ok_yw_1
  | 2, _ => ok_yw_2
  | 3, _ => ok_yw_3
  | 4, _ => ok_yw_4
  | 5, _ => ok_yw_5
  | 6, _ => ok_yw_6
  | 7, _ => ok_yw_7
  | 8, _ => ok_yw_8
  | 9, _ => ok_yw_9
  | 10, _ => ok_yw_10
  | 11, _ => ok_yw_11
  | 12, _ => ok_yw_12
  | 13, _ => ok_yw_13
  | 14, _ => ok_yw_14
  | 15, _ => ok_yw_15
  | j + 16, h => absurd h (by omega))
set_option maxRecDepth 100000 in
set_option maxHeartbeats 4000000 in
theorem ok_iw_0 : GoodIn lw_tbl (((mAll.drop (20 * 0)).take 20).map iwC) := goodIn_r _ [126, 138, 126, 138, 126, 138, 126, 138, 126, 138, 126, 138, 126, 138, 126, 138, 126, 138, 126, 138] rfl (by decide +kernel)
set_option maxRecDepth 100000 in
set_option maxHeartbeats 4000000 in
theorem ok_iw_1 : GoodIn lw_tbl (((mAll.drop (20 * 1)).take 20).map iwC) := goodIn_r _ [126, 138, 126, 138, 126, 138, 126, 138, 126, 138, 126, 138, 126, 138, 126, 138, 126, 138, 126, 138] rfl (by decide +kernel)
set_option maxRecDepth 100000 in
set_option maxHeartbeats 4000000 in
theorem ok_iw_2 : GoodIn lw_tbl (((mAll.drop (20 * 2)).take 20).map iwC) := goodIn_r _ [126, 138, 126, 138, 126, 138, 126, 138, 126, 138, 126, 138, 126, 138, 126, 138, 126, 138, 126, 138] rfl (by decide +kernel)
set_option maxRecDepth 100000 in
set_option maxHeartbeats 4000000 in
theorem ok_iw_3 : GoodIn lw_tbl (((mAll.drop (20 * 3)).take 20).map iwC) := goodIn_r _ [126, 138, 126, 138, 126, 138, 126, 138, 126, 138, 126, 138, 126, 138, 126, 138, 126, 138, 126, 138] rfl (by decide +kernel)
set_option maxRecDepth 100000 in
set_option maxHeartbeats 4000000 in
theorem ok_iw_4 : GoodIn lw_tbl (((mAll.drop (20 * 4)).take 20).map iwC) := goodIn_r _ [126, 138, 126, 138, 126, 138, 126, 138, 126, 138, 126, 138, 126, 138, 126, 138, 126, 138, 127, 127] rfl (by decide +kernel)
set_option maxRecDepth 100000 in
set_option maxHeartbeats 4000000 in
theorem ok_iw_5 : GoodIn lw_tbl (((mAll.drop (20 * 5)).take 20).map iwC) := goodIn_r _ [127, 128, 136, 130, 138, 138, 138, 138, 138, 138, 138, 138, 138, 138, 138, 126, 126, 126, 129, 129] rfl (by decide +kernel)
set_option maxRecDepth 100000 in
set_option maxHeartbeats 4000000 in
theorem ok_iw_6 : GoodIn lw_tbl (((mAll.drop (20 * 6)).take 20).map iwC) := goodIn_r _ [138, 138, 138, 138, 138, 126, 138, 126, 138, 138, 126, 147, 138, 138, 129, 138, 136, 138, 138, 136] rfl (by decide +kernel)
set_option maxRecDepth 100000 in
set_option maxHeartbeats 4000000 in
theorem ok_iw_7 : GoodIn lw_tbl (((mAll.drop (20 * 7)).take 20).map iwC) := goodIn_r _ [138, 136, 133, 138, 138, 136, 126, 137, 129, 138, 138, 129, 138, 138, 126, 138, 138, 126, 138, 138] rfl (by decide +kernel)
set_option maxRecDepth 100000 in
set_option maxHeartbeats 4000000 in
theorem ok_iw_8 : GoodIn lw_tbl (((mAll.drop (20 * 8)).take 20).map iwC) := goodIn_r _ [130, 130, 130, 138, 130, 131, 138, 131, 138, 131, 138, 132, 138, 132, 138, 147, 132, 138, 138, 138] rfl (by decide +kernel)
set_option maxRecDepth 100000 in
set_option maxHeartbeats 4000000 in
theorem ok_iw_9 : GoodIn lw_tbl (((mAll.drop (20 * 9)).take 20).map iwC) := goodIn_r _ [126, 134, 138, 138, 134, 138, 133, 138, 134, 128, 134, 134, 134, 138, 138, 138, 130, 126, 138, 138] rfl (by decide +kernel)
set_option maxRecDepth 100000 in
set_option maxHeartbeats 4000000 in
theorem ok_iw_10 : GoodIn lw_tbl (((mAll.drop (20 * 10)).take 20).map iwC) := goodIn_r _ [135, 135, 135, 137, 138, 137, 138, 127, 127, 127, 128, 127, 127, 127, 127, 127, 127, 127, 127, 127] rfl (by decide +kernel)
set_option maxRecDepth 100000 in
set_option maxHeartbeats 4000000 in
theorem ok_iw_11 : GoodIn lw_tbl (((mAll.drop (20 * 11)).take 20).map iwC) := goodIn_r _ [146, 138, 138, 138, 138, 140, 140, 138, 129, 138, 138, 133, 138, 129, 138, 129, 129, 138, 130, 130] rfl (by decide +kernel)
set_option maxRecDepth 100000 in
set_option maxHeartbeats 4000000 in
theorem ok_iw_12 : GoodIn lw_tbl (((mAll.drop (20 * 12)).take 20).map iwC) := goodIn_r _ [131, 131, 131, 131, 132, 132, 132, 132, 134, 138, 134, 134, 134, 134, 133, 148, 133, 133, 134, 134] rfl (by decide +kernel)
set_option maxRecDepth 100000 in
set_option maxHeartbeats 4000000 in
theorem ok_iw_13 : GoodIn lw_tbl (((mAll.drop (20 * 13)).take 20).map iwC) := goodIn_r _ [138, 135, 135, 138, 135, 137, 146, 127, 127, 127, 127, 127, 128, 127, 127, 127, 140, 140, 141, 138] rfl (by decide +kernel)
set_option maxRecDepth 100000 in
set_option maxHeartbeats 4000000 in
theorem ok_iw_14 : GoodIn lw_tbl (((mAll.drop (20 * 14)).take 20).map iwC) := goodIn_r _ [138, 129, 138, 138, 130, 130, 131, 131, 131, 131, 132, 133, 133, 135, 127, 140, 127, 128, 140, 138] rfl (by decide +kernel)
set_option maxRecDepth 100000 in
set_option maxHeartbeats 4000000 in
theorem ok_iw_15 : GoodIn lw_tbl (((mAll.drop (20 * 15)).take 20).map iwC) := goodIn_r _ [129, 129, 130, 133, 140, 127, 142, 138, 138, 141, 127, 138, 141, 141, 127, 138, 127, 127] rfl (by decide +kernel)
theorem ok_iw : GoodIn lw_tbl (mAll.map iwC) := chunk_all _ _ 20 16 (by decide) (by decide +kernel) (fun i hi => match i, hi with
  | 0, _ => ok_iw_0
  | 1, _ => ok_iw_1
  | 2, _ => ok_iw_2
  | 3, _ => ok_iw_3
  | 4, _ => ok_iw_4
  | 5, _ => ok_iw_5
  | 6, _ => ok_iw_6
  | 7, _ => ok_iw_7
  | 8, _ => ok_iw_8
  | 9, _ => ok_iw_9
  | 10, _ => ok_iw_10
  | 11, _ => ok_iw_11
  | 12, _ => ok_iw_12
  | 13, _ => ok_iw_13
  | 14, _ => ok_iw_14
  | 15, _ => ok_iw_15
  | j + 16, h => absurd h (by omega))
set_option maxRecDepth 100000 in
set_option maxHeartbeats 4000000 in
theorem ok_vw_0 : GoodIn lw_tbl (((mVirt.drop (20 * 0)).take 20).map vwC) := goodIn_r _ [657, 1638, 665, 1642, 922, 1740, 926, 1744, 970, 1784, 978, 1792, 990, 1804, 1008, 1815, 1021, 1828, 1026, 1836] rfl (by decide +kernel)
set_option maxRecDepth 100000 in
set_option maxHeartbeats 4000000 in
theorem ok_vw_1 : GoodIn lw_tbl (((mVirt.drop (20 * 1)).take 20).map vwC) := goodIn_r _ [1034, 1844, 1038, 1848, 1054, 1868, 1058, 1873, 1085, 1892, 1089, 1896, 1102, 1910, 1106, 1914, 1124, 1931, 1146, 1944] rfl (by decide +kernel)
set_option maxRecDepth 100000 in
set_option maxHeartbeats 4000000 in
theorem ok_vw_2 : GoodIn lw_tbl (((mVirt.drop (20 * 2)).take 20).map vwC) := goodIn_r _ [1162, 1948, 1166, 1952, 1170, 1956, 1178, 1960, 1182, 1964, 1210, 1973, 1218, 1981, 1240, 1989, 1260, 2005, 1268, 2013] rfl (by decide +kernel)
set_option maxRecDepth 100000 in
set_option maxHeartbeats 4000000 in
theorem ok_vw_3 : GoodIn lw_tbl (((mVirt.drop (20 * 3)).take 20).map vwC) := goodIn_r _ [1276, 2017, 1292, 2025, 1296, 2029, 1322, 2050, 1348, 2058, 1352, 2062, 1394, 2070, 1413, 2085, 1421, 2090, 1446, 2107] rfl (by decide +kernel)
set_option maxRecDepth 100000 in
set_option maxHeartbeats 4000000 in
theorem ok_vw_4 : GoodIn lw_tbl (((mVirt.drop (20 * 4)).take 20).map vwC) := goodIn_r _ [1454, 2111, 1462, 2115, 1474, 2119, 1486, 2126, 1490, 2130, 1499, 2135, 1506, 2142, 1510, 2146, 1514, 2150, 661, 669] rfl (by decide +kernel)
set_option maxRecDepth 100000 in
set_option maxHeartbeats 4000000 in
theorem ok_vw_5 : GoodIn lw_tbl (((mVirt.drop (20 * 5)).take 20).map vwC) := goodIn_r _ [811, 903, 910, 918, 57, 60, 62, 61, 65, 66, 67, 76, 64, 63, 23, 24, 941, 947, 77, 78] rfl (by decide +kernel)
set_option maxRecDepth 100000 in
set_option maxHeartbeats 4000000 in
theorem ok_vw_6 : GoodIn lw_tbl (((mVirt.drop (20 * 6)).take 20).map vwC) := goodIn_r _ [80, 81, 82, 26, 84, 27, 85, 86, 28, 87, 1012, 88, 1017, 79, 90, 1030, 91, 1042, 1046, 92] rfl (by decide +kernel)
set_option maxRecDepth 100000 in
set_option maxHeartbeats 4000000 in
theorem ok_vw_7 : GoodIn lw_tbl (((mVirt.drop (20 * 7)).take 20).map vwC) := goodIn_r _ [93, 986, 1065, 1069, 96, 98, 1093, 99, 89, 31, 101, 103, 33, 104, 105, 1150, 1154, 1158, 102, 1174] rfl (by decide +kernel)
set_option maxRecDepth 100000 in
set_option maxHeartbeats 4000000 in
theorem ok_vw_8 : GoodIn lw_tbl (((mVirt.drop (20 * 8)).take 20).map vwC) := goodIn_r _ [1186, 106, 1214, 107, 1222, 108, 1244, 109, 1264, 112, 1280, 110, 111, 113, 43, 1314, 114, 116, 1326, 117] rfl (by decide +kernel)
set_option maxRecDepth 100000 in
set_option maxHeartbeats 4000000 in
theorem ok_vw_9 : GoodIn lw_tbl (((mVirt.drop (20 * 9)).take 20).map vwC) := goodIn_r _ [1356, 118, 1304, 998, 1308, 1398, 1405, 115, 119, 120, 1417, 54, 121, 122, 1450, 1458, 1466, 1478, 1494, 124] rfl (by decide +kernel)
set_option maxRecDepth 100000 in
set_option maxHeartbeats 4000000 in
theorem ok_vw_10 : GoodIn lw_tbl (((mVirt.drop (20 * 10)).take 20).map vwC) := goodIn_r _ [0, 3, 815, 4, 6, 8, 12, 13, 21, 22, 5, 9, 58, 59, 691, 701, 68, 952, 83, 94] rfl (by decide +kernel)
set_option maxRecDepth 100000 in
set_option maxHeartbeats 4000000 in
theorem ok_vw_11 : GoodIn lw_tbl (((mVirt.drop (20 * 11)).take 20).map vwC) := goodIn_r _ [29, 97, 30, 100, 1114, 1132, 36, 37, 38, 40, 42, 44, 45, 46, 47, 48, 51, 52, 53, 1429] rfl (by decide +kernel)
set_option maxRecDepth 100000 in
set_option maxHeartbeats 4000000 in
theorem ok_vw_12 : GoodIn lw_tbl (((mVirt.drop (20 * 12)).take 20).map vwC) := goodIn_r _ [1434, 123, 56, 1, 7, 835, 10, 11, 14, 695, 705, 69, 72, 25, 95, 32, 34, 39, 41, 49] rfl (by decide +kernel)
set_option maxRecDepth 100000 in
set_option maxHeartbeats 4000000 in
theorem ok_vw_13 : GoodIn lw_tbl (((mVirt.drop (20 * 13)).take 20).map vwC) := goodIn_r _ [55, 2, 754, 15, 891, 70, 35, 50, 758, 16, 71, 73, 17, 74, 18, 75, 19, 20] rfl (by decide +kernel)
theorem ok_vw : GoodIn lw_tbl (mVirt.map vwC) := chunk_all _ _ 20 14 (by decide) (by decide +kernel) (fun i hi => match i, hi with
  | 0, _ => ok_vw_0
  | 1, _ => ok_vw_1
  | 2, _ => ok_vw_2
  | 3, _ => ok_vw_3
  | 4, _ => ok_vw_4
  | 5, _ => ok_vw_5
  | 6, _ => ok_vw_6
  | 7, _ => ok_vw_7
  | 8, _ => ok_vw_8
  | 9, _ => ok_vw_9
  | 10, _ => ok_vw_10
  | 11, _ => ok_vw_11
  | 12, _ => ok_vw_12
  | 13, _ => ok_vw_13
  | j + 14, h => absurd h (by omega))
