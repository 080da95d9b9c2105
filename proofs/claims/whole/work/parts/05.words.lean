/-! The words that the rows of part 03 name are words of the tables. -/
def clN (c : Nat) : Nat := ((vwCl[c]?).getD ("", TX0, 0)).2.2
def clT (c : Nat) : u_T := ((vwCl[c]?).getD ("", TX0, 0)).2.1
def clC (c : Nat) : String := ((vwCl[c]?).getD ("", TX0, 0)).1
def mNm (m : Nat) : MethodName := (aIs.getD m (yL_law, cL_law, 0, none)).1
def mBy (m : Nat) : ByteArray := (aIs.getD m (yL_law, cL_law, 0, none)).2.1
def gStx : List String := ["puppet string to times turned need rule up life or and not me pulls ", ";:+-*()[]=<>", " puppet string to times turned need rule up life or and not me pulls "]
def cN (c : Nat) : String := gCn.getD c ""
def fwC (q : Nat × Nat × Nat × Nat) : Cond := .fieldLink (cN q.1) q.2.1 (clT q.2.2.1 q.2.2.2).1 (clT q.2.2.1 q.2.2.2).2.1 (clT q.2.2.1 q.2.2.2).2.2.1
def mwC (q : Nat × Nat × Nat) : Cond := .methodLink (cN q.1) q.2.1 (mNm q.2.2)
def nwC (q : Nat × Nat × Nat) : Cond := .methodLinkNest (cN q.1) q.2.1 (mNm q.2.2) "StringHands"
def awC (q : Nat × Nat) : Cond := .methodLink (cN q.1) q.2 arraycopyName
def kwC (q : Nat × Nat × Int) : Cond := .constant (cN q.1) q.2.1 (Int32.ofInt q.2.2)
def klC (q : Nat × Nat × Int) : Cond := .constantLong (cN q.1) q.2.1 (Int64.ofInt q.2.2)
def swC (q : Nat × Nat × Nat) : Cond := .stringRef (cN q.1) q.2.1 (gStx.getD q.2.2 "")
/-- a method's own words -/
def cwC (m : Nat) : Cond := .code (mNm m) (mBy m) (mLc m) (mRt m)
def mSt (m : Nat) : Bool := (aNs.getD m ([], 0, false, 0, 0, 0, 0, 99)).2.2.1
def ywC (m : Nat) : Cond := if mSt m then .static (mNm m) else .instanceMethod (mNm m)
def vwC (m : Nat) : Cond := .selects (mNm m).cls (mNm m) (mNm m)
def iwC (m : Nat) : Cond := .initialized (mNm m).cls
theorem chunk_all {α : Type} {big : List Cond} (L : List α) (f : α → Cond) (n k : Nat) (hn : 0 < n) (hk : L.length ≤ n * k) (h : ∀ i, i < k → GoodIn big (((L.drop (n * i)).take n).map f)) : GoodIn big (L.map f) := by
  intro w hw
  obtain ⟨q, hq, rfl⟩ := List.mem_map.mp hw
  obtain ⟨j, hj⟩ := List.getElem?_of_mem hq
  have hlt : j < L.length := (List.getElem?_eq_some_iff.mp hj).1
  have h1 : j / n < k := Nat.div_lt_of_lt_mul (Nat.lt_of_lt_of_le hlt hk)
  refine h (j / n) h1 (f q) (List.mem_map.mpr ⟨q, ?_, rfl⟩)
  have e : n * (j / n) + j % n = j := Nat.div_add_mod j n
  have hm : j % n < n := Nat.mod_lt _ hn
  refine List.mem_of_getElem? (i := j % n) ?_
  rw [List.getElem?_take, if_pos hm, List.getElem?_drop, e]
  exact hj
theorem mem_r {big : List Cond} (ws : List Cond) (ps : List Nat) (hp : ws = ps.filterMap (fun i => big[i]?)) : ∀ w ∈ ws, w ∈ big := by
  intro w hw
  rw [hp] at hw
  obtain ⟨i, -, hi⟩ := List.mem_filterMap.mp hw
  exact List.mem_of_getElem? hi
set_option maxRecDepth 100000 in
set_option maxHeartbeats 4000000 in
theorem ok_FW_0 : GoodIn lw_tbl (((gFW.drop (20 * 0)).take 20).map fwC) := goodIn_r _ [603, 287, 1523, 1528, 1526, 289, 611, 294, 612, 605, 615, 196, 1531, 1530, 1534, 1527, 1532, 1536, 1535, 1537] rfl (by decide +kernel)
set_option maxRecDepth 100000 in
set_option maxHeartbeats 4000000 in
theorem ok_FW_1 : GoodIn lw_tbl (((gFW.drop (20 * 1)).take 20).map fwC) := goodIn_r _ [1524, 292, 545, 199, 211, 559, 202, 604, 340, 227, 566, 216, 221, 551, 562, 177, 608, 614, 616, 613] rfl (by decide +kernel)
set_option maxRecDepth 100000 in
set_option maxHeartbeats 4000000 in
theorem ok_FW_2 : GoodIn lw_tbl (((gFW.drop (20 * 2)).take 20).map fwC) := goodIn_r _ [342, 1557, 1540, 1541, 367, 365, 369, 1543, 1544, 361, 1542, 1545, 606, 411, 413, 415, 1546, 607, 442, 1547] rfl (by decide +kernel)
set_option maxRecDepth 100000 in
set_option maxHeartbeats 4000000 in
theorem ok_FW_3 : GoodIn lw_tbl (((gFW.drop (20 * 3)).take 20).map fwC) := goodIn_r _ [1548, 1549, 609, 1550, 1558, 1551, 1559, 482, 484, 1553, 1554, 610, 512, 1556, 514, 516, 1555, 590, 194, 1539] rfl (by decide +kernel)
set_option maxRecDepth 100000 in
set_option maxHeartbeats 4000000 in
theorem ok_FW_4 : GoodIn lw_tbl (((gFW.drop (20 * 4)).take 20).map fwC) := goodIn_r _ [617, 618, 619, 1525, 170, 187, 288, 286, 298, 290, 291, 293, 299, 300, 197, 169, 171, 183, 189, 191] rfl (by decide +kernel)
set_option maxRecDepth 100000 in
set_option maxHeartbeats 4000000 in
theorem ok_FW_5 : GoodIn lw_tbl (((gFW.drop (20 * 5)).take 20).map fwC) := goodIn_r _ [195, 220, 224, 229, 243, 198, 200, 204, 207, 214, 232, 235, 238, 241, 188, 544, 180, 547, 205, 554] rfl (by decide +kernel)
set_option maxRecDepth 100000 in
set_option maxHeartbeats 4000000 in
theorem ok_FW_6 : GoodIn lw_tbl (((gFW.drop (20 * 6)).take 20).map fwC) := goodIn_r _ [561, 564, 373, 1529, 1533, 339, 182, 548, 208, 556, 219, 215, 173, 546, 563, 192, 179, 549, 1552, 587] rfl (by decide +kernel)
set_option maxRecDepth 100000 in
set_option maxHeartbeats 4000000 in
theorem ok_FW_7 : GoodIn lw_tbl (((gFW.drop (20 * 7)).take 20).map fwC) := goodIn_r _ [341, 589, 593, 344, 363, 372, 370, 360, 362, 416, 410, 418, 412, 176, 441, 181, 555, 209, 172, 594] rfl (by decide +kernel)
set_option maxRecDepth 100000 in
set_option maxHeartbeats 4000000 in
theorem ok_FW_8 : GoodIn lw_tbl (((gFW.drop (20 * 8)).take 20).map fwC) := goodIn_r _ [485, 488, 175, 456, 457, 486, 487, 481, 483, 518, 513, 511, 591, 595, 295, 296, 297, 301, 178, 186] rfl (by decide +kernel)
set_option maxRecDepth 100000 in
set_option maxHeartbeats 4000000 in
theorem ok_FW_9 : GoodIn lw_tbl (((gFW.drop (20 * 9)).take 20).map fwC) := goodIn_r _ [206, 213, 218, 203, 244, 302, 303, 228, 231, 234, 237, 240, 190, 193, 225, 201, 1538, 565, 557, 210] rfl (by decide +kernel)
set_option maxRecDepth 100000 in
set_option maxHeartbeats 4000000 in
theorem ok_FW_10 : GoodIn lw_tbl (((gFW.drop (20 * 10)).take 20).map fwC) := goodIn_r _ [375, 550, 174, 558, 376, 374, 368, 371, 417, 414, 419, 185, 553, 212, 560, 222, 217, 226, 230, 552] rfl (by decide +kernel)
set_option maxRecDepth 100000 in
set_option maxHeartbeats 4000000 in
theorem ok_FW_11 : GoodIn lw_tbl (((gFW.drop (20 * 11)).take 20).map fwC) := goodIn_r _ [489, 452, 453, 454, 455, 458, 520, 588, 592, 519, 517, 515, 223, 236, 239, 242, 343, 184, 364, 366] rfl (by decide +kernel)
set_option maxRecDepth 100000 in
set_option maxHeartbeats 4000000 in
theorem ok_FW_12 : GoodIn lw_tbl (((gFW.drop (20 * 12)).take 20).map fwC) := goodIn_r _ [233] rfl (by decide +kernel)
theorem ok_FW : GoodIn lw_tbl (gFW.map fwC) := chunk_all _ _ 20 13 (by decide) (by decide +kernel) (fun i hi => match i, hi with
  | 0, _ => ok_FW_0
  | 1, _ => ok_FW_1
  | 2, _ => ok_FW_2
  | 3, _ => ok_FW_3
  | 4, _ => ok_FW_4
  | 5, _ => ok_FW_5
  | 6, _ => ok_FW_6
  | 7, _ => ok_FW_7
  | 8, _ => ok_FW_8
  | 9, _ => ok_FW_9
  | 10, _ => ok_FW_10
  | 11, _ => ok_FW_11
  | 12, _ => ok_FW_12
  | j + 13, h => absurd h (by omega))
set_option maxRecDepth 100000 in
set_option maxHeartbeats 4000000 in
theorem ok_MW_0 : GoodIn lw_tbl (((gMW.drop (20 * 0)).take 20).map mwC) := goodIn_r _ [655, 1636, 663, 1640, 920, 1738, 924, 1742, 968, 1782, 976, 1790, 988, 1802, 1006, 1813, 1019, 1826, 1024, 1834] rfl (by decide +kernel)
set_option maxRecDepth 100000 in
set_option maxHeartbeats 4000000 in
theorem ok_MW_1 : GoodIn lw_tbl (((gMW.drop (20 * 1)).take 20).map mwC) := goodIn_r _ [1032, 1842, 1036, 1846, 1052, 1866, 1056, 1871, 1083, 1890, 1087, 1894, 1100, 1908, 1104, 1912, 1122, 1929, 1144, 1942] rfl (by decide +kernel)
set_option maxRecDepth 100000 in
set_option maxHeartbeats 4000000 in
theorem ok_MW_2 : GoodIn lw_tbl (((gMW.drop (20 * 2)).take 20).map mwC) := goodIn_r _ [1160, 1946, 1164, 1950, 1168, 1954, 1176, 1958, 1180, 1962, 1208, 1971, 1216, 1979, 1238, 1987, 1258, 2003, 1266, 2011] rfl (by decide +kernel)
set_option maxRecDepth 100000 in
set_option maxHeartbeats 4000000 in
theorem ok_MW_3 : GoodIn lw_tbl (((gMW.drop (20 * 3)).take 20).map mwC) := goodIn_r _ [1274, 2015, 1290, 2023, 1294, 2027, 1320, 2048, 1346, 2056, 1350, 2060, 1392, 2068, 1411, 2083, 1419, 2088, 1444, 2105] rfl (by decide +kernel)
set_option maxRecDepth 100000 in
set_option maxHeartbeats 4000000 in
theorem ok_MW_4 : GoodIn lw_tbl (((gMW.drop (20 * 4)).take 20).map mwC) := goodIn_r _ [1452, 2109, 1460, 2113, 1472, 2117, 1484, 2124, 1488, 2128, 1497, 2133, 1504, 2140, 1508, 2144, 1512, 2148, 659, 667] rfl (by decide +kernel)
set_option maxRecDepth 100000 in
set_option maxHeartbeats 4000000 in
theorem ok_MW_5 : GoodIn lw_tbl (((gMW.drop (20 * 5)).take 20).map mwC) := goodIn_r _ [809, 901, 908, 916, 1644, 1647, 1669, 1677, 1673, 1690, 1694, 1698, 1734, 1686, 1682, 928, 932, 935, 939, 945] rfl (by decide +kernel)
set_option maxRecDepth 100000 in
set_option maxHeartbeats 4000000 in
theorem ok_MW_6 : GoodIn lw_tbl (((gMW.drop (20 * 6)).take 20).map mwC) := goodIn_r _ [1746, 1750, 1761, 1765, 1769, 972, 1786, 980, 1794, 1798, 992, 1000, 1806, 1810, 1010, 1818, 1023, 1754, 1830, 1028] rfl (by decide +kernel)
set_option maxRecDepth 100000 in
set_option maxHeartbeats 4000000 in
theorem ok_MW_7 : GoodIn lw_tbl (((gMW.drop (20 * 7)).take 20).map mwC) := goodIn_r _ [1838, 1040, 1044, 1850, 1854, 984, 1060, 1063, 1067, 1876, 1886, 1091, 1899, 1822, 1108, 1917, 1925, 1126, 1934, 1938] rfl (by decide +kernel)
set_option maxRecDepth 100000 in
set_option maxHeartbeats 4000000 in
theorem ok_MW_8 : GoodIn lw_tbl (((gMW.drop (20 * 8)).take 20).map mwC) := goodIn_r _ [1148, 1152, 1156, 1921, 1172, 1184, 1967, 1212, 1975, 1220, 1983, 1242, 1991, 1262, 2007, 1270, 1278, 1995, 1999, 2019] rfl (by decide +kernel)
set_option maxRecDepth 100000 in
set_option maxHeartbeats 4000000 in
theorem ok_MW_9 : GoodIn lw_tbl (((gMW.drop (20 * 9)).take 20).map mwC) := goodIn_r _ [1298, 1312, 2031, 2041, 1324, 2052, 1354, 2064, 1302, 996, 1306, 1396, 1403, 2036, 2072, 2079, 1415, 1423, 2092, 2097] rfl (by decide +kernel)
set_option maxRecDepth 100000 in
set_option maxHeartbeats 4000000 in
theorem ok_MW_10 : GoodIn lw_tbl (((gMW.drop (20 * 10)).take 20).map mwC) := goodIn_r _ [1448, 1456, 1464, 1476, 2121, 1492, 2152, 674, 677, 741, 813, 817, 825, 837, 853, 857, 893, 897, 821, 841] rfl (by decide +kernel)
set_option maxRecDepth 100000 in
set_option maxHeartbeats 4000000 in
theorem ok_MW_11 : GoodIn lw_tbl (((gMW.drop (20 * 11)).take 20).map mwC) := goodIn_r _ [913, 1651, 1655, 1658, 1665, 1663, 1664, 1702, 943, 949, 950, 1758, 1773, 1014, 1015, 1049, 1858, 1071, 1880, 1095] rfl (by decide +kernel)
set_option maxRecDepth 100000 in
set_option maxHeartbeats 4000000 in
theorem ok_MW_12 : GoodIn lw_tbl (((gMW.drop (20 * 12)).take 20).map mwC) := goodIn_r _ [1079, 1076, 1903, 1112, 1130, 1134, 1188, 1196, 1200, 1224, 1246, 1248, 1251, 1282, 1283, 1286, 1316, 2045, 1329, 1330] rfl (by decide +kernel)
set_option maxRecDepth 100000 in
set_option maxHeartbeats 4000000 in
theorem ok_MW_13 : GoodIn lw_tbl (((gMW.drop (20 * 13)).take 20).map mwC) := goodIn_r _ [1338, 1342, 1334, 1359, 1378, 1384, 1388, 1400, 1407, 2076, 1427, 1432, 2101, 1441, 1468, 1481, 1496, 681, 684, 745] rfl (by decide +kernel)
set_option maxRecDepth 100000 in
set_option maxHeartbeats 4000000 in
theorem ok_MW_14 : GoodIn lw_tbl (((gMW.drop (20 * 14)).take 20).map mwC) := goodIn_r _ [748, 829, 833, 845, 849, 861, 693, 703, 707, 1706, 1718, 954, 1777, 1862, 1082, 1116, 1120, 1135, 1192, 1193] rfl (by decide +kernel)
set_option maxRecDepth 100000 in
set_option maxHeartbeats 4000000 in
theorem ok_MW_15 : GoodIn lw_tbl (((gMW.drop (20 * 15)).take 20).map mwC) := goodIn_r _ [1204, 1229, 1234, 1255, 1363, 1366, 1374, 1437, 689, 699, 737, 752, 865, 889, 710, 1710, 958, 961, 1139, 1237] rfl (by decide +kernel)
set_option maxRecDepth 100000 in
set_option maxHeartbeats 4000000 in
theorem ok_MW_16 : GoodIn lw_tbl (((gMW.drop (20 * 16)).take 20).map mwC) := goodIn_r _ [1370, 756, 869, 715, 1714, 1722, 760, 761, 873, 1726, 764, 771, 877, 1730, 881, 885] rfl (by decide +kernel)
theorem ok_MW : GoodIn lw_tbl (gMW.map mwC) := chunk_all _ _ 20 17 (by decide) (by decide +kernel) (fun i hi => match i, hi with
  | 0, _ => ok_MW_0
  | 1, _ => ok_MW_1
  | 2, _ => ok_MW_2
  | 3, _ => ok_MW_3
  | 4, _ => ok_MW_4
  | 5, _ => ok_MW_5
  | 6, _ => ok_MW_6
  | 7, _ => ok_MW_7
  | 8, _ => ok_MW_8
  | 9, _ => ok_MW_9
  | 10, _ => ok_MW_10
  | 11, _ => ok_MW_11
  | 12, _ => ok_MW_12
  | 13, _ => ok_MW_13
  | 14, _ => ok_MW_14
  | 15, _ => ok_MW_15
  | 16, _ => ok_MW_16
  | j + 17, h => absurd h (by omega))
set_option maxRecDepth 100000 in
set_option maxHeartbeats 4000000 in
theorem ok_AW_0 : GoodIn lw_tbl (((gAW.drop (20 * 0)).take 20).map awC) := goodIn_r _ [905, 912, 1121, 1337] rfl (by decide +kernel)
theorem ok_AW : GoodIn lw_tbl (gAW.map awC) := chunk_all _ _ 20 1 (by decide) (by decide +kernel) (fun i hi => match i, hi with
  | 0, _ => ok_AW_0
  | j + 1, h => absurd h (by omega))
def bwC (q : Nat × Nat × Nat) : Cond := .methodLink (cN q.1) q.2.1 (if q.2.2 = 1 then Lib.Math.min.name else Lib.Math.max.name)
set_option maxRecDepth 100000 in
set_option maxHeartbeats 4000000 in
theorem ok_BW_0 : GoodIn lw_tbl (((gBW.drop (20 * 0)).take 20).map bwC) := goodIn_r _ [671, 1289, 1328, 1358, 1443, 1442, 1233, 1377, 1143, 767, 770] rfl (by decide +kernel)
theorem ok_BW : GoodIn lw_tbl (gBW.map bwC) := chunk_all _ _ 20 1 (by decide) (by decide +kernel) (fun i hi => match i, hi with
  | 0, _ => ok_BW_0
  | j + 1, h => absurd h (by omega))
set_option maxRecDepth 100000 in
theorem ok_MM : GoodIn lw_tbl [.code Lib.Math.min.name Lib.Math.min.code 2 (some .int), .code Lib.Math.max.name Lib.Math.max.code 2 (some .int), .static Lib.Math.min.name, .static Lib.Math.max.name, .initialized "java/lang/Math", .initialized "java/lang/System", .static arraycopyName, .native arraycopyName] := goodIn_r _ [673, 769, 672, 768, 139, 145, 906, 907] rfl (by decide +kernel)
set_option maxRecDepth 100000 in
set_option maxHeartbeats 4000000 in
theorem ok_KW_0 : GoodIn lw_tbl (((gKW.drop (20 * 0)).take 20).map kwC) := goodIn_r _ [1003, 1004, 1005, 1273, 1099, 1907, 965, 967] rfl (by decide +kernel)
theorem ok_KW : GoodIn lw_tbl (gKW.map kwC) := chunk_all _ _ 20 1 (by decide) (by decide +kernel) (fun i hi => match i, hi with
  | 0, _ => ok_KW_0
  | j + 1, h => absurd h (by omega))
set_option maxRecDepth 100000 in
set_option maxHeartbeats 4000000 in
theorem ok_KL_0 : GoodIn lw_tbl (((gKL.drop (20 * 0)).take 20).map klC) := goodIn_r _ [2156, 1817, 1870, 1875, 1898, 1916, 1933, 1966, 2087, 2132, 1501, 1502, 1503, 2137, 2138, 2139, 1681, 1884, 1885, 2035] rfl (by decide +kernel)
set_option maxRecDepth 100000 in
set_option maxHeartbeats 4000000 in
theorem ok_KL_1 : GoodIn lw_tbl (((gKL.drop (20 * 1)).take 20).map klC) := goodIn_r _ [1310, 1311, 2040, 2096, 1480, 1075, 1077, 1078, 1381, 1382, 1383, 1431, 1780, 1781, 964, 966] rfl (by decide +kernel)
theorem ok_KL : GoodIn lw_tbl (gKL.map klC) := chunk_all _ _ 20 2 (by decide) (by decide +kernel) (fun i hi => match i, hi with
  | 0, _ => ok_KL_0
  | 1, _ => ok_KL_1
  | j + 2, h => absurd h (by omega))
set_option maxRecDepth 100000 in
theorem ok_NW : ∀ w ∈ gNW.map nwC, w ∈ lw_tbl := mem_r _ [944, 1048, 1247, 1228, 1436] rfl
set_option maxRecDepth 100000 in
theorem ok_SW : ∀ w ∈ gSW.map swC, w ∈ lw_tbl := mem_r _ [1668, 1662, 688, 751] rfl
set_option maxRecDepth 100000 in
theorem ok_GW : GoodIn lw_tbl [.fieldLink "java/lang/String" 9 "java/lang/String" "value" "[B", .fieldLink "java/lang/String" 15 "java/lang/String" "coder" "B", .fieldLink "java/lang/String" 38 "java/lang/String" "COMPACT_STRINGS" "Z", .fieldLink "java/lang/String" 1053 "jdk/internal/util/Preconditions" "SIOOBE_FORMATTER" "Ljava/util/function/BiFunction;"] := goodIn_r _ [2157, 2158, 697, 713] rfl (by decide +kernel)
