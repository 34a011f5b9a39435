/-! the words of the tables, by their places (written by gen18.py) -/
def pFt : List (List Nat) := [[483, 484, 485, 486, 487, 489, 482, 267, 254, 259, 193], [289, 290, 291], [820, 819, 821], [251, 257, 263, 265, 268], [414, 415, 416, 417, 418, 419, 420, 421, 422, 423, 424, 425, 426, 427, 428, 429, 430, 432, 413, 412, 266, 253, 207, 192, 258, 196], [390, 391, 392, 389, 388, 205, 208], [335, 336, 337, 338, 339, 340, 341, 342, 343, 344, 345, 346, 348, 350, 317, 319, 262, 256], [514, 515, 516, 517, 537, 252, 191, 260, 200], [213, 186, 188, 190, 195, 198, 201, 209, 211, 212, 822, 203, 204, 206, 210], [312, 313, 314, 315, 316, 318], [534, 535, 536], [547, 548, 549, 550, 551, 552, 553, 554, 555, 556, 557, 558, 559, 560, 347, 351, 202, 349, 255, 261, 199, 194, 264, 292, 538, 431, 433, 197, 488, 490, 187, 189], [1451, 1452, 1453, 1454, 1455, 1465, 1467, 1468, 1469, 1472, 1473, 1474, 1475, 1476, 1477, 1478, 1479, 1480, 1481, 1456, 1459, 1457, 1458, 1460, 1461, 1462, 1463, 1466, 1464, 1470, 1471], [2099, 2098], [], [], [], [], [], []]
def pMt : List (List Nat) := [[481, 1383, 1385, 1386, 1387, 1391, 1392, 1393, 1394], [285, 288, 989, 990, 1025, 1028], [815, 816, 817, 818, 909, 914, 917], [250, 937, 928, 932, 933, 938, 942, 976, 977, 1008, 1051, 1052, 1053, 1054, 617], [410, 1087, 1088, 1089, 1096, 1101, 1105, 1100, 1109, 1114, 1118, 1119, 1113, 1133, 1137, 1161, 1141, 1145, 1150, 1156, 1149, 1155, 1165, 1169, 1214, 1228, 1229, 1233], [387, 1093, 1124, 1128], [305, 308, 334, 606, 618, 753, 774, 778, 812, 794, 830, 757, 851, 610, 613, 761, 765, 769, 773, 834, 838, 846, 842, 782, 790, 786, 806, 798, 802], [511, 513, 1293, 1294, 1299, 1303, 1304, 1305, 1314, 1315, 1316, 1319, 1320, 1333, 1329, 1343, 1351, 1347, 1371], [165, 166, 169, 172, 884, 954, 894, 895, 896, 900, 905, 1249, 904, 950, 946], [311, 622, 623, 624, 633, 749, 627, 630, 636, 683, 687, 639, 643], [533, 1407, 1408, 1409, 1420], [157, 162, 247, 282, 302, 384, 407, 478, 508, 530, 594, 602, 852, 856, 868, 872, 876, 880, 890, 920, 957, 924, 962, 963, 964, 972, 981, 996, 985, 991, 1004, 1013, 1021, 1033, 1036, 1040, 1044, 1055, 1060, 1068, 1072, 1079, 1083, 1129, 1177, 1202, 1210, 1224, 1245, 1250, 1257, 1268, 1276, 1284, 1289, 1295, 1310, 1325, 1338, 1355, 1363, 1367, 1374, 1379, 1403, 1416, 1428], [1446, 1448, 1573, 1574, 1561, 1565, 1568, 1575, 1583, 1557, 1587, 1554, 1631, 1635, 1641, 1619, 1579, 1627, 1623, 1653, 1645, 1649, 1591, 1603, 1607, 1611, 1615, 1595, 1599, 1669, 1684, 1677, 1680, 1673, 1695, 1698, 1691, 1687, 1711, 1715, 1707, 1665, 1703, 1723, 1727, 1735, 1739, 1743, 1747, 1751, 1759, 1763, 1776, 1798, 1810, 1790, 1794, 1814, 1831, 1827, 1860, 1852, 1856, 1875, 1871, 1867, 1878, 1848, 1863, 1840, 1844, 1886, 1914, 1910, 1944, 1937, 1941, 1957, 1952, 1985, 1977, 1981, 1969, 1973, 2005, 2013, 2001, 2009, 2021, 2029, 2041, 2037, 2058, 2054, 2062, 2078], [699, 647, 653, 695, 691, 703, 661, 729], [154, 1443, 590, 1546, 598, 1550, 860, 1657, 864, 1661, 958, 1719, 968, 1731, 992, 1755, 1000, 1767, 1009, 1772, 1017, 1780, 1029, 1785, 1056, 1818, 1064, 1822, 1075, 1836, 1173, 1882, 1181, 1890, 1185, 1894, 1189, 1898, 1194, 1902, 1198, 1906, 1206, 1918, 1218, 1922, 1237, 1929, 1241, 1933, 1253, 1947, 1260, 1961, 1264, 1965, 1272, 1989, 1280, 1993, 1285, 1997, 1306, 2017, 1321, 2025, 1334, 2033, 1359, 2045, 1375, 2049, 1395, 2065, 1399, 2069, 1410, 2073, 1424, 2081, 1429, 2085, 1433, 2089, 1437, 2093], [656, 710, 706, 709, 711], [], [], [183, 182, 175], []]
def pCt : List (List Nat) := [[], [286], [], [], [], [], [306, 333, 810, 850], [512], [], [], [], [160, 245, 280, 300, 381, 405, 476, 506, 527], [], [], [152, 1441], [], [], [], [181], []]
def pKt : List (List Nat) := [[], [], [], [], [1154, 1160], [], [], [1342], [], [], [], [1071, 1193], [1447, 1835, 1956], [], [], [], [], [887, 888, 889], [], []]
def pJt : List (List Nat) := [[1384], [], [912, 913], [1048, 1049, 1050], [411], [1123], [], [], [], [], [], [1222, 1223, 1414, 1415], [1639, 1640, 1701, 1702, 1771, 1784, 1802, 1803, 1804, 1805, 1806, 1807, 1808, 1809, 1789, 1826, 1926, 1927, 1928, 1951, 2061, 2053, 2077], [], [2097], [], [], [], [], []]
def pGt : List (List Nat) := [[], [], [], [], [], [], [], [], [], [], [], [], [], [651, 659], [], [], [], [], [], []]
def pCode : List Nat := [480, 1382, 1390, 284, 988, 1024, 859, 814, 908, 911, 249, 855, 879, 936, 941, 927, 975, 980, 999, 1007, 845, 1016, 1047, 616, 409, 1086, 1099, 1108, 1112, 1104, 1132, 1136, 1140, 1144, 1148, 1153, 1159, 1164, 1168, 1172, 1180, 1279, 1205, 1213, 1217, 1227, 1232, 1236, 386, 1092, 1122, 1127, 304, 605, 609, 768, 760, 772, 756, 833, 837, 841, 849, 777, 781, 785, 789, 809, 797, 801, 805, 793, 510, 1292, 1298, 1302, 1313, 1318, 1332, 1328, 1341, 1346, 1350, 1354, 1358, 1370, 1373, 164, 931, 871, 875, 883, 899, 953, 893, 1248, 903, 949, 945, 1117, 310, 621, 752, 626, 629, 632, 635, 638, 641, 685, 764, 532, 1039, 1406, 1043, 1419, 1423, 1366, 156, 593, 597, 601, 863, 867, 923, 961, 967, 971, 995, 984, 1003, 1012, 1020, 1032, 1059, 1063, 1067, 1070, 1074, 1078, 1082, 1176, 1184, 1188, 1192, 1197, 1201, 1209, 1221, 1240, 1244, 1252, 1256, 1259, 1263, 1267, 1271, 1275, 1283, 1288, 1309, 1324, 1337, 1362, 1378, 1398, 1035, 1402, 1413, 1427, 1432, 1436, 1440, 1556, 1445, 1450, 1549, 1564, 1567, 1577, 1571, 1560, 1590, 1586, 1582, 1594, 1679, 1638, 1634, 1644, 1630, 1626, 1622, 1656, 1652, 1648, 1606, 1610, 1614, 1618, 1602, 1598, 1553, 1660, 1672, 1668, 1726, 1697, 1855, 1686, 1683, 1676, 1700, 1694, 1718, 1690, 1940, 1714, 1710, 1706, 1730, 1664, 1722, 1742, 1817, 1750, 1738, 1762, 1779, 1746, 1766, 1754, 1734, 1758, 1770, 1775, 1783, 1801, 1813, 1797, 1793, 1788, 1821, 1834, 1830, 1825, 1862, 1881, 1859, 1851, 1877, 1874, 1870, 1866, 1847, 1843, 1839, 1889, 1885, 1893, 1897, 1901, 1905, 1917, 1913, 1909, 1921, 1925, 1932, 1946, 1943, 1936, 1955, 1960, 1950, 1964, 1988, 1984, 1980, 1976, 1972, 1968, 1992, 1996, 2008, 2004, 2016, 2012, 2000, 2024, 2020, 2032, 2028, 2044, 2040, 2036, 2048, 2060, 2057, 2064, 2052, 2068, 2080, 2072, 2076, 2084, 2088, 2092, 2096, 886, 698, 646, 690, 694, 702, 650, 658, 655, 708, 705, 713, 1095, 612, 174, 663, 731]
def pInit : List Nat := [141, 141, 141, 136, 136, 136, 136, 150, 150, 150, 135, 135, 135, 135, 135, 135, 135, 135, 135, 135, 135, 135, 135, 135, 140, 140, 140, 140, 140, 140, 140, 140, 140, 140, 140, 140, 140, 140, 140, 140, 140, 140, 140, 140, 140, 140, 140, 140, 139, 139, 139, 139, 137, 137, 137, 137, 137, 137, 137, 137, 137, 137, 137, 137, 137, 137, 137, 137, 137, 137, 137, 137, 142, 142, 142, 142, 142, 142, 142, 142, 142, 142, 142, 142, 142, 142, 142, 131, 131, 131, 131, 131, 131, 131, 131, 131, 131, 131, 131, 131, 138, 138, 138, 138, 138, 138, 138, 138, 138, 138, 138, 143, 143, 143, 143, 143, 143, 143, 130, 130, 130, 130, 130, 130, 130, 130, 130, 130, 130, 130, 130, 130, 130, 130, 130, 130, 130, 130, 130, 130, 130, 130, 130, 130, 130, 130, 130, 130, 130, 130, 130, 130, 130, 130, 130, 130, 130, 130, 130, 130, 130, 130, 130, 130, 130, 130, 130, 130, 130, 130, 130, 130, 130, 144, 144, 144, 144, 144, 144, 144, 144, 144, 144, 144, 144, 144, 144, 144, 144, 144, 144, 144, 144, 144, 144, 144, 144, 144, 144, 144, 144, 144, 144, 144, 144, 144, 144, 144, 144, 144, 144, 144, 144, 144, 144, 144, 144, 144, 144, 144, 144, 144, 144, 144, 144, 144, 144, 144, 144, 144, 144, 144, 144, 144, 144, 144, 144, 144, 144, 144, 144, 144, 144, 144, 144, 144, 144, 144, 144, 144, 144, 144, 144, 144, 144, 144, 144, 144, 144, 144, 144, 144, 144, 144, 144, 144, 144, 144, 144, 144, 144, 144, 144, 144, 144, 144, 144, 144, 144, 144, 144, 144, 144, 144, 144, 144, 144, 144, 144, 144, 144, 144, 144, 144, 144, 144, 144, 144, 144, 144, 144, 144, 144, 144, 144, 144, 144, 144, 144, 151, 145, 145, 145, 145, 145, 145, 145, 146, 146, 146, 146, 133, 133, 133, 147, 147]
def pKind : List Nat := [479, 1380, 1389, 283, 986, 1022, 857, 813, 906, 910, 248, 853, 877, 934, 939, 925, 973, 978, 997, 1005, 843, 1014, 1045, 614, 408, 1084, 1098, 1107, 1111, 1103, 1130, 1135, 1139, 1143, 1147, 1152, 1158, 1163, 1167, 1171, 1178, 1277, 1203, 1211, 1216, 1225, 1231, 1235, 385, 1090, 1120, 1126, 303, 603, 608, 767, 759, 771, 755, 832, 836, 840, 848, 776, 780, 784, 788, 808, 796, 800, 804, 792, 509, 1290, 1296, 1301, 1311, 1317, 1331, 1326, 1339, 1345, 1349, 1353, 1356, 1368, 1372, 163, 929, 869, 873, 881, 897, 951, 891, 1246, 902, 947, 943, 1115, 309, 619, 751, 625, 628, 631, 634, 637, 640, 684, 762, 531, 1037, 1404, 1041, 1417, 1422, 1364, 155, 591, 596, 599, 861, 865, 922, 959, 966, 969, 993, 983, 1001, 1010, 1018, 1030, 1057, 1062, 1065, 1069, 1073, 1076, 1081, 1174, 1182, 1186, 1190, 1195, 1199, 1207, 1219, 1238, 1242, 1251, 1254, 1258, 1261, 1265, 1270, 1273, 1281, 1286, 1307, 1322, 1335, 1360, 1376, 1396, 1034, 1400, 1411, 1425, 1430, 1434, 1438, 1555, 1444, 1449, 1547, 1563, 1566, 1576, 1570, 1559, 1589, 1585, 1581, 1593, 1678, 1637, 1633, 1643, 1629, 1625, 1621, 1655, 1651, 1647, 1605, 1609, 1613, 1617, 1601, 1597, 1551, 1658, 1671, 1667, 1725, 1696, 1854, 1685, 1682, 1675, 1699, 1693, 1717, 1689, 1939, 1713, 1709, 1705, 1729, 1662, 1720, 1741, 1816, 1749, 1737, 1761, 1778, 1745, 1765, 1753, 1732, 1756, 1768, 1773, 1781, 1800, 1812, 1796, 1792, 1786, 1819, 1833, 1829, 1823, 1861, 1880, 1858, 1850, 1876, 1873, 1869, 1865, 1846, 1842, 1837, 1888, 1883, 1891, 1895, 1899, 1903, 1916, 1912, 1907, 1919, 1923, 1930, 1945, 1942, 1934, 1954, 1959, 1948, 1962, 1987, 1983, 1979, 1975, 1971, 1966, 1990, 1994, 2007, 2003, 2015, 2011, 1998, 2023, 2018, 2031, 2026, 2043, 2039, 2034, 2046, 2059, 2056, 2063, 2050, 2066, 2079, 2070, 2074, 2082, 2086, 2090, 2094, 885, 696, 644, 688, 692, 700, 648, 657, 654, 707, 704, 712, 1094, 611, 173, 662, 730]
def pSel : List Nat := [0, 1381, 49, 0, 987, 1023, 858, 0, 907, 0, 0, 854, 878, 935, 940, 926, 974, 979, 998, 1006, 844, 1015, 1046, 615, 0, 1085, 26, 28, 29, 27, 1131, 31, 32, 33, 34, 35, 36, 37, 38, 39, 1179, 1278, 1204, 1212, 40, 1226, 41, 42, 0, 1091, 1121, 30, 0, 604, 1, 5, 4, 6, 3, 16, 17, 18, 19, 7, 8, 9, 10, 15, 12, 13, 14, 11, 0, 1291, 1297, 44, 1312, 0, 45, 1327, 1340, 46, 47, 48, 1357, 1369, 0, 0, 930, 870, 874, 882, 898, 952, 892, 1247, 20, 948, 944, 1116, 0, 620, 2, 0, 0, 0, 0, 0, 0, 0, 763, 0, 1038, 1405, 1042, 1418, 50, 1365, 0, 592, 0, 600, 862, 866, 21, 960, 22, 970, 994, 23, 1002, 1011, 1019, 1031, 1058, 24, 1066, 0, 0, 1077, 25, 1175, 1183, 1187, 1191, 1196, 1200, 1208, 1220, 1239, 1243, 0, 1255, 0, 1262, 1266, 43, 1274, 1282, 1287, 1308, 1323, 1336, 1361, 1377, 1397, 0, 1401, 1412, 1426, 1431, 1435, 1439, 0, 0, 0, 1548, 52, 0, 0, 53, 51, 56, 55, 54, 57, 0, 68, 67, 69, 66, 65, 64, 72, 71, 70, 60, 61, 62, 63, 59, 58, 1552, 1659, 74, 73, 83, 0, 103, 0, 76, 75, 0, 78, 82, 77, 112, 81, 80, 79, 84, 1663, 1721, 86, 97, 88, 85, 90, 92, 87, 91, 89, 1733, 1757, 1769, 1774, 1782, 95, 96, 94, 93, 1787, 1820, 99, 98, 1824, 0, 108, 104, 102, 0, 107, 106, 105, 101, 100, 1838, 109, 1884, 1892, 1896, 1900, 1904, 111, 110, 1908, 1920, 1924, 1931, 0, 0, 1935, 113, 114, 1949, 1963, 119, 118, 117, 116, 115, 1967, 1991, 1995, 121, 120, 123, 122, 1999, 124, 2019, 125, 2027, 127, 126, 2035, 2047, 0, 128, 0, 2051, 2067, 0, 2071, 2075, 2083, 2087, 2091, 2095, 0, 697, 645, 689, 693, 701, 649, 0, 0, 0, 0, 0, 0, 0, 0, 0, 0]
def zipC {α : Type} (P : Nat → α → Nat → Bool) : List (Nat × α) → List Nat → Bool
  | [], _ => true
  | (i, a) :: r, p :: ps => P i a p && zipC P r ps
  | _ :: _, [] => false
theorem zipC_lkp {α : Type} {P : Nat → α → Nat → Bool} {i : Nat} {a : α} : ∀ (l : List (Nat × α)) (ps : List Nat), zipC P l ps = true → lkp l i = some a → ∃ p, P i a p = true
  | [], _, _, h => by cases h
  | (k, b) :: r, [], h, _ => by cases h
  | (k, b) :: r, p :: ps, h, hl => by
    simp only [zipC, Bool.and_eq_true] at h
    unfold lkp at hl
    split at hl
    · rename_i e
      cases hl
      have := Nat.eq_of_beq_eq_true e
      subst this
      exact ⟨p, h.1⟩
    · exact zipC_lkp r ps h.2 hl
def inT (p : Nat) (w : Cond) : Bool := decide (lw_tbl[p]? = some w)
theorem inT_mem {p : Nat} {w : Cond} (h : inT p w = true) : w ∈ lw_tbl := List.mem_of_getElem? (of_decide_eq_true h)
def fWc (own i f p : Nat) : Bool := if f / 64 < 13 then inT p (.fieldLink (RC own) i (TC (f / 64) (f % 64)).1 (TC (f / 64) (f % 64)).2.1 (TC (f / 64) (f % 64)).2.2.1) && decide (f % 64 < fN (f / 64)) else if f = 832 then inT p (.fieldLink (RC own) i "java/lang/String" "value" "[B") else if f = 833 then inT p (.fieldLink (RC own) i "java/lang/String" "coder" "B") else false
def mWc (own i u p : Nat) : Bool := if u = 9999 then inT p (.methodLink (RC own) i objectInit) else if u = 9998 then inT p (.methodLink (RC own) i ⟨"[I", "clone", "()Ljava/lang/Object;"⟩) else if u = 9997 then inT p (.methodLink (RC own) i arraycopyName) else if u = 9990 then inT p (.methodLink (RC own) i yJ9_floorMod_7cf53) else if u = 9991 then inT p (.methodLink (RC own) i Lib.Math.abs.name) else if u = 9992 then inT p (.methodLink (RC own) i Lib.Math.max.name) else if u = 9993 then inT p (.methodLink (RC own) i Lib.MathLoose.max_long.x) else if u = 9994 then inT p (.methodLink (RC own) i Lib.Math.min.name) else if u = 9995 then inT p (.methodLink (RC own) i Lib.MathLoose.min_long.x) else decide (u < 326) && (inT p (.methodLink (RC own) i (yM u)) || (kdM u == 2 && inT p (.methodLinkNest (RC own) i (yM u) "LastMark")))
def cWc (own i c p : Nat) : Bool := if c = 20 then inT p (.classLink (RC own) i "[I") else inT p (.classLink (RC own) i (RC c)) && decide (c < 13)
def kWc (own i : Nat) (z : Int) (p : Nat) : Bool := inT p (.constant (RC own) i (kI z))
def jWc (own i : Nat) (z : Int) (p : Nat) : Bool := inT p (.constantLong (RC own) i (kJ z))
def gWc (own i k p : Nat) : Bool := if k = 0 then inT p (.fieldLink (RC own) i "jdk/internal/util/Preconditions" "SIOOBE_FORMATTER" "Ljava/util/function/BiFunction;") else if k = 1 then inT p (.fieldLink (RC own) i "java/lang/String" "COMPACT_STRINGS" "Z") else false

theorem wF_0 : zipC (fWc 0) (nth fTt 0 []) (nth pFt 0 []) = true := by decide +kernel
theorem wM_0 : zipC (mWc 0) (nth mTt 0 []) (nth pMt 0 []) = true := by decide +kernel
theorem wC_0 : zipC (cWc 0) (nth cTt 0 []) (nth pCt 0 []) = true := by decide +kernel
theorem wK_0 : zipC (kWc 0) (nth kTt 0 []) (nth pKt 0 []) = true := by decide +kernel
theorem wJ_0 : zipC (jWc 0) (nth jTt 0 []) (nth pJt 0 []) = true := by decide +kernel
theorem wG_0 : zipC (gWc 0) (nth gTt 0 []) (nth pGt 0 []) = true := by decide +kernel
theorem wF_1 : zipC (fWc 1) (nth fTt 1 []) (nth pFt 1 []) = true := by decide +kernel
theorem wM_1 : zipC (mWc 1) (nth mTt 1 []) (nth pMt 1 []) = true := by decide +kernel
theorem wC_1 : zipC (cWc 1) (nth cTt 1 []) (nth pCt 1 []) = true := by decide +kernel
theorem wK_1 : zipC (kWc 1) (nth kTt 1 []) (nth pKt 1 []) = true := by decide +kernel
theorem wJ_1 : zipC (jWc 1) (nth jTt 1 []) (nth pJt 1 []) = true := by decide +kernel
theorem wG_1 : zipC (gWc 1) (nth gTt 1 []) (nth pGt 1 []) = true := by decide +kernel
theorem wF_2 : zipC (fWc 2) (nth fTt 2 []) (nth pFt 2 []) = true := by decide +kernel
theorem wM_2 : zipC (mWc 2) (nth mTt 2 []) (nth pMt 2 []) = true := by decide +kernel
theorem wC_2 : zipC (cWc 2) (nth cTt 2 []) (nth pCt 2 []) = true := by decide +kernel
theorem wK_2 : zipC (kWc 2) (nth kTt 2 []) (nth pKt 2 []) = true := by decide +kernel
theorem wJ_2 : zipC (jWc 2) (nth jTt 2 []) (nth pJt 2 []) = true := by decide +kernel
theorem wG_2 : zipC (gWc 2) (nth gTt 2 []) (nth pGt 2 []) = true := by decide +kernel
theorem wF_3 : zipC (fWc 3) (nth fTt 3 []) (nth pFt 3 []) = true := by decide +kernel
theorem wM_3 : zipC (mWc 3) (nth mTt 3 []) (nth pMt 3 []) = true := by decide +kernel
theorem wC_3 : zipC (cWc 3) (nth cTt 3 []) (nth pCt 3 []) = true := by decide +kernel
theorem wK_3 : zipC (kWc 3) (nth kTt 3 []) (nth pKt 3 []) = true := by decide +kernel
theorem wJ_3 : zipC (jWc 3) (nth jTt 3 []) (nth pJt 3 []) = true := by decide +kernel
theorem wG_3 : zipC (gWc 3) (nth gTt 3 []) (nth pGt 3 []) = true := by decide +kernel
theorem wF_4 : zipC (fWc 4) (nth fTt 4 []) (nth pFt 4 []) = true := by decide +kernel
theorem wM_4 : zipC (mWc 4) (nth mTt 4 []) (nth pMt 4 []) = true := by decide +kernel
theorem wC_4 : zipC (cWc 4) (nth cTt 4 []) (nth pCt 4 []) = true := by decide +kernel
theorem wK_4 : zipC (kWc 4) (nth kTt 4 []) (nth pKt 4 []) = true := by decide +kernel
theorem wJ_4 : zipC (jWc 4) (nth jTt 4 []) (nth pJt 4 []) = true := by decide +kernel
theorem wG_4 : zipC (gWc 4) (nth gTt 4 []) (nth pGt 4 []) = true := by decide +kernel
theorem wF_5 : zipC (fWc 5) (nth fTt 5 []) (nth pFt 5 []) = true := by decide +kernel
theorem wM_5 : zipC (mWc 5) (nth mTt 5 []) (nth pMt 5 []) = true := by decide +kernel
theorem wC_5 : zipC (cWc 5) (nth cTt 5 []) (nth pCt 5 []) = true := by decide +kernel
theorem wK_5 : zipC (kWc 5) (nth kTt 5 []) (nth pKt 5 []) = true := by decide +kernel
theorem wJ_5 : zipC (jWc 5) (nth jTt 5 []) (nth pJt 5 []) = true := by decide +kernel
theorem wG_5 : zipC (gWc 5) (nth gTt 5 []) (nth pGt 5 []) = true := by decide +kernel
theorem wF_6 : zipC (fWc 6) (nth fTt 6 []) (nth pFt 6 []) = true := by decide +kernel
theorem wM_6 : zipC (mWc 6) (nth mTt 6 []) (nth pMt 6 []) = true := by decide +kernel
theorem wC_6 : zipC (cWc 6) (nth cTt 6 []) (nth pCt 6 []) = true := by decide +kernel
theorem wK_6 : zipC (kWc 6) (nth kTt 6 []) (nth pKt 6 []) = true := by decide +kernel
theorem wJ_6 : zipC (jWc 6) (nth jTt 6 []) (nth pJt 6 []) = true := by decide +kernel
theorem wG_6 : zipC (gWc 6) (nth gTt 6 []) (nth pGt 6 []) = true := by decide +kernel
theorem wF_7 : zipC (fWc 7) (nth fTt 7 []) (nth pFt 7 []) = true := by decide +kernel
theorem wM_7 : zipC (mWc 7) (nth mTt 7 []) (nth pMt 7 []) = true := by decide +kernel
theorem wC_7 : zipC (cWc 7) (nth cTt 7 []) (nth pCt 7 []) = true := by decide +kernel
theorem wK_7 : zipC (kWc 7) (nth kTt 7 []) (nth pKt 7 []) = true := by decide +kernel
theorem wJ_7 : zipC (jWc 7) (nth jTt 7 []) (nth pJt 7 []) = true := by decide +kernel
theorem wG_7 : zipC (gWc 7) (nth gTt 7 []) (nth pGt 7 []) = true := by decide +kernel
theorem wF_8 : zipC (fWc 8) (nth fTt 8 []) (nth pFt 8 []) = true := by decide +kernel
theorem wM_8 : zipC (mWc 8) (nth mTt 8 []) (nth pMt 8 []) = true := by decide +kernel
theorem wC_8 : zipC (cWc 8) (nth cTt 8 []) (nth pCt 8 []) = true := by decide +kernel
theorem wK_8 : zipC (kWc 8) (nth kTt 8 []) (nth pKt 8 []) = true := by decide +kernel
theorem wJ_8 : zipC (jWc 8) (nth jTt 8 []) (nth pJt 8 []) = true := by decide +kernel
theorem wG_8 : zipC (gWc 8) (nth gTt 8 []) (nth pGt 8 []) = true := by decide +kernel
theorem wF_9 : zipC (fWc 9) (nth fTt 9 []) (nth pFt 9 []) = true := by decide +kernel
theorem wM_9 : zipC (mWc 9) (nth mTt 9 []) (nth pMt 9 []) = true := by decide +kernel
theorem wC_9 : zipC (cWc 9) (nth cTt 9 []) (nth pCt 9 []) = true := by decide +kernel
theorem wK_9 : zipC (kWc 9) (nth kTt 9 []) (nth pKt 9 []) = true := by decide +kernel
theorem wJ_9 : zipC (jWc 9) (nth jTt 9 []) (nth pJt 9 []) = true := by decide +kernel
theorem wG_9 : zipC (gWc 9) (nth gTt 9 []) (nth pGt 9 []) = true := by decide +kernel
theorem wF_10 : zipC (fWc 10) (nth fTt 10 []) (nth pFt 10 []) = true := by decide +kernel
theorem wM_10 : zipC (mWc 10) (nth mTt 10 []) (nth pMt 10 []) = true := by decide +kernel
theorem wC_10 : zipC (cWc 10) (nth cTt 10 []) (nth pCt 10 []) = true := by decide +kernel
theorem wK_10 : zipC (kWc 10) (nth kTt 10 []) (nth pKt 10 []) = true := by decide +kernel
theorem wJ_10 : zipC (jWc 10) (nth jTt 10 []) (nth pJt 10 []) = true := by decide +kernel
theorem wG_10 : zipC (gWc 10) (nth gTt 10 []) (nth pGt 10 []) = true := by decide +kernel
theorem wF_11 : zipC (fWc 11) (nth fTt 11 []) (nth pFt 11 []) = true := by decide +kernel
theorem wM_11 : zipC (mWc 11) (nth mTt 11 []) (nth pMt 11 []) = true := by decide +kernel
theorem wC_11 : zipC (cWc 11) (nth cTt 11 []) (nth pCt 11 []) = true := by decide +kernel
theorem wK_11 : zipC (kWc 11) (nth kTt 11 []) (nth pKt 11 []) = true := by decide +kernel
theorem wJ_11 : zipC (jWc 11) (nth jTt 11 []) (nth pJt 11 []) = true := by decide +kernel
theorem wG_11 : zipC (gWc 11) (nth gTt 11 []) (nth pGt 11 []) = true := by decide +kernel
theorem wF_12 : zipC (fWc 12) (nth fTt 12 []) (nth pFt 12 []) = true := by decide +kernel
theorem wM_12 : zipC (mWc 12) (nth mTt 12 []) (nth pMt 12 []) = true := by decide +kernel
theorem wC_12 : zipC (cWc 12) (nth cTt 12 []) (nth pCt 12 []) = true := by decide +kernel
theorem wK_12 : zipC (kWc 12) (nth kTt 12 []) (nth pKt 12 []) = true := by decide +kernel
theorem wJ_12 : zipC (jWc 12) (nth jTt 12 []) (nth pJt 12 []) = true := by decide +kernel
theorem wG_12 : zipC (gWc 12) (nth gTt 12 []) (nth pGt 12 []) = true := by decide +kernel
theorem wF_13 : zipC (fWc 13) (nth fTt 13 []) (nth pFt 13 []) = true := by decide +kernel
theorem wM_13 : zipC (mWc 13) (nth mTt 13 []) (nth pMt 13 []) = true := by decide +kernel
theorem wC_13 : zipC (cWc 13) (nth cTt 13 []) (nth pCt 13 []) = true := by decide +kernel
theorem wK_13 : zipC (kWc 13) (nth kTt 13 []) (nth pKt 13 []) = true := by decide +kernel
theorem wJ_13 : zipC (jWc 13) (nth jTt 13 []) (nth pJt 13 []) = true := by decide +kernel
theorem wG_13 : zipC (gWc 13) (nth gTt 13 []) (nth pGt 13 []) = true := by decide +kernel
theorem wF_14 : zipC (fWc 14) (nth fTt 14 []) (nth pFt 14 []) = true := by decide +kernel
theorem wM_14 : zipC (mWc 14) (nth mTt 14 []) (nth pMt 14 []) = true := by decide +kernel
theorem wC_14 : zipC (cWc 14) (nth cTt 14 []) (nth pCt 14 []) = true := by decide +kernel
theorem wK_14 : zipC (kWc 14) (nth kTt 14 []) (nth pKt 14 []) = true := by decide +kernel
theorem wJ_14 : zipC (jWc 14) (nth jTt 14 []) (nth pJt 14 []) = true := by decide +kernel
theorem wG_14 : zipC (gWc 14) (nth gTt 14 []) (nth pGt 14 []) = true := by decide +kernel
theorem wF_15 : zipC (fWc 15) (nth fTt 15 []) (nth pFt 15 []) = true := by decide +kernel
theorem wM_15 : zipC (mWc 15) (nth mTt 15 []) (nth pMt 15 []) = true := by decide +kernel
theorem wC_15 : zipC (cWc 15) (nth cTt 15 []) (nth pCt 15 []) = true := by decide +kernel
theorem wK_15 : zipC (kWc 15) (nth kTt 15 []) (nth pKt 15 []) = true := by decide +kernel
theorem wJ_15 : zipC (jWc 15) (nth jTt 15 []) (nth pJt 15 []) = true := by decide +kernel
theorem wG_15 : zipC (gWc 15) (nth gTt 15 []) (nth pGt 15 []) = true := by decide +kernel
theorem wF_16 : zipC (fWc 16) (nth fTt 16 []) (nth pFt 16 []) = true := by decide +kernel
theorem wM_16 : zipC (mWc 16) (nth mTt 16 []) (nth pMt 16 []) = true := by decide +kernel
theorem wC_16 : zipC (cWc 16) (nth cTt 16 []) (nth pCt 16 []) = true := by decide +kernel
theorem wK_16 : zipC (kWc 16) (nth kTt 16 []) (nth pKt 16 []) = true := by decide +kernel
theorem wJ_16 : zipC (jWc 16) (nth jTt 16 []) (nth pJt 16 []) = true := by decide +kernel
theorem wG_16 : zipC (gWc 16) (nth gTt 16 []) (nth pGt 16 []) = true := by decide +kernel
theorem wF_17 : zipC (fWc 17) (nth fTt 17 []) (nth pFt 17 []) = true := by decide +kernel
theorem wM_17 : zipC (mWc 17) (nth mTt 17 []) (nth pMt 17 []) = true := by decide +kernel
theorem wC_17 : zipC (cWc 17) (nth cTt 17 []) (nth pCt 17 []) = true := by decide +kernel
theorem wK_17 : zipC (kWc 17) (nth kTt 17 []) (nth pKt 17 []) = true := by decide +kernel
theorem wJ_17 : zipC (jWc 17) (nth jTt 17 []) (nth pJt 17 []) = true := by decide +kernel
theorem wG_17 : zipC (gWc 17) (nth gTt 17 []) (nth pGt 17 []) = true := by decide +kernel
theorem wF_18 : zipC (fWc 18) (nth fTt 18 []) (nth pFt 18 []) = true := by decide +kernel
theorem wM_18 : zipC (mWc 18) (nth mTt 18 []) (nth pMt 18 []) = true := by decide +kernel
theorem wC_18 : zipC (cWc 18) (nth cTt 18 []) (nth pCt 18 []) = true := by decide +kernel
theorem wK_18 : zipC (kWc 18) (nth kTt 18 []) (nth pKt 18 []) = true := by decide +kernel
theorem wJ_18 : zipC (jWc 18) (nth jTt 18 []) (nth pJt 18 []) = true := by decide +kernel
theorem wG_18 : zipC (gWc 18) (nth gTt 18 []) (nth pGt 18 []) = true := by decide +kernel
theorem wF_19 : zipC (fWc 19) (nth fTt 19 []) (nth pFt 19 []) = true := by decide +kernel
theorem wM_19 : zipC (mWc 19) (nth mTt 19 []) (nth pMt 19 []) = true := by decide +kernel
theorem wC_19 : zipC (cWc 19) (nth cTt 19 []) (nth pCt 19 []) = true := by decide +kernel
theorem wK_19 : zipC (kWc 19) (nth kTt 19 []) (nth pKt 19 []) = true := by decide +kernel
theorem wJ_19 : zipC (jWc 19) (nth jTt 19 []) (nth pJt 19 []) = true := by decide +kernel
theorem wG_19 : zipC (gWc 19) (nth gTt 19 []) (nth pGt 19 []) = true := by decide +kernel
theorem wF {own i : Nat} {a : Nat} (h : fT own i = some a) : ∃ p, fWc own i a p = true := by
  unfold fT at h
  match own, h with
  | 0, h => exact zipC_lkp _ _ wF_0 h
  | 1, h => exact zipC_lkp _ _ wF_1 h
  | 2, h => exact zipC_lkp _ _ wF_2 h
  | 3, h => exact zipC_lkp _ _ wF_3 h
  | 4, h => exact zipC_lkp _ _ wF_4 h
  | 5, h => exact zipC_lkp _ _ wF_5 h
  | 6, h => exact zipC_lkp _ _ wF_6 h
  | 7, h => exact zipC_lkp _ _ wF_7 h
  | 8, h => exact zipC_lkp _ _ wF_8 h
  | 9, h => exact zipC_lkp _ _ wF_9 h
  | 10, h => exact zipC_lkp _ _ wF_10 h
  | 11, h => exact zipC_lkp _ _ wF_11 h
  | 12, h => exact zipC_lkp _ _ wF_12 h
  | 13, h => exact zipC_lkp _ _ wF_13 h
  | 14, h => exact zipC_lkp _ _ wF_14 h
  | 15, h => exact zipC_lkp _ _ wF_15 h
  | 16, h => exact zipC_lkp _ _ wF_16 h
  | 17, h => exact zipC_lkp _ _ wF_17 h
  | 18, h => exact zipC_lkp _ _ wF_18 h
  | 19, h => exact zipC_lkp _ _ wF_19 h
  | _ + 20, h => cases h
theorem wM {own i : Nat} {a : Nat} (h : mT own i = some a) : ∃ p, mWc own i a p = true := by
  unfold mT at h
  match own, h with
  | 0, h => exact zipC_lkp _ _ wM_0 h
  | 1, h => exact zipC_lkp _ _ wM_1 h
  | 2, h => exact zipC_lkp _ _ wM_2 h
  | 3, h => exact zipC_lkp _ _ wM_3 h
  | 4, h => exact zipC_lkp _ _ wM_4 h
  | 5, h => exact zipC_lkp _ _ wM_5 h
  | 6, h => exact zipC_lkp _ _ wM_6 h
  | 7, h => exact zipC_lkp _ _ wM_7 h
  | 8, h => exact zipC_lkp _ _ wM_8 h
  | 9, h => exact zipC_lkp _ _ wM_9 h
  | 10, h => exact zipC_lkp _ _ wM_10 h
  | 11, h => exact zipC_lkp _ _ wM_11 h
  | 12, h => exact zipC_lkp _ _ wM_12 h
  | 13, h => exact zipC_lkp _ _ wM_13 h
  | 14, h => exact zipC_lkp _ _ wM_14 h
  | 15, h => exact zipC_lkp _ _ wM_15 h
  | 16, h => exact zipC_lkp _ _ wM_16 h
  | 17, h => exact zipC_lkp _ _ wM_17 h
  | 18, h => exact zipC_lkp _ _ wM_18 h
  | 19, h => exact zipC_lkp _ _ wM_19 h
  | _ + 20, h => cases h
theorem wC {own i : Nat} {a : Nat} (h : cT own i = some a) : ∃ p, cWc own i a p = true := by
  unfold cT at h
  match own, h with
  | 0, h => exact zipC_lkp _ _ wC_0 h
  | 1, h => exact zipC_lkp _ _ wC_1 h
  | 2, h => exact zipC_lkp _ _ wC_2 h
  | 3, h => exact zipC_lkp _ _ wC_3 h
  | 4, h => exact zipC_lkp _ _ wC_4 h
  | 5, h => exact zipC_lkp _ _ wC_5 h
  | 6, h => exact zipC_lkp _ _ wC_6 h
  | 7, h => exact zipC_lkp _ _ wC_7 h
  | 8, h => exact zipC_lkp _ _ wC_8 h
  | 9, h => exact zipC_lkp _ _ wC_9 h
  | 10, h => exact zipC_lkp _ _ wC_10 h
  | 11, h => exact zipC_lkp _ _ wC_11 h
  | 12, h => exact zipC_lkp _ _ wC_12 h
  | 13, h => exact zipC_lkp _ _ wC_13 h
  | 14, h => exact zipC_lkp _ _ wC_14 h
  | 15, h => exact zipC_lkp _ _ wC_15 h
  | 16, h => exact zipC_lkp _ _ wC_16 h
  | 17, h => exact zipC_lkp _ _ wC_17 h
  | 18, h => exact zipC_lkp _ _ wC_18 h
  | 19, h => exact zipC_lkp _ _ wC_19 h
  | _ + 20, h => cases h
theorem wK {own i : Nat} {a : Int} (h : kT own i = some a) : ∃ p, kWc own i a p = true := by
  unfold kT at h
  match own, h with
  | 0, h => exact zipC_lkp _ _ wK_0 h
  | 1, h => exact zipC_lkp _ _ wK_1 h
  | 2, h => exact zipC_lkp _ _ wK_2 h
  | 3, h => exact zipC_lkp _ _ wK_3 h
  | 4, h => exact zipC_lkp _ _ wK_4 h
  | 5, h => exact zipC_lkp _ _ wK_5 h
  | 6, h => exact zipC_lkp _ _ wK_6 h
  | 7, h => exact zipC_lkp _ _ wK_7 h
  | 8, h => exact zipC_lkp _ _ wK_8 h
  | 9, h => exact zipC_lkp _ _ wK_9 h
  | 10, h => exact zipC_lkp _ _ wK_10 h
  | 11, h => exact zipC_lkp _ _ wK_11 h
  | 12, h => exact zipC_lkp _ _ wK_12 h
  | 13, h => exact zipC_lkp _ _ wK_13 h
  | 14, h => exact zipC_lkp _ _ wK_14 h
  | 15, h => exact zipC_lkp _ _ wK_15 h
  | 16, h => exact zipC_lkp _ _ wK_16 h
  | 17, h => exact zipC_lkp _ _ wK_17 h
  | 18, h => exact zipC_lkp _ _ wK_18 h
  | 19, h => exact zipC_lkp _ _ wK_19 h
  | _ + 20, h => cases h
theorem wJ {own i : Nat} {a : Int} (h : jT own i = some a) : ∃ p, jWc own i a p = true := by
  unfold jT at h
  match own, h with
  | 0, h => exact zipC_lkp _ _ wJ_0 h
  | 1, h => exact zipC_lkp _ _ wJ_1 h
  | 2, h => exact zipC_lkp _ _ wJ_2 h
  | 3, h => exact zipC_lkp _ _ wJ_3 h
  | 4, h => exact zipC_lkp _ _ wJ_4 h
  | 5, h => exact zipC_lkp _ _ wJ_5 h
  | 6, h => exact zipC_lkp _ _ wJ_6 h
  | 7, h => exact zipC_lkp _ _ wJ_7 h
  | 8, h => exact zipC_lkp _ _ wJ_8 h
  | 9, h => exact zipC_lkp _ _ wJ_9 h
  | 10, h => exact zipC_lkp _ _ wJ_10 h
  | 11, h => exact zipC_lkp _ _ wJ_11 h
  | 12, h => exact zipC_lkp _ _ wJ_12 h
  | 13, h => exact zipC_lkp _ _ wJ_13 h
  | 14, h => exact zipC_lkp _ _ wJ_14 h
  | 15, h => exact zipC_lkp _ _ wJ_15 h
  | 16, h => exact zipC_lkp _ _ wJ_16 h
  | 17, h => exact zipC_lkp _ _ wJ_17 h
  | 18, h => exact zipC_lkp _ _ wJ_18 h
  | 19, h => exact zipC_lkp _ _ wJ_19 h
  | _ + 20, h => cases h
theorem wG {own i : Nat} {a : Nat} (h : gT own i = some a) : ∃ p, gWc own i a p = true := by
  unfold gT at h
  match own, h with
  | 0, h => exact zipC_lkp _ _ wG_0 h
  | 1, h => exact zipC_lkp _ _ wG_1 h
  | 2, h => exact zipC_lkp _ _ wG_2 h
  | 3, h => exact zipC_lkp _ _ wG_3 h
  | 4, h => exact zipC_lkp _ _ wG_4 h
  | 5, h => exact zipC_lkp _ _ wG_5 h
  | 6, h => exact zipC_lkp _ _ wG_6 h
  | 7, h => exact zipC_lkp _ _ wG_7 h
  | 8, h => exact zipC_lkp _ _ wG_8 h
  | 9, h => exact zipC_lkp _ _ wG_9 h
  | 10, h => exact zipC_lkp _ _ wG_10 h
  | 11, h => exact zipC_lkp _ _ wG_11 h
  | 12, h => exact zipC_lkp _ _ wG_12 h
  | 13, h => exact zipC_lkp _ _ wG_13 h
  | 14, h => exact zipC_lkp _ _ wG_14 h
  | 15, h => exact zipC_lkp _ _ wG_15 h
  | 16, h => exact zipC_lkp _ _ wG_16 h
  | 17, h => exact zipC_lkp _ _ wG_17 h
  | 18, h => exact zipC_lkp _ _ wG_18 h
  | 19, h => exact zipC_lkp _ _ wG_19 h
  | _ + 20, h => cases h
