def zi32b (a : Int) : Bool := decide (-2147483648 ≤ a ∧ a < 2147483648)
def zi64b (a : Int) : Bool := decide (-9223372036854775808 ≤ a ∧ a < 9223372036854775808)
theorem zi32b_ok {a : Int} (h : zi32b a = true) : zI32 a := (of_decide_eq_true h : -2147483648 ≤ a ∧ a < 2147483648)
theorem zi64b_ok {a : Int} (h : zi64b a = true) : zI64 a := (of_decide_eq_true h : -9223372036854775808 ≤ a ∧ a < 9223372036854775808)
def zat (p : Int) (w : Cond) : Bool := decide (lw_tbl[p.toNat]? = some w)
theorem zat_ok {p : Int} {w : Cond} (h : zat p w = true) : w ∈ lw_tbl := List.mem_of_getElem? (of_decide_eq_true h)
def zFob (own : String) (idx : Nat) (ax : List Int) : Bool := match ax with
  | ci :: j :: ty :: kd :: len :: off :: p :: _ => decide (0 ≤ ci ∧ ci < 13 ∧ 0 ≤ j ∧ 0 ≤ ty ∧ 0 ≤ kd ∧ 0 ≤ len) && (zat p (Cond.fieldLink own idx (zTX ci.toNat j.toNat).1 (zTX ci.toNat j.toNat).2.1 (zTX ci.toNat j.toNat).2.2.1) && (decide ((zFT ci.toNat)[j.toNat]? = some ty.toNat) && decide (zFK ci.toNat j.toNat = (kd.toNat, len.toNat, off))))
  | _ => false
theorem zFob_ok {own : String} {idx : Nat} {ax : List Int} (h : zFob own idx ax = true) : zFok lw_tbl vwCl zFT zFK own idx ax := by
  unfold zFob at h
  split at h
  · rename_i ci j ty kd len off p tl
    obtain ⟨h1, h2⟩ := zand2 h
    obtain ⟨h2, h3⟩ := zand2 h2
    obtain ⟨h3, h4⟩ := zand2 h3
    obtain ⟨a1, a2, a3, a4, a5, a6⟩ := of_decide_eq_true h1
    refine ⟨ci.toNat, j.toNat, ty.toNat, kd.toNat, len.toNat, off, p :: tl, zRX ci.toNat, zTX ci.toNat, zNX ci.toNat, zYX ci.toNat, ?_, by omega, clk_all ci.toNat (by omega), zat_ok h2, of_decide_eq_true h3, of_decide_eq_true h4⟩
    rw [Int.toNat_of_nonneg a1, Int.toNat_of_nonneg a3, Int.toNat_of_nonneg a4, Int.toNat_of_nonneg a5, Int.toNat_of_nonneg a6]
  · cases h
def zYt_0 : List (Nat × Nat × Nat × Nat × Nat × Bool) := [(0, 0, 0, 0, 0, false), (4, 1462, 198, 1460, 1461, false), (3, 1467, 198, 1466, 60, false), (3, 1481, 198, 1480, 63, false), (1, 1471, 198, 1470, 61, false), (0, 1476, 198, 1475, 62, false), (1, 1489, 198, 1487, 1488, false), (1, 1494, 198, 1492, 1493, false), (0, 0, 0, 0, 0, false), (1, 1272, 194, 1270, 1271, false), (1, 1397, 194, 1395, 1396, false), (0, 0, 0, 0, 0, false), (0, 847, 192, 845, 846, false), (1, 1005, 192, 1003, 1004, false), (0, 989, 192, 987, 988, false), (0, 1039, 192, 1037, 1038, false), (0, 1059, 192, 1057, 1058, false), (5, 1217, 192, 1215, 1216, false), (2, 1221, 192, 1220, 41, false), (1, 1225, 192, 1224, 42, false), (1, 1229, 192, 1228, 43, false), (0, 1233, 192, 1232, 44, false), (3, 1237, 192, 1236, 0, true), (1, 1240, 192, 1239, 0, true), (0, 0, 0, 0, 0, false), (2, 985, 190, 983, 984, false), (1, 1043, 190, 1042, 28, false), (1, 1047, 190, 1046, 29, false), (1, 1051, 190, 1050, 30, false), (0, 1055, 190, 1054, 31, false), (1, 993, 190, 992, 22, false), (1, 997, 190, 996, 23, false), (0, 1034, 190, 1033, 27, false), (1, 1001, 190, 1000, 24, false), (2, 1014, 190, 1013, 25, false), (1, 1023, 190, 1022, 26, false), (1, 1030, 190, 1029, 0, true), (0, 0, 0, 0, 0, false), (2, 1205, 195, 1203, 1204, false), (3, 1322, 195, 1320, 1321, false)]
def zYt_1 : List (Nat × Nat × Nat × Nat × Nat × Bool) := [(5, 1327, 195, 1326, 52, false), (0, 0, 0, 0, 0, false), (2, 1289, 196, 1288, 47, false), (3, 1339, 196, 1337, 1338, false), (4, 1281, 196, 1279, 1280, false), (6, 1285, 196, 1283, 1284, false), (3, 1554, 196, 1552, 1553, false), (1, 1297, 196, 1296, 48, false), (2, 1312, 196, 1311, 0, true), (2, 1304, 196, 1303, 49, false), (3, 1309, 196, 1308, 50, false), (1, 1317, 196, 1316, 51, false), (0, 0, 0, 0, 0, false), (0, 1092, 197, 1090, 1091, false), (2, 1502, 197, 1500, 1501, false), (0, 1506, 197, 1505, 64, false), (3, 1513, 197, 1512, 65, false), (1, 1523, 197, 1522, 67, false), (1, 1517, 197, 1516, 66, false), (1, 1529, 197, 1527, 1528, false), (0, 0, 0, 0, 0, false), (0, 840, 191, 838, 839, false), (0, 1068, 191, 1066, 1067, false), (1, 933, 191, 931, 932, false), (1, 949, 191, 947, 948, false), (2, 945, 191, 943, 944, false), (1, 969, 191, 967, 968, false), (0, 1064, 191, 1062, 1063, false), (3, 1072, 191, 1071, 32, false), (1, 1143, 191, 1141, 1142, false), (1, 1139, 191, 1137, 1138, false), (1, 1156, 191, 1154, 1155, false), (0, 1351, 191, 1349, 1350, false), (0, 1590, 191, 1588, 1589, false), (0, 0, 0, 0, 0, false), (3, 836, 184, 834, 835, false), (1, 888, 184, 887, 7, false), (1, 892, 184, 891, 8, false), (1, 896, 184, 895, 9, false), (0, 905, 184, 904, 10, false)]
def zYt_2 : List (Nat × Nat × Nat × Nat × Nat × Bool) := [(0, 917, 184, 916, 11, false), (0, 921, 184, 920, 12, false), (0, 953, 184, 952, 15, false), (1, 961, 184, 960, 17, false), (1, 973, 184, 972, 19, false), (0, 977, 184, 976, 20, false), (1, 981, 184, 980, 21, false), (0, 937, 184, 936, 14, false), (0, 957, 184, 956, 16, false), (2, 929, 184, 928, 13, false), (0, 965, 184, 964, 18, false), (0, 0, 0, 0, 0, false), (1, 1276, 193, 1274, 1275, false), (1, 1076, 193, 1074, 1075, false), (2, 1084, 193, 1082, 1083, false), (1, 1135, 193, 1133, 1134, false), (1, 1176, 193, 1174, 1175, false), (2, 1378, 193, 1376, 1377, false), (2, 1374, 193, 1372, 1373, false), (2, 1160, 193, 1158, 1159, false), (3, 1293, 193, 1291, 1292, false), (2, 1443, 193, 1441, 1442, false), (2, 1168, 193, 1166, 1167, false), (0, 0, 0, 0, 0, false), (3, 276, 185, 275, 0, true), (2, 1126, 185, 1125, 0, true), (2, 851, 185, 849, 850, false), (1, 880, 185, 879, 0, true), (1, 854, 185, 853, 0, true), (1, 857, 185, 856, 0, true), (3, 869, 185, 868, 4, false), (1, 873, 185, 872, 5, false), (3, 861, 185, 860, 2, false), (1, 865, 185, 864, 3, false), (3, 877, 185, 876, 6, false), (0, 884, 185, 882, 883, false), (2, 900, 185, 898, 899, false), (1, 1018, 185, 1016, 1017, false), (1, 1010, 185, 1008, 1009, false), (1, 1027, 185, 1025, 1026, false)]
def zYt_3 : List (Nat × Nat × Nat × Nat × Nat × Bool) := [(1, 925, 185, 923, 924, false), (2, 909, 185, 907, 908, false), (0, 941, 185, 939, 940, false), (0, 0, 0, 0, 0, false), (5, 813, 183, 811, 812, false), (1, 824, 183, 823, 1, false), (1, 828, 183, 826, 827, false), (0, 832, 183, 830, 831, false), (1, 1096, 183, 1094, 1095, false), (1, 817, 183, 816, 0, false), (2, 820, 183, 819, 0, true), (3, 1213, 183, 1212, 0, true), (1, 1108, 183, 1107, 0, true), (1, 1100, 183, 1098, 1099, false), (0, 1104, 183, 1103, 34, false), (0, 1112, 183, 1111, 35, false), (3, 1122, 183, 1120, 1121, false), (2, 1130, 183, 1128, 1129, false), (2, 1148, 183, 1146, 1147, false), (1, 1152, 183, 1151, 36, false), (1, 1264, 183, 1263, 45, false), (1, 1184, 183, 1183, 37, false), (2, 1172, 183, 1170, 1171, false), (2, 1180, 183, 1178, 1179, false), (1, 1189, 183, 1188, 38, false), (2, 1193, 183, 1192, 39, false), (1, 1197, 183, 1196, 40, false), (2, 1201, 183, 1199, 1200, false), (5, 1210, 183, 1208, 1209, false), (0, 1268, 183, 1267, 46, false), (0, 1088, 183, 1087, 33, false), (2, 1260, 183, 1258, 1259, false), (1, 1331, 183, 1329, 1330, false), (1, 1335, 183, 1334, 53, false), (1, 1343, 183, 1341, 1342, false), (0, 1347, 183, 1346, 54, false), (1, 1355, 183, 1354, 55, false), (1, 1362, 183, 1360, 1361, false), (2, 1366, 183, 1364, 1365, false), (2, 1370, 183, 1368, 1369, false)]
def zYt_4 : List (Nat × Nat × Nat × Nat × Nat × Bool) := [(2, 1383, 183, 1381, 1382, false), (1, 1388, 183, 1386, 1387, false), (0, 1393, 183, 1391, 1392, false), (2, 1406, 183, 1405, 56, false), (1, 1419, 183, 1418, 57, false), (3, 1401, 183, 1399, 1400, false), (3, 1411, 183, 1409, 1410, false), (2, 1415, 183, 1413, 1414, false), (2, 1423, 183, 1421, 1422, false), (1, 1431, 183, 1429, 1430, false), (1, 1427, 183, 1426, 58, false), (1, 1435, 183, 1433, 1434, false), (2, 1439, 183, 1437, 1438, false), (3, 1448, 183, 1446, 1447, false), (2, 1452, 183, 1451, 59, false), (1, 1498, 183, 1496, 1497, false), (4, 1533, 183, 1531, 1532, false), (1, 1537, 183, 1536, 68, false), (4, 1542, 183, 1541, 69, false), (2, 1546, 183, 1544, 1545, false), (2, 1550, 183, 1549, 70, false), (2, 1558, 183, 1556, 1557, false), (2, 1562, 183, 1560, 1561, false), (1, 1566, 183, 1565, 71, false), (1, 1570, 183, 1569, 72, false), (2, 1574, 183, 1573, 73, false), (2, 1578, 183, 1577, 74, false), (1, 1582, 183, 1580, 1581, false), (0, 1586, 183, 1585, 75, false), (1, 1594, 183, 1593, 76, false), (1, 1598, 183, 1597, 77, false), (0, 1602, 183, 1600, 1601, false), (1, 1606, 183, 1605, 78, false), (2, 1609, 183, 1608, 0, true), (1, 1613, 183, 1611, 1612, false), (0, 1617, 183, 1615, 1616, false), (0, 1621, 183, 1620, 79, false), (1, 1625, 183, 1624, 80, false), (1, 1629, 183, 1628, 81, false), (0, 1633, 183, 1632, 82, false)]
def zYt_5 : List (Nat × Nat × Nat × Nat × Nat × Bool) := [(1, 1637, 183, 1635, 1636, false), (0, 0, 0, 0, 0, false), (3, 1986, 199, 1985, 0, true), (1, 1940, 199, 1939, 84, false), (5, 1932, 199, 1930, 1931, false), (1, 1944, 199, 1942, 1943, false), (2, 1966, 199, 1965, 87, false), (1, 1959, 199, 1958, 0, true), (1, 1962, 199, 1961, 0, true), (0, 1956, 199, 1955, 86, false), (1, 1994, 199, 1993, 93, false), (1, 1979, 199, 1978, 90, false), (1, 1998, 199, 1997, 94, false), (1, 2034, 199, 2033, 102, false), (2, 2063, 199, 2062, 104, false), (3, 2067, 199, 2066, 105, false), (2, 2059, 199, 2058, 103, false), (2, 1983, 199, 1982, 91, false), (2, 2138, 199, 2137, 122, false), (1, 2149, 199, 2148, 0, true), (1, 2146, 199, 2145, 124, false), (1, 2130, 199, 2129, 120, false), (1, 2119, 199, 2118, 118, false), (1, 2134, 199, 2133, 121, false), (1, 2126, 199, 2125, 0, true), (0, 2123, 199, 2122, 119, false), (0, 2142, 199, 2141, 123, false), (1, 2115, 199, 2114, 117, false), (1, 2011, 199, 2010, 97, false), (1, 1975, 199, 1974, 89, false), (0, 2030, 199, 2029, 101, false), (0, 2075, 199, 2074, 107, false), (2, 2021, 199, 2020, 99, false), (1, 2087, 199, 2086, 110, false), (0, 2083, 199, 2082, 109, false), (0, 1970, 199, 1969, 88, false), (0, 2007, 199, 2006, 96, false), (0, 2016, 199, 2015, 98, false), (0, 2026, 199, 2025, 100, false), (0, 2071, 199, 2070, 106, false)]
def zYt_6 : List (Nat × Nat × Nat × Nat × Nat × Bool) := [(0, 2079, 199, 2078, 108, false), (0, 2091, 199, 2090, 111, false), (0, 2099, 199, 2098, 113, false), (0, 2103, 199, 2102, 114, false), (0, 2107, 199, 2106, 115, false), (0, 2111, 199, 2110, 116, false), (0, 2002, 199, 2001, 95, false), (1, 1990, 199, 1989, 92, false), (0, 2095, 199, 2094, 112, false), (0, 1952, 199, 1951, 85, false), (0, 1948, 199, 1946, 1947, false), (1, 2173, 199, 2171, 2172, false), (1, 1936, 199, 1935, 83, false), (1, 2177, 199, 2175, 2176, false), (1, 2195, 199, 2194, 0, true), (2, 2200, 199, 2199, 0, true), (3, 2192, 199, 2191, 0, true), (2, 2189, 199, 2188, 131, false), (0, 2157, 199, 2156, 126, false), (1, 2230, 199, 2229, 134, false), (1, 2250, 199, 2249, 138, false), (1, 2262, 199, 2261, 140, false), (1, 2270, 199, 2269, 141, false), (1, 2287, 199, 2286, 143, false), (2, 2213, 199, 2212, 133, false), (1, 2169, 199, 2168, 129, false), (2, 2165, 199, 2164, 128, false), (3, 2161, 199, 2160, 127, false), (0, 2153, 199, 2152, 125, false), (2, 2238, 199, 2237, 136, false), (1, 2242, 199, 2241, 137, false), (2, 2275, 199, 2274, 142, false), (1, 2234, 199, 2233, 135, false), (5, 2185, 199, 2184, 130, false), (5, 2181, 199, 2179, 2180, false), (7, 2311, 199, 2310, 149, false), (0, 2295, 199, 2294, 145, false), (3, 2303, 199, 2302, 147, false), (2, 2307, 199, 2306, 148, false), (3, 2299, 199, 2298, 146, false)]
def zYt_7 : List (Nat × Nat × Nat × Nat × Nat × Bool) := [(2, 2319, 199, 2318, 150, false), (1, 2209, 199, 2208, 132, false), (0, 2291, 199, 2290, 144, false), (0, 2205, 199, 2203, 2204, false), (1, 2217, 199, 2215, 2216, false), (3, 2221, 199, 2219, 2220, false), (2, 2226, 199, 2224, 2225, false), (2, 2254, 199, 2253, 139, false), (2, 2246, 199, 2244, 2245, false), (2, 2258, 199, 2256, 2257, false), (2, 2266, 199, 2264, 2265, false), (2, 2279, 199, 2277, 2278, false), (2, 2283, 199, 2281, 2282, false), (1, 2315, 199, 2313, 2314, false), (0, 2327, 199, 2326, 151, false), (1, 2331, 199, 2330, 152, false), (1, 2323, 199, 2321, 2322, false), (1, 2339, 199, 2337, 2338, false), (2, 2343, 199, 2341, 2342, false), (2, 2351, 199, 2350, 153, false), (2, 2347, 199, 2345, 2346, false), (2, 2355, 199, 2353, 2354, false), (1, 2359, 199, 2357, 2358, false), (2, 2367, 199, 2366, 154, false), (3, 2363, 199, 2361, 2362, false), (3, 2372, 199, 2370, 2371, false), (3, 2380, 199, 2379, 155, false), (2, 2376, 199, 2374, 2375, false), (2, 2384, 199, 2382, 2383, false), (1, 2388, 199, 2386, 2387, false), (1, 2392, 199, 2390, 2391, false), (3, 2400, 199, 2399, 156, false), (2, 2396, 199, 2394, 2395, false), (2, 2408, 199, 2407, 157, false), (0, 2416, 199, 2415, 159, false), (0, 2424, 199, 2423, 161, false), (1, 2420, 199, 2419, 160, false), (1, 2412, 199, 2411, 158, false), (3, 2404, 199, 2402, 2403, false), (1, 2436, 199, 2435, 163, false)]
def zYt_8 : List (Nat × Nat × Nat × Nat × Nat × Bool) := [(1, 2444, 199, 2443, 165, false), (2, 2448, 199, 2447, 166, false), (2, 2440, 199, 2439, 164, false), (2, 2452, 199, 2451, 167, false), (0, 2456, 199, 2455, 168, false), (0, 2432, 199, 2431, 162, false), (1, 2428, 199, 2426, 2427, false), (2, 2467, 199, 2466, 0, true), (2, 2464, 199, 2463, 169, false), (2, 2478, 199, 2477, 0, true), (1, 2471, 199, 2470, 170, false), (1, 2475, 199, 2474, 171, false), (1, 2482, 199, 2481, 172, false), (4, 2460, 199, 2458, 2459, false), (2, 2487, 199, 2485, 2486, false), (2, 2491, 199, 2489, 2490, false), (1, 2503, 199, 2502, 174, false), (0, 2499, 199, 2498, 173, false), (2, 2495, 199, 2493, 2494, false), (0, 2511, 199, 2510, 175, false), (1, 2507, 199, 2505, 2506, false), (1, 2519, 199, 2518, 176, false), (0, 2515, 199, 2513, 2514, false), (1, 2523, 199, 2521, 2522, false), (0, 2535, 199, 2534, 178, false), (1, 2543, 199, 2542, 180, false), (1, 2547, 199, 2546, 181, false), (1, 2539, 199, 2538, 179, false), (1, 2531, 199, 2530, 177, false), (0, 2527, 199, 2525, 2526, false), (1, 1455, 204, 1454, 0, true), (1, 1115, 203, 1114, 0, true), (2, 1251, 201, 1250, 0, true), (2, 1254, 201, 1253, 0, true), (2, 1164, 201, 1163, 0, true), (2, 1248, 201, 1247, 0, true), (2, 913, 201, 912, 0, true), (2, 1245, 201, 1244, 0, true), (2, 843, 200, 842, 0, true)]
def zYl : List (Nat × Nat × Nat × Nat × Nat × Bool) := zYt_0 ++ (zYt_1 ++ (zYt_2 ++ (zYt_3 ++ (zYt_4 ++ (zYt_5 ++ (zYt_6 ++ (zYt_7 ++ (zYt_8))))))))
theorem zYl_len : zYl.length = 359 := by decide +kernel
def zYt : Nat → Nat × Nat × Nat × Nat × Nat × Bool := fun y => List.getD zYl y (0, 0, 0, 0, 0, false)
theorem tbi_1 {w : Cond} (h : w ∈ tables_1_1) : w ∈ lw_tbl := List.mem_append_right _ (List.mem_append_left _ h)
theorem tbi_2 {w : Cond} (h : w ∈ tables_1_2) : w ∈ lw_tbl := List.mem_append_right _ (List.mem_append_right _ (List.mem_append_left _ h))
theorem tbi_3 {w : Cond} (h : w ∈ tables_1_3) : w ∈ lw_tbl := List.mem_append_right _ (List.mem_append_right _ (List.mem_append_right _ (List.mem_append_left _ h)))
theorem tbi_4 {w : Cond} (h : w ∈ tables_1_4) : w ∈ lw_tbl := List.mem_append_right _ (List.mem_append_right _ (List.mem_append_right _ (List.mem_append_right _ (List.mem_append_left _ h))))
theorem tbi_5 {w : Cond} (h : w ∈ tables_1_5) : w ∈ lw_tbl := List.mem_append_right _ (List.mem_append_right _ (List.mem_append_right _ (List.mem_append_right _ (List.mem_append_right _ (List.mem_append_left _ h)))))
theorem tbi_6 {w : Cond} (h : w ∈ tables_1_6) : w ∈ lw_tbl := List.mem_append_right _ (List.mem_append_right _ (List.mem_append_right _ (List.mem_append_right _ (List.mem_append_right _ (List.mem_append_right _ (List.mem_append_left _ h))))))
theorem tbi_7 {w : Cond} (h : w ∈ tables_1_7) : w ∈ lw_tbl := List.mem_append_right _ (List.mem_append_right _ (List.mem_append_right _ (List.mem_append_right _ (List.mem_append_right _ (List.mem_append_right _ (List.mem_append_right _ (List.mem_append_left _ h)))))))
theorem tbi_8 {w : Cond} (h : w ∈ tables_1_8) : w ∈ lw_tbl := List.mem_append_right _ (List.mem_append_right _ (List.mem_append_right _ (List.mem_append_right _ (List.mem_append_right _ (List.mem_append_right _ (List.mem_append_right _ (List.mem_append_right _ (List.mem_append_left _ h))))))))
theorem tbi_9 {w : Cond} (h : w ∈ tables_1_9) : w ∈ lw_tbl := List.mem_append_right _ (List.mem_append_right _ (List.mem_append_right _ (List.mem_append_right _ (List.mem_append_right _ (List.mem_append_right _ (List.mem_append_right _ (List.mem_append_right _ (List.mem_append_right _ (List.mem_append_left _ h)))))))))
theorem tbi_10 {w : Cond} (h : w ∈ tables_1_10) : w ∈ lw_tbl := List.mem_append_right _ (List.mem_append_right _ (List.mem_append_right _ (List.mem_append_right _ (List.mem_append_right _ (List.mem_append_right _ (List.mem_append_right _ (List.mem_append_right _ (List.mem_append_right _ (List.mem_append_right _ (h))))))))))
def zcP (M : zMD) : Prop := M = zM0 ∨ Cond.code M.1 M.2.1 M.2.2.1 M.2.2.2.1 ∈ lw_tbl
set_option maxRecDepth 10000 in
theorem cm_1 : Cond.code ⟨"BoulderDowry$CrewSearch", "find", "(LBoulderDowry$Slope;LBoulderDowry$State;II)Z"⟩ prog_2_method_2_code 6 (some .boolean) ∈ lw_tbl := tbi_6 (List.mem_of_getElem? (i := 80) rfl)
set_option maxRecDepth 10000 in
theorem cm_2 : Cond.code ⟨"BoulderDowry$CrewSearch", "place", "(LBoulderDowry$State;II)V"⟩ prog_2_method_3_code 5 none ∈ lw_tbl := tbi_6 (List.mem_of_getElem? (i := 85) rfl)
set_option maxRecDepth 10000 in
theorem cm_3 : Cond.code ⟨"BoulderDowry$CrewSearch", "leverOrLeave", "(LBoulderDowry$State;II)V"⟩ prog_2_method_4_code 7 none ∈ lw_tbl := tbi_6 (List.mem_of_getElem? (i := 99) rfl)
set_option maxRecDepth 10000 in
theorem cm_4 : Cond.code ⟨"BoulderDowry$CrewSearch", "judge", "(LBoulderDowry$State;)V"⟩ prog_2_method_5_code 4 none ∈ lw_tbl := tbi_6 (List.mem_of_getElem? (i := 89) rfl)
set_option maxRecDepth 10000 in
theorem cm_5 : Cond.code ⟨"BoulderDowry$CrewSearch", "isFewerFirst", "()Z"⟩ prog_2_method_6_code 2 (some .boolean) ∈ lw_tbl := tbi_6 (List.mem_of_getElem? (i := 94) rfl)
set_option maxRecDepth 10000 in
theorem cm_6 : Cond.code ⟨"BoulderDowry$CrewSearch", "menOf", "(I)I"⟩ prog_2_method_7_code 2 (some .int) ∈ lw_tbl := tbi_6 (List.mem_of_getElem? (i := 107) rfl)
set_option maxRecDepth 10000 in
theorem cm_7 : Cond.code ⟨"BoulderDowry$CrewSearch", "stoneInOrder", "(I)I"⟩ prog_2_method_8_code 2 (some .int) ∈ lw_tbl := tbi_6 (List.mem_of_getElem? (i := 112) rfl)
set_option maxRecDepth 10000 in
theorem cm_9 : Cond.code ⟨"BoulderDowry$History", "keep", "(LBoulderDowry$State;)V"⟩ prog_3_method_2_code 3 none ∈ lw_tbl := tbi_5 (List.mem_of_getElem? (i := 130) rfl)
set_option maxRecDepth 10000 in
theorem cm_10 : Cond.code ⟨"BoulderDowry$History", "giveBack", "(LBoulderDowry$State;)Z"⟩ prog_3_method_3_code 3 (some .boolean) ∈ lw_tbl := tbi_6 (List.mem_of_getElem? (i := 15) rfl)
set_option maxRecDepth 10000 in
theorem cm_12 : Cond.code ⟨"BoulderDowry$LawBook", "clear", "()V"⟩ prog_4_method_2_code 1 none ∈ lw_tbl := tbi_3 (List.mem_of_getElem? (i := 185) rfl)
set_option maxRecDepth 10000 in
theorem cm_13 : Cond.code ⟨"BoulderDowry$LawBook", "put", "(I)V"⟩ prog_4_method_3_code 2 none ∈ lw_tbl := tbi_4 (List.mem_of_getElem? (i := 103) rfl)
set_option maxRecDepth 10000 in
theorem cm_14 : Cond.code ⟨"BoulderDowry$LawBook", "beginSum", "()V"⟩ prog_4_method_4_code 1 none ∈ lw_tbl := tbi_4 (List.mem_of_getElem? (i := 87) rfl)
set_option maxRecDepth 10000 in
theorem cm_15 : Cond.code ⟨"BoulderDowry$LawBook", "beginTest", "()V"⟩ prog_4_method_5_code 1 none ∈ lw_tbl := tbi_4 (List.mem_of_getElem? (i := 137) rfl)
set_option maxRecDepth 10000 in
theorem cm_16 : Cond.code ⟨"BoulderDowry$LawBook", "endLaw", "()V"⟩ prog_4_method_6_code 1 none ∈ lw_tbl := tbi_4 (List.mem_of_getElem? (i := 157) rfl)
set_option maxRecDepth 10000 in
theorem cm_17 : Cond.code ⟨"BoulderDowry$LawBook", "dueOf", "(IIIII)I"⟩ prog_4_method_7_code 7 (some .int) ∈ lw_tbl := tbi_5 (List.mem_of_getElem? (i := 75) rfl)
set_option maxRecDepth 10000 in
theorem cm_18 : Cond.code ⟨"BoulderDowry$LawBook", "reckon", "(II)I"⟩ prog_4_method_8_code 4 (some .int) ∈ lw_tbl := tbi_5 (List.mem_of_getElem? (i := 79) rfl)
set_option maxRecDepth 10000 in
theorem cm_19 : Cond.code ⟨"BoulderDowry$LawBook", "work", "(I)V"⟩ prog_4_method_9_code 4 none ∈ lw_tbl := tbi_5 (List.mem_of_getElem? (i := 83) rfl)
set_option maxRecDepth 10000 in
theorem cm_20 : Cond.code ⟨"BoulderDowry$LawBook", "push", "(I)V"⟩ prog_4_method_10_code 2 none ∈ lw_tbl := tbi_5 (List.mem_of_getElem? (i := 87) rfl)
set_option maxRecDepth 10000 in
theorem cm_21 : Cond.code ⟨"BoulderDowry$LawBook", "pop", "()I"⟩ prog_4_method_11_code 1 (some .int) ∈ lw_tbl := tbi_5 (List.mem_of_getElem? (i := 91) rfl)
set_option maxRecDepth 10000 in
theorem cm_22 : Cond.code ⟨"BoulderDowry$LawBook", "join", "(III)I"⟩ prog_4_method_12_code 3 (some .int) ∈ lw_tbl := tbi_5 (List.mem_of_getElem? (i := 95) rfl)
set_option maxRecDepth 10000 in
theorem cm_23 : Cond.code ⟨"BoulderDowry$LawBook", "cut", "(J)I"⟩ prog_4_method_13_code 2 (some .int) ∈ lw_tbl := tbi_5 (List.mem_of_getElem? (i := 98) rfl)
set_option maxRecDepth 10000 in
theorem cm_25 : Cond.code ⟨"BoulderDowry$LawReader", "readLaw", "(LBoulderDowry$Tokens;LBoulderDowry$LawBook;)V"⟩ prog_5_method_2_code 3 none ∈ lw_tbl := tbi_4 (List.mem_of_getElem? (i := 83) rfl)
set_option maxRecDepth 10000 in
theorem cm_26 : Cond.code ⟨"BoulderDowry$LawReader", "readTest", "(I)V"⟩ prog_5_method_3_code 3 none ∈ lw_tbl := tbi_4 (List.mem_of_getElem? (i := 141) rfl)
set_option maxRecDepth 10000 in
theorem cm_27 : Cond.code ⟨"BoulderDowry$LawReader", "readBoth", "(I)V"⟩ prog_5_method_4_code 3 none ∈ lw_tbl := tbi_4 (List.mem_of_getElem? (i := 145) rfl)
set_option maxRecDepth 10000 in
theorem cm_28 : Cond.code ⟨"BoulderDowry$LawReader", "readFact", "(I)V"⟩ prog_5_method_5_code 4 none ∈ lw_tbl := tbi_4 (List.mem_of_getElem? (i := 149) rfl)
set_option maxRecDepth 10000 in
theorem cm_29 : Cond.code ⟨"BoulderDowry$LawReader", "needComparison", "()I"⟩ prog_5_method_6_code 2 (some .int) ∈ lw_tbl := tbi_4 (List.mem_of_getElem? (i := 153) rfl)
set_option maxRecDepth 10000 in
theorem cm_30 : Cond.code ⟨"BoulderDowry$LawReader", "readSum", "(I)V"⟩ prog_5_method_7_code 4 none ∈ lw_tbl := tbi_4 (List.mem_of_getElem? (i := 91) rfl)
set_option maxRecDepth 10000 in
theorem cm_31 : Cond.code ⟨"BoulderDowry$LawReader", "readProduct", "(I)V"⟩ prog_5_method_8_code 4 none ∈ lw_tbl := tbi_4 (List.mem_of_getElem? (i := 95) rfl)
set_option maxRecDepth 10000 in
theorem cm_32 : Cond.code ⟨"BoulderDowry$LawReader", "productCode", "()I"⟩ prog_5_method_9_code 1 (some .int) ∈ lw_tbl := tbi_4 (List.mem_of_getElem? (i := 132) rfl)
set_option maxRecDepth 10000 in
theorem cm_33 : Cond.code ⟨"BoulderDowry$LawReader", "readPart", "(I)V"⟩ prog_5_method_10_code 2 none ∈ lw_tbl := tbi_4 (List.mem_of_getElem? (i := 99) rfl)
set_option maxRecDepth 10000 in
theorem cm_34 : Cond.code ⟨"BoulderDowry$LawReader", "readChoice", "(II)V"⟩ prog_5_method_11_code 3 none ∈ lw_tbl := tbi_4 (List.mem_of_getElem? (i := 112) rfl)
set_option maxRecDepth 10000 in
theorem cm_35 : Cond.code ⟨"BoulderDowry$LawReader", "opens", "(I)Z"⟩ prog_5_method_12_code 2 (some .boolean) ∈ lw_tbl := tbi_4 (List.mem_of_getElem? (i := 121) rfl)
set_option maxRecDepth 10000 in
theorem cm_36 : Cond.code ⟨"BoulderDowry$LawReader", "factCode", "(I)I"⟩ prog_5_method_13_code 1 (some .int) ∈ lw_tbl := tbi_4 (List.mem_of_getElem? (i := 128) rfl)
set_option maxRecDepth 10000 in
theorem cm_38 : Cond.code ⟨"BoulderDowry$Ledger", "told", "(II)I"⟩ prog_6_method_2_code 4 (some .int) ∈ lw_tbl := tbi_5 (List.mem_of_getElem? (i := 63) rfl)
set_option maxRecDepth 10000 in
theorem cm_39 : Cond.code ⟨"BoulderDowry$Ledger", "settle", "(LBoulderDowry$Slope;LBoulderDowry$State;LBoulderDowry$Mover;)V"⟩ prog_6_method_3_code 9 none ∈ lw_tbl := tbi_5 (List.mem_of_getElem? (i := 180) rfl)
theorem cmL_0 : ∀ M ∈ zML_0, zcP M := (List.forall_mem_cons.mpr ⟨Or.inl rfl, (List.forall_mem_cons.mpr ⟨Or.inr cm_1, (List.forall_mem_cons.mpr ⟨Or.inr cm_2, (List.forall_mem_cons.mpr ⟨Or.inr cm_3, (List.forall_mem_cons.mpr ⟨Or.inr cm_4, (List.forall_mem_cons.mpr ⟨Or.inr cm_5, (List.forall_mem_cons.mpr ⟨Or.inr cm_6, (List.forall_mem_cons.mpr ⟨Or.inr cm_7, (List.forall_mem_cons.mpr ⟨Or.inl rfl, (List.forall_mem_cons.mpr ⟨Or.inr cm_9, (List.forall_mem_cons.mpr ⟨Or.inr cm_10, (List.forall_mem_cons.mpr ⟨Or.inl rfl, (List.forall_mem_cons.mpr ⟨Or.inr cm_12, (List.forall_mem_cons.mpr ⟨Or.inr cm_13, (List.forall_mem_cons.mpr ⟨Or.inr cm_14, (List.forall_mem_cons.mpr ⟨Or.inr cm_15, (List.forall_mem_cons.mpr ⟨Or.inr cm_16, (List.forall_mem_cons.mpr ⟨Or.inr cm_17, (List.forall_mem_cons.mpr ⟨Or.inr cm_18, (List.forall_mem_cons.mpr ⟨Or.inr cm_19, (List.forall_mem_cons.mpr ⟨Or.inr cm_20, (List.forall_mem_cons.mpr ⟨Or.inr cm_21, (List.forall_mem_cons.mpr ⟨Or.inr cm_22, (List.forall_mem_cons.mpr ⟨Or.inr cm_23, (List.forall_mem_cons.mpr ⟨Or.inl rfl, (List.forall_mem_cons.mpr ⟨Or.inr cm_25, (List.forall_mem_cons.mpr ⟨Or.inr cm_26, (List.forall_mem_cons.mpr ⟨Or.inr cm_27, (List.forall_mem_cons.mpr ⟨Or.inr cm_28, (List.forall_mem_cons.mpr ⟨Or.inr cm_29, (List.forall_mem_cons.mpr ⟨Or.inr cm_30, (List.forall_mem_cons.mpr ⟨Or.inr cm_31, (List.forall_mem_cons.mpr ⟨Or.inr cm_32, (List.forall_mem_cons.mpr ⟨Or.inr cm_33, (List.forall_mem_cons.mpr ⟨Or.inr cm_34, (List.forall_mem_cons.mpr ⟨Or.inr cm_35, (List.forall_mem_cons.mpr ⟨Or.inr cm_36, (List.forall_mem_cons.mpr ⟨Or.inl rfl, (List.forall_mem_cons.mpr ⟨Or.inr cm_38, (List.forall_mem_cons.mpr ⟨Or.inr cm_39, (fun _ h => absurd h List.not_mem_nil)⟩)⟩)⟩)⟩)⟩)⟩)⟩)⟩)⟩)⟩)⟩)⟩)⟩)⟩)⟩)⟩)⟩)⟩)⟩)⟩)⟩)⟩)⟩)⟩)⟩)⟩)⟩)⟩)⟩)⟩)⟩)⟩)⟩)⟩)⟩)⟩)⟩)⟩)⟩)⟩)
set_option maxRecDepth 10000 in
theorem cm_40 : Cond.code ⟨"BoulderDowry$Ledger", "charge", "(LBoulderDowry$State;IIII)V"⟩ prog_6_method_4_code 7 none ∈ lw_tbl := tbi_5 (List.mem_of_getElem? (i := 185) rfl)
set_option maxRecDepth 10000 in
theorem cm_42 : Cond.code ⟨"BoulderDowry$Mover", "begin", "(LBoulderDowry$Slope;LBoulderDowry$State;)V"⟩ prog_7_method_2_code 3 none ∈ lw_tbl := tbi_5 (List.mem_of_getElem? (i := 147) rfl)
set_option maxRecDepth 10000 in
theorem cm_43 : Cond.code ⟨"BoulderDowry$Mover", "pushAll", "(LBoulderDowry$Slope;LBoulderDowry$State;I)V"⟩ prog_7_method_3_code 4 none ∈ lw_tbl := tbi_5 (List.mem_of_getElem? (i := 197) rfl)
set_option maxRecDepth 10000 in
theorem cm_44 : Cond.code ⟨"BoulderDowry$Mover", "pushOne", "(LBoulderDowry$Slope;LBoulderDowry$State;II)V"⟩ prog_7_method_4_code 5 none ∈ lw_tbl := tbi_5 (List.mem_of_getElem? (i := 139) rfl)
set_option maxRecDepth 10000 in
theorem cm_45 : Cond.code ⟨"BoulderDowry$Mover", "pushSome", "(LBoulderDowry$Slope;LBoulderDowry$State;IIIZ)V"⟩ prog_7_method_5_code 10 none ∈ lw_tbl := tbi_5 (List.mem_of_getElem? (i := 143) rfl)
set_option maxRecDepth 10000 in
theorem cm_46 : Cond.code ⟨"BoulderDowry$Mover", "rollsAlone", "(LBoulderDowry$Slope;LBoulderDowry$State;I)Z"⟩ prog_7_method_6_code 5 (some .boolean) ∈ lw_tbl := tbi_6 (List.mem_of_getElem? (i := 172) rfl)
set_option maxRecDepth 10000 in
theorem cm_47 : Cond.code ⟨"BoulderDowry$Mover", "rollOnce", "(I)I"⟩ prog_7_method_7_code 8 (some .int) ∈ lw_tbl := tbi_5 (List.mem_of_getElem? (i := 155) rfl)
set_option maxRecDepth 10000 in
theorem cm_48 : Cond.code ⟨"BoulderDowry$Mover", "quotient", "(II)I"⟩ prog_7_method_8_code 2 (some .int) ∈ lw_tbl := tbi_5 (List.mem_of_getElem? (i := 170) rfl)
set_option maxRecDepth 10000 in
theorem cm_49 : Cond.code ⟨"BoulderDowry$Mover", "goesOnFrom", "(II)Z"⟩ prog_7_method_9_code 5 (some .boolean) ∈ lw_tbl := tbi_5 (List.mem_of_getElem? (i := 162) rfl)
set_option maxRecDepth 10000 in
theorem cm_50 : Cond.code ⟨"BoulderDowry$Mover", "claim", "(III)V"⟩ prog_7_method_10_code 6 none ∈ lw_tbl := tbi_5 (List.mem_of_getElem? (i := 167) rfl)
set_option maxRecDepth 10000 in
theorem cm_51 : Cond.code ⟨"BoulderDowry$Mover", "comeInto", "(I)V"⟩ prog_7_method_11_code 2 none ∈ lw_tbl := tbi_5 (List.mem_of_getElem? (i := 175) rfl)
set_option maxRecDepth 10000 in
theorem cm_53 : Cond.code ⟨"BoulderDowry$NetSearch", "forget", "()V"⟩ prog_8_method_2_code 1 none ∈ lw_tbl := tbi_4 (List.mem_of_getElem? (i := 190) rfl)
set_option maxRecDepth 10000 in
theorem cm_54 : Cond.code ⟨"BoulderDowry$NetSearch", "find", "(LBoulderDowry$Slope;LBoulderDowry$State;)V"⟩ prog_8_method_3_code 6 none ∈ lw_tbl := tbi_6 (List.mem_of_getElem? (i := 120) rfl)
set_option maxRecDepth 10000 in
theorem cm_55 : Cond.code ⟨"BoulderDowry$NetSearch", "freeCells", "()J"⟩ prog_8_method_4_code 4 (some .long) ∈ lw_tbl := tbi_6 (List.mem_of_getElem? (i := 124) rfl)
set_option maxRecDepth 10000 in
theorem cm_56 : Cond.code ⟨"BoulderDowry$NetSearch", "grow", "(JJI)V"⟩ prog_8_method_5_code 13 none ∈ lw_tbl := tbi_6 (List.mem_of_getElem? (i := 131) rfl)
set_option maxRecDepth 10000 in
theorem cm_57 : Cond.code ⟨"BoulderDowry$NetSearch", "keepIfFirst", "(J)V"⟩ prog_8_method_6_code 5 none ∈ lw_tbl := tbi_6 (List.mem_of_getElem? (i := 141) rfl)
set_option maxRecDepth 10000 in
theorem cm_58 : Cond.code ⟨"BoulderDowry$NetSearch", "trailToRuin", "(J)J"⟩ prog_8_method_7_code 4 (some .long) ∈ lw_tbl := tbi_6 (List.mem_of_getElem? (i := 135) rfl)
set_option maxRecDepth 10000 in
theorem cm_59 : Cond.code ⟨"BoulderDowry$NetSearch", "placeOf", "(I)I"⟩ prog_8_method_8_code 4 (some .int) ∈ lw_tbl := tbi_6 (List.mem_of_getElem? (i := 147) rfl)
set_option maxRecDepth 10000 in
theorem cm_61 : Cond.code ⟨"BoulderDowry$Slope", "clear", "()V"⟩ prog_9_method_2_code 1 none ∈ lw_tbl := tbi_3 (List.mem_of_getElem? (i := 178) rfl)
set_option maxRecDepth 10000 in
theorem cm_62 : Cond.code ⟨"BoulderDowry$Slope", "cells", "()I"⟩ prog_9_method_3_code 1 (some .int) ∈ lw_tbl := tbi_4 (List.mem_of_getElem? (i := 166) rfl)
set_option maxRecDepth 10000 in
theorem cm_63 : Cond.code ⟨"BoulderDowry$Slope", "hasCell", "(I)Z"⟩ prog_9_method_4_code 2 (some .boolean) ∈ lw_tbl := tbi_4 (List.mem_of_getElem? (i := 31) rfl)
set_option maxRecDepth 10000 in
theorem cm_64 : Cond.code ⟨"BoulderDowry$Slope", "named", "(I)I"⟩ prog_9_method_5_code 2 (some .int) ∈ lw_tbl := tbi_4 (List.mem_of_getElem? (i := 47) rfl)
set_option maxRecDepth 10000 in
theorem cm_65 : Cond.code ⟨"BoulderDowry$Slope", "find", "(II)I"⟩ prog_9_method_6_code 4 (some .int) ∈ lw_tbl := tbi_4 (List.mem_of_getElem? (i := 43) rfl)
set_option maxRecDepth 10000 in
theorem cm_66 : Cond.code ⟨"BoulderDowry$Slope", "isFree", "(I)Z"⟩ prog_9_method_7_code 3 (some .boolean) ∈ lw_tbl := tbi_4 (List.mem_of_getElem? (i := 67) rfl)
set_option maxRecDepth 10000 in
theorem cm_67 : Cond.code ⟨"BoulderDowry$Slope", "findNexts", "()V"⟩ prog_9_method_8_code 4 none ∈ lw_tbl := tbi_4 (List.mem_of_getElem? (i := 162) rfl)
set_option maxRecDepth 10000 in
theorem cm_68 : Cond.code ⟨"BoulderDowry$Slope", "lower", "(IIZ)I"⟩ prog_9_method_9_code 4 (some .int) ∈ lw_tbl := tbi_4 (List.mem_of_getElem? (i := 170) rfl)
set_option maxRecDepth 10000 in
theorem cm_69 : Cond.code ⟨"BoulderDowry$Slope", "nextOf", "(I)I"⟩ prog_9_method_10_code 2 (some .int) ∈ lw_tbl := tbi_5 (List.mem_of_getElem? (i := 1) rfl)
set_option maxRecDepth 10000 in
theorem cm_70 : Cond.code ⟨"BoulderDowry$Slope", "bottomOf", "(I)I"⟩ prog_9_method_11_code 4 (some .int) ∈ lw_tbl := tbi_4 (List.mem_of_getElem? (i := 237) rfl)
set_option maxRecDepth 10000 in
theorem cm_71 : Cond.code ⟨"BoulderDowry$Slope", "ownerOf", "(I)I"⟩ prog_9_method_12_code 2 (some .int) ∈ lw_tbl := tbi_5 (List.mem_of_getElem? (i := 14) rfl)
set_option maxRecDepth 10000 in
theorem cm_72 : Cond.code ⟨"BoulderDowry$Slope", "oddsOfAll", "()I"⟩ prog_9_method_13_code 3 (some .int) ∈ lw_tbl := tbi_5 (List.mem_of_getElem? (i := 209) rfl)
set_option maxRecDepth 10000 in
theorem cm_73 : Cond.code ⟨"BoulderDowry$Slope", "ropesTogether", "()I"⟩ prog_9_method_14_code 3 (some .int) ∈ lw_tbl := tbi_6 (List.mem_of_getElem? (i := 208) rfl)
set_option maxRecDepth 10000 in
theorem cm_75 : Cond.code ⟨"BoulderDowry$SlopeReader", "readInto", "(LBoulderDowry$Slope;[II)I"⟩ prog_10_method_2_code 5 (some .int) ∈ lw_tbl := tbi_3 (List.mem_of_getElem? (i := 174) rfl)
set_option maxRecDepth 10000 in
theorem cm_76 : Cond.code ⟨"BoulderDowry$SlopeReader", "readStatement", "(Z)V"⟩ prog_10_method_3_code 3 none ∈ lw_tbl := tbi_3 (List.mem_of_getElem? (i := 226) rfl)
set_option maxRecDepth 10000 in
theorem cm_77 : Cond.code ⟨"BoulderDowry$SlopeReader", "needKind", "(Z)I"⟩ prog_10_method_4_code 4 (some .int) ∈ lw_tbl := tbi_3 (List.mem_of_getElem? (i := 230) rfl)
set_option maxRecDepth 10000 in
theorem cm_78 : Cond.code ⟨"BoulderDowry$SlopeReader", "mostOf", "(I)I"⟩ prog_10_method_5_code 2 (some .int) ∈ lw_tbl := tbi_3 (List.mem_of_getElem? (i := 234) rfl)
set_option maxRecDepth 10000 in
theorem cm_79 : Cond.code ⟨"BoulderDowry$SlopeReader", "readField", "()V"⟩ prog_10_method_6_code 3 none ∈ lw_tbl := tbi_4 (List.mem_of_getElem? (i := 3) rfl)
theorem cmL_1 : ∀ M ∈ zML_1, zcP M := (List.forall_mem_cons.mpr ⟨Or.inr cm_40, (List.forall_mem_cons.mpr ⟨Or.inl rfl, (List.forall_mem_cons.mpr ⟨Or.inr cm_42, (List.forall_mem_cons.mpr ⟨Or.inr cm_43, (List.forall_mem_cons.mpr ⟨Or.inr cm_44, (List.forall_mem_cons.mpr ⟨Or.inr cm_45, (List.forall_mem_cons.mpr ⟨Or.inr cm_46, (List.forall_mem_cons.mpr ⟨Or.inr cm_47, (List.forall_mem_cons.mpr ⟨Or.inr cm_48, (List.forall_mem_cons.mpr ⟨Or.inr cm_49, (List.forall_mem_cons.mpr ⟨Or.inr cm_50, (List.forall_mem_cons.mpr ⟨Or.inr cm_51, (List.forall_mem_cons.mpr ⟨Or.inl rfl, (List.forall_mem_cons.mpr ⟨Or.inr cm_53, (List.forall_mem_cons.mpr ⟨Or.inr cm_54, (List.forall_mem_cons.mpr ⟨Or.inr cm_55, (List.forall_mem_cons.mpr ⟨Or.inr cm_56, (List.forall_mem_cons.mpr ⟨Or.inr cm_57, (List.forall_mem_cons.mpr ⟨Or.inr cm_58, (List.forall_mem_cons.mpr ⟨Or.inr cm_59, (List.forall_mem_cons.mpr ⟨Or.inl rfl, (List.forall_mem_cons.mpr ⟨Or.inr cm_61, (List.forall_mem_cons.mpr ⟨Or.inr cm_62, (List.forall_mem_cons.mpr ⟨Or.inr cm_63, (List.forall_mem_cons.mpr ⟨Or.inr cm_64, (List.forall_mem_cons.mpr ⟨Or.inr cm_65, (List.forall_mem_cons.mpr ⟨Or.inr cm_66, (List.forall_mem_cons.mpr ⟨Or.inr cm_67, (List.forall_mem_cons.mpr ⟨Or.inr cm_68, (List.forall_mem_cons.mpr ⟨Or.inr cm_69, (List.forall_mem_cons.mpr ⟨Or.inr cm_70, (List.forall_mem_cons.mpr ⟨Or.inr cm_71, (List.forall_mem_cons.mpr ⟨Or.inr cm_72, (List.forall_mem_cons.mpr ⟨Or.inr cm_73, (List.forall_mem_cons.mpr ⟨Or.inl rfl, (List.forall_mem_cons.mpr ⟨Or.inr cm_75, (List.forall_mem_cons.mpr ⟨Or.inr cm_76, (List.forall_mem_cons.mpr ⟨Or.inr cm_77, (List.forall_mem_cons.mpr ⟨Or.inr cm_78, (List.forall_mem_cons.mpr ⟨Or.inr cm_79, (fun _ h => absurd h List.not_mem_nil)⟩)⟩)⟩)⟩)⟩)⟩)⟩)⟩)⟩)⟩)⟩)⟩)⟩)⟩)⟩)⟩)⟩)⟩)⟩)⟩)⟩)⟩)⟩)⟩)⟩)⟩)⟩)⟩)⟩)⟩)⟩)⟩)⟩)⟩)⟩)⟩)⟩)⟩)⟩)⟩)
set_option maxRecDepth 10000 in
theorem cm_80 : Cond.code ⟨"BoulderDowry$SlopeReader", "readRow", "()V"⟩ prog_10_method_7_code 3 none ∈ lw_tbl := tbi_4 (List.mem_of_getElem? (i := 15) rfl)
set_option maxRecDepth 10000 in
theorem cm_81 : Cond.code ⟨"BoulderDowry$SlopeReader", "readRough", "()V"⟩ prog_10_method_8_code 3 none ∈ lw_tbl := tbi_4 (List.mem_of_getElem? (i := 19) rfl)
set_option maxRecDepth 10000 in
theorem cm_82 : Cond.code ⟨"BoulderDowry$SlopeReader", "readLand", "()V"⟩ prog_10_method_9_code 8 none ∈ lw_tbl := tbi_4 (List.mem_of_getElem? (i := 51) rfl)
set_option maxRecDepth 10000 in
theorem cm_83 : Cond.code ⟨"BoulderDowry$SlopeReader", "readStone", "(I)V"⟩ prog_10_method_10_code 2 none ∈ lw_tbl := tbi_4 (List.mem_of_getElem? (i := 59) rfl)
set_option maxRecDepth 10000 in
theorem cm_84 : Cond.code ⟨"BoulderDowry$SlopeReader", "readHouse", "(I)V"⟩ prog_10_method_11_code 3 none ∈ lw_tbl := tbi_4 (List.mem_of_getElem? (i := 71) rfl)
set_option maxRecDepth 10000 in
theorem cm_85 : Cond.code ⟨"BoulderDowry$SlopeReader", "readWall", "()V"⟩ prog_10_method_12_code 3 none ∈ lw_tbl := tbi_4 (List.mem_of_getElem? (i := 75) rfl)
set_option maxRecDepth 10000 in
theorem cm_86 : Cond.code ⟨"BoulderDowry$SlopeReader", "readThaw", "(I)V"⟩ prog_10_method_13_code 2 none ∈ lw_tbl := tbi_4 (List.mem_of_getElem? (i := 79) rfl)
set_option maxRecDepth 10000 in
theorem cm_87 : Cond.code ⟨"BoulderDowry$SlopeReader", "needNewName", "()I"⟩ prog_10_method_14_code 3 (some .int) ∈ lw_tbl := tbi_4 (List.mem_of_getElem? (i := 35) rfl)
set_option maxRecDepth 10000 in
theorem cm_88 : Cond.code ⟨"BoulderDowry$SlopeReader", "needOwner", "()I"⟩ prog_10_method_15_code 2 (some .int) ∈ lw_tbl := tbi_4 (List.mem_of_getElem? (i := 55) rfl)
set_option maxRecDepth 10000 in
theorem cm_89 : Cond.code ⟨"BoulderDowry$SlopeReader", "needCell", "(II)I"⟩ prog_10_method_16_code 6 (some .int) ∈ lw_tbl := tbi_4 (List.mem_of_getElem? (i := 27) rfl)
set_option maxRecDepth 10000 in
theorem cm_90 : Cond.code ⟨"BoulderDowry$SlopeReader", "needFreeCell", "()I"⟩ prog_10_method_17_code 2 (some .int) ∈ lw_tbl := tbi_4 (List.mem_of_getElem? (i := 63) rfl)
set_option maxRecDepth 10000 in
theorem cm_92 : Cond.code ⟨"BoulderDowry$State", "copy", "(LBoulderDowry$State;)V"⟩ prog_11_method_2_code 2 none ∈ lw_tbl := tbi_5 (List.mem_of_getElem? (i := 134) rfl)
set_option maxRecDepth 10000 in
theorem cm_93 : Cond.code ⟨"BoulderDowry$State", "begin", "(LBoulderDowry$Slope;)V"⟩ prog_11_method_3_code 3 none ∈ lw_tbl := tbi_4 (List.mem_of_getElem? (i := 174) rfl)
set_option maxRecDepth 10000 in
theorem cm_94 : Cond.code ⟨"BoulderDowry$State", "move", "(II)V"⟩ prog_11_method_4_code 4 none ∈ lw_tbl := tbi_4 (List.mem_of_getElem? (i := 182) rfl)
set_option maxRecDepth 10000 in
theorem cm_95 : Cond.code ⟨"BoulderDowry$State", "hasNet", "(I)Z"⟩ prog_11_method_5_code 2 (some .boolean) ∈ lw_tbl := tbi_4 (List.mem_of_getElem? (i := 233) rfl)
set_option maxRecDepth 10000 in
theorem cm_96 : Cond.code ⟨"BoulderDowry$State", "isRuin", "(I)Z"⟩ prog_11_method_6_code 2 (some .boolean) ∈ lw_tbl := tbi_5 (List.mem_of_getElem? (i := 34) rfl)
set_option maxRecDepth 10000 in
theorem cm_97 : Cond.code ⟨"BoulderDowry$State", "hasWholeHouse", "(LBoulderDowry$Slope;I)Z"⟩ prog_11_method_7_code 4 (some .boolean) ∈ lw_tbl := tbi_5 (List.mem_of_getElem? (i := 236) rfl)
set_option maxRecDepth 10000 in
theorem cm_98 : Cond.code ⟨"BoulderDowry$State", "isBarred", "(LBoulderDowry$Slope;I)Z"⟩ prog_11_method_8_code 3 (some .boolean) ∈ lw_tbl := tbi_5 (List.mem_of_getElem? (i := 232) rfl)
set_option maxRecDepth 10000 in
theorem cm_99 : Cond.code ⟨"BoulderDowry$State", "leastPush", "(LBoulderDowry$Slope;I)I"⟩ prog_11_method_9_code 4 (some .int) ∈ lw_tbl := tbi_5 (List.mem_of_getElem? (i := 18) rfl)
set_option maxRecDepth 10000 in
theorem cm_100 : Cond.code ⟨"BoulderDowry$State", "starts", "(LBoulderDowry$Slope;II)Z"⟩ prog_11_method_10_code 5 (some .boolean) ∈ lw_tbl := tbi_5 (List.mem_of_getElem? (i := 151) rfl)
set_option maxRecDepth 10000 in
theorem cm_101 : Cond.code ⟨"BoulderDowry$State", "fewestMen", "(LBoulderDowry$Slope;I)I"⟩ prog_11_method_11_code 4 (some .int) ∈ lw_tbl := tbi_6 (List.mem_of_getElem? (i := 61) rfl)
set_option maxRecDepth 10000 in
theorem cm_102 : Cond.code ⟨"BoulderDowry$State", "leansOn", "(LBoulderDowry$Slope;I)I"⟩ prog_11_method_12_code 4 (some .int) ∈ lw_tbl := tbi_5 (List.mem_of_getElem? (i := 26) rfl)
set_option maxRecDepth 10000 in
theorem cm_104 : Cond.code ⟨"BoulderDowry$Tokens", "withLetter", "(III)I"⟩ prog_12_method_2_code 3 (some .int) ∈ lw_tbl := tbi_1 (List.mem_of_getElem? (i := 94) rfl)
set_option maxRecDepth 10000 in
theorem cm_105 : Cond.code ⟨"BoulderDowry$Tokens", "letterOf", "(II)I"⟩ prog_12_method_3_code 2 (some .int) ∈ lw_tbl := tbi_4 (List.mem_of_getElem? (i := 224) rfl)
set_option maxRecDepth 10000 in
theorem cm_106 : Cond.code ⟨"BoulderDowry$Tokens", "begin", "([II)V"⟩ prog_12_method_4_code 8 none ∈ lw_tbl := tbi_3 (List.mem_of_getElem? (i := 189) rfl)
set_option maxRecDepth 10000 in
theorem cm_107 : Cond.code ⟨"BoulderDowry$Tokens", "isBlank", "(I)Z"⟩ prog_12_method_5_code 1 (some .boolean) ∈ lw_tbl := tbi_3 (List.mem_of_getElem? (i := 218) rfl)
set_option maxRecDepth 10000 in
theorem cm_108 : Cond.code ⟨"BoulderDowry$Tokens", "isLetter", "(I)Z"⟩ prog_12_method_6_code 1 (some .boolean) ∈ lw_tbl := tbi_3 (List.mem_of_getElem? (i := 192) rfl)
set_option maxRecDepth 10000 in
theorem cm_109 : Cond.code ⟨"BoulderDowry$Tokens", "isDigit", "(I)Z"⟩ prog_12_method_7_code 1 (some .boolean) ∈ lw_tbl := tbi_3 (List.mem_of_getElem? (i := 195) rfl)
set_option maxRecDepth 10000 in
theorem cm_110 : Cond.code ⟨"BoulderDowry$Tokens", "put", "(III)V"⟩ prog_12_method_8_code 4 none ∈ lw_tbl := tbi_3 (List.mem_of_getElem? (i := 207) rfl)
set_option maxRecDepth 10000 in
theorem cm_111 : Cond.code ⟨"BoulderDowry$Tokens", "breakLast", "(I)V"⟩ prog_12_method_9_code 2 none ∈ lw_tbl := tbi_3 (List.mem_of_getElem? (i := 211) rfl)
set_option maxRecDepth 10000 in
theorem cm_112 : Cond.code ⟨"BoulderDowry$Tokens", "readWord", "([III)I"⟩ prog_12_method_10_code 7 (some .int) ∈ lw_tbl := tbi_3 (List.mem_of_getElem? (i := 199) rfl)
set_option maxRecDepth 10000 in
theorem cm_113 : Cond.code ⟨"BoulderDowry$Tokens", "ownWord", "(I)I"⟩ prog_12_method_11_code 3 (some .int) ∈ lw_tbl := tbi_3 (List.mem_of_getElem? (i := 203) rfl)
set_option maxRecDepth 10000 in
theorem cm_114 : Cond.code ⟨"BoulderDowry$Tokens", "readNumber", "([III)I"⟩ prog_12_method_12_code 6 (some .int) ∈ lw_tbl := tbi_3 (List.mem_of_getElem? (i := 215) rfl)
set_option maxRecDepth 10000 in
theorem cm_115 : Cond.code ⟨"BoulderDowry$Tokens", "advance", "()V"⟩ prog_12_method_13_code 1 none ∈ lw_tbl := tbi_3 (List.mem_of_getElem? (i := 222) rfl)
set_option maxRecDepth 10000 in
theorem cm_116 : Cond.code ⟨"BoulderDowry$Tokens", "fail", "(II)V"⟩ prog_12_method_14_code 3 none ∈ lw_tbl := tbi_3 (List.mem_of_getElem? (i := 238) rfl)
set_option maxRecDepth 10000 in
theorem cm_117 : Cond.code ⟨"BoulderDowry$Tokens", "isSign", "(C)Z"⟩ prog_12_method_15_code 2 (some .boolean) ∈ lw_tbl := tbi_4 (List.mem_of_getElem? (i := 116) rfl)
set_option maxRecDepth 10000 in
theorem cm_118 : Cond.code ⟨"BoulderDowry$Tokens", "isOwn", "(I)Z"⟩ prog_12_method_16_code 2 (some .boolean) ∈ lw_tbl := tbi_4 (List.mem_of_getElem? (i := 108) rfl)
set_option maxRecDepth 10000 in
theorem cm_119 : Cond.code ⟨"BoulderDowry$Tokens", "needSign", "(C)V"⟩ prog_12_method_17_code 2 none ∈ lw_tbl := tbi_4 (List.mem_of_getElem? (i := 125) rfl)
theorem cmL_2 : ∀ M ∈ zML_2, zcP M := (List.forall_mem_cons.mpr ⟨Or.inr cm_80, (List.forall_mem_cons.mpr ⟨Or.inr cm_81, (List.forall_mem_cons.mpr ⟨Or.inr cm_82, (List.forall_mem_cons.mpr ⟨Or.inr cm_83, (List.forall_mem_cons.mpr ⟨Or.inr cm_84, (List.forall_mem_cons.mpr ⟨Or.inr cm_85, (List.forall_mem_cons.mpr ⟨Or.inr cm_86, (List.forall_mem_cons.mpr ⟨Or.inr cm_87, (List.forall_mem_cons.mpr ⟨Or.inr cm_88, (List.forall_mem_cons.mpr ⟨Or.inr cm_89, (List.forall_mem_cons.mpr ⟨Or.inr cm_90, (List.forall_mem_cons.mpr ⟨Or.inl rfl, (List.forall_mem_cons.mpr ⟨Or.inr cm_92, (List.forall_mem_cons.mpr ⟨Or.inr cm_93, (List.forall_mem_cons.mpr ⟨Or.inr cm_94, (List.forall_mem_cons.mpr ⟨Or.inr cm_95, (List.forall_mem_cons.mpr ⟨Or.inr cm_96, (List.forall_mem_cons.mpr ⟨Or.inr cm_97, (List.forall_mem_cons.mpr ⟨Or.inr cm_98, (List.forall_mem_cons.mpr ⟨Or.inr cm_99, (List.forall_mem_cons.mpr ⟨Or.inr cm_100, (List.forall_mem_cons.mpr ⟨Or.inr cm_101, (List.forall_mem_cons.mpr ⟨Or.inr cm_102, (List.forall_mem_cons.mpr ⟨Or.inl rfl, (List.forall_mem_cons.mpr ⟨Or.inr cm_104, (List.forall_mem_cons.mpr ⟨Or.inr cm_105, (List.forall_mem_cons.mpr ⟨Or.inr cm_106, (List.forall_mem_cons.mpr ⟨Or.inr cm_107, (List.forall_mem_cons.mpr ⟨Or.inr cm_108, (List.forall_mem_cons.mpr ⟨Or.inr cm_109, (List.forall_mem_cons.mpr ⟨Or.inr cm_110, (List.forall_mem_cons.mpr ⟨Or.inr cm_111, (List.forall_mem_cons.mpr ⟨Or.inr cm_112, (List.forall_mem_cons.mpr ⟨Or.inr cm_113, (List.forall_mem_cons.mpr ⟨Or.inr cm_114, (List.forall_mem_cons.mpr ⟨Or.inr cm_115, (List.forall_mem_cons.mpr ⟨Or.inr cm_116, (List.forall_mem_cons.mpr ⟨Or.inr cm_117, (List.forall_mem_cons.mpr ⟨Or.inr cm_118, (List.forall_mem_cons.mpr ⟨Or.inr cm_119, (fun _ h => absurd h List.not_mem_nil)⟩)⟩)⟩)⟩)⟩)⟩)⟩)⟩)⟩)⟩)⟩)⟩)⟩)⟩)⟩)⟩)⟩)⟩)⟩)⟩)⟩)⟩)⟩)⟩)⟩)⟩)⟩)⟩)⟩)⟩)⟩)⟩)⟩)⟩)⟩)⟩)⟩)⟩)⟩)⟩)
set_option maxRecDepth 10000 in
theorem cm_120 : Cond.code ⟨"BoulderDowry$Tokens", "needOwn", "(I)V"⟩ prog_12_method_18_code 2 none ∈ lw_tbl := tbi_4 (List.mem_of_getElem? (i := 23) rfl)
set_option maxRecDepth 10000 in
theorem cm_121 : Cond.code ⟨"BoulderDowry$Tokens", "needNumber", "(II)I"⟩ prog_12_method_19_code 4 (some .int) ∈ lw_tbl := tbi_4 (List.mem_of_getElem? (i := 7) rfl)
set_option maxRecDepth 10000 in
theorem cm_122 : Cond.code ⟨"BoulderDowry$Tokens", "needName", "()I"⟩ prog_12_method_20_code 2 (some .int) ∈ lw_tbl := tbi_4 (List.mem_of_getElem? (i := 39) rfl)
set_option maxRecDepth 10000 in
theorem cm_124 : Cond.code ⟨"BoulderDowry", "feed", "(IIIII)I"⟩ prog_1_method_2_code 6 (some .int) ∈ lw_tbl := tbi_3 (List.mem_of_getElem? (i := 151) rfl)
set_option maxRecDepth 10000 in
theorem cm_125 : Cond.code ⟨"BoulderDowry", "putOnTape", "(I)V"⟩ prog_1_method_3_code 3 none ∈ lw_tbl := tbi_3 (List.mem_of_getElem? (i := 162) rfl)
set_option maxRecDepth 10000 in
theorem cm_126 : Cond.code ⟨"BoulderDowry", "end", "(I)Z"⟩ prog_1_method_4_code 2 (some .boolean) ∈ lw_tbl := tbi_3 (List.mem_of_getElem? (i := 166) rfl)
set_option maxRecDepth 10000 in
theorem cm_127 : Cond.code ⟨"BoulderDowry", "slope", "()I"⟩ prog_1_method_5_code 3 (some .int) ∈ lw_tbl := tbi_3 (List.mem_of_getElem? (i := 170) rfl)
set_option maxRecDepth 10000 in
theorem cm_128 : Cond.code ⟨"BoulderDowry", "fault", "(I)I"⟩ prog_1_method_6_code 2 (some .int) ∈ lw_tbl := tbi_4 (List.mem_of_getElem? (i := 194) rfl)
set_option maxRecDepth 10000 in
theorem cm_129 : Cond.code ⟨"BoulderDowry", "refuse", "(I)I"⟩ prog_1_method_7_code 2 (some .int) ∈ lw_tbl := tbi_3 (List.mem_of_getElem? (i := 155) rfl)
set_option maxRecDepth 10000 in
theorem cm_130 : Cond.code ⟨"BoulderDowry", "within", "(II)Z"⟩ prog_1_method_8_code 2 (some .boolean) ∈ lw_tbl := tbi_3 (List.mem_of_getElem? (i := 158) rfl)
set_option maxRecDepth 10000 in
theorem cm_131 : Cond.code ⟨"BoulderDowry", "between", "(III)Z"⟩ prog_1_method_9_code 3 (some .boolean) ∈ lw_tbl := tbi_5 (List.mem_of_getElem? (i := 71) rfl)
set_option maxRecDepth 10000 in
theorem cm_132 : Cond.code ⟨"BoulderDowry", "oneIf", "(Z)I"⟩ prog_1_method_10_code 1 (some .int) ∈ lw_tbl := tbi_4 (List.mem_of_getElem? (i := 206) rfl)
set_option maxRecDepth 10000 in
theorem cm_133 : Cond.code ⟨"BoulderDowry", "has", "(I)I"⟩ prog_1_method_11_code 2 (some .int) ∈ lw_tbl := tbi_4 (List.mem_of_getElem? (i := 198) rfl)
set_option maxRecDepth 10000 in
theorem cm_134 : Cond.code ⟨"BoulderDowry", "wallsNow", "()I"⟩ prog_1_method_12_code 3 (some .int) ∈ lw_tbl := tbi_4 (List.mem_of_getElem? (i := 202) rfl)
set_option maxRecDepth 10000 in
theorem cm_135 : Cond.code ⟨"BoulderDowry", "stonesNow", "()I"⟩ prog_1_method_13_code 3 (some .int) ∈ lw_tbl := tbi_4 (List.mem_of_getElem? (i := 210) rfl)
set_option maxRecDepth 10000 in
theorem cm_136 : Cond.code ⟨"BoulderDowry", "letter", "(III)I"⟩ prog_1_method_14_code 4 (some .int) ∈ lw_tbl := tbi_4 (List.mem_of_getElem? (i := 220) rfl)
set_option maxRecDepth 10000 in
theorem cm_137 : Cond.code ⟨"BoulderDowry", "cell", "(II)I"⟩ prog_1_method_15_code 3 (some .int) ∈ lw_tbl := tbi_4 (List.mem_of_getElem? (i := 228) rfl)
set_option maxRecDepth 10000 in
theorem cm_138 : Cond.code ⟨"BoulderDowry", "stone", "(II)I"⟩ prog_1_method_16_code 3 (some .int) ∈ lw_tbl := tbi_5 (List.mem_of_getElem? (i := 6) rfl)
set_option maxRecDepth 10000 in
theorem cm_139 : Cond.code ⟨"BoulderDowry", "hasStone", "(I)Z"⟩ prog_1_method_17_code 2 (some .boolean) ∈ lw_tbl := tbi_5 (List.mem_of_getElem? (i := 10) rfl)
set_option maxRecDepth 10000 in
theorem cm_140 : Cond.code ⟨"BoulderDowry", "stoneLies", "(I)Z"⟩ prog_1_method_18_code 2 (some .boolean) ∈ lw_tbl := tbi_5 (List.mem_of_getElem? (i := 122) rfl)
set_option maxRecDepth 10000 in
theorem cm_141 : Cond.code ⟨"BoulderDowry", "hasOwner", "(I)Z"⟩ prog_1_method_19_code 2 (some .boolean) ∈ lw_tbl := tbi_5 (List.mem_of_getElem? (i := 42) rfl)
set_option maxRecDepth 10000 in
theorem cm_142 : Cond.code ⟨"BoulderDowry", "house", "(II)I"⟩ prog_1_method_20_code 3 (some .int) ∈ lw_tbl := tbi_5 (List.mem_of_getElem? (i := 30) rfl)
set_option maxRecDepth 10000 in
theorem cm_143 : Cond.code ⟨"BoulderDowry", "owner", "(II)I"⟩ prog_1_method_21_code 3 (some .int) ∈ lw_tbl := tbi_5 (List.mem_of_getElem? (i := 38) rfl)
set_option maxRecDepth 10000 in
theorem cm_144 : Cond.code ⟨"BoulderDowry", "cellsOf", "(I)I"⟩ prog_1_method_22_code 4 (some .int) ∈ lw_tbl := tbi_5 (List.mem_of_getElem? (i := 47) rfl)
set_option maxRecDepth 10000 in
theorem cm_145 : Cond.code ⟨"BoulderDowry", "stonesOf", "(IZ)I"⟩ prog_1_method_23_code 5 (some .int) ∈ lw_tbl := tbi_5 (List.mem_of_getElem? (i := 51) rfl)
set_option maxRecDepth 10000 in
theorem cm_146 : Cond.code ⟨"BoulderDowry", "wholeHousesOf", "(I)I"⟩ prog_1_method_24_code 4 (some .int) ∈ lw_tbl := tbi_5 (List.mem_of_getElem? (i := 55) rfl)
set_option maxRecDepth 10000 in
theorem cm_147 : Cond.code ⟨"BoulderDowry", "due", "(II)I"⟩ prog_1_method_25_code 3 (some .int) ∈ lw_tbl := tbi_5 (List.mem_of_getElem? (i := 59) rfl)
set_option maxRecDepth 10000 in
theorem cm_148 : Cond.code ⟨"BoulderDowry", "law", "(IIIII)I"⟩ prog_1_method_26_code 7 (some .int) ∈ lw_tbl := tbi_5 (List.mem_of_getElem? (i := 68) rfl)
set_option maxRecDepth 10000 in
theorem cm_149 : Cond.code ⟨"BoulderDowry", "remember", "()V"⟩ prog_1_method_27_code 1 none ∈ lw_tbl := tbi_5 (List.mem_of_getElem? (i := 126) rfl)
set_option maxRecDepth 10000 in
theorem cm_150 : Cond.code ⟨"BoulderDowry", "forgetActs", "()V"⟩ prog_1_method_28_code 1 none ∈ lw_tbl := tbi_4 (List.mem_of_getElem? (i := 186) rfl)
set_option maxRecDepth 10000 in
theorem cm_151 : Cond.code ⟨"BoulderDowry", "lever", "(II)I"⟩ prog_1_method_29_code 3 (some .int) ∈ lw_tbl := tbi_5 (List.mem_of_getElem? (i := 118) rfl)
set_option maxRecDepth 10000 in
theorem cm_152 : Cond.code ⟨"BoulderDowry", "spring", "(I)I"⟩ prog_1_method_30_code 2 (some .int) ∈ lw_tbl := tbi_5 (List.mem_of_getElem? (i := 189) rfl)
set_option maxRecDepth 10000 in
theorem cm_153 : Cond.code ⟨"BoulderDowry", "springNow", "(I)I"⟩ prog_1_method_31_code 2 (some .int) ∈ lw_tbl := tbi_5 (List.mem_of_getElem? (i := 193) rfl)
set_option maxRecDepth 10000 in
theorem cm_154 : Cond.code ⟨"BoulderDowry", "goOn", "(I)I"⟩ prog_1_method_32_code 4 (some .int) ∈ lw_tbl := tbi_5 (List.mem_of_getElem? (i := 201) rfl)
set_option maxRecDepth 10000 in
theorem cm_155 : Cond.code ⟨"BoulderDowry", "drawnThaw", "()I"⟩ prog_1_method_33_code 4 (some .int) ∈ lw_tbl := tbi_5 (List.mem_of_getElem? (i := 205) rfl)
set_option maxRecDepth 10000 in
theorem cm_156 : Cond.code ⟨"BoulderDowry", "draw", "(I)I"⟩ prog_1_method_34_code 2 (some .int) ∈ lw_tbl := tbi_5 (List.mem_of_getElem? (i := 213) rfl)
set_option maxRecDepth 10000 in
theorem cm_157 : Cond.code ⟨"BoulderDowry", "seed", "(I)Z"⟩ prog_1_method_35_code 2 (some .boolean) ∈ lw_tbl := tbi_5 (List.mem_of_getElem? (i := 220) rfl)
set_option maxRecDepth 10000 in
theorem cm_158 : Cond.code ⟨"BoulderDowry", "net", "(IZ)Z"⟩ prog_1_method_36_code 3 (some .boolean) ∈ lw_tbl := tbi_5 (List.mem_of_getElem? (i := 224) rfl)
set_option maxRecDepth 10000 in
theorem cm_159 : Cond.code ⟨"BoulderDowry", "wall", "(II)Z"⟩ prog_1_method_37_code 3 (some .boolean) ∈ lw_tbl := tbi_5 (List.mem_of_getElem? (i := 228) rfl)
theorem cmL_3 : ∀ M ∈ zML_3, zcP M := (List.forall_mem_cons.mpr ⟨Or.inr cm_120, (List.forall_mem_cons.mpr ⟨Or.inr cm_121, (List.forall_mem_cons.mpr ⟨Or.inr cm_122, (List.forall_mem_cons.mpr ⟨Or.inl rfl, (List.forall_mem_cons.mpr ⟨Or.inr cm_124, (List.forall_mem_cons.mpr ⟨Or.inr cm_125, (List.forall_mem_cons.mpr ⟨Or.inr cm_126, (List.forall_mem_cons.mpr ⟨Or.inr cm_127, (List.forall_mem_cons.mpr ⟨Or.inr cm_128, (List.forall_mem_cons.mpr ⟨Or.inr cm_129, (List.forall_mem_cons.mpr ⟨Or.inr cm_130, (List.forall_mem_cons.mpr ⟨Or.inr cm_131, (List.forall_mem_cons.mpr ⟨Or.inr cm_132, (List.forall_mem_cons.mpr ⟨Or.inr cm_133, (List.forall_mem_cons.mpr ⟨Or.inr cm_134, (List.forall_mem_cons.mpr ⟨Or.inr cm_135, (List.forall_mem_cons.mpr ⟨Or.inr cm_136, (List.forall_mem_cons.mpr ⟨Or.inr cm_137, (List.forall_mem_cons.mpr ⟨Or.inr cm_138, (List.forall_mem_cons.mpr ⟨Or.inr cm_139, (List.forall_mem_cons.mpr ⟨Or.inr cm_140, (List.forall_mem_cons.mpr ⟨Or.inr cm_141, (List.forall_mem_cons.mpr ⟨Or.inr cm_142, (List.forall_mem_cons.mpr ⟨Or.inr cm_143, (List.forall_mem_cons.mpr ⟨Or.inr cm_144, (List.forall_mem_cons.mpr ⟨Or.inr cm_145, (List.forall_mem_cons.mpr ⟨Or.inr cm_146, (List.forall_mem_cons.mpr ⟨Or.inr cm_147, (List.forall_mem_cons.mpr ⟨Or.inr cm_148, (List.forall_mem_cons.mpr ⟨Or.inr cm_149, (List.forall_mem_cons.mpr ⟨Or.inr cm_150, (List.forall_mem_cons.mpr ⟨Or.inr cm_151, (List.forall_mem_cons.mpr ⟨Or.inr cm_152, (List.forall_mem_cons.mpr ⟨Or.inr cm_153, (List.forall_mem_cons.mpr ⟨Or.inr cm_154, (List.forall_mem_cons.mpr ⟨Or.inr cm_155, (List.forall_mem_cons.mpr ⟨Or.inr cm_156, (List.forall_mem_cons.mpr ⟨Or.inr cm_157, (List.forall_mem_cons.mpr ⟨Or.inr cm_158, (List.forall_mem_cons.mpr ⟨Or.inr cm_159, (fun _ h => absurd h List.not_mem_nil)⟩)⟩)⟩)⟩)⟩)⟩)⟩)⟩)⟩)⟩)⟩)⟩)⟩)⟩)⟩)⟩)⟩)⟩)⟩)⟩)⟩)⟩)⟩)⟩)⟩)⟩)⟩)⟩)⟩)⟩)⟩)⟩)⟩)⟩)⟩)⟩)⟩)⟩)⟩)⟩)
set_option maxRecDepth 10000 in
theorem cm_160 : Cond.code ⟨"BoulderDowry", "dig", "(II)I"⟩ prog_1_method_38_code 3 (some .int) ∈ lw_tbl := tbi_6 (List.mem_of_getElem? (i := 1) rfl)
set_option maxRecDepth 10000 in
theorem cm_161 : Cond.code ⟨"BoulderDowry", "take", "(I)I"⟩ prog_1_method_39_code 2 (some .int) ∈ lw_tbl := tbi_6 (List.mem_of_getElem? (i := 6) rfl)
set_option maxRecDepth 10000 in
theorem cm_162 : Cond.code ⟨"BoulderDowry", "undo", "()Z"⟩ prog_1_method_40_code 1 (some .boolean) ∈ lw_tbl := tbi_6 (List.mem_of_getElem? (i := 11) rfl)
set_option maxRecDepth 10000 in
theorem cm_163 : Cond.code ⟨"BoulderDowry", "tryPush", "(II)V"⟩ prog_1_method_41_code 3 none ∈ lw_tbl := tbi_6 (List.mem_of_getElem? (i := 24) rfl)
set_option maxRecDepth 10000 in
theorem cm_164 : Cond.code ⟨"BoulderDowry", "tryThaw", "(I)V"⟩ prog_1_method_42_code 2 none ∈ lw_tbl := tbi_6 (List.mem_of_getElem? (i := 37) rfl)
set_option maxRecDepth 10000 in
theorem cm_165 : Cond.code ⟨"BoulderDowry", "path", "(III)I"⟩ prog_1_method_43_code 4 (some .int) ∈ lw_tbl := tbi_6 (List.mem_of_getElem? (i := 19) rfl)
set_option maxRecDepth 10000 in
theorem cm_166 : Cond.code ⟨"BoulderDowry", "roll", "(III)I"⟩ prog_1_method_44_code 4 (some .int) ∈ lw_tbl := tbi_6 (List.mem_of_getElem? (i := 29) rfl)
set_option maxRecDepth 10000 in
theorem cm_167 : Cond.code ⟨"BoulderDowry", "thaw", "(II)I"⟩ prog_1_method_45_code 3 (some .int) ∈ lw_tbl := tbi_6 (List.mem_of_getElem? (i := 33) rfl)
set_option maxRecDepth 10000 in
theorem cm_168 : Cond.code ⟨"BoulderDowry", "lies", "(II)I"⟩ prog_1_method_46_code 5 (some .int) ∈ lw_tbl := tbi_6 (List.mem_of_getElem? (i := 41) rfl)
set_option maxRecDepth 10000 in
theorem cm_169 : Cond.code ⟨"BoulderDowry", "hit", "(I)I"⟩ prog_1_method_47_code 4 (some .int) ∈ lw_tbl := tbi_6 (List.mem_of_getElem? (i := 49) rfl)
set_option maxRecDepth 10000 in
theorem cm_170 : Cond.code ⟨"BoulderDowry", "thousandthsOfAll", "(I)I"⟩ prog_1_method_48_code 3 (some .int) ∈ lw_tbl := tbi_6 (List.mem_of_getElem? (i := 45) rfl)
set_option maxRecDepth 10000 in
theorem cm_171 : Cond.code ⟨"BoulderDowry", "worst", "(I)I"⟩ prog_1_method_49_code 5 (some .int) ∈ lw_tbl := tbi_6 (List.mem_of_getElem? (i := 53) rfl)
set_option maxRecDepth 10000 in
theorem cm_172 : Cond.code ⟨"BoulderDowry", "men", "(II)I"⟩ prog_1_method_50_code 4 (some .int) ∈ lw_tbl := tbi_6 (List.mem_of_getElem? (i := 57) rfl)
set_option maxRecDepth 10000 in
theorem cm_173 : Cond.code ⟨"BoulderDowry", "crew", "(III)I"⟩ prog_1_method_51_code 4 (some .int) ∈ lw_tbl := tbi_6 (List.mem_of_getElem? (i := 66) rfl)
set_option maxRecDepth 10000 in
theorem cm_174 : Cond.code ⟨"BoulderDowry", "areLying", "(II)Z"⟩ prog_1_method_52_code 5 (some .boolean) ∈ lw_tbl := tbi_6 (List.mem_of_getElem? (i := 70) rfl)
set_option maxRecDepth 10000 in
theorem cm_175 : Cond.code ⟨"BoulderDowry", "nets", "(I)I"⟩ prog_1_method_53_code 2 (some .int) ∈ lw_tbl := tbi_6 (List.mem_of_getElem? (i := 116) rfl)
set_option maxRecDepth 10000 in
theorem cm_176 : Cond.code ⟨"BoulderDowry", "dowry", "(IIII)I"⟩ prog_1_method_54_code 7 (some .int) ∈ lw_tbl := tbi_6 (List.mem_of_getElem? (i := 151) rfl)
set_option maxRecDepth 10000 in
theorem cm_177 : Cond.code ⟨"BoulderDowry", "powerOfOdds", "(I)J"⟩ prog_1_method_55_code 5 (some .long) ∈ lw_tbl := tbi_6 (List.mem_of_getElem? (i := 155) rfl)
set_option maxRecDepth 10000 in
theorem cm_178 : Cond.code ⟨"BoulderDowry", "worthWithin", "(LBoulderDowry$State;III)J"⟩ prog_1_method_56_code 9 (some .long) ∈ lw_tbl := tbi_6 (List.mem_of_getElem? (i := 160) rfl)
set_option maxRecDepth 10000 in
theorem cm_179 : Cond.code ⟨"BoulderDowry", "whence", "(II)I"⟩ prog_1_method_57_code 5 (some .int) ∈ lw_tbl := tbi_6 (List.mem_of_getElem? (i := 164) rfl)
set_option maxRecDepth 10000 in
theorem cm_180 : Cond.code ⟨"BoulderDowry", "mayHaveComeFrom", "(II)Z"⟩ prog_1_method_58_code 3 (some .boolean) ∈ lw_tbl := tbi_6 (List.mem_of_getElem? (i := 168) rfl)
set_option maxRecDepth 10000 in
theorem cm_181 : Cond.code ⟨"BoulderDowry", "leans", "(II)I"⟩ prog_1_method_59_code 5 (some .int) ∈ lw_tbl := tbi_6 (List.mem_of_getElem? (i := 176) rfl)
set_option maxRecDepth 10000 in
theorem cm_182 : Cond.code ⟨"BoulderDowry", "quarry", "(II)I"⟩ prog_1_method_60_code 4 (some .int) ∈ lw_tbl := tbi_6 (List.mem_of_getElem? (i := 180) rfl)
set_option maxRecDepth 10000 in
theorem cm_183 : Cond.code ⟨"BoulderDowry", "listQuarried", "(I)I"⟩ prog_1_method_61_code 4 (some .int) ∈ lw_tbl := tbi_6 (List.mem_of_getElem? (i := 184) rfl)
set_option maxRecDepth 10000 in
theorem cm_184 : Cond.code ⟨"BoulderDowry", "countWays", "(I)V"⟩ prog_1_method_62_code 6 none ∈ lw_tbl := tbi_6 (List.mem_of_getElem? (i := 188) rfl)
set_option maxRecDepth 10000 in
theorem cm_185 : Cond.code ⟨"BoulderDowry", "nothingStartsWithout", "(II)Z"⟩ prog_1_method_63_code 4 (some .boolean) ∈ lw_tbl := tbi_6 (List.mem_of_getElem? (i := 192) rfl)
set_option maxRecDepth 10000 in
theorem cm_186 : Cond.code ⟨"BoulderDowry", "quarriedAt", "(II)I"⟩ prog_1_method_64_code 7 (some .int) ∈ lw_tbl := tbi_6 (List.mem_of_getElem? (i := 196) rfl)
set_option maxRecDepth 10000 in
theorem cm_187 : Cond.code ⟨"BoulderDowry", "ropes", "(I)I"⟩ prog_1_method_65_code 5 (some .int) ∈ lw_tbl := tbi_6 (List.mem_of_getElem? (i := 200) rfl)
set_option maxRecDepth 10000 in
theorem cm_188 : Cond.code ⟨"BoulderDowry", "heaviestStone", "()I"⟩ prog_1_method_66_code 3 (some .int) ∈ lw_tbl := tbi_6 (List.mem_of_getElem? (i := 204) rfl)
set_option maxRecDepth 10000 in
theorem cm_189 : Cond.code ⟨"BoulderDowry", "neededRopes", "(I)I"⟩ prog_1_method_67_code 4 (some .int) ∈ lw_tbl := tbi_6 (List.mem_of_getElem? (i := 212) rfl)
set_option maxRecDepth 10000 in
theorem cm_190 : Cond.code ⟨"BoulderDowry", "neededPairs", "(I)I"⟩ prog_1_method_68_code 5 (some .int) ∈ lw_tbl := tbi_6 (List.mem_of_getElem? (i := 216) rfl)
set_option maxRecDepth 10000 in
theorem cm_191 : Cond.code ⟨"BoulderDowry", "image", "()I"⟩ prog_1_method_69_code 2 (some .int) ∈ lw_tbl := tbi_6 (List.mem_of_getElem? (i := 220) rfl)
set_option maxRecDepth 10000 in
theorem cm_192 : Cond.code ⟨"BoulderDowry", "putInPicture", "(I)V"⟩ prog_1_method_70_code 2 none ∈ lw_tbl := tbi_6 (List.mem_of_getElem? (i := 224) rfl)
set_option maxRecDepth 10000 in
theorem cm_193 : Cond.code ⟨"BoulderDowry", "checkOf", "([II)I"⟩ prog_1_method_71_code 4 (some .int) ∈ lw_tbl := tbi_6 (List.mem_of_getElem? (i := 227) rfl)
set_option maxRecDepth 10000 in
theorem cm_194 : Cond.code ⟨"BoulderDowry", "octet", "(I)I"⟩ prog_1_method_72_code 2 (some .int) ∈ lw_tbl := tbi_6 (List.mem_of_getElem? (i := 231) rfl)
set_option maxRecDepth 10000 in
theorem cm_195 : Cond.code ⟨"BoulderDowry", "on", "()Z"⟩ prog_1_method_73_code 2 (some .boolean) ∈ lw_tbl := tbi_6 (List.mem_of_getElem? (i := 235) rfl)
set_option maxRecDepth 10000 in
theorem cm_196 : Cond.code ⟨"BoulderDowry", "isImage", "()Z"⟩ prog_1_method_74_code 5 (some .boolean) ∈ lw_tbl := tbi_6 (List.mem_of_getElem? (i := 239) rfl)
set_option maxRecDepth 10000 in
theorem cm_197 : Cond.code ⟨"BoulderDowry", "readCells", "(I)Z"⟩ prog_1_method_75_code 5 (some .boolean) ∈ lw_tbl := tbi_7 (List.mem_of_getElem? (i := 3) rfl)
set_option maxRecDepth 10000 in
theorem cm_198 : Cond.code ⟨"BoulderDowry", "readHouses", "(I)Z"⟩ prog_1_method_76_code 4 (some .boolean) ∈ lw_tbl := tbi_7 (List.mem_of_getElem? (i := 7) rfl)
set_option maxRecDepth 10000 in
theorem cm_199 : Cond.code ⟨"BoulderDowry", "readStones", "()Z"⟩ prog_1_method_77_code 3 (some .boolean) ∈ lw_tbl := tbi_7 (List.mem_of_getElem? (i := 11) rfl)
theorem cmL_4 : ∀ M ∈ zML_4, zcP M := (List.forall_mem_cons.mpr ⟨Or.inr cm_160, (List.forall_mem_cons.mpr ⟨Or.inr cm_161, (List.forall_mem_cons.mpr ⟨Or.inr cm_162, (List.forall_mem_cons.mpr ⟨Or.inr cm_163, (List.forall_mem_cons.mpr ⟨Or.inr cm_164, (List.forall_mem_cons.mpr ⟨Or.inr cm_165, (List.forall_mem_cons.mpr ⟨Or.inr cm_166, (List.forall_mem_cons.mpr ⟨Or.inr cm_167, (List.forall_mem_cons.mpr ⟨Or.inr cm_168, (List.forall_mem_cons.mpr ⟨Or.inr cm_169, (List.forall_mem_cons.mpr ⟨Or.inr cm_170, (List.forall_mem_cons.mpr ⟨Or.inr cm_171, (List.forall_mem_cons.mpr ⟨Or.inr cm_172, (List.forall_mem_cons.mpr ⟨Or.inr cm_173, (List.forall_mem_cons.mpr ⟨Or.inr cm_174, (List.forall_mem_cons.mpr ⟨Or.inr cm_175, (List.forall_mem_cons.mpr ⟨Or.inr cm_176, (List.forall_mem_cons.mpr ⟨Or.inr cm_177, (List.forall_mem_cons.mpr ⟨Or.inr cm_178, (List.forall_mem_cons.mpr ⟨Or.inr cm_179, (List.forall_mem_cons.mpr ⟨Or.inr cm_180, (List.forall_mem_cons.mpr ⟨Or.inr cm_181, (List.forall_mem_cons.mpr ⟨Or.inr cm_182, (List.forall_mem_cons.mpr ⟨Or.inr cm_183, (List.forall_mem_cons.mpr ⟨Or.inr cm_184, (List.forall_mem_cons.mpr ⟨Or.inr cm_185, (List.forall_mem_cons.mpr ⟨Or.inr cm_186, (List.forall_mem_cons.mpr ⟨Or.inr cm_187, (List.forall_mem_cons.mpr ⟨Or.inr cm_188, (List.forall_mem_cons.mpr ⟨Or.inr cm_189, (List.forall_mem_cons.mpr ⟨Or.inr cm_190, (List.forall_mem_cons.mpr ⟨Or.inr cm_191, (List.forall_mem_cons.mpr ⟨Or.inr cm_192, (List.forall_mem_cons.mpr ⟨Or.inr cm_193, (List.forall_mem_cons.mpr ⟨Or.inr cm_194, (List.forall_mem_cons.mpr ⟨Or.inr cm_195, (List.forall_mem_cons.mpr ⟨Or.inr cm_196, (List.forall_mem_cons.mpr ⟨Or.inr cm_197, (List.forall_mem_cons.mpr ⟨Or.inr cm_198, (List.forall_mem_cons.mpr ⟨Or.inr cm_199, (fun _ h => absurd h List.not_mem_nil)⟩)⟩)⟩)⟩)⟩)⟩)⟩)⟩)⟩)⟩)⟩)⟩)⟩)⟩)⟩)⟩)⟩)⟩)⟩)⟩)⟩)⟩)⟩)⟩)⟩)⟩)⟩)⟩)⟩)⟩)⟩)⟩)⟩)⟩)⟩)⟩)⟩)⟩)⟩)⟩)
set_option maxRecDepth 10000 in
theorem cm_200 : Cond.code ⟨"BoulderDowry", "status", "(I)I"⟩ prog_1_method_78_code 2 (some .int) ∈ lw_tbl := tbi_7 (List.mem_of_getElem? (i := 15) rfl)
set_option maxRecDepth 10000 in
theorem cm_202 : Cond.code ⟨"BoulderDowryModel", "is", "(III)Z"⟩ prog_14_method_2_code 3 (some .boolean) ∈ lw_tbl := tbi_8 (List.mem_of_getElem? (i := 124) rfl)
set_option maxRecDepth 10000 in
theorem cm_203 : Cond.code ⟨"BoulderDowryModel", "put", "(I)V"⟩ prog_14_method_3_code 3 none ∈ lw_tbl := tbi_8 (List.mem_of_getElem? (i := 78) rfl)
set_option maxRecDepth 10000 in
theorem cm_204 : Cond.code ⟨"BoulderDowryModel", "feed", "(IIIII)I"⟩ prog_14_method_4_code 6 (some .int) ∈ lw_tbl := tbi_8 (List.mem_of_getElem? (i := 70) rfl)
set_option maxRecDepth 10000 in
theorem cm_205 : Cond.code ⟨"BoulderDowryModel", "end", "(I)Z"⟩ prog_14_method_5_code 2 (some .boolean) ∈ lw_tbl := tbi_8 (List.mem_of_getElem? (i := 82) rfl)
set_option maxRecDepth 10000 in
theorem cm_206 : Cond.code ⟨"BoulderDowryModel", "blame", "(II)V"⟩ prog_14_method_6_code 3 none ∈ lw_tbl := tbi_8 (List.mem_of_getElem? (i := 104) rfl)
set_option maxRecDepth 10000 in
theorem cm_207 : Cond.code ⟨"BoulderDowryModel", "isLetter", "(I)Z"⟩ prog_14_method_7_code 1 (some .boolean) ∈ lw_tbl := tbi_8 (List.mem_of_getElem? (i := 97) rfl)
set_option maxRecDepth 10000 in
theorem cm_208 : Cond.code ⟨"BoulderDowryModel", "isDigit", "(I)Z"⟩ prog_14_method_8_code 1 (some .boolean) ∈ lw_tbl := tbi_8 (List.mem_of_getElem? (i := 100) rfl)
set_option maxRecDepth 10000 in
theorem cm_209 : Cond.code ⟨"BoulderDowryModel", "ahead", "()V"⟩ prog_14_method_9_code 6 none ∈ lw_tbl := tbi_8 (List.mem_of_getElem? (i := 94) rfl)
set_option maxRecDepth 10000 in
theorem cm_210 : Cond.code ⟨"BoulderDowryModel", "isSign", "(I)Z"⟩ prog_14_method_10_code 2 (some .boolean) ∈ lw_tbl := tbi_8 (List.mem_of_getElem? (i := 132) rfl)
set_option maxRecDepth 10000 in
theorem cm_211 : Cond.code ⟨"BoulderDowryModel", "isWord", "(J)Z"⟩ prog_14_method_11_code 3 (some .boolean) ∈ lw_tbl := tbi_8 (List.mem_of_getElem? (i := 117) rfl)
set_option maxRecDepth 10000 in
theorem cm_212 : Cond.code ⟨"BoulderDowryModel", "must", "(I)V"⟩ prog_14_method_12_code 2 none ∈ lw_tbl := tbi_8 (List.mem_of_getElem? (i := 136) rfl)
set_option maxRecDepth 10000 in
theorem cm_213 : Cond.code ⟨"BoulderDowryModel", "isOwn", "(J)Z"⟩ prog_14_method_13_code 3 (some .boolean) ∈ lw_tbl := tbi_8 (List.mem_of_getElem? (i := 172) rfl)
set_option maxRecDepth 10000 in
theorem cm_214 : Cond.code ⟨"BoulderDowryModel", "manyOf", "(II)I"⟩ prog_14_method_14_code 3 (some .int) ∈ lw_tbl := tbi_8 (List.mem_of_getElem? (i := 201) rfl)
set_option maxRecDepth 10000 in
theorem cm_215 : Cond.code ⟨"BoulderDowryModel", "nameOf", "(III)J"⟩ prog_14_method_15_code 4 (some .long) ∈ lw_tbl := tbi_8 (List.mem_of_getElem? (i := 205) rfl)
set_option maxRecDepth 10000 in
theorem cm_216 : Cond.code ⟨"BoulderDowryModel", "named", "(IJ)I"⟩ prog_14_method_16_code 5 (some .int) ∈ lw_tbl := tbi_8 (List.mem_of_getElem? (i := 197) rfl)
set_option maxRecDepth 10000 in
theorem cm_217 : Cond.code ⟨"BoulderDowryModel", "number", "(II)I"⟩ prog_14_method_17_code 4 (some .int) ∈ lw_tbl := tbi_8 (List.mem_of_getElem? (i := 121) rfl)
set_option maxRecDepth 10000 in
theorem cm_218 : Cond.code ⟨"BoulderDowryModel", "add", "(II)V"⟩ prog_14_method_18_code 3 none ∈ lw_tbl := tbi_9 (List.mem_of_getElem? (i := 36) rfl)
set_option maxRecDepth 10000 in
theorem cm_219 : Cond.code ⟨"BoulderDowryModel", "rank", "(I)I"⟩ prog_14_method_19_code 1 (some .int) ∈ lw_tbl := tbi_9 (List.mem_of_getElem? (i := 47) rfl)
set_option maxRecDepth 10000 in
theorem cm_220 : Cond.code ⟨"BoulderDowryModel", "joins", "(I)V"⟩ prog_14_method_20_code 2 none ∈ lw_tbl := tbi_9 (List.mem_of_getElem? (i := 44) rfl)
set_option maxRecDepth 10000 in
theorem cm_221 : Cond.code ⟨"BoulderDowryModel", "holdsBack", "(I)V"⟩ prog_14_method_21_code 2 none ∈ lw_tbl := tbi_9 (List.mem_of_getElem? (i := 28) rfl)
set_option maxRecDepth 10000 in
theorem cm_222 : Cond.code ⟨"BoulderDowryModel", "pushes", "(I)V"⟩ prog_14_method_22_code 2 none ∈ lw_tbl := tbi_9 (List.mem_of_getElem? (i := 17) rfl)
set_option maxRecDepth 10000 in
theorem cm_223 : Cond.code ⟨"BoulderDowryModel", "opens", "(I)V"⟩ prog_14_method_23_code 2 none ∈ lw_tbl := tbi_9 (List.mem_of_getElem? (i := 32) rfl)
set_option maxRecDepth 10000 in
theorem cm_224 : Cond.code ⟨"BoulderDowryModel", "isTest", "(I)Z"⟩ prog_14_method_24_code 1 (some .boolean) ∈ lw_tbl := tbi_9 (List.mem_of_getElem? (i := 24) rfl)
set_option maxRecDepth 10000 in
theorem cm_225 : Cond.code ⟨"BoulderDowryModel", "operand", "()Z"⟩ prog_14_method_25_code 4 (some .boolean) ∈ lw_tbl := tbi_9 (List.mem_of_getElem? (i := 21) rfl)
set_option maxRecDepth 10000 in
theorem cm_226 : Cond.code ⟨"BoulderDowryModel", "goesOn", "()Z"⟩ prog_14_method_26_code 5 (some .boolean) ∈ lw_tbl := tbi_9 (List.mem_of_getElem? (i := 40) rfl)
set_option maxRecDepth 10000 in
theorem cm_227 : Cond.code ⟨"BoulderDowryModel", "reads", "(Z)V"⟩ prog_14_method_27_code 3 none ∈ lw_tbl := tbi_9 (List.mem_of_getElem? (i := 13) rfl)
set_option maxRecDepth 10000 in
theorem cm_228 : Cond.code ⟨"BoulderDowryModel", "counts", "(Z)Z"⟩ prog_14_method_28_code 2 (some .boolean) ∈ lw_tbl := tbi_8 (List.mem_of_getElem? (i := 149) rfl)
set_option maxRecDepth 10000 in
theorem cm_229 : Cond.code ⟨"BoulderDowryModel", "must", "(J)V"⟩ prog_14_method_29_code 3 none ∈ lw_tbl := tbi_8 (List.mem_of_getElem? (i := 113) rfl)
set_option maxRecDepth 10000 in
theorem cm_230 : Cond.code ⟨"BoulderDowryModel", "fresh", "()J"⟩ prog_14_method_30_code 3 (some .long) ∈ lw_tbl := tbi_8 (List.mem_of_getElem? (i := 168) rfl)
set_option maxRecDepth 10000 in
theorem cm_231 : Cond.code ⟨"BoulderDowryModel", "askedOwner", "()I"⟩ prog_14_method_31_code 2 (some .int) ∈ lw_tbl := tbi_8 (List.mem_of_getElem? (i := 213) rfl)
set_option maxRecDepth 10000 in
theorem cm_232 : Cond.code ⟨"BoulderDowryModel", "cellFrom", "(II)I"⟩ prog_14_method_32_code 5 (some .int) ∈ lw_tbl := tbi_8 (List.mem_of_getElem? (i := 159) rfl)
set_option maxRecDepth 10000 in
theorem cm_233 : Cond.code ⟨"BoulderDowryModel", "isTaken", "(I)Z"⟩ prog_14_method_33_code 3 (some .boolean) ∈ lw_tbl := tbi_8 (List.mem_of_getElem? (i := 225) rfl)
set_option maxRecDepth 10000 in
theorem cm_234 : Cond.code ⟨"BoulderDowryModel", "freeCell", "()I"⟩ prog_14_method_34_code 3 (some .int) ∈ lw_tbl := tbi_8 (List.mem_of_getElem? (i := 221) rfl)
set_option maxRecDepth 10000 in
theorem cm_235 : Cond.code ⟨"BoulderDowryModel", "field", "()V"⟩ prog_14_method_35_code 1 none ∈ lw_tbl := tbi_8 (List.mem_of_getElem? (i := 108) rfl)
set_option maxRecDepth 10000 in
theorem cm_236 : Cond.code ⟨"BoulderDowryModel", "row", "()V"⟩ prog_14_method_36_code 2 none ∈ lw_tbl := tbi_8 (List.mem_of_getElem? (i := 145) rfl)
set_option maxRecDepth 10000 in
theorem cm_237 : Cond.code ⟨"BoulderDowryModel", "roughing", "()V"⟩ prog_14_method_37_code 3 none ∈ lw_tbl := tbi_8 (List.mem_of_getElem? (i := 154) rfl)
set_option maxRecDepth 10000 in
theorem cm_238 : Cond.code ⟨"BoulderDowryModel", "owning", "()V"⟩ prog_14_method_38_code 1 none ∈ lw_tbl := tbi_8 (List.mem_of_getElem? (i := 164) rfl)
set_option maxRecDepth 10000 in
theorem cm_239 : Cond.code ⟨"BoulderDowryModel", "landing", "()V"⟩ prog_14_method_39_code 6 none ∈ lw_tbl := tbi_8 (List.mem_of_getElem? (i := 209) rfl)
theorem cmL_5 : ∀ M ∈ zML_5, zcP M := (List.forall_mem_cons.mpr ⟨Or.inr cm_200, (List.forall_mem_cons.mpr ⟨Or.inl rfl, (List.forall_mem_cons.mpr ⟨Or.inr cm_202, (List.forall_mem_cons.mpr ⟨Or.inr cm_203, (List.forall_mem_cons.mpr ⟨Or.inr cm_204, (List.forall_mem_cons.mpr ⟨Or.inr cm_205, (List.forall_mem_cons.mpr ⟨Or.inr cm_206, (List.forall_mem_cons.mpr ⟨Or.inr cm_207, (List.forall_mem_cons.mpr ⟨Or.inr cm_208, (List.forall_mem_cons.mpr ⟨Or.inr cm_209, (List.forall_mem_cons.mpr ⟨Or.inr cm_210, (List.forall_mem_cons.mpr ⟨Or.inr cm_211, (List.forall_mem_cons.mpr ⟨Or.inr cm_212, (List.forall_mem_cons.mpr ⟨Or.inr cm_213, (List.forall_mem_cons.mpr ⟨Or.inr cm_214, (List.forall_mem_cons.mpr ⟨Or.inr cm_215, (List.forall_mem_cons.mpr ⟨Or.inr cm_216, (List.forall_mem_cons.mpr ⟨Or.inr cm_217, (List.forall_mem_cons.mpr ⟨Or.inr cm_218, (List.forall_mem_cons.mpr ⟨Or.inr cm_219, (List.forall_mem_cons.mpr ⟨Or.inr cm_220, (List.forall_mem_cons.mpr ⟨Or.inr cm_221, (List.forall_mem_cons.mpr ⟨Or.inr cm_222, (List.forall_mem_cons.mpr ⟨Or.inr cm_223, (List.forall_mem_cons.mpr ⟨Or.inr cm_224, (List.forall_mem_cons.mpr ⟨Or.inr cm_225, (List.forall_mem_cons.mpr ⟨Or.inr cm_226, (List.forall_mem_cons.mpr ⟨Or.inr cm_227, (List.forall_mem_cons.mpr ⟨Or.inr cm_228, (List.forall_mem_cons.mpr ⟨Or.inr cm_229, (List.forall_mem_cons.mpr ⟨Or.inr cm_230, (List.forall_mem_cons.mpr ⟨Or.inr cm_231, (List.forall_mem_cons.mpr ⟨Or.inr cm_232, (List.forall_mem_cons.mpr ⟨Or.inr cm_233, (List.forall_mem_cons.mpr ⟨Or.inr cm_234, (List.forall_mem_cons.mpr ⟨Or.inr cm_235, (List.forall_mem_cons.mpr ⟨Or.inr cm_236, (List.forall_mem_cons.mpr ⟨Or.inr cm_237, (List.forall_mem_cons.mpr ⟨Or.inr cm_238, (List.forall_mem_cons.mpr ⟨Or.inr cm_239, (fun _ h => absurd h List.not_mem_nil)⟩)⟩)⟩)⟩)⟩)⟩)⟩)⟩)⟩)⟩)⟩)⟩)⟩)⟩)⟩)⟩)⟩)⟩)⟩)⟩)⟩)⟩)⟩)⟩)⟩)⟩)⟩)⟩)⟩)⟩)⟩)⟩)⟩)⟩)⟩)⟩)⟩)⟩)⟩)⟩)
set_option maxRecDepth 10000 in
theorem cm_240 : Cond.code ⟨"BoulderDowryModel", "stoning", "()V"⟩ prog_14_method_40_code 2 none ∈ lw_tbl := tbi_8 (List.mem_of_getElem? (i := 217) rfl)
set_option maxRecDepth 10000 in
theorem cm_241 : Cond.code ⟨"BoulderDowryModel", "housing", "()V"⟩ prog_14_method_41_code 2 none ∈ lw_tbl := tbi_8 (List.mem_of_getElem? (i := 229) rfl)
set_option maxRecDepth 10000 in
theorem cm_242 : Cond.code ⟨"BoulderDowryModel", "walling", "()V"⟩ prog_14_method_42_code 3 none ∈ lw_tbl := tbi_8 (List.mem_of_getElem? (i := 237) rfl)
set_option maxRecDepth 10000 in
theorem cm_243 : Cond.code ⟨"BoulderDowryModel", "thawing", "()V"⟩ prog_14_method_43_code 2 none ∈ lw_tbl := tbi_9 (List.mem_of_getElem? (i := 1) rfl)
set_option maxRecDepth 10000 in
theorem cm_244 : Cond.code ⟨"BoulderDowryModel", "roping", "()V"⟩ prog_14_method_44_code 1 none ∈ lw_tbl := tbi_9 (List.mem_of_getElem? (i := 5) rfl)
set_option maxRecDepth 10000 in
theorem cm_245 : Cond.code ⟨"BoulderDowryModel", "lawing", "()V"⟩ prog_14_method_45_code 2 none ∈ lw_tbl := tbi_9 (List.mem_of_getElem? (i := 9) rfl)
set_option maxRecDepth 10000 in
theorem cm_246 : Cond.code ⟨"BoulderDowryModel", "statement", "()V"⟩ prog_14_method_46_code 1 none ∈ lw_tbl := tbi_8 (List.mem_of_getElem? (i := 140) rfl)
set_option maxRecDepth 10000 in
theorem cm_247 : Cond.code ⟨"BoulderDowryModel", "ends", "(I)V"⟩ prog_14_method_47_code 3 none ∈ lw_tbl := tbi_8 (List.mem_of_getElem? (i := 128) rfl)
set_option maxRecDepth 10000 in
theorem cm_248 : Cond.code ⟨"BoulderDowryModel", "others", "()V"⟩ prog_14_method_48_code 1 none ∈ lw_tbl := tbi_8 (List.mem_of_getElem? (i := 233) rfl)
set_option maxRecDepth 10000 in
theorem cm_249 : Cond.code ⟨"BoulderDowryModel", "clears", "()V"⟩ prog_14_method_49_code 2 none ∈ lw_tbl := tbi_8 (List.mem_of_getElem? (i := 90) rfl)
set_option maxRecDepth 10000 in
theorem cm_250 : Cond.code ⟨"BoulderDowryModel", "slope", "()I"⟩ prog_14_method_50_code 2 (some .int) ∈ lw_tbl := tbi_8 (List.mem_of_getElem? (i := 86) rfl)
set_option maxRecDepth 10000 in
theorem cm_251 : Cond.code ⟨"BoulderDowryModel", "fault", "(I)I"⟩ prog_14_method_51_code 2 (some .int) ∈ lw_tbl := tbi_9 (List.mem_of_getElem? (i := 71) rfl)
set_option maxRecDepth 10000 in
theorem cm_252 : Cond.code ⟨"BoulderDowryModel", "refuses", "(I)I"⟩ prog_14_method_52_code 2 (some .int) ∈ lw_tbl := tbi_8 (List.mem_of_getElem? (i := 74) rfl)
set_option maxRecDepth 10000 in
theorem cm_253 : Cond.code ⟨"BoulderDowryModel", "status", "(I)I"⟩ prog_14_method_53_code 2 (some .int) ∈ lw_tbl := tbi_9 (List.mem_of_getElem? (i := 75) rfl)
set_option maxRecDepth 10000 in
theorem cm_254 : Cond.code ⟨"BoulderDowryModel", "bounded", "(J)J"⟩ prog_14_method_54_code 2 (some .long) ∈ lw_tbl := tbi_9 (List.mem_of_getElem? (i := 93) rfl)
set_option maxRecDepth 10000 in
theorem cm_255 : Cond.code ⟨"BoulderDowryModel", "over", "(JJ)J"⟩ prog_14_method_55_code 6 (some .long) ∈ lw_tbl := tbi_9 (List.mem_of_getElem? (i := 98) rfl)
set_option maxRecDepth 10000 in
theorem cm_256 : Cond.code ⟨"BoulderDowryModel", "made", "(IJJ)J"⟩ prog_14_method_56_code 5 (some .long) ∈ lw_tbl := tbi_9 (List.mem_of_getElem? (i := 90) rfl)
set_option maxRecDepth 10000 in
theorem cm_257 : Cond.code ⟨"BoulderDowryModel", "reckons", "(II)J"⟩ prog_14_method_57_code 6 (some .long) ∈ lw_tbl := tbi_9 (List.mem_of_getElem? (i := 87) rfl)
set_option maxRecDepth 10000 in
theorem cm_258 : Cond.code ⟨"BoulderDowryModel", "cells", "()I"⟩ prog_14_method_58_code 1 (some .int) ∈ lw_tbl := tbi_9 (List.mem_of_getElem? (i := 55) rfl)
set_option maxRecDepth 10000 in
theorem cm_259 : Cond.code ⟨"BoulderDowryModel", "isCell", "(I)Z"⟩ prog_14_method_59_code 2 (some .boolean) ∈ lw_tbl := tbi_9 (List.mem_of_getElem? (i := 128) rfl)
set_option maxRecDepth 10000 in
theorem cm_260 : Cond.code ⟨"BoulderDowryModel", "isStone", "(I)Z"⟩ prog_14_method_60_code 2 (some .boolean) ∈ lw_tbl := tbi_9 (List.mem_of_getElem? (i := 148) rfl)
set_option maxRecDepth 10000 in
theorem cm_261 : Cond.code ⟨"BoulderDowryModel", "isHouse", "(I)Z"⟩ prog_14_method_61_code 2 (some .boolean) ∈ lw_tbl := tbi_9 (List.mem_of_getElem? (i := 160) rfl)
set_option maxRecDepth 10000 in
theorem cm_262 : Cond.code ⟨"BoulderDowryModel", "isOwner", "(I)Z"⟩ prog_14_method_62_code 2 (some .boolean) ∈ lw_tbl := tbi_9 (List.mem_of_getElem? (i := 168) rfl)
set_option maxRecDepth 10000 in
theorem cm_263 : Cond.code ⟨"BoulderDowryModel", "isThere", "(I)Z"⟩ prog_14_method_63_code 2 (some .boolean) ∈ lw_tbl := tbi_9 (List.mem_of_getElem? (i := 185) rfl)
set_option maxRecDepth 10000 in
theorem cm_264 : Cond.code ⟨"BoulderDowryModel", "copies", "(II)V"⟩ prog_14_method_64_code 4 none ∈ lw_tbl := tbi_9 (List.mem_of_getElem? (i := 111) rfl)
set_option maxRecDepth 10000 in
theorem cm_265 : Cond.code ⟨"BoulderDowryModel", "cleans", "(I)V"⟩ prog_14_method_65_code 3 none ∈ lw_tbl := tbi_9 (List.mem_of_getElem? (i := 67) rfl)
set_option maxRecDepth 10000 in
theorem cm_266 : Cond.code ⟨"BoulderDowryModel", "height", "(II)I"⟩ prog_14_method_66_code 3 (some .int) ∈ lw_tbl := tbi_9 (List.mem_of_getElem? (i := 63) rfl)
set_option maxRecDepth 10000 in
theorem cm_267 : Cond.code ⟨"BoulderDowryModel", "considers", "(III)V"⟩ prog_14_method_67_code 5 none ∈ lw_tbl := tbi_9 (List.mem_of_getElem? (i := 59) rfl)
set_option maxRecDepth 10000 in
theorem cm_268 : Cond.code ⟨"BoulderDowryModel", "begins", "()V"⟩ prog_14_method_68_code 4 none ∈ lw_tbl := tbi_9 (List.mem_of_getElem? (i := 51) rfl)
set_option maxRecDepth 10000 in
theorem cm_269 : Cond.code ⟨"BoulderDowryModel", "stoneAt", "(II)I"⟩ prog_14_method_69_code 4 (some .int) ∈ lw_tbl := tbi_9 (List.mem_of_getElem? (i := 136) rfl)
set_option maxRecDepth 10000 in
theorem cm_270 : Cond.code ⟨"BoulderDowryModel", "houseAt", "(I)I"⟩ prog_14_method_70_code 3 (some .int) ∈ lw_tbl := tbi_9 (List.mem_of_getElem? (i := 140) rfl)
set_option maxRecDepth 10000 in
theorem cm_271 : Cond.code ⟨"BoulderDowryModel", "wholeAt", "(II)I"⟩ prog_14_method_71_code 4 (some .int) ∈ lw_tbl := tbi_9 (List.mem_of_getElem? (i := 173) rfl)
set_option maxRecDepth 10000 in
theorem cm_272 : Cond.code ⟨"BoulderDowryModel", "ownerOf", "(I)I"⟩ prog_14_method_72_code 2 (some .int) ∈ lw_tbl := tbi_9 (List.mem_of_getElem? (i := 132) rfl)
set_option maxRecDepth 10000 in
theorem cm_273 : Cond.code ⟨"BoulderDowryModel", "lawOf", "(IIIII)I"⟩ prog_14_method_73_code 9 (some .int) ∈ lw_tbl := tbi_9 (List.mem_of_getElem? (i := 83) rfl)
set_option maxRecDepth 10000 in
theorem cm_274 : Cond.code ⟨"BoulderDowryModel", "law", "(IIIII)I"⟩ prog_14_method_74_code 7 (some .int) ∈ lw_tbl := tbi_9 (List.mem_of_getElem? (i := 79) rfl)
set_option maxRecDepth 10000 in
theorem cm_275 : Cond.code ⟨"BoulderDowryModel", "owes", "(IIIIIII)V"⟩ prog_14_method_75_code 12 none ∈ lw_tbl := tbi_9 (List.mem_of_getElem? (i := 209) rfl)
set_option maxRecDepth 10000 in
theorem cm_276 : Cond.code ⟨"BoulderDowryModel", "forgets", "()V"⟩ prog_14_method_76_code 1 none ∈ lw_tbl := tbi_9 (List.mem_of_getElem? (i := 193) rfl)
set_option maxRecDepth 10000 in
theorem cm_277 : Cond.code ⟨"BoulderDowryModel", "starts", "(III)Z"⟩ prog_14_method_77_code 5 (some .boolean) ∈ lw_tbl := tbi_9 (List.mem_of_getElem? (i := 201) rfl)
set_option maxRecDepth 10000 in
theorem cm_278 : Cond.code ⟨"BoulderDowryModel", "rolling", "(II)I"⟩ prog_14_method_78_code 13 (some .int) ∈ lw_tbl := tbi_9 (List.mem_of_getElem? (i := 205) rfl)
set_option maxRecDepth 10000 in
theorem cm_279 : Cond.code ⟨"BoulderDowryModel", "drives", "(III)I"⟩ prog_14_method_79_code 10 (some .int) ∈ lw_tbl := tbi_9 (List.mem_of_getElem? (i := 197) rfl)
theorem cmL_6 : ∀ M ∈ zML_6, zcP M := (List.forall_mem_cons.mpr ⟨Or.inr cm_240, (List.forall_mem_cons.mpr ⟨Or.inr cm_241, (List.forall_mem_cons.mpr ⟨Or.inr cm_242, (List.forall_mem_cons.mpr ⟨Or.inr cm_243, (List.forall_mem_cons.mpr ⟨Or.inr cm_244, (List.forall_mem_cons.mpr ⟨Or.inr cm_245, (List.forall_mem_cons.mpr ⟨Or.inr cm_246, (List.forall_mem_cons.mpr ⟨Or.inr cm_247, (List.forall_mem_cons.mpr ⟨Or.inr cm_248, (List.forall_mem_cons.mpr ⟨Or.inr cm_249, (List.forall_mem_cons.mpr ⟨Or.inr cm_250, (List.forall_mem_cons.mpr ⟨Or.inr cm_251, (List.forall_mem_cons.mpr ⟨Or.inr cm_252, (List.forall_mem_cons.mpr ⟨Or.inr cm_253, (List.forall_mem_cons.mpr ⟨Or.inr cm_254, (List.forall_mem_cons.mpr ⟨Or.inr cm_255, (List.forall_mem_cons.mpr ⟨Or.inr cm_256, (List.forall_mem_cons.mpr ⟨Or.inr cm_257, (List.forall_mem_cons.mpr ⟨Or.inr cm_258, (List.forall_mem_cons.mpr ⟨Or.inr cm_259, (List.forall_mem_cons.mpr ⟨Or.inr cm_260, (List.forall_mem_cons.mpr ⟨Or.inr cm_261, (List.forall_mem_cons.mpr ⟨Or.inr cm_262, (List.forall_mem_cons.mpr ⟨Or.inr cm_263, (List.forall_mem_cons.mpr ⟨Or.inr cm_264, (List.forall_mem_cons.mpr ⟨Or.inr cm_265, (List.forall_mem_cons.mpr ⟨Or.inr cm_266, (List.forall_mem_cons.mpr ⟨Or.inr cm_267, (List.forall_mem_cons.mpr ⟨Or.inr cm_268, (List.forall_mem_cons.mpr ⟨Or.inr cm_269, (List.forall_mem_cons.mpr ⟨Or.inr cm_270, (List.forall_mem_cons.mpr ⟨Or.inr cm_271, (List.forall_mem_cons.mpr ⟨Or.inr cm_272, (List.forall_mem_cons.mpr ⟨Or.inr cm_273, (List.forall_mem_cons.mpr ⟨Or.inr cm_274, (List.forall_mem_cons.mpr ⟨Or.inr cm_275, (List.forall_mem_cons.mpr ⟨Or.inr cm_276, (List.forall_mem_cons.mpr ⟨Or.inr cm_277, (List.forall_mem_cons.mpr ⟨Or.inr cm_278, (List.forall_mem_cons.mpr ⟨Or.inr cm_279, (fun _ h => absurd h List.not_mem_nil)⟩)⟩)⟩)⟩)⟩)⟩)⟩)⟩)⟩)⟩)⟩)⟩)⟩)⟩)⟩)⟩)⟩)⟩)⟩)⟩)⟩)⟩)⟩)⟩)⟩)⟩)⟩)⟩)⟩)⟩)⟩)⟩)⟩)⟩)⟩)⟩)⟩)⟩)⟩)⟩)
set_option maxRecDepth 10000 in
theorem cm_280 : Cond.code ⟨"BoulderDowryModel", "springs", "(II)V"⟩ prog_14_method_80_code 4 none ∈ lw_tbl := tbi_9 (List.mem_of_getElem? (i := 217) rfl)
set_option maxRecDepth 10000 in
theorem cm_281 : Cond.code ⟨"BoulderDowryModel", "ring", "(I)I"⟩ prog_14_method_81_code 2 (some .int) ∈ lw_tbl := tbi_9 (List.mem_of_getElem? (i := 107) rfl)
set_option maxRecDepth 10000 in
theorem cm_282 : Cond.code ⟨"BoulderDowryModel", "keeps", "()V"⟩ prog_14_method_82_code 1 none ∈ lw_tbl := tbi_9 (List.mem_of_getElem? (i := 189) rfl)
set_option maxRecDepth 10000 in
theorem cm_283 : Cond.code ⟨"BoulderDowryModel", "undo", "()Z"⟩ prog_14_method_83_code 1 (some .boolean) ∈ lw_tbl := tbi_9 (List.mem_of_getElem? (i := 103) rfl)
set_option maxRecDepth 10000 in
theorem cm_284 : Cond.code ⟨"BoulderDowryModel", "has", "(I)I"⟩ prog_14_method_84_code 4 (some .int) ∈ lw_tbl := tbi_9 (List.mem_of_getElem? (i := 115) rfl)
set_option maxRecDepth 10000 in
theorem cm_285 : Cond.code ⟨"BoulderDowryModel", "letter", "(III)I"⟩ prog_14_method_85_code 9 (some .int) ∈ lw_tbl := tbi_9 (List.mem_of_getElem? (i := 119) rfl)
set_option maxRecDepth 10000 in
theorem cm_286 : Cond.code ⟨"BoulderDowryModel", "cell", "(II)I"⟩ prog_14_method_86_code 4 (some .int) ∈ lw_tbl := tbi_9 (List.mem_of_getElem? (i := 124) rfl)
set_option maxRecDepth 10000 in
theorem cm_287 : Cond.code ⟨"BoulderDowryModel", "isHeld", "(II)Z"⟩ prog_14_method_87_code 4 (some .boolean) ∈ lw_tbl := tbi_9 (List.mem_of_getElem? (i := 152) rfl)
set_option maxRecDepth 10000 in
theorem cm_288 : Cond.code ⟨"BoulderDowryModel", "stone", "(II)I"⟩ prog_14_method_88_code 5 (some .int) ∈ lw_tbl := tbi_9 (List.mem_of_getElem? (i := 144) rfl)
set_option maxRecDepth 10000 in
theorem cm_289 : Cond.code ⟨"BoulderDowryModel", "house", "(II)I"⟩ prog_14_method_89_code 3 (some .int) ∈ lw_tbl := tbi_9 (List.mem_of_getElem? (i := 156) rfl)
set_option maxRecDepth 10000 in
theorem cm_290 : Cond.code ⟨"BoulderDowryModel", "owner", "(II)I"⟩ prog_14_method_90_code 6 (some .int) ∈ lw_tbl := tbi_9 (List.mem_of_getElem? (i := 164) rfl)
set_option maxRecDepth 10000 in
theorem cm_291 : Cond.code ⟨"BoulderDowryModel", "due", "(II)I"⟩ prog_14_method_91_code 3 (some .int) ∈ lw_tbl := tbi_9 (List.mem_of_getElem? (i := 177) rfl)
set_option maxRecDepth 10000 in
theorem cm_292 : Cond.code ⟨"BoulderDowryModel", "lever", "(II)I"⟩ prog_14_method_92_code 3 (some .int) ∈ lw_tbl := tbi_9 (List.mem_of_getElem? (i := 181) rfl)
set_option maxRecDepth 10000 in
theorem cm_293 : Cond.code ⟨"BoulderDowryModel", "spring", "(I)I"⟩ prog_14_method_93_code 2 (some .int) ∈ lw_tbl := tbi_9 (List.mem_of_getElem? (i := 213) rfl)
set_option maxRecDepth 10000 in
theorem cm_294 : Cond.code ⟨"BoulderDowryModel", "oddsAll", "()I"⟩ prog_14_method_94_code 3 (some .int) ∈ lw_tbl := tbi_9 (List.mem_of_getElem? (i := 225) rfl)
set_option maxRecDepth 10000 in
theorem cm_295 : Cond.code ⟨"BoulderDowryModel", "draw", "(I)I"⟩ prog_14_method_95_code 2 (some .int) ∈ lw_tbl := tbi_9 (List.mem_of_getElem? (i := 229) rfl)
set_option maxRecDepth 10000 in
theorem cm_296 : Cond.code ⟨"BoulderDowryModel", "goOn", "(I)I"⟩ prog_14_method_96_code 6 (some .int) ∈ lw_tbl := tbi_9 (List.mem_of_getElem? (i := 221) rfl)
set_option maxRecDepth 10000 in
theorem cm_297 : Cond.code ⟨"BoulderDowryModel", "seed", "(I)Z"⟩ prog_14_method_97_code 2 (some .boolean) ∈ lw_tbl := tbi_9 (List.mem_of_getElem? (i := 237) rfl)
set_option maxRecDepth 10000 in
theorem cm_298 : Cond.code ⟨"BoulderDowryModel", "net", "(IZ)Z"⟩ prog_14_method_98_code 3 (some .boolean) ∈ lw_tbl := tbi_10 (List.mem_of_getElem? (i := 1) rfl)
set_option maxRecDepth 10000 in
theorem cm_299 : Cond.code ⟨"BoulderDowryModel", "isFree", "(II)Z"⟩ prog_14_method_99_code 3 (some .boolean) ∈ lw_tbl := tbi_10 (List.mem_of_getElem? (i := 9) rfl)
set_option maxRecDepth 10000 in
theorem cm_300 : Cond.code ⟨"BoulderDowryModel", "wall", "(II)Z"⟩ prog_14_method_100_code 3 (some .boolean) ∈ lw_tbl := tbi_10 (List.mem_of_getElem? (i := 5) rfl)
set_option maxRecDepth 10000 in
theorem cm_301 : Cond.code ⟨"BoulderDowryModel", "dig", "(II)I"⟩ prog_14_method_101_code 3 (some .int) ∈ lw_tbl := tbi_10 (List.mem_of_getElem? (i := 13) rfl)
set_option maxRecDepth 10000 in
theorem cm_302 : Cond.code ⟨"BoulderDowryModel", "take", "(I)I"⟩ prog_14_method_102_code 2 (some .int) ∈ lw_tbl := tbi_10 (List.mem_of_getElem? (i := 17) rfl)
set_option maxRecDepth 10000 in
theorem cm_303 : Cond.code ⟨"BoulderDowryModel", "would", "(II)Z"⟩ prog_14_method_103_code 3 (some .boolean) ∈ lw_tbl := tbi_10 (List.mem_of_getElem? (i := 25) rfl)
set_option maxRecDepth 10000 in
theorem cm_304 : Cond.code ⟨"BoulderDowryModel", "path", "(III)I"⟩ prog_14_method_104_code 5 (some .int) ∈ lw_tbl := tbi_10 (List.mem_of_getElem? (i := 21) rfl)
set_option maxRecDepth 10000 in
theorem cm_305 : Cond.code ⟨"BoulderDowryModel", "roll", "(III)I"⟩ prog_14_method_105_code 4 (some .int) ∈ lw_tbl := tbi_10 (List.mem_of_getElem? (i := 30) rfl)
set_option maxRecDepth 10000 in
theorem cm_306 : Cond.code ⟨"BoulderDowryModel", "thaws", "(III)V"⟩ prog_14_method_106_code 4 none ∈ lw_tbl := tbi_10 (List.mem_of_getElem? (i := 38) rfl)
set_option maxRecDepth 10000 in
theorem cm_307 : Cond.code ⟨"BoulderDowryModel", "thaw", "(II)I"⟩ prog_14_method_107_code 3 (some .int) ∈ lw_tbl := tbi_10 (List.mem_of_getElem? (i := 34) rfl)
set_option maxRecDepth 10000 in
theorem cm_308 : Cond.code ⟨"BoulderDowryModel", "lies", "(II)I"⟩ prog_14_method_108_code 5 (some .int) ∈ lw_tbl := tbi_10 (List.mem_of_getElem? (i := 42) rfl)
set_option maxRecDepth 10000 in
theorem cm_309 : Cond.code ⟨"BoulderDowryModel", "hit", "(I)I"⟩ prog_14_method_109_code 4 (some .int) ∈ lw_tbl := tbi_10 (List.mem_of_getElem? (i := 46) rfl)
set_option maxRecDepth 10000 in
theorem cm_310 : Cond.code ⟨"BoulderDowryModel", "worst", "(I)I"⟩ prog_14_method_110_code 5 (some .int) ∈ lw_tbl := tbi_10 (List.mem_of_getElem? (i := 50) rfl)
set_option maxRecDepth 10000 in
theorem cm_311 : Cond.code ⟨"BoulderDowryModel", "isOn", "(III)Z"⟩ prog_14_method_111_code 5 (some .boolean) ∈ lw_tbl := tbi_10 (List.mem_of_getElem? (i := 58) rfl)
set_option maxRecDepth 10000 in
theorem cm_312 : Cond.code ⟨"BoulderDowryModel", "men", "(II)I"⟩ prog_14_method_112_code 4 (some .int) ∈ lw_tbl := tbi_10 (List.mem_of_getElem? (i := 54) rfl)
set_option maxRecDepth 10000 in
theorem cm_313 : Cond.code ⟨"BoulderDowryModel", "gathers", "(II)Z"⟩ prog_14_method_113_code 4 (some .boolean) ∈ lw_tbl := tbi_10 (List.mem_of_getElem? (i := 66) rfl)
set_option maxRecDepth 10000 in
theorem cm_314 : Cond.code ⟨"BoulderDowryModel", "firstOrder", "()V"⟩ prog_14_method_114_code 2 none ∈ lw_tbl := tbi_10 (List.mem_of_getElem? (i := 74) rfl)
set_option maxRecDepth 10000 in
theorem cm_315 : Cond.code ⟨"BoulderDowryModel", "nextOrder", "()Z"⟩ prog_14_method_115_code 6 (some .boolean) ∈ lw_tbl := tbi_10 (List.mem_of_getElem? (i := 82) rfl)
set_option maxRecDepth 10000 in
theorem cm_316 : Cond.code ⟨"BoulderDowryModel", "brings", "(I)Z"⟩ prog_14_method_116_code 4 (some .boolean) ∈ lw_tbl := tbi_10 (List.mem_of_getElem? (i := 78) rfl)
set_option maxRecDepth 10000 in
theorem cm_317 : Cond.code ⟨"BoulderDowryModel", "crews", "(I)Z"⟩ prog_14_method_117_code 8 (some .boolean) ∈ lw_tbl := tbi_10 (List.mem_of_getElem? (i := 70) rfl)
set_option maxRecDepth 10000 in
theorem cm_318 : Cond.code ⟨"BoulderDowryModel", "crew", "(III)I"⟩ prog_14_method_118_code 4 (some .int) ∈ lw_tbl := tbi_10 (List.mem_of_getElem? (i := 62) rfl)
set_option maxRecDepth 10000 in
theorem cm_319 : Cond.code ⟨"BoulderDowryModel", "isSafe", "(I)Z"⟩ prog_14_method_119_code 3 (some .boolean) ∈ lw_tbl := tbi_10 (List.mem_of_getElem? (i := 94) rfl)
theorem cmL_7 : ∀ M ∈ zML_7, zcP M := (List.forall_mem_cons.mpr ⟨Or.inr cm_280, (List.forall_mem_cons.mpr ⟨Or.inr cm_281, (List.forall_mem_cons.mpr ⟨Or.inr cm_282, (List.forall_mem_cons.mpr ⟨Or.inr cm_283, (List.forall_mem_cons.mpr ⟨Or.inr cm_284, (List.forall_mem_cons.mpr ⟨Or.inr cm_285, (List.forall_mem_cons.mpr ⟨Or.inr cm_286, (List.forall_mem_cons.mpr ⟨Or.inr cm_287, (List.forall_mem_cons.mpr ⟨Or.inr cm_288, (List.forall_mem_cons.mpr ⟨Or.inr cm_289, (List.forall_mem_cons.mpr ⟨Or.inr cm_290, (List.forall_mem_cons.mpr ⟨Or.inr cm_291, (List.forall_mem_cons.mpr ⟨Or.inr cm_292, (List.forall_mem_cons.mpr ⟨Or.inr cm_293, (List.forall_mem_cons.mpr ⟨Or.inr cm_294, (List.forall_mem_cons.mpr ⟨Or.inr cm_295, (List.forall_mem_cons.mpr ⟨Or.inr cm_296, (List.forall_mem_cons.mpr ⟨Or.inr cm_297, (List.forall_mem_cons.mpr ⟨Or.inr cm_298, (List.forall_mem_cons.mpr ⟨Or.inr cm_299, (List.forall_mem_cons.mpr ⟨Or.inr cm_300, (List.forall_mem_cons.mpr ⟨Or.inr cm_301, (List.forall_mem_cons.mpr ⟨Or.inr cm_302, (List.forall_mem_cons.mpr ⟨Or.inr cm_303, (List.forall_mem_cons.mpr ⟨Or.inr cm_304, (List.forall_mem_cons.mpr ⟨Or.inr cm_305, (List.forall_mem_cons.mpr ⟨Or.inr cm_306, (List.forall_mem_cons.mpr ⟨Or.inr cm_307, (List.forall_mem_cons.mpr ⟨Or.inr cm_308, (List.forall_mem_cons.mpr ⟨Or.inr cm_309, (List.forall_mem_cons.mpr ⟨Or.inr cm_310, (List.forall_mem_cons.mpr ⟨Or.inr cm_311, (List.forall_mem_cons.mpr ⟨Or.inr cm_312, (List.forall_mem_cons.mpr ⟨Or.inr cm_313, (List.forall_mem_cons.mpr ⟨Or.inr cm_314, (List.forall_mem_cons.mpr ⟨Or.inr cm_315, (List.forall_mem_cons.mpr ⟨Or.inr cm_316, (List.forall_mem_cons.mpr ⟨Or.inr cm_317, (List.forall_mem_cons.mpr ⟨Or.inr cm_318, (List.forall_mem_cons.mpr ⟨Or.inr cm_319, (fun _ h => absurd h List.not_mem_nil)⟩)⟩)⟩)⟩)⟩)⟩)⟩)⟩)⟩)⟩)⟩)⟩)⟩)⟩)⟩)⟩)⟩)⟩)⟩)⟩)⟩)⟩)⟩)⟩)⟩)⟩)⟩)⟩)⟩)⟩)⟩)⟩)⟩)⟩)⟩)⟩)⟩)⟩)⟩)⟩)
set_option maxRecDepth 10000 in
theorem cm_320 : Cond.code ⟨"BoulderDowryModel", "mayNet", "(I)Z"⟩ prog_14_method_120_code 2 (some .boolean) ∈ lw_tbl := tbi_10 (List.mem_of_getElem? (i := 102) rfl)
set_option maxRecDepth 10000 in
theorem cm_321 : Cond.code ⟨"BoulderDowryModel", "withNet", "(II)Z"⟩ prog_14_method_121_code 4 (some .boolean) ∈ lw_tbl := tbi_10 (List.mem_of_getElem? (i := 106) rfl)
set_option maxRecDepth 10000 in
theorem cm_322 : Cond.code ⟨"BoulderDowryModel", "oneNet", "(II)Z"⟩ prog_14_method_122_code 4 (some .boolean) ∈ lw_tbl := tbi_10 (List.mem_of_getElem? (i := 98) rfl)
set_option maxRecDepth 10000 in
theorem cm_323 : Cond.code ⟨"BoulderDowryModel", "twoNets", "(II)Z"⟩ prog_14_method_123_code 4 (some .boolean) ∈ lw_tbl := tbi_10 (List.mem_of_getElem? (i := 110) rfl)
set_option maxRecDepth 10000 in
theorem cm_324 : Cond.code ⟨"BoulderDowryModel", "threeNets", "()Z"⟩ prog_14_method_124_code 2 (some .boolean) ∈ lw_tbl := tbi_10 (List.mem_of_getElem? (i := 114) rfl)
set_option maxRecDepth 10000 in
theorem cm_325 : Cond.code ⟨"BoulderDowryModel", "lays", "()Z"⟩ prog_14_method_125_code 1 (some .boolean) ∈ lw_tbl := tbi_10 (List.mem_of_getElem? (i := 90) rfl)
set_option maxRecDepth 10000 in
theorem cm_326 : Cond.code ⟨"BoulderDowryModel", "nets", "(I)I"⟩ prog_14_method_126_code 2 (some .int) ∈ lw_tbl := tbi_10 (List.mem_of_getElem? (i := 86) rfl)
set_option maxRecDepth 10000 in
theorem cm_327 : Cond.code ⟨"BoulderDowryModel", "power", "(JI)J"⟩ prog_14_method_127_code 6 (some .long) ∈ lw_tbl := tbi_10 (List.mem_of_getElem? (i := 125) rfl)
set_option maxRecDepth 10000 in
theorem cm_328 : Cond.code ⟨"BoulderDowryModel", "handed", "(II)J"⟩ prog_14_method_128_code 3 (some .long) ∈ lw_tbl := tbi_10 (List.mem_of_getElem? (i := 122) rfl)
set_option maxRecDepth 10000 in
theorem cm_329 : Cond.code ⟨"BoulderDowryModel", "more", "(JJ)J"⟩ prog_14_method_129_code 4 (some .long) ∈ lw_tbl := tbi_10 (List.mem_of_getElem? (i := 136) rfl)
set_option maxRecDepth 10000 in
theorem cm_330 : Cond.code ⟨"BoulderDowryModel", "waitsOne", "(I)J"⟩ prog_14_method_130_code 5 (some .long) ∈ lw_tbl := tbi_10 (List.mem_of_getElem? (i := 129) rfl)
set_option maxRecDepth 10000 in
theorem cm_331 : Cond.code ⟨"BoulderDowryModel", "waitsTwo", "(I)J"⟩ prog_14_method_131_code 5 (some .long) ∈ lw_tbl := tbi_10 (List.mem_of_getElem? (i := 133) rfl)
set_option maxRecDepth 10000 in
theorem cm_332 : Cond.code ⟨"BoulderDowryModel", "waitsThree", "(I)J"⟩ prog_14_method_132_code 5 (some .long) ∈ lw_tbl := tbi_10 (List.mem_of_getElem? (i := 140) rfl)
set_option maxRecDepth 10000 in
theorem cm_333 : Cond.code ⟨"BoulderDowryModel", "dowry", "(IIII)I"⟩ prog_14_method_133_code 9 (some .int) ∈ lw_tbl := tbi_10 (List.mem_of_getElem? (i := 118) rfl)
set_option maxRecDepth 10000 in
theorem cm_334 : Cond.code ⟨"BoulderDowryModel", "whence", "(II)I"⟩ prog_14_method_134_code 9 (some .int) ∈ lw_tbl := tbi_10 (List.mem_of_getElem? (i := 145) rfl)
set_option maxRecDepth 10000 in
theorem cm_335 : Cond.code ⟨"BoulderDowryModel", "leans", "(II)I"⟩ prog_14_method_135_code 5 (some .int) ∈ lw_tbl := tbi_10 (List.mem_of_getElem? (i := 149) rfl)
set_option maxRecDepth 10000 in
theorem cm_336 : Cond.code ⟨"BoulderDowryModel", "isQuiet", "(I)Z"⟩ prog_14_method_136_code 3 (some .boolean) ∈ lw_tbl := tbi_10 (List.mem_of_getElem? (i := 161) rfl)
set_option maxRecDepth 10000 in
theorem cm_337 : Cond.code ⟨"BoulderDowryModel", "isQuarried", "()Z"⟩ prog_14_method_137_code 2 (some .boolean) ∈ lw_tbl := tbi_10 (List.mem_of_getElem? (i := 157) rfl)
set_option maxRecDepth 10000 in
theorem cm_338 : Cond.code ⟨"BoulderDowryModel", "quarry", "(II)I"⟩ prog_14_method_138_code 5 (some .int) ∈ lw_tbl := tbi_10 (List.mem_of_getElem? (i := 153) rfl)
set_option maxRecDepth 10000 in
theorem cm_339 : Cond.code ⟨"BoulderDowryModel", "heaviest", "()I"⟩ prog_14_method_139_code 3 (some .int) ∈ lw_tbl := tbi_10 (List.mem_of_getElem? (i := 169) rfl)
set_option maxRecDepth 10000 in
theorem cm_340 : Cond.code ⟨"BoulderDowryModel", "ropes", "(I)I"⟩ prog_14_method_140_code 8 (some .int) ∈ lw_tbl := tbi_10 (List.mem_of_getElem? (i := 165) rfl)
set_option maxRecDepth 10000 in
theorem cm_341 : Cond.code ⟨"BoulderDowryModel", "writes", "(I)V"⟩ prog_14_method_141_code 2 none ∈ lw_tbl := tbi_10 (List.mem_of_getElem? (i := 177) rfl)
set_option maxRecDepth 10000 in
theorem cm_342 : Cond.code ⟨"BoulderDowryModel", "image", "()I"⟩ prog_14_method_142_code 3 (some .int) ∈ lw_tbl := tbi_10 (List.mem_of_getElem? (i := 173) rfl)
set_option maxRecDepth 10000 in
theorem cm_343 : Cond.code ⟨"BoulderDowryModel", "octet", "(I)I"⟩ prog_14_method_143_code 2 (some .int) ∈ lw_tbl := tbi_10 (List.mem_of_getElem? (i := 181) rfl)
set_option maxRecDepth 10000 in
theorem cm_344 : Cond.code ⟨"BoulderDowryModel", "areStones", "()Z"⟩ prog_14_method_144_code 3 (some .boolean) ∈ lw_tbl := tbi_10 (List.mem_of_getElem? (i := 193) rfl)
set_option maxRecDepth 10000 in
theorem cm_345 : Cond.code ⟨"BoulderDowryModel", "isWholeOn", "(I)Z"⟩ prog_14_method_145_code 3 (some .boolean) ∈ lw_tbl := tbi_10 (List.mem_of_getElem? (i := 201) rfl)
set_option maxRecDepth 10000 in
theorem cm_346 : Cond.code ⟨"BoulderDowryModel", "isStoneOn", "(I)Z"⟩ prog_14_method_146_code 3 (some .boolean) ∈ lw_tbl := tbi_10 (List.mem_of_getElem? (i := 205) rfl)
set_option maxRecDepth 10000 in
theorem cm_347 : Cond.code ⟨"BoulderDowryModel", "isCellOn", "(I)Z"⟩ prog_14_method_147_code 5 (some .boolean) ∈ lw_tbl := tbi_10 (List.mem_of_getElem? (i := 197) rfl)
set_option maxRecDepth 10000 in
theorem cm_348 : Cond.code ⟨"BoulderDowryModel", "isImage", "(I)Z"⟩ prog_14_method_148_code 4 (some .boolean) ∈ lw_tbl := tbi_10 (List.mem_of_getElem? (i := 189) rfl)
set_option maxRecDepth 10000 in
theorem cm_349 : Cond.code ⟨"BoulderDowryModel", "on", "()Z"⟩ prog_14_method_149_code 4 (some .boolean) ∈ lw_tbl := tbi_10 (List.mem_of_getElem? (i := 185) rfl)
set_option maxRecDepth 10000 in
theorem cm_350 : Cond.code ⟨"java/lang/Integer", "bitCount", "(I)I"⟩ prog_15_method_49_code 1 (some .int) ∈ lw_tbl := tbi_6 (List.mem_of_getElem? (i := 73) rfl)
set_option maxRecDepth 10000 in
theorem cm_351 : Cond.code ⟨"java/lang/Long", "bitCount", "(J)I"⟩ prog_16_method_50_code 2 (some .int) ∈ lw_tbl := tbi_4 (List.mem_of_getElem? (i := 213) rfl)
set_option maxRecDepth 10000 in
theorem cm_352 : Cond.code ⟨"java/lang/Math", "floorDiv", "(II)I"⟩ prog_17_method_47_code 3 (some .int) ∈ lw_tbl := tbi_5 (List.mem_of_getElem? (i := 109) rfl)
set_option maxRecDepth 10000 in
theorem cm_353 : Cond.code ⟨"java/lang/Math", "floorMod", "(II)I"⟩ prog_17_method_50_code 3 (some .int) ∈ lw_tbl := tbi_5 (List.mem_of_getElem? (i := 112) rfl)
set_option maxRecDepth 10000 in
theorem cm_354 : Cond.code ⟨"java/lang/Math", "max", "(II)I"⟩ prog_17_method_65_code 2 (some .int) ∈ lw_tbl := tbi_5 (List.mem_of_getElem? (i := 22) rfl)
set_option maxRecDepth 10000 in
theorem cm_355 : Cond.code ⟨"java/lang/Math", "max", "(JJ)J"⟩ prog_17_method_66_code 4 (some .long) ∈ lw_tbl := tbi_5 (List.mem_of_getElem? (i := 106) rfl)
set_option maxRecDepth 10000 in
theorem cm_356 : Cond.code ⟨"java/lang/Math", "min", "(II)I"⟩ prog_17_method_69_code 2 (some .int) ∈ lw_tbl := tbi_4 (List.mem_of_getElem? (i := 11) rfl)
set_option maxRecDepth 10000 in
theorem cm_357 : Cond.code ⟨"java/lang/Math", "min", "(JJ)J"⟩ prog_17_method_70_code 4 (some .long) ∈ lw_tbl := tbi_5 (List.mem_of_getElem? (i := 103) rfl)
set_option maxRecDepth 10000 in
theorem cm_358 : Cond.code ⟨"java/util/Arrays", "fill", "([II)V"⟩ prog_22_method_103_code 4 none ∈ lw_tbl := tbi_3 (List.mem_of_getElem? (i := 181) rfl)
theorem cmL_8 : ∀ M ∈ zML_8, zcP M := (List.forall_mem_cons.mpr ⟨Or.inr cm_320, (List.forall_mem_cons.mpr ⟨Or.inr cm_321, (List.forall_mem_cons.mpr ⟨Or.inr cm_322, (List.forall_mem_cons.mpr ⟨Or.inr cm_323, (List.forall_mem_cons.mpr ⟨Or.inr cm_324, (List.forall_mem_cons.mpr ⟨Or.inr cm_325, (List.forall_mem_cons.mpr ⟨Or.inr cm_326, (List.forall_mem_cons.mpr ⟨Or.inr cm_327, (List.forall_mem_cons.mpr ⟨Or.inr cm_328, (List.forall_mem_cons.mpr ⟨Or.inr cm_329, (List.forall_mem_cons.mpr ⟨Or.inr cm_330, (List.forall_mem_cons.mpr ⟨Or.inr cm_331, (List.forall_mem_cons.mpr ⟨Or.inr cm_332, (List.forall_mem_cons.mpr ⟨Or.inr cm_333, (List.forall_mem_cons.mpr ⟨Or.inr cm_334, (List.forall_mem_cons.mpr ⟨Or.inr cm_335, (List.forall_mem_cons.mpr ⟨Or.inr cm_336, (List.forall_mem_cons.mpr ⟨Or.inr cm_337, (List.forall_mem_cons.mpr ⟨Or.inr cm_338, (List.forall_mem_cons.mpr ⟨Or.inr cm_339, (List.forall_mem_cons.mpr ⟨Or.inr cm_340, (List.forall_mem_cons.mpr ⟨Or.inr cm_341, (List.forall_mem_cons.mpr ⟨Or.inr cm_342, (List.forall_mem_cons.mpr ⟨Or.inr cm_343, (List.forall_mem_cons.mpr ⟨Or.inr cm_344, (List.forall_mem_cons.mpr ⟨Or.inr cm_345, (List.forall_mem_cons.mpr ⟨Or.inr cm_346, (List.forall_mem_cons.mpr ⟨Or.inr cm_347, (List.forall_mem_cons.mpr ⟨Or.inr cm_348, (List.forall_mem_cons.mpr ⟨Or.inr cm_349, (List.forall_mem_cons.mpr ⟨Or.inr cm_350, (List.forall_mem_cons.mpr ⟨Or.inr cm_351, (List.forall_mem_cons.mpr ⟨Or.inr cm_352, (List.forall_mem_cons.mpr ⟨Or.inr cm_353, (List.forall_mem_cons.mpr ⟨Or.inr cm_354, (List.forall_mem_cons.mpr ⟨Or.inr cm_355, (List.forall_mem_cons.mpr ⟨Or.inr cm_356, (List.forall_mem_cons.mpr ⟨Or.inr cm_357, (List.forall_mem_cons.mpr ⟨Or.inr cm_358, (fun _ h => absurd h List.not_mem_nil)⟩)⟩)⟩)⟩)⟩)⟩)⟩)⟩)⟩)⟩)⟩)⟩)⟩)⟩)⟩)⟩)⟩)⟩)⟩)⟩)⟩)⟩)⟩)⟩)⟩)⟩)⟩)⟩)⟩)⟩)⟩)⟩)⟩)⟩)⟩)⟩)⟩)⟩)⟩)
theorem cm_all (y : Nat) : zcP (zMT y) := by
  unfold zMT
  rw [List.getD_eq_getElem?_getD]
  cases hM : (zML_0 ++ (zML_1 ++ (zML_2 ++ (zML_3 ++ (zML_4 ++ (zML_5 ++ (zML_6 ++ (zML_7 ++ (zML_8)))))))))[y]? with
  | none => exact Or.inl rfl
  | some M =>
    have h := List.mem_of_getElem? hM
    exact (List.forall_mem_append.mpr ⟨cmL_0, List.forall_mem_append.mpr ⟨cmL_1, List.forall_mem_append.mpr ⟨cmL_2, List.forall_mem_append.mpr ⟨cmL_3, List.forall_mem_append.mpr ⟨cmL_4, List.forall_mem_append.mpr ⟨cmL_5, List.forall_mem_append.mpr ⟨cmL_6, List.forall_mem_append.mpr ⟨cmL_7, cmL_8⟩⟩⟩⟩⟩⟩⟩⟩ : ∀ M ∈ _, _) M h
def zYf (y : Nat) : Bool := Nat.blt 0 (zYt y).2.1
def zYb (y : Nat) : Bool := !(decide ((zMT y).2.2.2.2.1 = 2) && decide ((zMT y).1.name = "within")) && (zat (zYt y).2.2.1 (Cond.initialized (zMT y).1.cls) && (decide ((zMT y).1.cls ≠ "java/lang/invoke/MethodHandle" ∧ (zMT y).1.cls ≠ "java/lang/invoke/VarHandle") && (decide ((parseMethodDescriptor (zMT y).1.desc).map (fun d => d.parameters.length) = some (zYt y).1) && (Nat.ble (zMT y).2.2.1 100 && (decide ((zMT y).2.2.2.2.1 = 0 ∨ (zMT y).2.2.2.2.1 = 1 ∨ (zMT y).2.2.2.2.1 = 2 ∨ (zMT y).2.2.2.2.1 = 3) && (match (zYt y).2.2.2.2.2 with | true => zat (zYt y).2.2.2.1 (Cond.static (zMT y).1) | false => zat (zYt y).2.2.2.1 (Cond.instanceMethod (zMT y).1) && zat (zYt y).2.2.2.2.1 (Cond.selects (zMT y).1.cls (zMT y).1 (zMT y).1)))))))
def zYok (y : Nat) : Prop := zCal lw_tbl (zMT y).1 (zMT y).2.1 (zMT y).2.2.1 (zMT y).2.2.2.1 (zYt y).1 ∧ ((zMT y).2.2.2.2.1 = 0 ∨ (zMT y).2.2.2.2.1 = 1 ∨ (zMT y).2.2.2.2.1 = 2 ∨ (zMT y).2.2.2.2.1 = 3) ∧ ((zYt y).2.2.2.2.2 = true → Cond.static (zMT y).1 ∈ lw_tbl) ∧ ((zYt y).2.2.2.2.2 = false → Cond.instanceMethod (zMT y).1 ∈ lw_tbl ∧ Cond.selects (zMT y).1.cls (zMT y).1 (zMT y).1 ∈ lw_tbl)
theorem zYb_ok {y : Nat} (h : zYb y = true) : zYok y := by
  unfold zYb at h
  obtain ⟨h1, h⟩ := zand2 h
  obtain ⟨h2, h⟩ := zand2 h
  obtain ⟨h3, h⟩ := zand2 h
  obtain ⟨h4, h⟩ := zand2 h
  obtain ⟨h5, h⟩ := zand2 h
  obtain ⟨h6, h⟩ := zand2 h
  have h3 := of_decide_eq_true h3
  have h1 : Cond.code (zMT y).1 (zMT y).2.1 (zMT y).2.2.1 (zMT y).2.2.2.1 ∈ lw_tbl := by
    rcases cm_all y with q | q
    · rw [q] at h1
      exact absurd h1 (by decide)
    · exact q
  refine ⟨⟨⟨h1, zat_ok h2⟩, ⟨h3.1, h3.2, of_decide_eq_true h4⟩, Nat.le_of_ble_eq_true h5⟩, of_decide_eq_true h6, fun e => ?_, fun e => ?_⟩
  · rw [e] at h
    exact zat_ok h
  · rw [e] at h
    exact ⟨zat_ok (zand2 h).1, zat_ok (zand2 h).2⟩
theorem yb_0 : (List.range' 0 40).all (fun y => !zYf y || zYb y) = true := by decide +kernel
theorem yb_1 : (List.range' 40 40).all (fun y => !zYf y || zYb y) = true := by decide +kernel
theorem yb_2 : (List.range' 80 40).all (fun y => !zYf y || zYb y) = true := by decide +kernel
theorem yb_3 : (List.range' 120 40).all (fun y => !zYf y || zYb y) = true := by decide +kernel
theorem yb_4 : (List.range' 160 40).all (fun y => !zYf y || zYb y) = true := by decide +kernel
theorem yb_5 : (List.range' 200 40).all (fun y => !zYf y || zYb y) = true := by decide +kernel
theorem yb_6 : (List.range' 240 40).all (fun y => !zYf y || zYb y) = true := by decide +kernel
theorem yb_7 : (List.range' 280 40).all (fun y => !zYf y || zYb y) = true := by decide +kernel
theorem yb_8 : (List.range' 320 39).all (fun y => !zYf y || zYb y) = true := by decide +kernel
theorem yb_all {y : Nat} (hf : zYf y = true) : zYok y := by
  have key : ∀ (a n : Nat), (List.range' a n).all (fun y => !zYf y || zYb y) = true → a ≤ y → y < a + n → zYok y := by
    intro a n h h1 h2
    have h3 := List.all_eq_true.mp h y (List.mem_range'_1.mpr ⟨h1, h2⟩)
    rw [hf] at h3
    exact zYb_ok h3
  rcases Nat.lt_or_ge y 359 with hl | hl
  · rcases (show ((0 ≤ y) ∧ y < 0 + 40) ∨ ((40 ≤ y) ∧ y < 40 + 40) ∨ ((80 ≤ y) ∧ y < 80 + 40) ∨ ((120 ≤ y) ∧ y < 120 + 40) ∨ ((160 ≤ y) ∧ y < 160 + 40) ∨ ((200 ≤ y) ∧ y < 200 + 40) ∨ ((240 ≤ y) ∧ y < 240 + 40) ∨ ((280 ≤ y) ∧ y < 280 + 40) ∨ ((320 ≤ y) ∧ y < 320 + 39) by omega) with ⟨h1, h2⟩ | ⟨h1, h2⟩ | ⟨h1, h2⟩ | ⟨h1, h2⟩ | ⟨h1, h2⟩ | ⟨h1, h2⟩ | ⟨h1, h2⟩ | ⟨h1, h2⟩ | ⟨h1, h2⟩
    · exact key _ _ yb_0 h1 h2
    · exact key _ _ yb_1 h1 h2
    · exact key _ _ yb_2 h1 h2
    · exact key _ _ yb_3 h1 h2
    · exact key _ _ yb_4 h1 h2
    · exact key _ _ yb_5 h1 h2
    · exact key _ _ yb_6 h1 h2
    · exact key _ _ yb_7 h1 h2
    · exact key _ _ yb_8 h1 h2
  · exfalso
    have e : zYt y = (0, 0, 0, 0, 0, false) := by
      unfold zYt
      rw [List.getD_eq_getElem?_getD, List.getElem?_eq_none (by rw [zYl_len]; exact hl)]
      rfl
    unfold zYf at hf
    rw [e] at hf
    cases hf
def zVob (own : String) (idx : Nat) (ax : List Int) : Bool := match ax with
  | y :: n :: rk :: ci :: p :: _ => decide (0 ≤ y ∧ 0 ≤ ci ∧ ci < 13 ∧ n = ((zYt y.toNat).1 + 1 : Nat) ∧ rk = (zMT y.toNat).2.2.2.2.1) && (decide (zRX ci.toNat = (zMT y.toNat).1.cls) && (zYf y.toNat && (!(zYt y.toNat).2.2.2.2.2 && zat p (Cond.methodLink own idx (zMT y.toNat).1))))
  | _ => false
theorem zVob_ok {own : String} {idx : Nat} {ax : List Int} (h : zVob own idx ax = true) : zVok lw_tbl vwCl zMT own idx ax := by
  unfold zVob at h
  split at h
  · rename_i y n rk ci p tl
    obtain ⟨h1, h⟩ := zand2 h
    obtain ⟨h2, h⟩ := zand2 h
    obtain ⟨h3, h⟩ := zand2 h
    obtain ⟨h4, h5⟩ := zand2 h
    obtain ⟨a1, a2, a3, rfl, rfl⟩ := of_decide_eq_true h1
    have h2 := of_decide_eq_true h2
    rw [Bool.not_eq_true'] at h4
    obtain ⟨k1, k2, -, k3⟩ := yb_all h3
    refine ⟨y.toNat, (zYt y.toNat).1, ci.toNat, p :: tl, zRX ci.toNat, zTX ci.toNat, zNX ci.toNat, ?_, by omega, (clk_all ci.toNat (by omega)).1, zat_ok h5, (k3 h4).1, ?_, k1, k2⟩
    · rw [Int.toNat_of_nonneg a1, Int.toNat_of_nonneg a2]
    · rw [h2]; exact (k3 h4).2
  · cases h
def zSob (own : String) (idx : Nat) (ax : List Int) : Bool := match ax with
  | y :: n :: rk :: p0 :: tl => match decide (y = -2) with
    | true => zat p0 (Cond.methodLink own idx arraycopyName) && (zat 1080 (Cond.native arraycopyName) && (zat 1079 (Cond.static arraycopyName) && zat 202 (Cond.initialized "java/lang/System")))
    | false => decide (0 ≤ y ∧ n = ((zYt y.toNat).1 : Nat) ∧ rk = (zMT y.toNat).2.2.2.2.1) && (zYf y.toNat && ((zYt y.toNat).2.2.2.2.2 && (zat (tl.getD 0 0) (Cond.methodLink own idx (zMT y.toNat).1) || zat (tl.getD 0 0) (Cond.methodLinkNest own idx (zMT y.toNat).1 "BoulderDowry"))))
  | _ => false
theorem zSob_ok {own : String} {idx : Nat} {ax : List Int} (h : zSob own idx ax = true) : zSok lw_tbl zMT own idx ax := by
  unfold zSob at h
  split at h
  · rename_i y n rk p0 tl
    by_cases e : y = -2
    · rw [decide_eq_true e] at h
      obtain ⟨h1, h⟩ := zand2 h
      obtain ⟨h2, h⟩ := zand2 h
      obtain ⟨h3, h4⟩ := zand2 h
      exact Or.inl ⟨_, by rw [e], zat_ok h1, zat_ok h2, zat_ok h3, zat_ok h4⟩
    · rw [decide_eq_false e] at h
      obtain ⟨h1, h⟩ := zand2 h
      obtain ⟨h2, h⟩ := zand2 h
      obtain ⟨h3, h4⟩ := zand2 h
      obtain ⟨a1, rfl, rfl⟩ := of_decide_eq_true h1
      obtain ⟨k1, k2, k3, -⟩ := yb_all h2
      refine Or.inr ⟨y.toNat, (zYt y.toNat).1, p0 :: tl, ?_, ?_, k3 h3, k1, k2⟩
      · rw [Int.toNat_of_nonneg a1]
      · rcases Bool.or_eq_true_iff.mp h4 with q | q
        · exact Or.inl (zat_ok q)
        · exact Or.inr ⟨_, zat_ok q⟩
  · cases h
def zIb (own : String) (rk : Int) (pc : Nat) (ins : Instr) (ax : List Int) : Bool := match ins with
  | .iconst i => decide (ax.getD 0 0 = i) && zi32b i
  | .bipush i => zi32b (ax.getD 0 0) && decide ((Int8.ofInt i).toInt32 = Int32.ofInt (ax.getD 0 0))
  | .sipush i => zi32b (ax.getD 0 0) && decide ((Int16.ofInt i).toInt32 = Int32.ofInt (ax.getD 0 0))
  | .ldc idx => zi32b (ax.getD 0 0) && zat (ax.getD 1 0) (Jvm.Cond.constant own idx (Int32.ofInt (ax.getD 0 0)))
  | .ldc_w idx => zi32b (ax.getD 0 0) && zat (ax.getD 1 0) (Jvm.Cond.constant own idx (Int32.ofInt (ax.getD 0 0)))
  | .ldc2_w idx => zi64b (ax.getD 0 0) && zat (ax.getD 1 0) (Jvm.Cond.constantLong own idx (Int64.ofInt (ax.getD 0 0)))
  | .lconst i => zi64b (ax.getD 0 0) && decide (Int64.ofNat (i : Nat) = Int64.ofInt (ax.getD 0 0))
  | .iinc _ n => decide (ax.getD 0 0 = n)
  | .goto off => decide ((pc : Int) + off = ax.getD 0 0) && decide (0 ≤ ax.getD 0 0)
  | .ifCond _ off => decide ((pc : Int) + off = ax.getD 0 0) && decide (0 ≤ ax.getD 0 0)
  | .if_icmp _ off => decide ((pc : Int) + off = ax.getD 0 0) && decide (0 ≤ ax.getD 0 0)
  | .ifnull off => decide ((pc : Int) + off = ax.getD 0 0) && decide (0 ≤ ax.getD 0 0)
  | .ifnonnull off => decide ((pc : Int) + off = ax.getD 0 0) && decide (0 ≤ ax.getD 0 0)
  | .tableswitch d lo hi offs => decide (ax = ((pc : Int) + d) :: ((offs.toList.drop 0).mapIdx (fun k o => [lo + (0 : Nat) + k, (pc : Int) + o])).flatten) && (decide (hi = lo + offs.size - 1) && (decide (0 ≤ (pc : Int) + d) && offs.toList.all (fun o => decide (0 ≤ (pc : Int) + o))))
  | .lookupswitch d ps => decide (ax = ((pc : Int) + d) :: (ps.toList.map (fun q => [q.1, (pc : Int) + q.2])).flatten) && (decide (0 ≤ (pc : Int) + d) && (ps.toList.all (fun q => decide (0 ≤ (pc : Int) + q.2)) && (ps.toList.zip (ps.toList.drop 1)).all (fun (a, next) => a.1 < next.1)))
  | .getfield idx => zFob own idx ax
  | .putfield idx => zFob own idx ax
  | .invokevirtual idx => zVob own idx ax
  | .invokestatic idx => zSob own idx ax
  | .invokespecial _ => false
  | .aastore => false
  | .new _ => false
  | .newarray _ => false
  | .anewarray _ => false
  | .ireturn => decide (ax.getD 0 0 = rk) && decide (rk = 0 ∨ rk = 3)
  | .lreturn => decide (rk = 1)
  | .return_ => decide (rk = 2)
  | _ => true
theorem zIb_ok {own : String} {rk : Int} {pc : Nat} {ins : Instr} {ax : List Int} (h : zIb own rk pc ins ax = true) : zIok true lw_tbl vwCl zFT zFK zMT own rk pc ins ax := by
  cases ins with
  | iconst i => exact ⟨of_decide_eq_true (zand2 h).1, zi32b_ok (zand2 h).2⟩
  | bipush i => exact ⟨zi32b_ok (zand2 h).1, of_decide_eq_true (zand2 h).2⟩
  | sipush i => exact ⟨zi32b_ok (zand2 h).1, of_decide_eq_true (zand2 h).2⟩
  | ldc idx => exact ⟨zi32b_ok (zand2 h).1, zat_ok (zand2 h).2⟩
  | ldc_w idx => exact ⟨zi32b_ok (zand2 h).1, zat_ok (zand2 h).2⟩
  | ldc2_w idx => exact ⟨zi64b_ok (zand2 h).1, zat_ok (zand2 h).2⟩
  | lconst i => exact ⟨zi64b_ok (zand2 h).1, of_decide_eq_true (zand2 h).2⟩
  | iinc _ n =>
    exact (of_decide_eq_true (show decide (ax.getD 0 0 = n) = true from h) : ax.getD 0 0 = n)
  | goto off => exact ⟨of_decide_eq_true (zand2 h).1, of_decide_eq_true (zand2 h).2⟩
  | ifCond _ off => exact ⟨of_decide_eq_true (zand2 h).1, of_decide_eq_true (zand2 h).2⟩
  | if_icmp _ off => exact ⟨of_decide_eq_true (zand2 h).1, of_decide_eq_true (zand2 h).2⟩
  | ifnull off => exact ⟨of_decide_eq_true (zand2 h).1, of_decide_eq_true (zand2 h).2⟩
  | ifnonnull off => exact ⟨of_decide_eq_true (zand2 h).1, of_decide_eq_true (zand2 h).2⟩
  | tableswitch d lo hi offs =>
    obtain ⟨h1, h⟩ := zand2 h
    obtain ⟨h2, h⟩ := zand2 h
    obtain ⟨h3, h4⟩ := zand2 h
    exact ⟨of_decide_eq_true h1, of_decide_eq_true h2, of_decide_eq_true h3, fun o ho => of_decide_eq_true (List.all_eq_true.mp h4 o ho)⟩
  | lookupswitch d ps =>
    obtain ⟨h1, h⟩ := zand2 h
    obtain ⟨h2, h⟩ := zand2 h
    obtain ⟨h3, h4⟩ := zand2 h
    exact ⟨of_decide_eq_true h1, of_decide_eq_true h2, fun o ho => of_decide_eq_true (List.all_eq_true.mp h3 o ho), h4⟩
  | getfield idx => exact zFob_ok h
  | putfield idx => exact ⟨zFob_ok h, rfl⟩
  | invokevirtual idx => exact zVob_ok h
  | invokestatic idx => exact zSob_ok h
  | invokespecial _ => cases h
  | aastore => cases h
  | new _ => cases h
  | newarray _ => cases h
  | anewarray _ => cases h
  | ireturn => exact ⟨of_decide_eq_true (zand2 h).1, of_decide_eq_true (zand2 h).2⟩
  | lreturn =>
    exact (of_decide_eq_true (show decide (rk = 1) = true from h) : rk = 1)
  | return_ =>
    exact (of_decide_eq_true (show decide (rk = 2) = true from h) : rk = 2)
  | _ => exact True.intro
def zlnb (ins : Instr) (len : Nat) : Bool := match ins with
  | .tableswitch _ _ _ _ => true
  | .lookupswitch _ _ => true
  | i => Nat.beq len (zlen i)
theorem zlnb_ok {ins : Instr} {len : Nat} (h : zlnb ins len = true) : zlnok ins len := by
  cases ins with
  | tableswitch _ _ _ _ => exact True.intro
  | lookupswitch _ _ => exact True.intro
  | _ => exact Nat.eq_of_beq_eq_true h
theorem zMkk {nm : MethodName} {cc : ByteArray} {mL : Nat} {rt : Option FieldType} {rk : Int} {rows : List zRow} {ct : List (Nat × List Bool)} (h1 : plainName nm.cls = true) (h2 : rt = zrt rk) (h3 : rows.all (fun q => decide (decode cc q.1 = .ok (q.2.2.1, q.2.1))) = true) (h4 : rows.all (fun q => zlnb q.2.2.1 q.2.1 && zIb nm.cls rk q.1 q.2.2.1 q.2.2.2.2.2) = true) : zMok true lw_tbl vwCl zFT zFK zMT (nm, cc, mL, rt, rk, rows, ct) := by
  refine ⟨h1, h2, fun q hq => ?_⟩
  have e3 := List.all_eq_true.mp h3 q hq
  have e4 := zand2 (List.all_eq_true.mp h4 q hq)
  exact ⟨of_decide_eq_true e3, zlnb_ok e4.1, zIb_ok e4.2⟩
