/-! the words of each method, and the throws: written by wip/tools/tables2.py -/
def ib_mi : List (Nat × Nat × Nat × Nat × Nat) := [(167, 6, 166, 3, 0), (344, 6, 342, 1, 343), (404, 6, 402, 1, 403), (400, 6, 398, 1, 399), (465, 6, 463, 1, 464), (714, 6, 712, 1, 713), (718, 6, 717, 2, 17), (762, 6, 760, 1, 761), (992, 6, 990, 1, 991), (996, 6, 994, 1, 995), (961, 6, 959, 1, 960), (31, 2, 30, 3, 0), (726, 2, 724, 1, 725), (938, 2, 936, 1, 937), (722, 2, 720, 1, 721), (408, 2, 406, 1, 407), (1024, 2, 1022, 1, 1023), (1029, 2, 1027, 1, 1028), (139, 5, 138, 3, 0), (388, 5, 386, 1, 387), (622, 5, 620, 1, 621), (348, 5, 346, 1, 347), (384, 5, 382, 1, 383), (392, 5, 391, 2, 1), (626, 17, 625, 3, 0), (701, 17, 699, 1, 700), (749, 17, 747, 1, 748), (805, 17, 803, 1, 804), (1047, 17, 1045, 1, 1046), (1051, 17, 1049, 1, 1050), (758, 17, 756, 1, 757), (766, 17, 764, 1, 765), (38, 3, 37, 3, 0), (868, 3, 867, 0, 0), (810, 3, 808, 1, 809), (730, 3, 728, 1, 729), (788, 3, 786, 1, 787), (420, 3, 418, 1, 419), (456, 3, 454, 1, 455), (416, 3, 414, 1, 415), (412, 3, 410, 1, 411), (820, 3, 818, 1, 819), (424, 3, 422, 1, 423), (770, 3, 768, 1, 769), (428, 3, 427, 2, 3), (778, 3, 776, 1, 777), (774, 3, 772, 1, 773), (874, 3, 872, 1, 873), (816, 3, 814, 1, 815), (824, 3, 823, 2, 21), (240, 9, 239, 3, 0), (1016, 9, 1014, 1, 1015), (1020, 9, 1018, 1, 1019), (1033, 9, 1031, 1, 1032), (1038, 9, 1037, 2, 30), (1043, 9, 1042, 2, 31), (1055, 9, 1054, 2, 32), (1060, 9, 1058, 1, 1059), (1064, 9, 1063, 2, 33), (1068, 9, 1067, 2, 34), (1076, 9, 1074, 1, 1075), (109, 4, 108, 3, 0), (571, 4, 569, 1, 570), (356, 4, 354, 1, 355), (352, 4, 350, 1, 351), (697, 4, 695, 1, 696), (601, 4, 599, 1, 600), (957, 4, 955, 1, 956), (198, 7, 197, 3, 0), (745, 7, 744, 2, 19), (741, 7, 739, 1, 740), (710, 7, 708, 1, 709), (888, 7, 886, 1, 887), (843, 7, 841, 1, 842), (848, 7, 846, 1, 847), (856, 7, 855, 2, 25), (852, 7, 850, 1, 851), (861, 7, 859, 1, 860), (865, 7, 864, 2, 26), (878, 7, 877, 2, 27), (753, 7, 751, 1, 752), (783, 7, 781, 1, 782), (792, 7, 790, 1, 791), (796, 7, 794, 1, 795), (801, 7, 800, 2, 20), (834, 7, 833, 2, 23), (829, 7, 828, 2, 22), (1080, 7, 1078, 1, 1079), (1084, 7, 1082, 1, 1083), (217, 8, 216, 3, 0), (605, 8, 603, 1, 604), (1089, 8, 1087, 1, 1088), (609, 8, 607, 1, 608), (613, 8, 612, 2, 14), (706, 8, 705, 2, 16), (737, 8, 736, 2, 18), (618, 8, 617, 2, 15), (269, 10, 268, 3, 0), (380, 10, 378, 1, 379), (396, 10, 395, 2, 2), (436, 10, 434, 1, 435), (444, 10, 443, 2, 5), (440, 10, 439, 2, 4), (448, 10, 447, 2, 6), (452, 10, 451, 2, 7), (460, 10, 459, 2, 8), (23, 1, 22, 3, 0), (475, 1, 473, 1, 474), (578, 1, 576, 1, 577), (902, 1, 900, 1, 901), (912, 1, 910, 1, 911), (919, 1, 917, 1, 918), (926, 1, 924, 1, 925), (934, 1, 932, 1, 933), (946, 1, 944, 1, 945), (953, 1, 951, 1, 952), (969, 1, 967, 1, 968), (1003, 1, 1001, 1, 1002), (336, 1, 334, 1, 335), (1011, 1, 1009, 1, 1010), (1096, 1, 1094, 1, 1095), (1104, 1, 1102, 1, 1103), (1114, 1, 1112, 1, 1113), (1123, 1, 1121, 1, 1122), (360, 1, 358, 1, 359), (1132, 1, 1130, 1, 1131), (364, 1, 362, 1, 363), (368, 1, 366, 1, 367), (372, 1, 370, 1, 371), (1142, 1, 1140, 1, 1141), (1149, 1, 1147, 1, 1148), (1156, 1, 1154, 1, 1155), (376, 1, 374, 1, 375), (432, 1, 430, 1, 431), (478, 1, 477, 0, 0), (581, 1, 580, 0, 0), (972, 1, 971, 0, 0), (550, 1, 549, 2, 10), (587, 1, 586, 2, 11), (592, 1, 591, 2, 12), (895, 1, 894, 2, 29), (340, 1, 339, 2, 0), (597, 1, 596, 2, 13), (838, 1, 837, 2, 24), (883, 1, 882, 2, 28), (1162, 11, 1161, 3, 0), (1277, 11, 1275, 1, 1276), (1287, 11, 1286, 0, 0), (1351, 11, 1350, 2, 49), (1359, 11, 1358, 2, 51), (1367, 11, 1366, 2, 53), (1371, 11, 1370, 2, 54), (1375, 11, 1374, 2, 55), (1399, 11, 1398, 2, 61), (1426, 11, 1425, 2, 67), (1450, 11, 1449, 2, 73), (1403, 11, 1402, 2, 62), (1395, 11, 1394, 2, 60), (1379, 11, 1378, 2, 56), (1363, 11, 1362, 2, 52), (1327, 11, 1326, 2, 43), (1355, 11, 1354, 2, 50), (1546, 11, 1545, 2, 84), (1343, 11, 1342, 2, 47), (1339, 11, 1338, 2, 46), (1335, 11, 1334, 2, 45), (1347, 11, 1346, 2, 48), (1331, 11, 1330, 2, 44), (1323, 11, 1322, 2, 42), (1383, 11, 1382, 2, 57), (1406, 11, 1405, 0, 0), (1418, 11, 1417, 2, 65), (1422, 11, 1421, 2, 66), (1391, 11, 1390, 2, 59), (1387, 11, 1386, 2, 58), (1319, 11, 1318, 2, 41), (1442, 11, 1441, 2, 71), (1438, 11, 1437, 2, 70), (1446, 11, 1445, 2, 72), (1430, 11, 1429, 2, 68), (1454, 11, 1453, 2, 74), (1414, 11, 1413, 2, 64), (1434, 11, 1433, 2, 69), (1410, 11, 1409, 2, 63), (1284, 11, 1283, 0, 0), (1291, 11, 1290, 2, 35), (1315, 11, 1314, 2, 40), (1311, 11, 1310, 2, 39), (1307, 11, 1306, 2, 38), (1303, 11, 1302, 2, 37), (1299, 11, 1298, 2, 36), (1281, 11, 1279, 1, 1280), (1458, 11, 1457, 2, 75), (1295, 11, 1293, 1, 1294), (1462, 11, 1460, 1, 1461), (1466, 11, 1464, 1, 1465), (1470, 11, 1468, 1, 1469), (1474, 11, 1472, 1, 1473), (1478, 11, 1476, 1, 1477), (1482, 11, 1480, 1, 1481), (1486, 11, 1484, 1, 1485), (1490, 11, 1488, 1, 1489), (1494, 11, 1492, 1, 1493), (1498, 11, 1496, 1, 1497), (1506, 11, 1505, 2, 76), (1510, 11, 1509, 2, 77), (1514, 11, 1513, 2, 78), (1526, 11, 1525, 2, 81), (1522, 11, 1521, 2, 80), (1530, 11, 1529, 2, 82), (1518, 11, 1517, 2, 79), (1534, 11, 1533, 2, 83), (1502, 11, 1500, 1, 1501), (1538, 11, 1536, 1, 1537), (1542, 11, 1540, 1, 1541), (1550, 11, 1548, 1, 1549), (1554, 11, 1552, 1, 1553), (1558, 11, 1556, 1, 1557), (1562, 11, 1560, 1, 1561), (1566, 11, 1564, 1, 1565), (1570, 11, 1568, 1, 1569), (1574, 11, 1572, 1, 1573), (1578, 11, 1576, 1, 1577), (1582, 11, 1580, 1, 1581), (1590, 11, 1589, 2, 85), (1586, 11, 1584, 1, 1585), (1598, 11, 1597, 2, 86), (1594, 11, 1592, 1, 1593), (1605, 11, 1604, 0, 0), (1609, 11, 1608, 2, 87), (1602, 11, 1600, 1, 1601), (469, 0, 468, 0, 0), (574, 0, 573, 0, 0), (898, 0, 897, 0, 0), (908, 0, 907, 0, 0), (915, 0, 914, 0, 0), (922, 0, 921, 0, 0), (930, 0, 929, 0, 0), (942, 0, 941, 0, 0), (949, 0, 948, 0, 0), (964, 0, 963, 0, 0), (999, 0, 998, 0, 0), (1007, 0, 1006, 0, 0), (1092, 0, 1091, 0, 0), (1100, 0, 1099, 0, 0), (1110, 0, 1109, 0, 0), (1119, 0, 1118, 0, 0), (1128, 0, 1127, 0, 0), (1138, 0, 1137, 0, 0), (1145, 0, 1144, 0, 0), (1152, 0, 1151, 0, 0)]
def ib_cw (M : ib_M) : Cond := if M.2.2.2.2.1.isEmpty then .code M.1 M.2.1 M.2.2.1 M.2.2.2.1 else .codeWith M.1 M.2.1 M.2.2.1 M.2.2.2.1 M.2.2.2.2.1
def ib_hok (M : ib_M) : Bool := M.2.2.2.2.1.all fun h => decide (h.2.2.2 ≠ 0) && decide (ib_ct h.2.2.2 < 3) && decide (Cond.classLink M.1.cls h.2.2.2 (ib_xn (ib_ct h.2.2.2)) ∈ tables_1)
def ib_mok (M : ib_M) (q : Nat × Nat × Nat × Nat × Nat) : Bool := plainName M.1.cls && ib_wd q.2.1 (.initialized M.1.cls) && decide (M.1.cls ≠ "java/lang/invoke/MethodHandle") && decide (M.1.cls ≠ "java/lang/invoke/VarHandle") && ib_hok M && (if q.2.2.2.1 = 0 then ib_wd q.2.2.1 (.static M.1) else ib_wd q.2.2.1 (.instanceMethod M.1)) && (if q.2.2.2.1 = 1 then ib_wd q.2.2.2.2 (.selects M.1.cls M.1 M.1) else if q.2.2.2.1 = 2 then decide ((lw_privs[q.2.2.2.2]?).map (fun z => z.1) = some M.1) && goodWord (.selects M.1.cls M.1 M.1) else true) && (decide (q.2.2.2.1 = 0) || M.2.2.2.2.1.isEmpty)
def ib_moks : List ib_M → List (Nat × Nat × Nat × Nat × Nat) → Bool
  | M :: r, q :: s => ib_mok M q && ib_moks r s
  | _, [] => true
  | [], _ => false
set_option maxRecDepth 100000 in
theorem ib_cw0 : ib_cw (yX0_init, cX0_init, 3, none, [], ib_c0) ∈ tables_1 := List.mem_of_getElem? (i := 167) rfl
set_option maxRecDepth 100000 in
theorem ib_cw1 : ib_cw (yX0_empty, cX0_empty, 2, none, [], ib_c1) ∈ tables_1 := List.mem_of_getElem? (i := 344) rfl
set_option maxRecDepth 100000 in
theorem ib_cw2 : ib_cw (yX0_frameOf, cX0_frameOf, 3, (some Jvm.ClassFile.FieldType.int), [], ib_c2) ∈ tables_1 := List.mem_of_getElem? (i := 404) rfl
set_option maxRecDepth 100000 in
theorem ib_cw3 : ib_cw (yX0_seen, cX0_seen, 3, (some (Jvm.ClassFile.FieldType.object "PageLoom$Page")), [], ib_c3) ∈ tables_1 := List.mem_of_getElem? (i := 400) rfl
set_option maxRecDepth 100000 in
theorem ib_cw4 : ib_cw (yX0_kindSeen, cX0_kindSeen, 3, (some Jvm.ClassFile.FieldType.int), [], ib_c4) ∈ tables_1 := List.mem_of_getElem? (i := 465) rfl
set_option maxRecDepth 100000 in
theorem ib_cw5 : ib_cw (yX0_use, cX0_use, 3, (some Jvm.ClassFile.FieldType.boolean), [], ib_c5) ∈ tables_1 := List.mem_of_getElem? (i := 714) rfl
set_option maxRecDepth 100000 in
theorem ib_cw6 : ib_cw (yX0_takeFrame, cX0_takeFrame, 3, (some Jvm.ClassFile.FieldType.int), [], ib_c6) ∈ tables_1 := List.mem_of_getElem? (i := 718) rfl
set_option maxRecDepth 100000 in
theorem ib_cw7 : ib_cw (yX0_toChange, cX0_toChange, 4, (some (Jvm.ClassFile.FieldType.object "PageLoom$Page")), [], ib_c7) ∈ tables_1 := List.mem_of_getElem? (i := 762) rfl
set_option maxRecDepth 100000 in
theorem ib_cw8 : ib_cw (yX0_differs, cX0_differs, 3, (some Jvm.ClassFile.FieldType.boolean), [], ib_c8) ∈ tables_1 := List.mem_of_getElem? (i := 992) rfl
set_option maxRecDepth 100000 in
theorem ib_cw9 : ib_cw (yX0_clean, cX0_clean, 3, (some Jvm.ClassFile.FieldType.boolean), [], ib_c9) ∈ tables_1 := List.mem_of_getElem? (i := 996) rfl
set_option maxRecDepth 100000 in
theorem ib_cw10 : ib_cw (yX0_tellDiffering, cX0_tellDiffering, 4, none, [], ib_c10) ∈ tables_1 := List.mem_of_getElem? (i := 961) rfl
set_option maxRecDepth 100000 in
theorem ib_cw11 : ib_cw (yX1_init, cX1_init, 2, none, [], ib_c11) ∈ tables_1 := List.mem_of_getElem? (i := 31) rfl
set_option maxRecDepth 100000 in
theorem ib_cw12 : ib_cw (yX1_doWrites, cX1_doWrites, 3, (some Jvm.ClassFile.FieldType.int), [], ib_c12) ∈ tables_1 := List.mem_of_getElem? (i := 726) rfl
set_option maxRecDepth 100000 in
theorem ib_cw13 : ib_cw (yX1_makeDurable, cX1_makeDurable, 4, (some Jvm.ClassFile.FieldType.boolean), [], ib_c13) ∈ tables_1 := List.mem_of_getElem? (i := 938) rfl
set_option maxRecDepth 100000 in
theorem ib_cw14 : ib_cw (yX1_writePage, cX1_writePage, 6, (some Jvm.ClassFile.FieldType.boolean), [], ib_c14) ∈ tables_1 := List.mem_of_getElem? (i := 722) rfl
set_option maxRecDepth 100000 in
theorem ib_cw15 : ib_cw (yX1_isTorn, cX1_isTorn, 2, (some Jvm.ClassFile.FieldType.boolean), [], ib_c15) ∈ tables_1 := List.mem_of_getElem? (i := 408) rfl
set_option maxRecDepth 100000 in
theorem ib_cw16 : ib_cw (yX1_spareMends, cX1_spareMends, 1, (some Jvm.ClassFile.FieldType.boolean), [], ib_c16) ∈ tables_1 := List.mem_of_getElem? (i := 1024) rfl
set_option maxRecDepth 100000 in
theorem ib_cw17 : ib_cw (yX1_mendFromSpare, cX1_mendFromSpare, 2, (some Jvm.ClassFile.FieldType.int), [], ib_c17) ∈ tables_1 := List.mem_of_getElem? (i := 1029) rfl
set_option maxRecDepth 100000 in
theorem ib_cw18 : ib_cw (yX2_init, cX2_init, 3, none, [], ib_c18) ∈ tables_1 := List.mem_of_getElem? (i := 139) rfl
set_option maxRecDepth 100000 in
theorem ib_cw19 : ib_cw (yX2_at, cX2_at, 2, (some (Jvm.ClassFile.FieldType.object "PageLoom$LogRecord")), [], ib_c19) ∈ tables_1 := List.mem_of_getElem? (i := 388) rfl
set_option maxRecDepth 100000 in
theorem ib_cw20 : ib_cw (yX2_append, cX2_append, 4, (some (Jvm.ClassFile.FieldType.object "PageLoom$LogRecord")), [], ib_c20) ∈ tables_1 := List.mem_of_getElem? (i := 622) rfl
set_option maxRecDepth 100000 in
theorem ib_cw21 : ib_cw (yX2_cut, cX2_cut, 1, none, [], ib_c21) ∈ tables_1 := List.mem_of_getElem? (i := 348) rfl
set_option maxRecDepth 100000 in
theorem ib_cw22 : ib_cw (yX2_committedValues, cX2_committedValues, 3, (some (Jvm.ClassFile.FieldType.array Jvm.ClassFile.FieldType.int)), [], ib_c22) ∈ tables_1 := List.mem_of_getElem? (i := 384) rfl
set_option maxRecDepth 100000 in
theorem ib_cw23 : ib_cw (yX2_believeChain, cX2_believeChain, 5, none, [], ib_c23) ∈ tables_1 := List.mem_of_getElem? (i := 392) rfl
set_option maxRecDepth 100000 in
theorem ib_cw24 : ib_cw (yX3_init, cX3_init, 1, none, [], ib_c24) ∈ tables_1 := List.mem_of_getElem? (i := 626) rfl
set_option maxRecDepth 100000 in
theorem ib_cw25 : ib_cw (yX3_begin, cX3_begin, 5, none, [], ib_c25) ∈ tables_1 := List.mem_of_getElem? (i := 701) rfl
set_option maxRecDepth 100000 in
theorem ib_cw26 : ib_cw (yX3_tellLeaf, cX3_tellLeaf, 2, none, [], ib_c26) ∈ tables_1 := List.mem_of_getElem? (i := 749) rfl
set_option maxRecDepth 100000 in
theorem ib_cw27 : ib_cw (yX3_tellImage, cX3_tellImage, 4, (some (Jvm.ClassFile.FieldType.object "PageLoom$Page")), [], ib_c27) ∈ tables_1 := List.mem_of_getElem? (i := 805) rfl
set_option maxRecDepth 100000 in
theorem ib_cw28 : ib_cw (yX3_toldLatest, cX3_toldLatest, 3, (some Jvm.ClassFile.FieldType.int), [], ib_c28) ∈ tables_1 := List.mem_of_getElem? (i := 1047) rfl
set_option maxRecDepth 100000 in
theorem ib_cw29 : ib_cw (yX3_toldFirst, cX3_toldFirst, 2, (some Jvm.ClassFile.FieldType.int), [], ib_c29) ∈ tables_1 := List.mem_of_getElem? (i := 1051) rfl
set_option maxRecDepth 100000 in
theorem ib_cw30 : ib_cw (yX3_pageAt, cX3_pageAt, 2, (some Jvm.ClassFile.FieldType.int), [], ib_c30) ∈ tables_1 := List.mem_of_getElem? (i := 758) rfl
set_option maxRecDepth 100000 in
theorem ib_cw31 : ib_cw (yX3_changePage, cX3_changePage, 4, none, [], ib_c31) ∈ tables_1 := List.mem_of_getElem? (i := 766) rfl
set_option maxRecDepth 100000 in
theorem ib_cw32 : ib_cw (yX4_init, cX4_init, 1, none, [], ib_c32) ∈ tables_1 := List.mem_of_getElem? (i := 38) rfl
set_option maxRecDepth 100000 in
theorem ib_cw33 : ib_cw (yX4_childCell, cX4_childCell, 2, (some Jvm.ClassFile.FieldType.int), [], ib_c33) ∈ tables_1 := List.mem_of_getElem? (i := 868) rfl
set_option maxRecDepth 100000 in
theorem ib_cw34 : ib_cw (yX4_blank, cX4_blank, 2, none, [], ib_c34) ∈ tables_1 := List.mem_of_getElem? (i := 810) rfl
set_option maxRecDepth 100000 in
theorem ib_cw35 : ib_cw (yX4_become, cX4_become, 3, none, [], ib_c35) ∈ tables_1 := List.mem_of_getElem? (i := 730) rfl
set_option maxRecDepth 100000 in
theorem ib_cw36 : ib_cw (yX4_isBare, cX4_isBare, 1, (some Jvm.ClassFile.FieldType.boolean), [], ib_c36) ∈ tables_1 := List.mem_of_getElem? (i := 788) rfl
set_option maxRecDepth 100000 in
theorem ib_cw37 : ib_cw (yX4_cellAt, cX4_cellAt, 2, (some Jvm.ClassFile.FieldType.int), [], ib_c37) ∈ tables_1 := List.mem_of_getElem? (i := 420) rfl
set_option maxRecDepth 100000 in
theorem ib_cw38 : ib_cw (yX4_keyAt, cX4_keyAt, 3, (some Jvm.ClassFile.FieldType.int), [], ib_c38) ∈ tables_1 := List.mem_of_getElem? (i := 456) rfl
set_option maxRecDepth 100000 in
theorem ib_cw39 : ib_cw (yX4_childAt, cX4_childAt, 3, (some Jvm.ClassFile.FieldType.int), [], ib_c39) ∈ tables_1 := List.mem_of_getElem? (i := 416) rfl
set_option maxRecDepth 100000 in
theorem ib_cw40 : ib_cw (yX4_childFor, cX4_childFor, 4, (some Jvm.ClassFile.FieldType.int), [], ib_c40) ∈ tables_1 := List.mem_of_getElem? (i := 412) rfl
set_option maxRecDepth 100000 in
theorem ib_cw41 : ib_cw (yX4_placeOfChild, cX4_placeOfChild, 3, (some Jvm.ClassFile.FieldType.int), [], ib_c41) ∈ tables_1 := List.mem_of_getElem? (i := 820) rfl
set_option maxRecDepth 100000 in
theorem ib_cw42 : ib_cw (yX4_valueOf, cX4_valueOf, 4, (some Jvm.ClassFile.FieldType.int), [], ib_c42) ∈ tables_1 := List.mem_of_getElem? (i := 424) rfl
set_option maxRecDepth 100000 in
theorem ib_cw43 : ib_cw (yX4_setValue, cX4_setValue, 5, none, [], ib_c43) ∈ tables_1 := List.mem_of_getElem? (i := 770) rfl
set_option maxRecDepth 100000 in
theorem ib_cw44 : ib_cw (yX4_placeOfKey, cX4_placeOfKey, 3, (some Jvm.ClassFile.FieldType.int), [], ib_c44) ∈ tables_1 := List.mem_of_getElem? (i := 428) rfl
set_option maxRecDepth 100000 in
theorem ib_cw45 : ib_cw (yX4_insert, cX4_insert, 4, none, [], ib_c45) ∈ tables_1 := List.mem_of_getElem? (i := 778) rfl
set_option maxRecDepth 100000 in
theorem ib_cw46 : ib_cw (yX4_remove, cX4_remove, 3, none, [], ib_c46) ∈ tables_1 := List.mem_of_getElem? (i := 774) rfl
set_option maxRecDepth 100000 in
theorem ib_cw47 : ib_cw (yX4_becomePart, cX4_becomePart, 5, none, [], ib_c47) ∈ tables_1 := List.mem_of_getElem? (i := 874) rfl
set_option maxRecDepth 100000 in
theorem ib_cw48 : ib_cw (yX4_removeChild, cX4_removeChild, 2, none, [], ib_c48) ∈ tables_1 := List.mem_of_getElem? (i := 816) rfl
set_option maxRecDepth 100000 in
theorem ib_cw49 : ib_cw (yX4_forgetKeyAheadOfFirst, cX4_forgetKeyAheadOfFirst, 1, none, [], ib_c49) ∈ tables_1 := List.mem_of_getElem? (i := 824) rfl
set_option maxRecDepth 100000 in
theorem ib_cw50 : ib_cw (yX5_init, cX5_init, 6, none, [], ib_c50) ∈ tables_1 := List.mem_of_getElem? (i := 240) rfl
set_option maxRecDepth 100000 in
theorem ib_cw51 : ib_cw (yX5_begin, cX5_begin, 2, none, [], ib_c51) ∈ tables_1 := List.mem_of_getElem? (i := 1016) rfl
set_option maxRecDepth 100000 in
theorem ib_cw52 : ib_cw (yX5_mend, cX5_mend, 1, (some Jvm.ClassFile.FieldType.boolean), [], ib_c52) ∈ tables_1 := List.mem_of_getElem? (i := 1020) rfl
set_option maxRecDepth 100000 in
theorem ib_cw53 : ib_cw (yX5_readLog, cX5_readLog, 5, none, [], ib_c53) ∈ tables_1 := List.mem_of_getElem? (i := 1033) rfl
set_option maxRecDepth 100000 in
theorem ib_cw54 : ib_cw (yX5_latestMark, cX5_latestMark, 3, (some Jvm.ClassFile.FieldType.int), [], ib_c54) ∈ tables_1 := List.mem_of_getElem? (i := 1038) rfl
set_option maxRecDepth 100000 in
theorem ib_cw55 : ib_cw (yX5_believe, cX5_believe, 3, none, [], ib_c55) ∈ tables_1 := List.mem_of_getElem? (i := 1043) rfl
set_option maxRecDepth 100000 in
theorem ib_cw56 : ib_cw (yX5_readRecord, cX5_readRecord, 5, none, [], ib_c56) ∈ tables_1 := List.mem_of_getElem? (i := 1055) rfl
set_option maxRecDepth 100000 in
theorem ib_cw57 : ib_cw (yX5_redo, cX5_redo, 4, (some Jvm.ClassFile.FieldType.boolean), [], ib_c57) ∈ tables_1 := List.mem_of_getElem? (i := 1060) rfl
set_option maxRecDepth 100000 in
theorem ib_cw58 : ib_cw (yX5_leastFirst, cX5_leastFirst, 3, (some Jvm.ClassFile.FieldType.int), [], ib_c58) ∈ tables_1 := List.mem_of_getElem? (i := 1064) rfl
set_option maxRecDepth 100000 in
theorem ib_cw59 : ib_cw (yX5_redoPage, cX5_redoPage, 6, (some Jvm.ClassFile.FieldType.boolean), [], ib_c59) ∈ tables_1 := List.mem_of_getElem? (i := 1068) rfl
set_option maxRecDepth 100000 in
theorem ib_cw60 : ib_cw (yX5_tidy, cX5_tidy, 4, (some Jvm.ClassFile.FieldType.boolean), [], ib_c60) ∈ tables_1 := List.mem_of_getElem? (i := 1076) rfl
set_option maxRecDepth 100000 in
theorem ib_cw61 : ib_cw (yX6_init, cX6_init, 2, none, [], ib_c61) ∈ tables_1 := List.mem_of_getElem? (i := 109) rfl
set_option maxRecDepth 100000 in
theorem ib_cw62 : ib_cw (yX6_begin, cX6_begin, 2, none, [], ib_c62) ∈ tables_1 := List.mem_of_getElem? (i := 571) rfl
set_option maxRecDepth 100000 in
theorem ib_cw63 : ib_cw (yX6_finish, cX6_finish, 3, none, [], ib_c63) ∈ tables_1 := List.mem_of_getElem? (i := 356) rfl
set_option maxRecDepth 100000 in
theorem ib_cw64 : ib_cw (yX6_clear, cX6_clear, 2, none, [], ib_c64) ∈ tables_1 := List.mem_of_getElem? (i := 352) rfl
set_option maxRecDepth 100000 in
theorem ib_cw65 : ib_cw (yX6_noteRecord, cX6_noteRecord, 4, (some Jvm.ClassFile.FieldType.int), [], ib_c65) ∈ tables_1 := List.mem_of_getElem? (i := 697) rfl
set_option maxRecDepth 100000 in
theorem ib_cw66 : ib_cw (yX6_victimOnRing, cX6_victimOnRing, 5, (some Jvm.ClassFile.FieldType.int), [], ib_c66) ∈ tables_1 := List.mem_of_getElem? (i := 601) rfl
set_option maxRecDepth 100000 in
theorem ib_cw67 : ib_cw (yX6_tellLatest, cX6_tellLatest, 3, none, [], ib_c67) ∈ tables_1 := List.mem_of_getElem? (i := 957) rfl
set_option maxRecDepth 100000 in
theorem ib_cw68 : ib_cw (yX7_init, cX7_init, 3, none, [], ib_c68) ∈ tables_1 := List.mem_of_getElem? (i := 198) rfl
set_option maxRecDepth 100000 in
theorem ib_cw69 : ib_cw (yX7_onWay, cX7_onWay, 2, (some Jvm.ClassFile.FieldType.int), [], ib_c69) ∈ tables_1 := List.mem_of_getElem? (i := 745) rfl
set_option maxRecDepth 100000 in
theorem ib_cw70 : ib_cw (yX7_end, cX7_end, 1, (some Jvm.ClassFile.FieldType.int), [], ib_c70) ∈ tables_1 := List.mem_of_getElem? (i := 741) rfl
set_option maxRecDepth 100000 in
theorem ib_cw71 : ib_cw (yX7_find, cX7_find, 5, (some Jvm.ClassFile.FieldType.boolean), [], ib_c71) ∈ tables_1 := List.mem_of_getElem? (i := 710) rfl
set_option maxRecDepth 100000 in
theorem ib_cw72 : ib_cw (yX7_valueAtEnd, cX7_valueAtEnd, 3, (some Jvm.ClassFile.FieldType.int), [], ib_c72) ∈ tables_1 := List.mem_of_getElem? (i := 888) rfl
set_option maxRecDepth 100000 in
theorem ib_cw73 : ib_cw (yX7_endIsFullFor, cX7_endIsFullFor, 3, (some Jvm.ClassFile.FieldType.boolean), [], ib_c73) ∈ tables_1 := List.mem_of_getElem? (i := 843) rfl
set_option maxRecDepth 100000 in
theorem ib_cw74 : ib_cw (yX7_topmostFull, cX7_topmostFull, 4, (some Jvm.ClassFile.FieldType.int), [], ib_c74) ∈ tables_1 := List.mem_of_getElem? (i := 848) rfl
set_option maxRecDepth 100000 in
theorem ib_cw75 : ib_cw (yX7_freePageBehind, cX7_freePageBehind, 3, (some Jvm.ClassFile.FieldType.int), [], ib_c75) ∈ tables_1 := List.mem_of_getElem? (i := 856) rfl
set_option maxRecDepth 100000 in
theorem ib_cw76 : ib_cw (yX7_pagesSufficeToSplit, cX7_pagesSufficeToSplit, 3, (some Jvm.ClassFile.FieldType.boolean), [], ib_c76) ∈ tables_1 := List.mem_of_getElem? (i := 852) rfl
set_option maxRecDepth 100000 in
theorem ib_cw77 : ib_cw (yX7_split, cX7_split, 4, (some Jvm.ClassFile.FieldType.boolean), [], ib_c77) ∈ tables_1 := List.mem_of_getElem? (i := 861) rfl
set_option maxRecDepth 100000 in
theorem ib_cw78 : ib_cw (yX7_tellRootSplit, cX7_tellRootSplit, 7, none, [], ib_c78) ∈ tables_1 := List.mem_of_getElem? (i := 865) rfl
set_option maxRecDepth 100000 in
theorem ib_cw79 : ib_cw (yX7_tellSplit, cX7_tellSplit, 9, none, [], ib_c79) ∈ tables_1 := List.mem_of_getElem? (i := 878) rfl
set_option maxRecDepth 100000 in
theorem ib_cw80 : ib_cw (yX7_perform, cX7_perform, 6, (some Jvm.ClassFile.FieldType.boolean), [], ib_c80) ∈ tables_1 := List.mem_of_getElem? (i := 753) rfl
set_option maxRecDepth 100000 in
theorem ib_cw81 : ib_cw (yX7_endIsBare, cX7_endIsBare, 2, (some Jvm.ClassFile.FieldType.boolean), [], ib_c81) ∈ tables_1 := List.mem_of_getElem? (i := 783) rfl
set_option maxRecDepth 100000 in
theorem ib_cw82 : ib_cw (yX7_stepUp, cX7_stepUp, 1, (some Jvm.ClassFile.FieldType.int), [], ib_c82) ∈ tables_1 := List.mem_of_getElem? (i := 792) rfl
set_option maxRecDepth 100000 in
theorem ib_cw83 : ib_cw (yX7_goes, cX7_goes, 6, (some Jvm.ClassFile.FieldType.boolean), [], ib_c83) ∈ tables_1 := List.mem_of_getElem? (i := 796) rfl
set_option maxRecDepth 100000 in
theorem ib_cw84 : ib_cw (yX7_tellGo, cX7_tellGo, 6, none, [], ib_c84) ∈ tables_1 := List.mem_of_getElem? (i := 801) rfl
set_option maxRecDepth 100000 in
theorem ib_cw85 : ib_cw (yX7_tellTakeOver, cX7_tellTakeOver, 4, none, [], ib_c85) ∈ tables_1 := List.mem_of_getElem? (i := 834) rfl
set_option maxRecDepth 100000 in
theorem ib_cw86 : ib_cw (yX7_onlyChildOfRoot, cX7_onlyChildOfRoot, 2, (some Jvm.ClassFile.FieldType.int), [], ib_c86) ∈ tables_1 := List.mem_of_getElem? (i := 829) rfl
set_option maxRecDepth 100000 in
theorem ib_cw87 : ib_cw (yX7_lowestUnsettled, cX7_lowestUnsettled, 3, (some Jvm.ClassFile.FieldType.int), [], ib_c87) ∈ tables_1 := List.mem_of_getElem? (i := 1080) rfl
set_option maxRecDepth 100000 in
theorem ib_cw88 : ib_cw (yX7_parentOf, cX7_parentOf, 4, (some Jvm.ClassFile.FieldType.int), [], ib_c88) ∈ tables_1 := List.mem_of_getElem? (i := 1084) rfl
set_option maxRecDepth 100000 in
theorem ib_cw89 : ib_cw (yX8_init, cX8_init, 4, none, [], ib_c89) ∈ tables_1 := List.mem_of_getElem? (i := 217) rfl
set_option maxRecDepth 100000 in
theorem ib_cw90 : ib_cw (yX8_lookAtAlone, cX8_lookAtAlone, 3, none, [], ib_c90) ∈ tables_1 := List.mem_of_getElem? (i := 605) rfl
set_option maxRecDepth 100000 in
theorem ib_cw91 : ib_cw (yX8_lookAtAllWithRecords, cX8_lookAtAllWithRecords, 2, none, [], ib_c91) ∈ tables_1 := List.mem_of_getElem? (i := 1089) rfl
set_option maxRecDepth 100000 in
theorem ib_cw92 : ib_cw (yX8_goBack, cX8_goBack, 9, (some Jvm.ClassFile.FieldType.boolean), [], ib_c92) ∈ tables_1 := List.mem_of_getElem? (i := 609) rfl
set_option maxRecDepth 100000 in
theorem ib_cw93 : ib_cw (yX8_nextTransaction, cX8_nextTransaction, 4, (some Jvm.ClassFile.FieldType.int), [], ib_c93) ∈ tables_1 := List.mem_of_getElem? (i := 613) rfl
set_option maxRecDepth 100000 in
theorem ib_cw94 : ib_cw (yX8_recordAheadOf, cX8_recordAheadOf, 3, (some Jvm.ClassFile.FieldType.int), [], ib_c94) ∈ tables_1 := List.mem_of_getElem? (i := 706) rfl
set_option maxRecDepth 100000 in
theorem ib_cw95 : ib_cw (yX8_tellUndo, cX8_tellUndo, 3, (some Jvm.ClassFile.FieldType.boolean), [], ib_c95) ∈ tables_1 := List.mem_of_getElem? (i := 737) rfl
set_option maxRecDepth 100000 in
theorem ib_cw96 : ib_cw (yX8_end, cX8_end, 2, (some Jvm.ClassFile.FieldType.boolean), [], ib_c96) ∈ tables_1 := List.mem_of_getElem? (i := 618) rfl
set_option maxRecDepth 100000 in
theorem ib_cw97 : ib_cw (yX9_init, cX9_init, 4, none, [], ib_c97) ∈ tables_1 := List.mem_of_getElem? (i := 269) rfl
set_option maxRecDepth 100000 in
theorem ib_cw98 : ib_cw (yX9_agreesWithLog, cX9_agreesWithLog, 4, (some Jvm.ClassFile.FieldType.boolean), [], ib_c98) ∈ tables_1 := List.mem_of_getElem? (i := 380) rfl
set_option maxRecDepth 100000 in
theorem ib_cw99 : ib_cw (yX9_leafOf, cX9_leafOf, 5, (some (Jvm.ClassFile.FieldType.object "PageLoom$Page")), [], ib_c99) ∈ tables_1 := List.mem_of_getElem? (i := 396) rfl
set_option maxRecDepth 100000 in
theorem ib_cw100 : ib_cw (yX9_leastFault, cX9_leastFault, 3, (some Jvm.ClassFile.FieldType.int), [], ib_c100) ∈ tables_1 := List.mem_of_getElem? (i := 436) rfl
set_option maxRecDepth 100000 in
theorem ib_cw101 : ib_cw (yX9_fault, cX9_fault, 2, none, [], ib_c101) ∈ tables_1 := List.mem_of_getElem? (i := 444) rfl
set_option maxRecDepth 100000 in
theorem ib_cw102 : ib_cw (yX9_meet, cX9_meet, 5, none, [], ib_c102) ∈ tables_1 := List.mem_of_getElem? (i := 440) rfl
set_option maxRecDepth 100000 in
theorem ib_cw103 : ib_cw (yX9_lookInto, cX9_lookInto, 3, none, [], ib_c103) ∈ tables_1 := List.mem_of_getElem? (i := 448) rfl
set_option maxRecDepth 100000 in
theorem ib_cw104 : ib_cw (yX9_lookIntoLeaf, cX9_lookIntoLeaf, 5, none, [], ib_c104) ∈ tables_1 := List.mem_of_getElem? (i := 452) rfl
set_option maxRecDepth 100000 in
theorem ib_cw105 : ib_cw (yX9_lookIntoInner, cX9_lookIntoInner, 7, none, [], ib_c105) ∈ tables_1 := List.mem_of_getElem? (i := 460) rfl
set_option maxRecDepth 100000 in
theorem ib_cw106 : ib_cw (yX10_init, cX10_init, 1, none, [], ib_c106) ∈ tables_1 := List.mem_of_getElem? (i := 23) rfl
set_option maxRecDepth 100000 in
theorem ib_cw107 : ib_cw (yX10_open, cX10_open, 2, none, [], ib_c107) ∈ tables_1 := List.mem_of_getElem? (i := 475) rfl
set_option maxRecDepth 100000 in
theorem ib_cw108 : ib_cw (yX10_put, cX10_put, 5, (some Jvm.ClassFile.FieldType.int), [], ib_c108) ∈ tables_1 := List.mem_of_getElem? (i := 578) rfl
set_option maxRecDepth 100000 in
theorem ib_cw109 : ib_cw (yX10_take, cX10_take, 8, (some Jvm.ClassFile.FieldType.int), [], ib_c109) ∈ tables_1 := List.mem_of_getElem? (i := 902) rfl
set_option maxRecDepth 100000 in
theorem ib_cw110 : ib_cw (yX10_read, cX10_read, 4, (some Jvm.ClassFile.FieldType.int), [], ib_c110) ∈ tables_1 := List.mem_of_getElem? (i := 912) rfl
set_option maxRecDepth 100000 in
theorem ib_cw111 : ib_cw (yX10_place, cX10_place, 2, (some Jvm.ClassFile.FieldType.int), [], ib_c111) ∈ tables_1 := List.mem_of_getElem? (i := 919) rfl
set_option maxRecDepth 100000 in
theorem ib_cw112 : ib_cw (yX10_back, cX10_back, 3, (some Jvm.ClassFile.FieldType.int), [], ib_c112) ∈ tables_1 := List.mem_of_getElem? (i := 926) rfl
set_option maxRecDepth 100000 in
theorem ib_cw113 : ib_cw (yX10_commit, cX10_commit, 2, (some Jvm.ClassFile.FieldType.int), [], ib_c113) ∈ tables_1 := List.mem_of_getElem? (i := 934) rfl
set_option maxRecDepth 100000 in
theorem ib_cw114 : ib_cw (yX10_undo, cX10_undo, 2, (some Jvm.ClassFile.FieldType.int), [], ib_c114) ∈ tables_1 := List.mem_of_getElem? (i := 946) rfl
set_option maxRecDepth 100000 in
theorem ib_cw115 : ib_cw (yX10_mark, cX10_mark, 2, (some Jvm.ClassFile.FieldType.int), [], ib_c115) ∈ tables_1 := List.mem_of_getElem? (i := 953) rfl
set_option maxRecDepth 100000 in
theorem ib_cw116 : ib_cw (yX10_write, cX10_write, 2, (some Jvm.ClassFile.FieldType.int), [], ib_c116) ∈ tables_1 := List.mem_of_getElem? (i := 969) rfl
set_option maxRecDepth 100000 in
theorem ib_cw117 : ib_cw (yX10_crashAt, cX10_crashAt, 2, none, [], ib_c117) ∈ tables_1 := List.mem_of_getElem? (i := 1003) rfl
set_option maxRecDepth 100000 in
theorem ib_cw118 : ib_cw (yX10_crash, cX10_crash, 1, none, [], ib_c118) ∈ tables_1 := List.mem_of_getElem? (i := 336) rfl
set_option maxRecDepth 100000 in
theorem ib_cw119 : ib_cw (yX10_recover, cX10_recover, 2, (some Jvm.ClassFile.FieldType.int), [], ib_c119) ∈ tables_1 := List.mem_of_getElem? (i := 1011) rfl
set_option maxRecDepth 100000 in
theorem ib_cw120 : ib_cw (yX10_pass, cX10_pass, 2, (some Jvm.ClassFile.FieldType.int), [], ib_c120) ∈ tables_1 := List.mem_of_getElem? (i := 1096) rfl
set_option maxRecDepth 100000 in
theorem ib_cw121 : ib_cw (yX10_page, cX10_page, 4, (some Jvm.ClassFile.FieldType.int), [], ib_c121) ∈ tables_1 := List.mem_of_getElem? (i := 1104) rfl
set_option maxRecDepth 100000 in
theorem ib_cw122 : ib_cw (yX10_entry, cX10_entry, 4, (some Jvm.ClassFile.FieldType.int), [], ib_c122) ∈ tables_1 := List.mem_of_getElem? (i := 1114) rfl
set_option maxRecDepth 100000 in
theorem ib_cw123 : ib_cw (yX10_frame, cX10_frame, 3, (some Jvm.ClassFile.FieldType.int), [], ib_c123) ∈ tables_1 := List.mem_of_getElem? (i := 1123) rfl
set_option maxRecDepth 100000 in
theorem ib_cw124 : ib_cw (yX10_hand, cX10_hand, 1, (some Jvm.ClassFile.FieldType.int), [], ib_c124) ∈ tables_1 := List.mem_of_getElem? (i := 360) rfl
set_option maxRecDepth 100000 in
theorem ib_cw125 : ib_cw (yX10_record, cX10_record, 4, (some Jvm.ClassFile.FieldType.int), [], ib_c125) ∈ tables_1 := List.mem_of_getElem? (i := 1132) rfl
set_option maxRecDepth 100000 in
theorem ib_cw126 : ib_cw (yX10_records, cX10_records, 1, (some Jvm.ClassFile.FieldType.int), [], ib_c126) ∈ tables_1 := List.mem_of_getElem? (i := 364) rfl
set_option maxRecDepth 100000 in
theorem ib_cw127 : ib_cw (yX10_durable, cX10_durable, 1, (some Jvm.ClassFile.FieldType.int), [], ib_c127) ∈ tables_1 := List.mem_of_getElem? (i := 368) rfl
set_option maxRecDepth 100000 in
theorem ib_cw128 : ib_cw (yX10_writes, cX10_writes, 1, (some Jvm.ClassFile.FieldType.int), [], ib_c128) ∈ tables_1 := List.mem_of_getElem? (i := 372) rfl
set_option maxRecDepth 100000 in
theorem ib_cw129 : ib_cw (yX10_holder, cX10_holder, 2, (some Jvm.ClassFile.FieldType.int), [], ib_c129) ∈ tables_1 := List.mem_of_getElem? (i := 1142) rfl
set_option maxRecDepth 100000 in
theorem ib_cw130 : ib_cw (yX10_waitsFor, cX10_waitsFor, 2, (some Jvm.ClassFile.FieldType.int), [], ib_c130) ∈ tables_1 := List.mem_of_getElem? (i := 1149) rfl
set_option maxRecDepth 100000 in
theorem ib_cw131 : ib_cw (yX10_plain, cX10_plain, 2, (some Jvm.ClassFile.FieldType.int), [], ib_c131) ∈ tables_1 := List.mem_of_getElem? (i := 1156) rfl
set_option maxRecDepth 100000 in
theorem ib_cw132 : ib_cw (yX10_agrees, cX10_agrees, 1, (some Jvm.ClassFile.FieldType.boolean), [], ib_c132) ∈ tables_1 := List.mem_of_getElem? (i := 376) rfl
set_option maxRecDepth 100000 in
theorem ib_cw133 : ib_cw (yX10_check, cX10_check, 1, (some Jvm.ClassFile.FieldType.int), [], ib_c133) ∈ tables_1 := List.mem_of_getElem? (i := 432) rfl
set_option maxRecDepth 100000 in
theorem ib_cw134 : ib_cw (yX10_needTransaction, cX10_needTransaction, 1, none, [], ib_c134) ∈ tables_1 := List.mem_of_getElem? (i := 478) rfl
set_option maxRecDepth 100000 in
theorem ib_cw135 : ib_cw (yX10_needKey, cX10_needKey, 1, none, [], ib_c135) ∈ tables_1 := List.mem_of_getElem? (i := 581) rfl
set_option maxRecDepth 100000 in
theorem ib_cw136 : ib_cw (yX10_needPage, cX10_needPage, 1, none, [], ib_c136) ∈ tables_1 := List.mem_of_getElem? (i := 972) rfl
set_option maxRecDepth 100000 in
theorem ib_cw137 : ib_cw (yX10_needNoCrash, cX10_needNoCrash, 1, none, [], ib_c137) ∈ tables_1 := List.mem_of_getElem? (i := 550) rfl
set_option maxRecDepth 100000 in
theorem ib_cw138 : ib_cw (yX10_needOpen, cX10_needOpen, 2, none, [], ib_c138) ∈ tables_1 := List.mem_of_getElem? (i := 587) rfl
set_option maxRecDepth 100000 in
theorem ib_cw139 : ib_cw (yX10_needRoomInLog, cX10_needRoomInLog, 1, none, [], ib_c139) ∈ tables_1 := List.mem_of_getElem? (i := 592) rfl
set_option maxRecDepth 100000 in
theorem ib_cw140 : ib_cw (yX10_told, cX10_told, 2, (some Jvm.ClassFile.FieldType.int), [], ib_c140) ∈ tables_1 := List.mem_of_getElem? (i := 895) rfl
set_option maxRecDepth 100000 in
theorem ib_cw141 : ib_cw (yX10_fall, cX10_fall, 1, none, [], ib_c141) ∈ tables_1 := List.mem_of_getElem? (i := 340) rfl
set_option maxRecDepth 100000 in
theorem ib_cw142 : ib_cw (yX10_lock, cX10_lock, 6, (some Jvm.ClassFile.FieldType.int), [], ib_c142) ∈ tables_1 := List.mem_of_getElem? (i := 597) rfl
set_option maxRecDepth 100000 in
theorem ib_cw143 : ib_cw (yX10_splitFor, cX10_splitFor, 4, (some Jvm.ClassFile.FieldType.int), [], ib_c143) ∈ tables_1 := List.mem_of_getElem? (i := 838) rfl
set_option maxRecDepth 100000 in
theorem ib_cw144 : ib_cw (yX10_changeLeaf, cX10_changeLeaf, 5, (some Jvm.ClassFile.FieldType.boolean), [], ib_c144) ∈ tables_1 := List.mem_of_getElem? (i := 883) rfl
set_option maxRecDepth 100000 in
theorem ib_cw145 : ib_cw (yX11_init, cX11_init, 2, none, [], ib_c145) ∈ tables_1 := List.mem_of_getElem? (i := 1162) rfl
set_option maxRecDepth 100000 in
theorem ib_cw146 : ib_cw (yX11_thrown, cX11_thrown, 1, (some Jvm.ClassFile.FieldType.int), [], ib_c146) ∈ tables_1 := List.mem_of_getElem? (i := 1277) rfl
set_option maxRecDepth 100000 in
theorem ib_cw147 : ib_cw (yX11_in, cX11_in, 3, (some Jvm.ClassFile.FieldType.boolean), [], ib_c147) ∈ tables_1 := List.mem_of_getElem? (i := 1287) rfl
set_option maxRecDepth 100000 in
theorem ib_cw148 : ib_cw (yX11_copies, cX11_copies, 4, none, [], ib_c148) ∈ tables_1 := List.mem_of_getElem? (i := 1351) rfl
set_option maxRecDepth 100000 in
theorem ib_cw149 : ib_cw (yX11_kindAt, cX11_kindAt, 2, (some Jvm.ClassFile.FieldType.int), [], ib_c149) ∈ tables_1 := List.mem_of_getElem? (i := 1359) rfl
set_option maxRecDepth 100000 in
theorem ib_cw150 : ib_cw (yX11_manyAt, cX11_manyAt, 2, (some Jvm.ClassFile.FieldType.int), [], ib_c150) ∈ tables_1 := List.mem_of_getElem? (i := 1367) rfl
set_option maxRecDepth 100000 in
theorem ib_cw151 : ib_cw (yX11_keyAt, cX11_keyAt, 3, (some Jvm.ClassFile.FieldType.int), [], ib_c151) ∈ tables_1 := List.mem_of_getElem? (i := 1371) rfl
set_option maxRecDepth 100000 in
theorem ib_cw152 : ib_cw (yX11_itsAt, cX11_itsAt, 3, (some Jvm.ClassFile.FieldType.int), [], ib_c152) ∈ tables_1 := List.mem_of_getElem? (i := 1375) rfl
set_option maxRecDepth 100000 in
theorem ib_cw153 : ib_cw (yX11_lays, cX11_lays, 5, none, [], ib_c153) ∈ tables_1 := List.mem_of_getElem? (i := 1399) rfl
set_option maxRecDepth 100000 in
theorem ib_cw154 : ib_cw (yX11_empties, cX11_empties, 4, none, [], ib_c154) ∈ tables_1 := List.mem_of_getElem? (i := 1426) rfl
set_option maxRecDepth 100000 in
theorem ib_cw155 : ib_cw (yX11_takesPart, cX11_takesPart, 6, none, [], ib_c155) ∈ tables_1 := List.mem_of_getElem? (i := 1450) rfl
set_option maxRecDepth 100000 in
theorem ib_cw156 : ib_cw (yX11_puts, cX11_puts, 7, none, [], ib_c156) ∈ tables_1 := List.mem_of_getElem? (i := 1403) rfl
set_option maxRecDepth 100000 in
theorem ib_cw157 : ib_cw (yX11_drops, cX11_drops, 5, none, [], ib_c157) ∈ tables_1 := List.mem_of_getElem? (i := 1395) rfl
set_option maxRecDepth 100000 in
theorem ib_cw158 : ib_cw (yX11_placeOf, cX11_placeOf, 4, (some Jvm.ClassFile.FieldType.int), [], ib_c158) ∈ tables_1 := List.mem_of_getElem? (i := 1379) rfl
set_option maxRecDepth 100000 in
theorem ib_cw159 : ib_cw (yX11_childOf, cX11_childOf, 4, (some Jvm.ClassFile.FieldType.int), [], ib_c159) ∈ tables_1 := List.mem_of_getElem? (i := 1363) rfl
set_option maxRecDepth 100000 in
theorem ib_cw160 : ib_cw (yX11_frameOf, cX11_frameOf, 4, (some Jvm.ClassFile.FieldType.int), [], ib_c160) ∈ tables_1 := List.mem_of_getElem? (i := 1327) rfl
set_option maxRecDepth 100000 in
theorem ib_cw161 : ib_cw (yX11_rowOf, cX11_rowOf, 3, (some Jvm.ClassFile.FieldType.int), [], ib_c161) ∈ tables_1 := List.mem_of_getElem? (i := 1355) rfl
set_option maxRecDepth 100000 in
theorem ib_cw162 : ib_cw (yX11_isTorn, cX11_isTorn, 2, (some Jvm.ClassFile.FieldType.boolean), [], ib_c162) ∈ tables_1 := List.mem_of_getElem? (i := 1546) rfl
set_option maxRecDepth 100000 in
theorem ib_cw163 : ib_cw (yX11_falls, cX11_falls, 2, none, [], ib_c163) ∈ tables_1 := List.mem_of_getElem? (i := 1343) rfl
set_option maxRecDepth 100000 in
theorem ib_cw164 : ib_cw (yX11_isWritten, cX11_isWritten, 1, (some Jvm.ClassFile.FieldType.boolean), [], ib_c164) ∈ tables_1 := List.mem_of_getElem? (i := 1339) rfl
set_option maxRecDepth 100000 in
theorem ib_cw165 : ib_cw (yX11_hardens, cX11_hardens, 2, none, [], ib_c165) ∈ tables_1 := List.mem_of_getElem? (i := 1335) rfl
set_option maxRecDepth 100000 in
theorem ib_cw166 : ib_cw (yX11_writesHalf, cX11_writesHalf, 4, none, [], ib_c166) ∈ tables_1 := List.mem_of_getElem? (i := 1347) rfl
set_option maxRecDepth 100000 in
theorem ib_cw167 : ib_cw (yX11_writesFrame, cX11_writesFrame, 4, none, [], ib_c167) ∈ tables_1 := List.mem_of_getElem? (i := 1331) rfl
set_option maxRecDepth 100000 in
theorem ib_cw168 : ib_cw (yX11_uses, cX11_uses, 3, none, [], ib_c168) ∈ tables_1 := List.mem_of_getElem? (i := 1323) rfl
set_option maxRecDepth 100000 in
theorem ib_cw169 : ib_cw (yX11_notes, cX11_notes, 4, (some Jvm.ClassFile.FieldType.int), [], ib_c169) ∈ tables_1 := List.mem_of_getElem? (i := 1383) rfl
set_option maxRecDepth 100000 in
theorem ib_cw170 : ib_cw (yX11_image, cX11_image, 2, (some Jvm.ClassFile.FieldType.int), [], ib_c170) ∈ tables_1 := List.mem_of_getElem? (i := 1406) rfl
set_option maxRecDepth 100000 in
theorem ib_cw171 : ib_cw (yX11_acts, cX11_acts, 10, (some Jvm.ClassFile.FieldType.int), [], ib_c171) ∈ tables_1 := List.mem_of_getElem? (i := 1418) rfl
set_option maxRecDepth 100000 in
theorem ib_cw172 : ib_cw (yX11_rowIn, cX11_rowIn, 5, (some Jvm.ClassFile.FieldType.int), [], ib_c172) ∈ tables_1 := List.mem_of_getElem? (i := 1422) rfl
set_option maxRecDepth 100000 in
theorem ib_cw173 : ib_cw (yX11_changesPage, cX11_changesPage, 5, none, [], ib_c173) ∈ tables_1 := List.mem_of_getElem? (i := 1391) rfl
set_option maxRecDepth 100000 in
theorem ib_cw174 : ib_cw (yX11_does, cX11_does, 3, none, [], ib_c174) ∈ tables_1 := List.mem_of_getElem? (i := 1387) rfl
set_option maxRecDepth 100000 in
theorem ib_cw175 : ib_cw (yX11_finds, cX11_finds, 5, none, [], ib_c175) ∈ tables_1 := List.mem_of_getElem? (i := 1319) rfl
set_option maxRecDepth 100000 in
theorem ib_cw176 : ib_cw (yX11_free, cX11_free, 3, (some Jvm.ClassFile.FieldType.int), [], ib_c176) ∈ tables_1 := List.mem_of_getElem? (i := 1442) rfl
set_option maxRecDepth 100000 in
theorem ib_cw177 : ib_cw (yX11_isFull, cX11_isFull, 2, (some Jvm.ClassFile.FieldType.boolean), [], ib_c177) ∈ tables_1 := List.mem_of_getElem? (i := 1438) rfl
set_option maxRecDepth 100000 in
theorem ib_cw178 : ib_cw (yX11_splitsRoot, cX11_splitsRoot, 9, none, [], ib_c178) ∈ tables_1 := List.mem_of_getElem? (i := 1446) rfl
set_option maxRecDepth 100000 in
theorem ib_cw179 : ib_cw (yX11_childPlace, cX11_childPlace, 5, (some Jvm.ClassFile.FieldType.int), [], ib_c179) ∈ tables_1 := List.mem_of_getElem? (i := 1430) rfl
set_option maxRecDepth 100000 in
theorem ib_cw180 : ib_cw (yX11_splits, cX11_splits, 9, none, [], ib_c180) ∈ tables_1 := List.mem_of_getElem? (i := 1454) rfl
set_option maxRecDepth 100000 in
theorem ib_cw181 : ib_cw (yX11_goes, cX11_goes, 6, none, [], ib_c181) ∈ tables_1 := List.mem_of_getElem? (i := 1414) rfl
set_option maxRecDepth 100000 in
theorem ib_cw182 : ib_cw (yX11_looksAtRoot, cX11_looksAtRoot, 3, none, [], ib_c182) ∈ tables_1 := List.mem_of_getElem? (i := 1434) rfl
set_option maxRecDepth 100000 in
theorem ib_cw183 : ib_cw (yX11_shrinks, cX11_shrinks, 2, none, [], ib_c183) ∈ tables_1 := List.mem_of_getElem? (i := 1410) rfl
set_option maxRecDepth 100000 in
theorem ib_cw184 : ib_cw (yX11_isOne, cX11_isOne, 1, (some Jvm.ClassFile.FieldType.boolean), [], ib_c184) ∈ tables_1 := List.mem_of_getElem? (i := 1284) rfl
set_option maxRecDepth 100000 in
theorem ib_cw185 : ib_cw (yX11_closes, cX11_closes, 3, none, [], ib_c185) ∈ tables_1 := List.mem_of_getElem? (i := 1291) rfl
set_option maxRecDepth 100000 in
theorem ib_cw186 : ib_cw (yX11_undoes, cX11_undoes, 6, none, [], ib_c186) ∈ tables_1 := List.mem_of_getElem? (i := 1315) rfl
set_option maxRecDepth 100000 in
theorem ib_cw187 : ib_cw (yX11_goesBack, cX11_goesBack, 6, (some Jvm.ClassFile.FieldType.int), [], ib_c187) ∈ tables_1 := List.mem_of_getElem? (i := 1311) rfl
set_option maxRecDepth 100000 in
theorem ib_cw188 : ib_cw (yX11_undoesAll, cX11_undoesAll, 3, (some Jvm.ClassFile.FieldType.int), [], ib_c188) ∈ tables_1 := List.mem_of_getElem? (i := 1307) rfl
set_option maxRecDepth 100000 in
theorem ib_cw189 : ib_cw (yX11_victim, cX11_victim, 4, (some Jvm.ClassFile.FieldType.int), [], ib_c189) ∈ tables_1 := List.mem_of_getElem? (i := 1303) rfl
set_option maxRecDepth 100000 in
theorem ib_cw190 : ib_cw (yX11_locks, cX11_locks, 4, (some Jvm.ClassFile.FieldType.int), [], ib_c190) ∈ tables_1 := List.mem_of_getElem? (i := 1299) rfl
set_option maxRecDepth 100000 in
theorem ib_cw191 : ib_cw (yX11_open, cX11_open, 2, none, [], ib_c191) ∈ tables_1 := List.mem_of_getElem? (i := 1281) rfl
set_option maxRecDepth 100000 in
theorem ib_cw192 : ib_cw (yX11_changesKey, cX11_changesKey, 7, none, [], ib_c192) ∈ tables_1 := List.mem_of_getElem? (i := 1458) rfl
set_option maxRecDepth 100000 in
theorem ib_cw193 : ib_cw (yX11_put, cX11_put, 7, (some Jvm.ClassFile.FieldType.int), [], ib_c193) ∈ tables_1 := List.mem_of_getElem? (i := 1295) rfl
set_option maxRecDepth 100000 in
theorem ib_cw194 : ib_cw (yX11_take, cX11_take, 7, (some Jvm.ClassFile.FieldType.int), [], ib_c194) ∈ tables_1 := List.mem_of_getElem? (i := 1462) rfl
set_option maxRecDepth 100000 in
theorem ib_cw195 : ib_cw (yX11_read, cX11_read, 6, (some Jvm.ClassFile.FieldType.int), [], ib_c195) ∈ tables_1 := List.mem_of_getElem? (i := 1466) rfl
set_option maxRecDepth 100000 in
theorem ib_cw196 : ib_cw (yX11_place, cX11_place, 2, (some Jvm.ClassFile.FieldType.int), [], ib_c196) ∈ tables_1 := List.mem_of_getElem? (i := 1470) rfl
set_option maxRecDepth 100000 in
theorem ib_cw197 : ib_cw (yX11_back, cX11_back, 4, (some Jvm.ClassFile.FieldType.int), [], ib_c197) ∈ tables_1 := List.mem_of_getElem? (i := 1474) rfl
set_option maxRecDepth 100000 in
theorem ib_cw198 : ib_cw (yX11_commit, cX11_commit, 3, (some Jvm.ClassFile.FieldType.int), [], ib_c198) ∈ tables_1 := List.mem_of_getElem? (i := 1478) rfl
set_option maxRecDepth 100000 in
theorem ib_cw199 : ib_cw (yX11_undo, cX11_undo, 3, (some Jvm.ClassFile.FieldType.int), [], ib_c199) ∈ tables_1 := List.mem_of_getElem? (i := 1482) rfl
set_option maxRecDepth 100000 in
theorem ib_cw200 : ib_cw (yX11_mark, cX11_mark, 5, (some Jvm.ClassFile.FieldType.int), [], ib_c200) ∈ tables_1 := List.mem_of_getElem? (i := 1486) rfl
set_option maxRecDepth 100000 in
theorem ib_cw201 : ib_cw (yX11_write, cX11_write, 3, (some Jvm.ClassFile.FieldType.int), [], ib_c201) ∈ tables_1 := List.mem_of_getElem? (i := 1490) rfl
set_option maxRecDepth 100000 in
theorem ib_cw202 : ib_cw (yX11_crashAt, cX11_crashAt, 2, none, [], ib_c202) ∈ tables_1 := List.mem_of_getElem? (i := 1494) rfl
set_option maxRecDepth 100000 in
theorem ib_cw203 : ib_cw (yX11_crash, cX11_crash, 1, none, [], ib_c203) ∈ tables_1 := List.mem_of_getElem? (i := 1498) rfl
set_option maxRecDepth 100000 in
theorem ib_cw204 : ib_cw (yX11_mends, cX11_mends, 3, none, [], ib_c204) ∈ tables_1 := List.mem_of_getElem? (i := 1506) rfl
set_option maxRecDepth 100000 in
theorem ib_cw205 : ib_cw (yX11_reads, cX11_reads, 6, none, [], ib_c205) ∈ tables_1 := List.mem_of_getElem? (i := 1510) rfl
set_option maxRecDepth 100000 in
theorem ib_cw206 : ib_cw (yX11_doesAgain, cX11_doesAgain, 5, none, [], ib_c206) ∈ tables_1 := List.mem_of_getElem? (i := 1514) rfl
set_option maxRecDepth 100000 in
theorem ib_cw207 : ib_cw (yX11_aboveOf, cX11_aboveOf, 6, (some Jvm.ClassFile.FieldType.int), [], ib_c207) ∈ tables_1 := List.mem_of_getElem? (i := 1526) rfl
set_option maxRecDepth 100000 in
theorem ib_cw208 : ib_cw (yX11_idle, cX11_idle, 4, (some Jvm.ClassFile.FieldType.int), [], ib_c208) ∈ tables_1 := List.mem_of_getElem? (i := 1522) rfl
set_option maxRecDepth 100000 in
theorem ib_cw209 : ib_cw (yX11_isRootAlone, cX11_isRootAlone, 1, (some Jvm.ClassFile.FieldType.boolean), [], ib_c209) ∈ tables_1 := List.mem_of_getElem? (i := 1530) rfl
set_option maxRecDepth 100000 in
theorem ib_cw210 : ib_cw (yX11_clears, cX11_clears, 2, none, [], ib_c210) ∈ tables_1 := List.mem_of_getElem? (i := 1518) rfl
set_option maxRecDepth 100000 in
theorem ib_cw211 : ib_cw (yX11_undoesLosers, cX11_undoesLosers, 3, none, [], ib_c211) ∈ tables_1 := List.mem_of_getElem? (i := 1534) rfl
set_option maxRecDepth 100000 in
theorem ib_cw212 : ib_cw (yX11_recover, cX11_recover, 2, (some Jvm.ClassFile.FieldType.int), [], ib_c212) ∈ tables_1 := List.mem_of_getElem? (i := 1502) rfl
set_option maxRecDepth 100000 in
theorem ib_cw213 : ib_cw (yX11_pass, cX11_pass, 2, (some Jvm.ClassFile.FieldType.int), [], ib_c213) ∈ tables_1 := List.mem_of_getElem? (i := 1538) rfl
set_option maxRecDepth 100000 in
theorem ib_cw214 : ib_cw (yX11_page, cX11_page, 4, (some Jvm.ClassFile.FieldType.int), [], ib_c214) ∈ tables_1 := List.mem_of_getElem? (i := 1542) rfl
set_option maxRecDepth 100000 in
theorem ib_cw215 : ib_cw (yX11_entry, cX11_entry, 4, (some Jvm.ClassFile.FieldType.int), [], ib_c215) ∈ tables_1 := List.mem_of_getElem? (i := 1550) rfl
set_option maxRecDepth 100000 in
theorem ib_cw216 : ib_cw (yX11_frame, cX11_frame, 3, (some Jvm.ClassFile.FieldType.int), [], ib_c216) ∈ tables_1 := List.mem_of_getElem? (i := 1554) rfl
set_option maxRecDepth 100000 in
theorem ib_cw217 : ib_cw (yX11_hand, cX11_hand, 1, (some Jvm.ClassFile.FieldType.int), [], ib_c217) ∈ tables_1 := List.mem_of_getElem? (i := 1558) rfl
set_option maxRecDepth 100000 in
theorem ib_cw218 : ib_cw (yX11_record, cX11_record, 3, (some Jvm.ClassFile.FieldType.int), [], ib_c218) ∈ tables_1 := List.mem_of_getElem? (i := 1562) rfl
set_option maxRecDepth 100000 in
theorem ib_cw219 : ib_cw (yX11_records, cX11_records, 1, (some Jvm.ClassFile.FieldType.int), [], ib_c219) ∈ tables_1 := List.mem_of_getElem? (i := 1566) rfl
set_option maxRecDepth 100000 in
theorem ib_cw220 : ib_cw (yX11_durable, cX11_durable, 1, (some Jvm.ClassFile.FieldType.int), [], ib_c220) ∈ tables_1 := List.mem_of_getElem? (i := 1570) rfl
set_option maxRecDepth 100000 in
theorem ib_cw221 : ib_cw (yX11_writes, cX11_writes, 1, (some Jvm.ClassFile.FieldType.int), [], ib_c221) ∈ tables_1 := List.mem_of_getElem? (i := 1574) rfl
set_option maxRecDepth 100000 in
theorem ib_cw222 : ib_cw (yX11_holder, cX11_holder, 2, (some Jvm.ClassFile.FieldType.int), [], ib_c222) ∈ tables_1 := List.mem_of_getElem? (i := 1578) rfl
set_option maxRecDepth 100000 in
theorem ib_cw223 : ib_cw (yX11_waitsFor, cX11_waitsFor, 2, (some Jvm.ClassFile.FieldType.int), [], ib_c223) ∈ tables_1 := List.mem_of_getElem? (i := 1582) rfl
set_option maxRecDepth 100000 in
theorem ib_cw224 : ib_cw (yX11_plainly, cX11_plainly, 5, (some Jvm.ClassFile.FieldType.int), [], ib_c224) ∈ tables_1 := List.mem_of_getElem? (i := 1590) rfl
set_option maxRecDepth 100000 in
theorem ib_cw225 : ib_cw (yX11_plain, cX11_plain, 2, (some Jvm.ClassFile.FieldType.int), [], ib_c225) ∈ tables_1 := List.mem_of_getElem? (i := 1586) rfl
set_option maxRecDepth 100000 in
theorem ib_cw226 : ib_cw (yX11_hasIt, cX11_hasIt, 7, (some Jvm.ClassFile.FieldType.boolean), [], ib_c226) ∈ tables_1 := List.mem_of_getElem? (i := 1598) rfl
set_option maxRecDepth 100000 in
theorem ib_cw227 : ib_cw (yX11_agrees, cX11_agrees, 3, (some Jvm.ClassFile.FieldType.boolean), [], ib_c227) ∈ tables_1 := List.mem_of_getElem? (i := 1594) rfl
set_option maxRecDepth 100000 in
theorem ib_cw228 : ib_cw (yX11_lesser, cX11_lesser, 2, (some Jvm.ClassFile.FieldType.int), [], ib_c228) ∈ tables_1 := List.mem_of_getElem? (i := 1605) rfl
set_option maxRecDepth 100000 in
theorem ib_cw229 : ib_cw (yX11_isRight, cX11_isRight, 7, (some Jvm.ClassFile.FieldType.boolean), [], ib_c229) ∈ tables_1 := List.mem_of_getElem? (i := 1609) rfl
set_option maxRecDepth 100000 in
theorem ib_cw230 : ib_cw (yX11_check, cX11_check, 10, (some Jvm.ClassFile.FieldType.int), [], ib_c230) ∈ tables_1 := List.mem_of_getElem? (i := 1602) rfl
set_option maxRecDepth 100000 in
theorem ib_cw231 : ib_cw (yL_open, cL_open, 3, (some Jvm.ClassFile.FieldType.int), [(0, 5, 8, 13), (0, 5, 11, 15)], ib_c231) ∈ tables_1 := List.mem_of_getElem? (i := 469) rfl
set_option maxRecDepth 100000 in
theorem ib_cw232 : ib_cw (yL_put, cL_put, 6, (some Jvm.ClassFile.FieldType.int), [(0, 12, 15, 13), (0, 12, 19, 15)], ib_c232) ∈ tables_1 := List.mem_of_getElem? (i := 574) rfl
set_option maxRecDepth 100000 in
theorem ib_cw233 : ib_cw (yL_take, cL_take, 5, (some Jvm.ClassFile.FieldType.int), [(0, 10, 13, 13), (0, 10, 17, 15)], ib_c233) ∈ tables_1 := List.mem_of_getElem? (i := 898) rfl
set_option maxRecDepth 100000 in
theorem ib_cw234 : ib_cw (yL_read, cL_read, 5, (some Jvm.ClassFile.FieldType.int), [(0, 10, 13, 13), (0, 10, 17, 15)], ib_c234) ∈ tables_1 := List.mem_of_getElem? (i := 908) rfl
set_option maxRecDepth 100000 in
theorem ib_cw235 : ib_cw (yL_place, cL_place, 4, (some Jvm.ClassFile.FieldType.int), [(0, 9, 12, 13), (0, 9, 15, 15)], ib_c235) ∈ tables_1 := List.mem_of_getElem? (i := 915) rfl
set_option maxRecDepth 100000 in
theorem ib_cw236 : ib_cw (yL_back, cL_back, 5, (some Jvm.ClassFile.FieldType.int), [(0, 10, 13, 13), (0, 10, 17, 15)], ib_c236) ∈ tables_1 := List.mem_of_getElem? (i := 922) rfl
set_option maxRecDepth 100000 in
theorem ib_cw237 : ib_cw (yL_commit, cL_commit, 4, (some Jvm.ClassFile.FieldType.int), [(0, 9, 12, 13), (0, 9, 15, 15)], ib_c237) ∈ tables_1 := List.mem_of_getElem? (i := 930) rfl
set_option maxRecDepth 100000 in
theorem ib_cw238 : ib_cw (yL_undo, cL_undo, 4, (some Jvm.ClassFile.FieldType.int), [(0, 9, 12, 13), (0, 9, 15, 15)], ib_c238) ∈ tables_1 := List.mem_of_getElem? (i := 942) rfl
set_option maxRecDepth 100000 in
theorem ib_cw239 : ib_cw (yL_mark, cL_mark, 3, (some Jvm.ClassFile.FieldType.int), [(0, 8, 11, 15)], ib_c239) ∈ tables_1 := List.mem_of_getElem? (i := 949) rfl
set_option maxRecDepth 100000 in
theorem ib_cw240 : ib_cw (yL_write, cL_write, 4, (some Jvm.ClassFile.FieldType.int), [(0, 9, 12, 48), (0, 9, 15, 15)], ib_c240) ∈ tables_1 := List.mem_of_getElem? (i := 964) rfl
set_option maxRecDepth 100000 in
theorem ib_cw241 : ib_cw (yL_crashAt, cL_crashAt, 3, (some Jvm.ClassFile.FieldType.int), [(0, 5, 8, 13)], ib_c241) ∈ tables_1 := List.mem_of_getElem? (i := 999) rfl
set_option maxRecDepth 100000 in
theorem ib_cw242 : ib_cw (yL_recover, cL_recover, 3, (some Jvm.ClassFile.FieldType.int), [(0, 8, 11, 15)], ib_c242) ∈ tables_1 := List.mem_of_getElem? (i := 1007) rfl
set_option maxRecDepth 100000 in
theorem ib_cw243 : ib_cw (yL_pass, cL_pass, 4, (some Jvm.ClassFile.FieldType.int), [(0, 9, 12, 13)], ib_c243) ∈ tables_1 := List.mem_of_getElem? (i := 1092) rfl
set_option maxRecDepth 100000 in
theorem ib_cw244 : ib_cw (yL_page, cL_page, 5, (some Jvm.ClassFile.FieldType.int), [(0, 10, 13, 48), (0, 10, 17, 13)], ib_c244) ∈ tables_1 := List.mem_of_getElem? (i := 1100) rfl
set_option maxRecDepth 100000 in
theorem ib_cw245 : ib_cw (yL_entry, cL_entry, 5, (some Jvm.ClassFile.FieldType.int), [(0, 10, 13, 48)], ib_c245) ∈ tables_1 := List.mem_of_getElem? (i := 1110) rfl
set_option maxRecDepth 100000 in
theorem ib_cw246 : ib_cw (yL_frame, cL_frame, 5, (some Jvm.ClassFile.FieldType.int), [(0, 10, 13, 48), (0, 10, 17, 13)], ib_c246) ∈ tables_1 := List.mem_of_getElem? (i := 1119) rfl
set_option maxRecDepth 100000 in
theorem ib_cw247 : ib_cw (yL_record, cL_record, 5, (some Jvm.ClassFile.FieldType.int), [(0, 10, 13, 48), (0, 10, 17, 13)], ib_c247) ∈ tables_1 := List.mem_of_getElem? (i := 1128) rfl
set_option maxRecDepth 100000 in
theorem ib_cw248 : ib_cw (yL_holder, cL_holder, 4, (some Jvm.ClassFile.FieldType.int), [(0, 9, 12, 13)], ib_c248) ∈ tables_1 := List.mem_of_getElem? (i := 1138) rfl
set_option maxRecDepth 100000 in
theorem ib_cw249 : ib_cw (yL_waitsFor, cL_waitsFor, 4, (some Jvm.ClassFile.FieldType.int), [(0, 9, 12, 13)], ib_c249) ∈ tables_1 := List.mem_of_getElem? (i := 1145) rfl
set_option maxRecDepth 100000 in
theorem ib_cw250 : ib_cw (yL_plain, cL_plain, 4, (some Jvm.ClassFile.FieldType.int), [(0, 9, 12, 13)], ib_c250) ∈ tables_1 := List.mem_of_getElem? (i := 1152) rfl
def ib_msA0 : List ib_M := [(yX0_init, cX0_init, 3, none, [], ib_c0), (yX0_empty, cX0_empty, 2, none, [], ib_c1), (yX0_frameOf, cX0_frameOf, 3, (some Jvm.ClassFile.FieldType.int), [], ib_c2), (yX0_seen, cX0_seen, 3, (some (Jvm.ClassFile.FieldType.object "PageLoom$Page")), [], ib_c3), (yX0_kindSeen, cX0_kindSeen, 3, (some Jvm.ClassFile.FieldType.int), [], ib_c4), (yX0_use, cX0_use, 3, (some Jvm.ClassFile.FieldType.boolean), [], ib_c5), (yX0_takeFrame, cX0_takeFrame, 3, (some Jvm.ClassFile.FieldType.int), [], ib_c6), (yX0_toChange, cX0_toChange, 4, (some (Jvm.ClassFile.FieldType.object "PageLoom$Page")), [], ib_c7), (yX0_differs, cX0_differs, 3, (some Jvm.ClassFile.FieldType.boolean), [], ib_c8), (yX0_clean, cX0_clean, 3, (some Jvm.ClassFile.FieldType.boolean), [], ib_c9), (yX0_tellDiffering, cX0_tellDiffering, 4, none, [], ib_c10), (yX1_init, cX1_init, 2, none, [], ib_c11), (yX1_doWrites, cX1_doWrites, 3, (some Jvm.ClassFile.FieldType.int), [], ib_c12), (yX1_makeDurable, cX1_makeDurable, 4, (some Jvm.ClassFile.FieldType.boolean), [], ib_c13), (yX1_writePage, cX1_writePage, 6, (some Jvm.ClassFile.FieldType.boolean), [], ib_c14), (yX1_isTorn, cX1_isTorn, 2, (some Jvm.ClassFile.FieldType.boolean), [], ib_c15), (yX1_spareMends, cX1_spareMends, 1, (some Jvm.ClassFile.FieldType.boolean), [], ib_c16), (yX1_mendFromSpare, cX1_mendFromSpare, 2, (some Jvm.ClassFile.FieldType.int), [], ib_c17), (yX2_init, cX2_init, 3, none, [], ib_c18), (yX2_at, cX2_at, 2, (some (Jvm.ClassFile.FieldType.object "PageLoom$LogRecord")), [], ib_c19), (yX2_append, cX2_append, 4, (some (Jvm.ClassFile.FieldType.object "PageLoom$LogRecord")), [], ib_c20), (yX2_cut, cX2_cut, 1, none, [], ib_c21), (yX2_committedValues, cX2_committedValues, 3, (some (Jvm.ClassFile.FieldType.array Jvm.ClassFile.FieldType.int)), [], ib_c22), (yX2_believeChain, cX2_believeChain, 5, none, [], ib_c23), (yX3_init, cX3_init, 1, none, [], ib_c24), (yX3_begin, cX3_begin, 5, none, [], ib_c25), (yX3_tellLeaf, cX3_tellLeaf, 2, none, [], ib_c26), (yX3_tellImage, cX3_tellImage, 4, (some (Jvm.ClassFile.FieldType.object "PageLoom$Page")), [], ib_c27), (yX3_toldLatest, cX3_toldLatest, 3, (some Jvm.ClassFile.FieldType.int), [], ib_c28), (yX3_toldFirst, cX3_toldFirst, 2, (some Jvm.ClassFile.FieldType.int), [], ib_c29), (yX3_pageAt, cX3_pageAt, 2, (some Jvm.ClassFile.FieldType.int), [], ib_c30), (yX3_changePage, cX3_changePage, 4, none, [], ib_c31)]
theorem ib_cwA0 : ∀ M ∈ ib_msA0, ib_cw M ∈ tables_1 := List.forall_mem_cons.mpr ⟨ib_cw0, List.forall_mem_cons.mpr ⟨ib_cw1, List.forall_mem_cons.mpr ⟨ib_cw2, List.forall_mem_cons.mpr ⟨ib_cw3, List.forall_mem_cons.mpr ⟨ib_cw4, List.forall_mem_cons.mpr ⟨ib_cw5, List.forall_mem_cons.mpr ⟨ib_cw6, List.forall_mem_cons.mpr ⟨ib_cw7, List.forall_mem_cons.mpr ⟨ib_cw8, List.forall_mem_cons.mpr ⟨ib_cw9, List.forall_mem_cons.mpr ⟨ib_cw10, List.forall_mem_cons.mpr ⟨ib_cw11, List.forall_mem_cons.mpr ⟨ib_cw12, List.forall_mem_cons.mpr ⟨ib_cw13, List.forall_mem_cons.mpr ⟨ib_cw14, List.forall_mem_cons.mpr ⟨ib_cw15, List.forall_mem_cons.mpr ⟨ib_cw16, List.forall_mem_cons.mpr ⟨ib_cw17, List.forall_mem_cons.mpr ⟨ib_cw18, List.forall_mem_cons.mpr ⟨ib_cw19, List.forall_mem_cons.mpr ⟨ib_cw20, List.forall_mem_cons.mpr ⟨ib_cw21, List.forall_mem_cons.mpr ⟨ib_cw22, List.forall_mem_cons.mpr ⟨ib_cw23, List.forall_mem_cons.mpr ⟨ib_cw24, List.forall_mem_cons.mpr ⟨ib_cw25, List.forall_mem_cons.mpr ⟨ib_cw26, List.forall_mem_cons.mpr ⟨ib_cw27, List.forall_mem_cons.mpr ⟨ib_cw28, List.forall_mem_cons.mpr ⟨ib_cw29, List.forall_mem_cons.mpr ⟨ib_cw30, List.forall_mem_cons.mpr ⟨ib_cw31, fun _ h => absurd h List.not_mem_nil⟩⟩⟩⟩⟩⟩⟩⟩⟩⟩⟩⟩⟩⟩⟩⟩⟩⟩⟩⟩⟩⟩⟩⟩⟩⟩⟩⟩⟩⟩⟩⟩
def ib_msA1 : List ib_M := [(yX4_init, cX4_init, 1, none, [], ib_c32), (yX4_childCell, cX4_childCell, 2, (some Jvm.ClassFile.FieldType.int), [], ib_c33), (yX4_blank, cX4_blank, 2, none, [], ib_c34), (yX4_become, cX4_become, 3, none, [], ib_c35), (yX4_isBare, cX4_isBare, 1, (some Jvm.ClassFile.FieldType.boolean), [], ib_c36), (yX4_cellAt, cX4_cellAt, 2, (some Jvm.ClassFile.FieldType.int), [], ib_c37), (yX4_keyAt, cX4_keyAt, 3, (some Jvm.ClassFile.FieldType.int), [], ib_c38), (yX4_childAt, cX4_childAt, 3, (some Jvm.ClassFile.FieldType.int), [], ib_c39), (yX4_childFor, cX4_childFor, 4, (some Jvm.ClassFile.FieldType.int), [], ib_c40), (yX4_placeOfChild, cX4_placeOfChild, 3, (some Jvm.ClassFile.FieldType.int), [], ib_c41), (yX4_valueOf, cX4_valueOf, 4, (some Jvm.ClassFile.FieldType.int), [], ib_c42), (yX4_setValue, cX4_setValue, 5, none, [], ib_c43), (yX4_placeOfKey, cX4_placeOfKey, 3, (some Jvm.ClassFile.FieldType.int), [], ib_c44), (yX4_insert, cX4_insert, 4, none, [], ib_c45), (yX4_remove, cX4_remove, 3, none, [], ib_c46), (yX4_becomePart, cX4_becomePart, 5, none, [], ib_c47), (yX4_removeChild, cX4_removeChild, 2, none, [], ib_c48), (yX4_forgetKeyAheadOfFirst, cX4_forgetKeyAheadOfFirst, 1, none, [], ib_c49), (yX5_init, cX5_init, 6, none, [], ib_c50), (yX5_begin, cX5_begin, 2, none, [], ib_c51), (yX5_mend, cX5_mend, 1, (some Jvm.ClassFile.FieldType.boolean), [], ib_c52), (yX5_readLog, cX5_readLog, 5, none, [], ib_c53), (yX5_latestMark, cX5_latestMark, 3, (some Jvm.ClassFile.FieldType.int), [], ib_c54), (yX5_believe, cX5_believe, 3, none, [], ib_c55), (yX5_readRecord, cX5_readRecord, 5, none, [], ib_c56), (yX5_redo, cX5_redo, 4, (some Jvm.ClassFile.FieldType.boolean), [], ib_c57), (yX5_leastFirst, cX5_leastFirst, 3, (some Jvm.ClassFile.FieldType.int), [], ib_c58), (yX5_redoPage, cX5_redoPage, 6, (some Jvm.ClassFile.FieldType.boolean), [], ib_c59), (yX5_tidy, cX5_tidy, 4, (some Jvm.ClassFile.FieldType.boolean), [], ib_c60), (yX6_init, cX6_init, 2, none, [], ib_c61), (yX6_begin, cX6_begin, 2, none, [], ib_c62), (yX6_finish, cX6_finish, 3, none, [], ib_c63)]
theorem ib_cwA1 : ∀ M ∈ ib_msA1, ib_cw M ∈ tables_1 := List.forall_mem_cons.mpr ⟨ib_cw32, List.forall_mem_cons.mpr ⟨ib_cw33, List.forall_mem_cons.mpr ⟨ib_cw34, List.forall_mem_cons.mpr ⟨ib_cw35, List.forall_mem_cons.mpr ⟨ib_cw36, List.forall_mem_cons.mpr ⟨ib_cw37, List.forall_mem_cons.mpr ⟨ib_cw38, List.forall_mem_cons.mpr ⟨ib_cw39, List.forall_mem_cons.mpr ⟨ib_cw40, List.forall_mem_cons.mpr ⟨ib_cw41, List.forall_mem_cons.mpr ⟨ib_cw42, List.forall_mem_cons.mpr ⟨ib_cw43, List.forall_mem_cons.mpr ⟨ib_cw44, List.forall_mem_cons.mpr ⟨ib_cw45, List.forall_mem_cons.mpr ⟨ib_cw46, List.forall_mem_cons.mpr ⟨ib_cw47, List.forall_mem_cons.mpr ⟨ib_cw48, List.forall_mem_cons.mpr ⟨ib_cw49, List.forall_mem_cons.mpr ⟨ib_cw50, List.forall_mem_cons.mpr ⟨ib_cw51, List.forall_mem_cons.mpr ⟨ib_cw52, List.forall_mem_cons.mpr ⟨ib_cw53, List.forall_mem_cons.mpr ⟨ib_cw54, List.forall_mem_cons.mpr ⟨ib_cw55, List.forall_mem_cons.mpr ⟨ib_cw56, List.forall_mem_cons.mpr ⟨ib_cw57, List.forall_mem_cons.mpr ⟨ib_cw58, List.forall_mem_cons.mpr ⟨ib_cw59, List.forall_mem_cons.mpr ⟨ib_cw60, List.forall_mem_cons.mpr ⟨ib_cw61, List.forall_mem_cons.mpr ⟨ib_cw62, List.forall_mem_cons.mpr ⟨ib_cw63, fun _ h => absurd h List.not_mem_nil⟩⟩⟩⟩⟩⟩⟩⟩⟩⟩⟩⟩⟩⟩⟩⟩⟩⟩⟩⟩⟩⟩⟩⟩⟩⟩⟩⟩⟩⟩⟩⟩
def ib_msA2 : List ib_M := [(yX6_clear, cX6_clear, 2, none, [], ib_c64), (yX6_noteRecord, cX6_noteRecord, 4, (some Jvm.ClassFile.FieldType.int), [], ib_c65), (yX6_victimOnRing, cX6_victimOnRing, 5, (some Jvm.ClassFile.FieldType.int), [], ib_c66), (yX6_tellLatest, cX6_tellLatest, 3, none, [], ib_c67), (yX7_init, cX7_init, 3, none, [], ib_c68), (yX7_onWay, cX7_onWay, 2, (some Jvm.ClassFile.FieldType.int), [], ib_c69), (yX7_end, cX7_end, 1, (some Jvm.ClassFile.FieldType.int), [], ib_c70), (yX7_find, cX7_find, 5, (some Jvm.ClassFile.FieldType.boolean), [], ib_c71), (yX7_valueAtEnd, cX7_valueAtEnd, 3, (some Jvm.ClassFile.FieldType.int), [], ib_c72), (yX7_endIsFullFor, cX7_endIsFullFor, 3, (some Jvm.ClassFile.FieldType.boolean), [], ib_c73), (yX7_topmostFull, cX7_topmostFull, 4, (some Jvm.ClassFile.FieldType.int), [], ib_c74), (yX7_freePageBehind, cX7_freePageBehind, 3, (some Jvm.ClassFile.FieldType.int), [], ib_c75), (yX7_pagesSufficeToSplit, cX7_pagesSufficeToSplit, 3, (some Jvm.ClassFile.FieldType.boolean), [], ib_c76), (yX7_split, cX7_split, 4, (some Jvm.ClassFile.FieldType.boolean), [], ib_c77), (yX7_tellRootSplit, cX7_tellRootSplit, 7, none, [], ib_c78), (yX7_tellSplit, cX7_tellSplit, 9, none, [], ib_c79), (yX7_perform, cX7_perform, 6, (some Jvm.ClassFile.FieldType.boolean), [], ib_c80), (yX7_endIsBare, cX7_endIsBare, 2, (some Jvm.ClassFile.FieldType.boolean), [], ib_c81), (yX7_stepUp, cX7_stepUp, 1, (some Jvm.ClassFile.FieldType.int), [], ib_c82), (yX7_goes, cX7_goes, 6, (some Jvm.ClassFile.FieldType.boolean), [], ib_c83), (yX7_tellGo, cX7_tellGo, 6, none, [], ib_c84), (yX7_tellTakeOver, cX7_tellTakeOver, 4, none, [], ib_c85), (yX7_onlyChildOfRoot, cX7_onlyChildOfRoot, 2, (some Jvm.ClassFile.FieldType.int), [], ib_c86), (yX7_lowestUnsettled, cX7_lowestUnsettled, 3, (some Jvm.ClassFile.FieldType.int), [], ib_c87), (yX7_parentOf, cX7_parentOf, 4, (some Jvm.ClassFile.FieldType.int), [], ib_c88), (yX8_init, cX8_init, 4, none, [], ib_c89), (yX8_lookAtAlone, cX8_lookAtAlone, 3, none, [], ib_c90), (yX8_lookAtAllWithRecords, cX8_lookAtAllWithRecords, 2, none, [], ib_c91), (yX8_goBack, cX8_goBack, 9, (some Jvm.ClassFile.FieldType.boolean), [], ib_c92), (yX8_nextTransaction, cX8_nextTransaction, 4, (some Jvm.ClassFile.FieldType.int), [], ib_c93), (yX8_recordAheadOf, cX8_recordAheadOf, 3, (some Jvm.ClassFile.FieldType.int), [], ib_c94), (yX8_tellUndo, cX8_tellUndo, 3, (some Jvm.ClassFile.FieldType.boolean), [], ib_c95)]
theorem ib_cwA2 : ∀ M ∈ ib_msA2, ib_cw M ∈ tables_1 := List.forall_mem_cons.mpr ⟨ib_cw64, List.forall_mem_cons.mpr ⟨ib_cw65, List.forall_mem_cons.mpr ⟨ib_cw66, List.forall_mem_cons.mpr ⟨ib_cw67, List.forall_mem_cons.mpr ⟨ib_cw68, List.forall_mem_cons.mpr ⟨ib_cw69, List.forall_mem_cons.mpr ⟨ib_cw70, List.forall_mem_cons.mpr ⟨ib_cw71, List.forall_mem_cons.mpr ⟨ib_cw72, List.forall_mem_cons.mpr ⟨ib_cw73, List.forall_mem_cons.mpr ⟨ib_cw74, List.forall_mem_cons.mpr ⟨ib_cw75, List.forall_mem_cons.mpr ⟨ib_cw76, List.forall_mem_cons.mpr ⟨ib_cw77, List.forall_mem_cons.mpr ⟨ib_cw78, List.forall_mem_cons.mpr ⟨ib_cw79, List.forall_mem_cons.mpr ⟨ib_cw80, List.forall_mem_cons.mpr ⟨ib_cw81, List.forall_mem_cons.mpr ⟨ib_cw82, List.forall_mem_cons.mpr ⟨ib_cw83, List.forall_mem_cons.mpr ⟨ib_cw84, List.forall_mem_cons.mpr ⟨ib_cw85, List.forall_mem_cons.mpr ⟨ib_cw86, List.forall_mem_cons.mpr ⟨ib_cw87, List.forall_mem_cons.mpr ⟨ib_cw88, List.forall_mem_cons.mpr ⟨ib_cw89, List.forall_mem_cons.mpr ⟨ib_cw90, List.forall_mem_cons.mpr ⟨ib_cw91, List.forall_mem_cons.mpr ⟨ib_cw92, List.forall_mem_cons.mpr ⟨ib_cw93, List.forall_mem_cons.mpr ⟨ib_cw94, List.forall_mem_cons.mpr ⟨ib_cw95, fun _ h => absurd h List.not_mem_nil⟩⟩⟩⟩⟩⟩⟩⟩⟩⟩⟩⟩⟩⟩⟩⟩⟩⟩⟩⟩⟩⟩⟩⟩⟩⟩⟩⟩⟩⟩⟩⟩
def ib_msA3 : List ib_M := [(yX8_end, cX8_end, 2, (some Jvm.ClassFile.FieldType.boolean), [], ib_c96), (yX9_init, cX9_init, 4, none, [], ib_c97), (yX9_agreesWithLog, cX9_agreesWithLog, 4, (some Jvm.ClassFile.FieldType.boolean), [], ib_c98), (yX9_leafOf, cX9_leafOf, 5, (some (Jvm.ClassFile.FieldType.object "PageLoom$Page")), [], ib_c99), (yX9_leastFault, cX9_leastFault, 3, (some Jvm.ClassFile.FieldType.int), [], ib_c100), (yX9_fault, cX9_fault, 2, none, [], ib_c101), (yX9_meet, cX9_meet, 5, none, [], ib_c102), (yX9_lookInto, cX9_lookInto, 3, none, [], ib_c103), (yX9_lookIntoLeaf, cX9_lookIntoLeaf, 5, none, [], ib_c104), (yX9_lookIntoInner, cX9_lookIntoInner, 7, none, [], ib_c105), (yX10_init, cX10_init, 1, none, [], ib_c106), (yX10_open, cX10_open, 2, none, [], ib_c107), (yX10_put, cX10_put, 5, (some Jvm.ClassFile.FieldType.int), [], ib_c108), (yX10_take, cX10_take, 8, (some Jvm.ClassFile.FieldType.int), [], ib_c109), (yX10_read, cX10_read, 4, (some Jvm.ClassFile.FieldType.int), [], ib_c110), (yX10_place, cX10_place, 2, (some Jvm.ClassFile.FieldType.int), [], ib_c111), (yX10_back, cX10_back, 3, (some Jvm.ClassFile.FieldType.int), [], ib_c112), (yX10_commit, cX10_commit, 2, (some Jvm.ClassFile.FieldType.int), [], ib_c113), (yX10_undo, cX10_undo, 2, (some Jvm.ClassFile.FieldType.int), [], ib_c114), (yX10_mark, cX10_mark, 2, (some Jvm.ClassFile.FieldType.int), [], ib_c115), (yX10_write, cX10_write, 2, (some Jvm.ClassFile.FieldType.int), [], ib_c116), (yX10_crashAt, cX10_crashAt, 2, none, [], ib_c117), (yX10_crash, cX10_crash, 1, none, [], ib_c118), (yX10_recover, cX10_recover, 2, (some Jvm.ClassFile.FieldType.int), [], ib_c119), (yX10_pass, cX10_pass, 2, (some Jvm.ClassFile.FieldType.int), [], ib_c120), (yX10_page, cX10_page, 4, (some Jvm.ClassFile.FieldType.int), [], ib_c121), (yX10_entry, cX10_entry, 4, (some Jvm.ClassFile.FieldType.int), [], ib_c122), (yX10_frame, cX10_frame, 3, (some Jvm.ClassFile.FieldType.int), [], ib_c123), (yX10_hand, cX10_hand, 1, (some Jvm.ClassFile.FieldType.int), [], ib_c124), (yX10_record, cX10_record, 4, (some Jvm.ClassFile.FieldType.int), [], ib_c125), (yX10_records, cX10_records, 1, (some Jvm.ClassFile.FieldType.int), [], ib_c126), (yX10_durable, cX10_durable, 1, (some Jvm.ClassFile.FieldType.int), [], ib_c127)]
theorem ib_cwA3 : ∀ M ∈ ib_msA3, ib_cw M ∈ tables_1 := List.forall_mem_cons.mpr ⟨ib_cw96, List.forall_mem_cons.mpr ⟨ib_cw97, List.forall_mem_cons.mpr ⟨ib_cw98, List.forall_mem_cons.mpr ⟨ib_cw99, List.forall_mem_cons.mpr ⟨ib_cw100, List.forall_mem_cons.mpr ⟨ib_cw101, List.forall_mem_cons.mpr ⟨ib_cw102, List.forall_mem_cons.mpr ⟨ib_cw103, List.forall_mem_cons.mpr ⟨ib_cw104, List.forall_mem_cons.mpr ⟨ib_cw105, List.forall_mem_cons.mpr ⟨ib_cw106, List.forall_mem_cons.mpr ⟨ib_cw107, List.forall_mem_cons.mpr ⟨ib_cw108, List.forall_mem_cons.mpr ⟨ib_cw109, List.forall_mem_cons.mpr ⟨ib_cw110, List.forall_mem_cons.mpr ⟨ib_cw111, List.forall_mem_cons.mpr ⟨ib_cw112, List.forall_mem_cons.mpr ⟨ib_cw113, List.forall_mem_cons.mpr ⟨ib_cw114, List.forall_mem_cons.mpr ⟨ib_cw115, List.forall_mem_cons.mpr ⟨ib_cw116, List.forall_mem_cons.mpr ⟨ib_cw117, List.forall_mem_cons.mpr ⟨ib_cw118, List.forall_mem_cons.mpr ⟨ib_cw119, List.forall_mem_cons.mpr ⟨ib_cw120, List.forall_mem_cons.mpr ⟨ib_cw121, List.forall_mem_cons.mpr ⟨ib_cw122, List.forall_mem_cons.mpr ⟨ib_cw123, List.forall_mem_cons.mpr ⟨ib_cw124, List.forall_mem_cons.mpr ⟨ib_cw125, List.forall_mem_cons.mpr ⟨ib_cw126, List.forall_mem_cons.mpr ⟨ib_cw127, fun _ h => absurd h List.not_mem_nil⟩⟩⟩⟩⟩⟩⟩⟩⟩⟩⟩⟩⟩⟩⟩⟩⟩⟩⟩⟩⟩⟩⟩⟩⟩⟩⟩⟩⟩⟩⟩⟩
def ib_msA4 : List ib_M := [(yX10_writes, cX10_writes, 1, (some Jvm.ClassFile.FieldType.int), [], ib_c128), (yX10_holder, cX10_holder, 2, (some Jvm.ClassFile.FieldType.int), [], ib_c129), (yX10_waitsFor, cX10_waitsFor, 2, (some Jvm.ClassFile.FieldType.int), [], ib_c130), (yX10_plain, cX10_plain, 2, (some Jvm.ClassFile.FieldType.int), [], ib_c131), (yX10_agrees, cX10_agrees, 1, (some Jvm.ClassFile.FieldType.boolean), [], ib_c132), (yX10_check, cX10_check, 1, (some Jvm.ClassFile.FieldType.int), [], ib_c133), (yX10_needTransaction, cX10_needTransaction, 1, none, [], ib_c134), (yX10_needKey, cX10_needKey, 1, none, [], ib_c135), (yX10_needPage, cX10_needPage, 1, none, [], ib_c136), (yX10_needNoCrash, cX10_needNoCrash, 1, none, [], ib_c137), (yX10_needOpen, cX10_needOpen, 2, none, [], ib_c138), (yX10_needRoomInLog, cX10_needRoomInLog, 1, none, [], ib_c139), (yX10_told, cX10_told, 2, (some Jvm.ClassFile.FieldType.int), [], ib_c140), (yX10_fall, cX10_fall, 1, none, [], ib_c141), (yX10_lock, cX10_lock, 6, (some Jvm.ClassFile.FieldType.int), [], ib_c142), (yX10_splitFor, cX10_splitFor, 4, (some Jvm.ClassFile.FieldType.int), [], ib_c143), (yX10_changeLeaf, cX10_changeLeaf, 5, (some Jvm.ClassFile.FieldType.boolean), [], ib_c144), (yX11_init, cX11_init, 2, none, [], ib_c145), (yX11_thrown, cX11_thrown, 1, (some Jvm.ClassFile.FieldType.int), [], ib_c146), (yX11_in, cX11_in, 3, (some Jvm.ClassFile.FieldType.boolean), [], ib_c147), (yX11_copies, cX11_copies, 4, none, [], ib_c148), (yX11_kindAt, cX11_kindAt, 2, (some Jvm.ClassFile.FieldType.int), [], ib_c149), (yX11_manyAt, cX11_manyAt, 2, (some Jvm.ClassFile.FieldType.int), [], ib_c150), (yX11_keyAt, cX11_keyAt, 3, (some Jvm.ClassFile.FieldType.int), [], ib_c151), (yX11_itsAt, cX11_itsAt, 3, (some Jvm.ClassFile.FieldType.int), [], ib_c152), (yX11_lays, cX11_lays, 5, none, [], ib_c153), (yX11_empties, cX11_empties, 4, none, [], ib_c154), (yX11_takesPart, cX11_takesPart, 6, none, [], ib_c155), (yX11_puts, cX11_puts, 7, none, [], ib_c156), (yX11_drops, cX11_drops, 5, none, [], ib_c157), (yX11_placeOf, cX11_placeOf, 4, (some Jvm.ClassFile.FieldType.int), [], ib_c158), (yX11_childOf, cX11_childOf, 4, (some Jvm.ClassFile.FieldType.int), [], ib_c159)]
theorem ib_cwA4 : ∀ M ∈ ib_msA4, ib_cw M ∈ tables_1 := List.forall_mem_cons.mpr ⟨ib_cw128, List.forall_mem_cons.mpr ⟨ib_cw129, List.forall_mem_cons.mpr ⟨ib_cw130, List.forall_mem_cons.mpr ⟨ib_cw131, List.forall_mem_cons.mpr ⟨ib_cw132, List.forall_mem_cons.mpr ⟨ib_cw133, List.forall_mem_cons.mpr ⟨ib_cw134, List.forall_mem_cons.mpr ⟨ib_cw135, List.forall_mem_cons.mpr ⟨ib_cw136, List.forall_mem_cons.mpr ⟨ib_cw137, List.forall_mem_cons.mpr ⟨ib_cw138, List.forall_mem_cons.mpr ⟨ib_cw139, List.forall_mem_cons.mpr ⟨ib_cw140, List.forall_mem_cons.mpr ⟨ib_cw141, List.forall_mem_cons.mpr ⟨ib_cw142, List.forall_mem_cons.mpr ⟨ib_cw143, List.forall_mem_cons.mpr ⟨ib_cw144, List.forall_mem_cons.mpr ⟨ib_cw145, List.forall_mem_cons.mpr ⟨ib_cw146, List.forall_mem_cons.mpr ⟨ib_cw147, List.forall_mem_cons.mpr ⟨ib_cw148, List.forall_mem_cons.mpr ⟨ib_cw149, List.forall_mem_cons.mpr ⟨ib_cw150, List.forall_mem_cons.mpr ⟨ib_cw151, List.forall_mem_cons.mpr ⟨ib_cw152, List.forall_mem_cons.mpr ⟨ib_cw153, List.forall_mem_cons.mpr ⟨ib_cw154, List.forall_mem_cons.mpr ⟨ib_cw155, List.forall_mem_cons.mpr ⟨ib_cw156, List.forall_mem_cons.mpr ⟨ib_cw157, List.forall_mem_cons.mpr ⟨ib_cw158, List.forall_mem_cons.mpr ⟨ib_cw159, fun _ h => absurd h List.not_mem_nil⟩⟩⟩⟩⟩⟩⟩⟩⟩⟩⟩⟩⟩⟩⟩⟩⟩⟩⟩⟩⟩⟩⟩⟩⟩⟩⟩⟩⟩⟩⟩⟩
def ib_msA5 : List ib_M := [(yX11_frameOf, cX11_frameOf, 4, (some Jvm.ClassFile.FieldType.int), [], ib_c160), (yX11_rowOf, cX11_rowOf, 3, (some Jvm.ClassFile.FieldType.int), [], ib_c161), (yX11_isTorn, cX11_isTorn, 2, (some Jvm.ClassFile.FieldType.boolean), [], ib_c162), (yX11_falls, cX11_falls, 2, none, [], ib_c163), (yX11_isWritten, cX11_isWritten, 1, (some Jvm.ClassFile.FieldType.boolean), [], ib_c164), (yX11_hardens, cX11_hardens, 2, none, [], ib_c165), (yX11_writesHalf, cX11_writesHalf, 4, none, [], ib_c166), (yX11_writesFrame, cX11_writesFrame, 4, none, [], ib_c167), (yX11_uses, cX11_uses, 3, none, [], ib_c168), (yX11_notes, cX11_notes, 4, (some Jvm.ClassFile.FieldType.int), [], ib_c169), (yX11_image, cX11_image, 2, (some Jvm.ClassFile.FieldType.int), [], ib_c170), (yX11_acts, cX11_acts, 10, (some Jvm.ClassFile.FieldType.int), [], ib_c171), (yX11_rowIn, cX11_rowIn, 5, (some Jvm.ClassFile.FieldType.int), [], ib_c172), (yX11_changesPage, cX11_changesPage, 5, none, [], ib_c173), (yX11_does, cX11_does, 3, none, [], ib_c174), (yX11_finds, cX11_finds, 5, none, [], ib_c175), (yX11_free, cX11_free, 3, (some Jvm.ClassFile.FieldType.int), [], ib_c176), (yX11_isFull, cX11_isFull, 2, (some Jvm.ClassFile.FieldType.boolean), [], ib_c177), (yX11_splitsRoot, cX11_splitsRoot, 9, none, [], ib_c178), (yX11_childPlace, cX11_childPlace, 5, (some Jvm.ClassFile.FieldType.int), [], ib_c179), (yX11_splits, cX11_splits, 9, none, [], ib_c180), (yX11_goes, cX11_goes, 6, none, [], ib_c181), (yX11_looksAtRoot, cX11_looksAtRoot, 3, none, [], ib_c182), (yX11_shrinks, cX11_shrinks, 2, none, [], ib_c183), (yX11_isOne, cX11_isOne, 1, (some Jvm.ClassFile.FieldType.boolean), [], ib_c184), (yX11_closes, cX11_closes, 3, none, [], ib_c185), (yX11_undoes, cX11_undoes, 6, none, [], ib_c186), (yX11_goesBack, cX11_goesBack, 6, (some Jvm.ClassFile.FieldType.int), [], ib_c187), (yX11_undoesAll, cX11_undoesAll, 3, (some Jvm.ClassFile.FieldType.int), [], ib_c188), (yX11_victim, cX11_victim, 4, (some Jvm.ClassFile.FieldType.int), [], ib_c189), (yX11_locks, cX11_locks, 4, (some Jvm.ClassFile.FieldType.int), [], ib_c190), (yX11_open, cX11_open, 2, none, [], ib_c191)]
theorem ib_cwA5 : ∀ M ∈ ib_msA5, ib_cw M ∈ tables_1 := List.forall_mem_cons.mpr ⟨ib_cw160, List.forall_mem_cons.mpr ⟨ib_cw161, List.forall_mem_cons.mpr ⟨ib_cw162, List.forall_mem_cons.mpr ⟨ib_cw163, List.forall_mem_cons.mpr ⟨ib_cw164, List.forall_mem_cons.mpr ⟨ib_cw165, List.forall_mem_cons.mpr ⟨ib_cw166, List.forall_mem_cons.mpr ⟨ib_cw167, List.forall_mem_cons.mpr ⟨ib_cw168, List.forall_mem_cons.mpr ⟨ib_cw169, List.forall_mem_cons.mpr ⟨ib_cw170, List.forall_mem_cons.mpr ⟨ib_cw171, List.forall_mem_cons.mpr ⟨ib_cw172, List.forall_mem_cons.mpr ⟨ib_cw173, List.forall_mem_cons.mpr ⟨ib_cw174, List.forall_mem_cons.mpr ⟨ib_cw175, List.forall_mem_cons.mpr ⟨ib_cw176, List.forall_mem_cons.mpr ⟨ib_cw177, List.forall_mem_cons.mpr ⟨ib_cw178, List.forall_mem_cons.mpr ⟨ib_cw179, List.forall_mem_cons.mpr ⟨ib_cw180, List.forall_mem_cons.mpr ⟨ib_cw181, List.forall_mem_cons.mpr ⟨ib_cw182, List.forall_mem_cons.mpr ⟨ib_cw183, List.forall_mem_cons.mpr ⟨ib_cw184, List.forall_mem_cons.mpr ⟨ib_cw185, List.forall_mem_cons.mpr ⟨ib_cw186, List.forall_mem_cons.mpr ⟨ib_cw187, List.forall_mem_cons.mpr ⟨ib_cw188, List.forall_mem_cons.mpr ⟨ib_cw189, List.forall_mem_cons.mpr ⟨ib_cw190, List.forall_mem_cons.mpr ⟨ib_cw191, fun _ h => absurd h List.not_mem_nil⟩⟩⟩⟩⟩⟩⟩⟩⟩⟩⟩⟩⟩⟩⟩⟩⟩⟩⟩⟩⟩⟩⟩⟩⟩⟩⟩⟩⟩⟩⟩⟩
def ib_msA6 : List ib_M := [(yX11_changesKey, cX11_changesKey, 7, none, [], ib_c192), (yX11_put, cX11_put, 7, (some Jvm.ClassFile.FieldType.int), [], ib_c193), (yX11_take, cX11_take, 7, (some Jvm.ClassFile.FieldType.int), [], ib_c194), (yX11_read, cX11_read, 6, (some Jvm.ClassFile.FieldType.int), [], ib_c195), (yX11_place, cX11_place, 2, (some Jvm.ClassFile.FieldType.int), [], ib_c196), (yX11_back, cX11_back, 4, (some Jvm.ClassFile.FieldType.int), [], ib_c197), (yX11_commit, cX11_commit, 3, (some Jvm.ClassFile.FieldType.int), [], ib_c198), (yX11_undo, cX11_undo, 3, (some Jvm.ClassFile.FieldType.int), [], ib_c199), (yX11_mark, cX11_mark, 5, (some Jvm.ClassFile.FieldType.int), [], ib_c200), (yX11_write, cX11_write, 3, (some Jvm.ClassFile.FieldType.int), [], ib_c201), (yX11_crashAt, cX11_crashAt, 2, none, [], ib_c202), (yX11_crash, cX11_crash, 1, none, [], ib_c203), (yX11_mends, cX11_mends, 3, none, [], ib_c204), (yX11_reads, cX11_reads, 6, none, [], ib_c205), (yX11_doesAgain, cX11_doesAgain, 5, none, [], ib_c206), (yX11_aboveOf, cX11_aboveOf, 6, (some Jvm.ClassFile.FieldType.int), [], ib_c207), (yX11_idle, cX11_idle, 4, (some Jvm.ClassFile.FieldType.int), [], ib_c208), (yX11_isRootAlone, cX11_isRootAlone, 1, (some Jvm.ClassFile.FieldType.boolean), [], ib_c209), (yX11_clears, cX11_clears, 2, none, [], ib_c210), (yX11_undoesLosers, cX11_undoesLosers, 3, none, [], ib_c211), (yX11_recover, cX11_recover, 2, (some Jvm.ClassFile.FieldType.int), [], ib_c212), (yX11_pass, cX11_pass, 2, (some Jvm.ClassFile.FieldType.int), [], ib_c213), (yX11_page, cX11_page, 4, (some Jvm.ClassFile.FieldType.int), [], ib_c214), (yX11_entry, cX11_entry, 4, (some Jvm.ClassFile.FieldType.int), [], ib_c215), (yX11_frame, cX11_frame, 3, (some Jvm.ClassFile.FieldType.int), [], ib_c216), (yX11_hand, cX11_hand, 1, (some Jvm.ClassFile.FieldType.int), [], ib_c217), (yX11_record, cX11_record, 3, (some Jvm.ClassFile.FieldType.int), [], ib_c218), (yX11_records, cX11_records, 1, (some Jvm.ClassFile.FieldType.int), [], ib_c219), (yX11_durable, cX11_durable, 1, (some Jvm.ClassFile.FieldType.int), [], ib_c220), (yX11_writes, cX11_writes, 1, (some Jvm.ClassFile.FieldType.int), [], ib_c221), (yX11_holder, cX11_holder, 2, (some Jvm.ClassFile.FieldType.int), [], ib_c222), (yX11_waitsFor, cX11_waitsFor, 2, (some Jvm.ClassFile.FieldType.int), [], ib_c223)]
theorem ib_cwA6 : ∀ M ∈ ib_msA6, ib_cw M ∈ tables_1 := List.forall_mem_cons.mpr ⟨ib_cw192, List.forall_mem_cons.mpr ⟨ib_cw193, List.forall_mem_cons.mpr ⟨ib_cw194, List.forall_mem_cons.mpr ⟨ib_cw195, List.forall_mem_cons.mpr ⟨ib_cw196, List.forall_mem_cons.mpr ⟨ib_cw197, List.forall_mem_cons.mpr ⟨ib_cw198, List.forall_mem_cons.mpr ⟨ib_cw199, List.forall_mem_cons.mpr ⟨ib_cw200, List.forall_mem_cons.mpr ⟨ib_cw201, List.forall_mem_cons.mpr ⟨ib_cw202, List.forall_mem_cons.mpr ⟨ib_cw203, List.forall_mem_cons.mpr ⟨ib_cw204, List.forall_mem_cons.mpr ⟨ib_cw205, List.forall_mem_cons.mpr ⟨ib_cw206, List.forall_mem_cons.mpr ⟨ib_cw207, List.forall_mem_cons.mpr ⟨ib_cw208, List.forall_mem_cons.mpr ⟨ib_cw209, List.forall_mem_cons.mpr ⟨ib_cw210, List.forall_mem_cons.mpr ⟨ib_cw211, List.forall_mem_cons.mpr ⟨ib_cw212, List.forall_mem_cons.mpr ⟨ib_cw213, List.forall_mem_cons.mpr ⟨ib_cw214, List.forall_mem_cons.mpr ⟨ib_cw215, List.forall_mem_cons.mpr ⟨ib_cw216, List.forall_mem_cons.mpr ⟨ib_cw217, List.forall_mem_cons.mpr ⟨ib_cw218, List.forall_mem_cons.mpr ⟨ib_cw219, List.forall_mem_cons.mpr ⟨ib_cw220, List.forall_mem_cons.mpr ⟨ib_cw221, List.forall_mem_cons.mpr ⟨ib_cw222, List.forall_mem_cons.mpr ⟨ib_cw223, fun _ h => absurd h List.not_mem_nil⟩⟩⟩⟩⟩⟩⟩⟩⟩⟩⟩⟩⟩⟩⟩⟩⟩⟩⟩⟩⟩⟩⟩⟩⟩⟩⟩⟩⟩⟩⟩⟩
def ib_msA7 : List ib_M := [(yX11_plainly, cX11_plainly, 5, (some Jvm.ClassFile.FieldType.int), [], ib_c224), (yX11_plain, cX11_plain, 2, (some Jvm.ClassFile.FieldType.int), [], ib_c225), (yX11_hasIt, cX11_hasIt, 7, (some Jvm.ClassFile.FieldType.boolean), [], ib_c226), (yX11_agrees, cX11_agrees, 3, (some Jvm.ClassFile.FieldType.boolean), [], ib_c227), (yX11_lesser, cX11_lesser, 2, (some Jvm.ClassFile.FieldType.int), [], ib_c228), (yX11_isRight, cX11_isRight, 7, (some Jvm.ClassFile.FieldType.boolean), [], ib_c229), (yX11_check, cX11_check, 10, (some Jvm.ClassFile.FieldType.int), [], ib_c230), (yL_open, cL_open, 3, (some Jvm.ClassFile.FieldType.int), [(0, 5, 8, 13), (0, 5, 11, 15)], ib_c231), (yL_put, cL_put, 6, (some Jvm.ClassFile.FieldType.int), [(0, 12, 15, 13), (0, 12, 19, 15)], ib_c232), (yL_take, cL_take, 5, (some Jvm.ClassFile.FieldType.int), [(0, 10, 13, 13), (0, 10, 17, 15)], ib_c233), (yL_read, cL_read, 5, (some Jvm.ClassFile.FieldType.int), [(0, 10, 13, 13), (0, 10, 17, 15)], ib_c234), (yL_place, cL_place, 4, (some Jvm.ClassFile.FieldType.int), [(0, 9, 12, 13), (0, 9, 15, 15)], ib_c235), (yL_back, cL_back, 5, (some Jvm.ClassFile.FieldType.int), [(0, 10, 13, 13), (0, 10, 17, 15)], ib_c236), (yL_commit, cL_commit, 4, (some Jvm.ClassFile.FieldType.int), [(0, 9, 12, 13), (0, 9, 15, 15)], ib_c237), (yL_undo, cL_undo, 4, (some Jvm.ClassFile.FieldType.int), [(0, 9, 12, 13), (0, 9, 15, 15)], ib_c238), (yL_mark, cL_mark, 3, (some Jvm.ClassFile.FieldType.int), [(0, 8, 11, 15)], ib_c239), (yL_write, cL_write, 4, (some Jvm.ClassFile.FieldType.int), [(0, 9, 12, 48), (0, 9, 15, 15)], ib_c240), (yL_crashAt, cL_crashAt, 3, (some Jvm.ClassFile.FieldType.int), [(0, 5, 8, 13)], ib_c241), (yL_recover, cL_recover, 3, (some Jvm.ClassFile.FieldType.int), [(0, 8, 11, 15)], ib_c242), (yL_pass, cL_pass, 4, (some Jvm.ClassFile.FieldType.int), [(0, 9, 12, 13)], ib_c243), (yL_page, cL_page, 5, (some Jvm.ClassFile.FieldType.int), [(0, 10, 13, 48), (0, 10, 17, 13)], ib_c244), (yL_entry, cL_entry, 5, (some Jvm.ClassFile.FieldType.int), [(0, 10, 13, 48)], ib_c245), (yL_frame, cL_frame, 5, (some Jvm.ClassFile.FieldType.int), [(0, 10, 13, 48), (0, 10, 17, 13)], ib_c246), (yL_record, cL_record, 5, (some Jvm.ClassFile.FieldType.int), [(0, 10, 13, 48), (0, 10, 17, 13)], ib_c247), (yL_holder, cL_holder, 4, (some Jvm.ClassFile.FieldType.int), [(0, 9, 12, 13)], ib_c248), (yL_waitsFor, cL_waitsFor, 4, (some Jvm.ClassFile.FieldType.int), [(0, 9, 12, 13)], ib_c249), (yL_plain, cL_plain, 4, (some Jvm.ClassFile.FieldType.int), [(0, 9, 12, 13)], ib_c250)]
theorem ib_cwA7 : ∀ M ∈ ib_msA7, ib_cw M ∈ tables_1 := List.forall_mem_cons.mpr ⟨ib_cw224, List.forall_mem_cons.mpr ⟨ib_cw225, List.forall_mem_cons.mpr ⟨ib_cw226, List.forall_mem_cons.mpr ⟨ib_cw227, List.forall_mem_cons.mpr ⟨ib_cw228, List.forall_mem_cons.mpr ⟨ib_cw229, List.forall_mem_cons.mpr ⟨ib_cw230, List.forall_mem_cons.mpr ⟨ib_cw231, List.forall_mem_cons.mpr ⟨ib_cw232, List.forall_mem_cons.mpr ⟨ib_cw233, List.forall_mem_cons.mpr ⟨ib_cw234, List.forall_mem_cons.mpr ⟨ib_cw235, List.forall_mem_cons.mpr ⟨ib_cw236, List.forall_mem_cons.mpr ⟨ib_cw237, List.forall_mem_cons.mpr ⟨ib_cw238, List.forall_mem_cons.mpr ⟨ib_cw239, List.forall_mem_cons.mpr ⟨ib_cw240, List.forall_mem_cons.mpr ⟨ib_cw241, List.forall_mem_cons.mpr ⟨ib_cw242, List.forall_mem_cons.mpr ⟨ib_cw243, List.forall_mem_cons.mpr ⟨ib_cw244, List.forall_mem_cons.mpr ⟨ib_cw245, List.forall_mem_cons.mpr ⟨ib_cw246, List.forall_mem_cons.mpr ⟨ib_cw247, List.forall_mem_cons.mpr ⟨ib_cw248, List.forall_mem_cons.mpr ⟨ib_cw249, List.forall_mem_cons.mpr ⟨ib_cw250, fun _ h => absurd h List.not_mem_nil⟩⟩⟩⟩⟩⟩⟩⟩⟩⟩⟩⟩⟩⟩⟩⟩⟩⟩⟩⟩⟩⟩⟩⟩⟩⟩⟩
set_option maxRecDepth 100000 in
theorem ib_ms_eq : ib_ms = ib_msA0 ++ (ib_msA1 ++ (ib_msA2 ++ (ib_msA3 ++ (ib_msA4 ++ (ib_msA5 ++ (ib_msA6 ++ (ib_msA7 ++ [(yL_law, cL_law, maxLocals, ret, [], ib_c251)]))))))) := rfl
set_option maxRecDepth 100000 in
theorem ib_moks_all : ib_moks ib_ms ib_mi = true := by decide +kernel
def ib_xs : List String := ["java/lang/RuntimeException", "java/lang/Exception"]
def ib_xok (own : String) (ic k : Nat) : Bool := (vx_atS own ic (ib_xn k) ib_xs).all (fun w => decide (w ∈ tables_1) && (goodWord w || ib_isX w)) && (Cond.initialized (ib_xn k) :: vx_atS own ic (ib_xn k) ib_xs).all vx_ot && decide (Cond.initialized (ib_xn k) ∈ tables_1) && goodWord (Cond.initialized (ib_xn k)) && Bundle.fit (ib_xn k) && ib_xs.all Bundle.fit && decide (k < 3)
set_option maxRecDepth 100000 in
theorem ib_xok0 : ib_xok "PageLoom" 92 1 = true := by decide +kernel
set_option maxRecDepth 100000 in
theorem ib_xok1 : ib_xok "PageLoom" 105 0 = true := by decide +kernel
set_option maxRecDepth 100000 in
theorem ib_xok2 : ib_xok "PageLoom" 261 2 = true := by decide +kernel
def ib_xl : List (String × Nat × Nat) := [("PageLoom", 92, 1), ("PageLoom", 105, 0), ("PageLoom", 261, 2)]
/-- method, pc, the class, the text, the constructor, which exception, the text itself, ldc_w -/
def ib_tx : List (Nat × Nat × Nat × Nat × Nat × Nat × String × Bool) := [(107, 20, 88, 90, 92, 1, "the transaction is open", false), (108, 19, 101, 103, 105, 0, "no such value", false), (112, 19, 101, 160, 105, 0, "no such place", false), (117, 11, 101, 198, 105, 0, "no such write", false), (119, 7, 88, 210, 92, 1, "there is no crash to recover from", false), (120, 9, 101, 235, 105, 0, "no such count", false), (121, 13, 101, 237, 105, 0, "a page has no such thing", false), (122, 8, 257, 259, 261, 2, "no such entry", true), (123, 9, 257, 265, 261, 2, "no such frame", true), (123, 29, 101, 267, 105, 0, "a frame has no such thing", true), (125, 13, 257, 285, 261, 2, "no such record", true), (125, 85, 101, 302, 105, 0, "a record has no such thing", true), (134, 9, 101, 323, 105, 0, "no such transaction", true), (135, 10, 101, 325, 105, 0, "no such key", true), (136, 10, 257, 327, 261, 2, "no such page", true), (137, 7, 88, 329, 92, 1, "there was a crash", true), (138, 16, 88, 331, 92, 1, "the transaction is not open", true), (139, 13, 88, 333, 92, 1, "the log has too many records", true)]
def ib_txok (t : Nat × Nat × Nat × Nat × Nat × Nat × String × Bool) : Bool := match ib_Ms t.1 with
  | some M => M.2.2.2.2.1.isEmpty && decide ((M.1.cls, t.2.2.2.2.1, t.2.2.2.2.2.1) ∈ ib_xl) && decide (Cond.classLink M.1.cls t.2.2.1 (ib_xn t.2.2.2.2.2.1) ∈ tables_1) && goodWord (Cond.classLink M.1.cls t.2.2.1 (ib_xn t.2.2.2.2.2.1)) && decide (Cond.stringRef M.1.cls t.2.2.2.1 t.2.2.2.2.2.2.1 ∈ tables_1) && decide (M.2.2.2.2.2[t.2.1]? = some (some (.new t.2.2.1, 100 + t.2.2.2.2.2.1, t.2.2.2.1, t.2.2.2.2.1, (((M.2.2.2.2.2[t.2.1]?.getD none).getD (.nop, 0, 0, 0, 0)).2.2.2.2)))) && decide (decode M.2.1 t.2.1 = .ok (.new t.2.2.1, 3)) && decide (decode M.2.1 (t.2.1 + 3) = .ok (.dup, 1)) && (if t.2.2.2.2.2.2.2 then decide (decode M.2.1 (t.2.1 + 4) = .ok (.ldc_w t.2.2.2.1, 3)) && decide (decode M.2.1 (t.2.1 + 7) = .ok (.invokespecial t.2.2.2.2.1, 3)) && decide (decode M.2.1 (t.2.1 + 10) = .ok (.athrow, 1)) else decide (decode M.2.1 (t.2.1 + 4) = .ok (.ldc t.2.2.2.1, 2)) && decide (decode M.2.1 (t.2.1 + 6) = .ok (.invokespecial t.2.2.2.2.1, 3)) && decide (decode M.2.1 (t.2.1 + 9) = .ok (.athrow, 1)))
  | none => false
/-- each place of a throw in the tables is in the list -/
def ib_txin (mi pc : Nat) (a1 : Nat) : Bool := ib_tx.any fun t => decide (t.1 = mi) && decide (t.2.1 = pc) && decide (a1 = 100 + t.2.2.2.2.2.1)
def ib_txc : Nat → Nat → List (Option ib_A) → Bool
  | _, _, [] => true
  | mi, pc, none :: r => ib_txc mi (pc + 1) r
  | mi, pc, some q :: r => (match q.1 with | .new _ => decide (q.2.1 < 100) || ib_txin mi pc q.2.1 | _ => true) && ib_txc mi (pc + 1) r
def ib_txcs : Nat → List ib_M → Bool
  | _, [] => true
  | mi, M :: r => ib_txc mi 0 M.2.2.2.2.2 && ib_txcs (mi + 1) r
set_option maxRecDepth 100000 in
theorem ib_txcs_all : ib_txcs 0 ib_ms = true := by decide +kernel
theorem ib_tx_all : ib_tx.all ib_txok = true := by decide +kernel
/-- each call is of the kind that its method is -/
def ib_kd (k : Nat) : Nat := (ib_mi[k]?.getD (0, 0, 0, 9, 0)).2.2.2.1
def ib_kc : List (Option ib_A) → Bool
  | [] => true
  | none :: r => ib_kc r
  | some q :: r => (match q.1 with | .invokevirtual _ => decide (ib_kd q.2.1 = 1) || decide (ib_kd q.2.1 = 2) | .invokestatic _ => decide (ib_kd q.2.1 = 0) | .invokespecial _ => decide (q.2.1 = 1000) || decide (ib_kd q.2.1 = 3) | _ => true) && ib_kc r
set_option maxRecDepth 100000 in
theorem ib_kc_all : (ib_ms.all fun M => ib_kc M.2.2.2.2.2) = true := by decide +kernel
theorem ib_oi : Cond.instanceMethod Lib.objectInit ∈ tables_1 ∧ Cond.code Lib.objectInit ⟨#[0xb1]⟩ 1 none ∈ tables_1 := by decide +kernel
theorem ib_cx : ∀ k, k < 3 → Cond.castable (ib_xn k) (ib_xn k) ∈ tables_1 := by decide +kernel
