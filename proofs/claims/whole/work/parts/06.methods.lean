theorem math_min1 : Cond.static Lib.Math.min.name ∈ lw_good := wOK_mem (j := 316) (by decide +kernel)
theorem math_min2 : Cond.code Lib.Math.min.name Lib.Math.min.code 2 (some .int) ∈ lw_good := wOK_mem (j := 317) (by decide +kernel)
theorem math_max1 : Cond.static Lib.Math.max.name ∈ lw_good := wOK_mem (j := 319) (by decide +kernel)
theorem math_max2 : Cond.code Lib.Math.max.name Lib.Math.max.code 2 (some .int) ∈ lw_good := wOK_mem (j := 320) (by decide +kernel)
theorem math_abs1 : Cond.static Lib.Math.abs.name ∈ lw_good := wOK_mem (j := 887) (by decide +kernel)
theorem math_abs2 : Cond.code Lib.Math.abs.name Lib.Math.abs.code 1 (some .int) ∈ lw_good := wOK_mem (j := 888) (by decide +kernel)
theorem math_ini : Cond.initialized "java/lang/Math" ∈ lw_good := wOK_mem (j := 105) (by decide +kernel)
def mW : List (Nat × Nat × Nat × Nat) := [(183, 98, 182, 0), (711, 98, 709, 710), (716, 98, 714, 715), (820, 98, 818, 819), (824, 98, 823, 27), (827, 98, 826, 0), (840, 98, 839, 28), (843, 98, 842, 0), (846, 98, 845, 0), (871, 98, 869, 870), (189, 99, 188, 0), (332, 99, 330, 331), (344, 99, 342, 343), (393, 99, 391, 392), (397, 99, 395, 396), (417, 99, 415, 416), (160, 96, 159, 0), (328, 96, 326, 327), (340, 96, 339, 0), (405, 96, 404, 1), (409, 96, 408, 2), (413, 96, 412, 3), (598, 109, 597, 0), (660, 109, 659, 0), (700, 109, 698, 699), (798, 109, 796, 797), (802, 109, 800, 801), (806, 109, 805, 25), (810, 109, 809, 26), (170, 97, 169, 0), (728, 97, 726, 727), (732, 97, 731, 18), (737, 97, 736, 19), (741, 97, 740, 20), (754, 97, 753, 21), (762, 97, 761, 22), (769, 97, 768, 23), (778, 97, 776, 777), (953, 111, 952, 0), (1007, 111, 1006, 0), (1031, 111, 1029, 1030), (1035, 111, 1034, 32), (1039, 111, 1038, 33), (1043, 111, 1041, 1042), (1048, 111, 1046, 1047), (242, 100, 241, 0), (945, 100, 943, 944), (949, 100, 948, 30), (1004, 100, 1002, 1003), (1015, 100, 1013, 1014), (1023, 100, 1021, 1022), (1027, 100, 1026, 31), (532, 108, 531, 0), (643, 108, 641, 642), (693, 108, 691, 692), (696, 108, 695, 0), (750, 108, 748, 749), (786, 108, 784, 785), (790, 108, 789, 24), (794, 108, 792, 793), (853, 108, 851, 852), (857, 108, 856, 29), (150, 95, 149, 0), (527, 95, 525, 526), (564, 95, 563, 5), (576, 95, 575, 6), (581, 95, 580, 7), (587, 95, 586, 8), (647, 95, 646, 9), (652, 95, 651, 10), (656, 95, 655, 11), (665, 95, 664, 0), (669, 95, 668, 12), (675, 95, 674, 13), (679, 95, 678, 14), (126, 94, 125, 0), (314, 94, 312, 313), (324, 94, 322, 323), (336, 94, 334, 335), (349, 94, 347, 348), (353, 94, 351, 352), (357, 94, 355, 356), (382, 94, 380, 381), (401, 94, 399, 400), (423, 94, 421, 422), (116, 93, 115, 0), (385, 93, 384, 0), (515, 93, 513, 514), (519, 93, 518, 4), (523, 93, 521, 522), (592, 93, 591, 0), (685, 93, 684, 15), (689, 93, 688, 16), (704, 93, 702, 703), (707, 93, 706, 0), (720, 93, 718, 719), (724, 93, 723, 17), (774, 93, 772, 773), (782, 93, 780, 781), (814, 93, 812, 813), (830, 93, 829, 0), (835, 93, 834, 0), (849, 93, 848, 0), (863, 93, 861, 862), (867, 93, 865, 866), (875, 93, 873, 874), (879, 93, 877, 878), (929, 93, 927, 928), (937, 93, 935, 936), (941, 93, 939, 940), (1011, 93, 1009, 1010), (1019, 93, 1017, 1018), (1052, 93, 1050, 1051), (1057, 107, 1056, 0), (1062, 107, 1061, 34), (1066, 107, 1065, 35), (1070, 107, 1069, 36), (1074, 107, 1073, 37), (1224, 107, 1222, 1223), (1228, 107, 1227, 38), (1232, 107, 1230, 1231), (1236, 107, 1235, 39), (1240, 107, 1239, 40), (1244, 107, 1243, 41), (1247, 107, 1246, 0), (1251, 107, 1250, 42), (1255, 107, 1254, 43), (1258, 107, 1257, 0), (1261, 107, 1260, 0), (1265, 107, 1264, 44), (1269, 107, 1268, 45), (1273, 107, 1272, 46), (1276, 107, 1275, 0), (1289, 107, 1288, 47), (1294, 107, 1293, 48), (1298, 107, 1297, 49), (1301, 107, 1300, 0), (1317, 107, 1316, 50), (1324, 107, 1323, 51), (1329, 107, 1328, 52), (1334, 107, 1333, 0), (1337, 107, 1336, 0), (1366, 107, 1365, 53), (1369, 107, 1368, 0), (1378, 107, 1377, 54), (1382, 107, 1381, 55), (1388, 107, 1387, 56), (1392, 107, 1391, 57), (1398, 107, 1397, 58), (1401, 107, 1400, 0), (1404, 107, 1403, 0), (1408, 107, 1407, 59), (1411, 107, 1410, 0), (1420, 107, 1419, 0), (1423, 107, 1422, 0), (1432, 107, 1431, 60), (1436, 107, 1435, 61), (1440, 107, 1439, 62), (1444, 107, 1442, 1443), (1448, 107, 1447, 63), (1452, 107, 1451, 64), (1457, 107, 1456, 65), (1461, 107, 1460, 66), (1465, 107, 1464, 67), (1469, 107, 1468, 68), (1473, 107, 1472, 69), (1477, 107, 1476, 70), (1481, 107, 1479, 1480), (1485, 107, 1483, 1484), (1489, 107, 1488, 71), (1493, 107, 1492, 72), (1497, 107, 1496, 73), (1501, 107, 1500, 74), (1505, 107, 1503, 1504), (1509, 107, 1507, 1508), (1512, 107, 1511, 0), (1516, 107, 1515, 75), (1521, 107, 1520, 76), (1525, 107, 1524, 77), (1528, 107, 1527, 0), (1541, 107, 1540, 78), (1544, 107, 1543, 0), (1548, 107, 1547, 79), (1552, 107, 1550, 1551), (1556, 107, 1555, 80), (1560, 107, 1558, 1559), (1564, 107, 1563, 81), (1568, 107, 1567, 82), (1572, 107, 1571, 83), (1576, 107, 1575, 84), (1579, 107, 1578, 0), (1583, 107, 1582, 85), (1586, 107, 1585, 0), (1590, 107, 1588, 1589), (1594, 107, 1592, 1593), (1598, 107, 1596, 1597), (1601, 107, 1600, 0), (1604, 107, 1603, 0), (1608, 107, 1607, 86), (1611, 107, 1610, 0), (1614, 107, 1613, 0), (1617, 107, 1616, 0), (1620, 107, 1619, 0), (1624, 107, 1623, 87), (1628, 107, 1626, 1627), (1633, 107, 1631, 1632), (1637, 107, 1636, 88), (1641, 107, 1639, 1640), (1645, 107, 1643, 1644), (1649, 107, 1648, 89), (1653, 107, 1652, 90), (1657, 107, 1656, 91), (1661, 107, 1659, 1660), (882, 110, 881, 0), (885, 110, 884, 0), (892, 110, 891, 0), (895, 110, 894, 0), (898, 110, 897, 0), (901, 110, 900, 0), (904, 110, 903, 0), (910, 110, 909, 0), (915, 110, 914, 0), (919, 110, 918, 0), (922, 110, 921, 0), (925, 110, 924, 0), (932, 110, 931, 0), (261, 101, 259, 260), (265, 101, 263, 264), (306, 101, 304, 305), (310, 101, 308, 309), (362, 101, 360, 361), (428, 101, 426, 427), (432, 101, 430, 431), (270, 102, 269, 0), (273, 102, 272, 0), (365, 102, 364, 0), (436, 102, 435, 0), (439, 102, 438, 0), (444, 102, 443, 0)]
/-- what a method answers fits its type -/
def rOk (y : Nat) : Bool := match mRc y, mRt y with
  | 0, none => true
  | 1, some .int => true
  | 2, some .boolean => true
  | 2, some .char => true
  | 2, some .byte => true
  | 3, some .long => true
  | _ + 5, some (.object _) => true
  | _ + 5, some (.array _) => true
  | _, _ => false
def chkM (y : Nat) : Bool := wOK (mW.getD y (0, 0, 0, 0)).2.1 (.initialized (mNm y).cls) && (match mKi y with
  | 0 => wOK (mW.getD y (0, 0, 0, 0)).2.2.1 (.static (mNm y))
  | 1 => wOK (mW.getD y (0, 0, 0, 0)).2.2.1 (.instanceMethod (mNm y)) && wOK (mW.getD y (0, 0, 0, 0)).2.2.2 (.selects (mNm y).cls (mNm y) (mNm y)) && (Nat.blt (mOw y) 12 || Nat.beq (mOw y) 40)
  | 2 => wOK (mW.getD y (0, 0, 0, 0)).2.2.1 (.instanceMethod (mNm y)) && decide ((mNm y).name = "<init>") && decide (mRt y = none) && Nat.blt (mOw y) 12
  | _ => false) && rOk y && Nat.ble (mLo y) 40 && plainName (mNm y).cls && decide ((mNm y).cls ≠ "java/lang/invoke/MethodHandle") && decide ((mNm y).cls ≠ "java/lang/invoke/VarHandle") && decide ((parseMethodDescriptor (mNm y).desc).map (fun d => d.parameters.length) = some (mPa y)) && decide (cnm (mOw y) = (mNm y).cls)
set_option maxRecDepth 100000 in
theorem cwd0 : Cond.code (mNm 0) (mBy 0) (mLo 0) (mRt 0) ∈ lw_good := List.mem_filter.mpr ⟨List.mem_of_getElem? (show lw_tbl[183]? = some _ from rfl), rfl⟩
set_option maxRecDepth 100000 in
theorem cwd1 : Cond.code (mNm 1) (mBy 1) (mLo 1) (mRt 1) ∈ lw_good := List.mem_filter.mpr ⟨List.mem_of_getElem? (show lw_tbl[711]? = some _ from rfl), rfl⟩
set_option maxRecDepth 100000 in
theorem cwd2 : Cond.code (mNm 2) (mBy 2) (mLo 2) (mRt 2) ∈ lw_good := List.mem_filter.mpr ⟨List.mem_of_getElem? (show lw_tbl[716]? = some _ from rfl), rfl⟩
set_option maxRecDepth 100000 in
theorem cwd3 : Cond.code (mNm 3) (mBy 3) (mLo 3) (mRt 3) ∈ lw_good := List.mem_filter.mpr ⟨List.mem_of_getElem? (show lw_tbl[820]? = some _ from rfl), rfl⟩
set_option maxRecDepth 100000 in
theorem cwd4 : Cond.code (mNm 4) (mBy 4) (mLo 4) (mRt 4) ∈ lw_good := List.mem_filter.mpr ⟨List.mem_of_getElem? (show lw_tbl[824]? = some _ from rfl), rfl⟩
set_option maxRecDepth 100000 in
theorem cwd5 : Cond.code (mNm 5) (mBy 5) (mLo 5) (mRt 5) ∈ lw_good := List.mem_filter.mpr ⟨List.mem_of_getElem? (show lw_tbl[827]? = some _ from rfl), rfl⟩
set_option maxRecDepth 100000 in
theorem cwd6 : Cond.code (mNm 6) (mBy 6) (mLo 6) (mRt 6) ∈ lw_good := List.mem_filter.mpr ⟨List.mem_of_getElem? (show lw_tbl[840]? = some _ from rfl), rfl⟩
set_option maxRecDepth 100000 in
theorem cwd7 : Cond.code (mNm 7) (mBy 7) (mLo 7) (mRt 7) ∈ lw_good := List.mem_filter.mpr ⟨List.mem_of_getElem? (show lw_tbl[843]? = some _ from rfl), rfl⟩
set_option maxRecDepth 100000 in
theorem cwd8 : Cond.code (mNm 8) (mBy 8) (mLo 8) (mRt 8) ∈ lw_good := List.mem_filter.mpr ⟨List.mem_of_getElem? (show lw_tbl[846]? = some _ from rfl), rfl⟩
set_option maxRecDepth 100000 in
theorem cwd9 : Cond.code (mNm 9) (mBy 9) (mLo 9) (mRt 9) ∈ lw_good := List.mem_filter.mpr ⟨List.mem_of_getElem? (show lw_tbl[871]? = some _ from rfl), rfl⟩
set_option maxRecDepth 100000 in
theorem cwd10 : Cond.code (mNm 10) (mBy 10) (mLo 10) (mRt 10) ∈ lw_good := List.mem_filter.mpr ⟨List.mem_of_getElem? (show lw_tbl[189]? = some _ from rfl), rfl⟩
set_option maxRecDepth 100000 in
theorem cwd11 : Cond.code (mNm 11) (mBy 11) (mLo 11) (mRt 11) ∈ lw_good := List.mem_filter.mpr ⟨List.mem_of_getElem? (show lw_tbl[332]? = some _ from rfl), rfl⟩
set_option maxRecDepth 100000 in
theorem cwd12 : Cond.code (mNm 12) (mBy 12) (mLo 12) (mRt 12) ∈ lw_good := List.mem_filter.mpr ⟨List.mem_of_getElem? (show lw_tbl[344]? = some _ from rfl), rfl⟩
set_option maxRecDepth 100000 in
theorem cwd13 : Cond.code (mNm 13) (mBy 13) (mLo 13) (mRt 13) ∈ lw_good := List.mem_filter.mpr ⟨List.mem_of_getElem? (show lw_tbl[393]? = some _ from rfl), rfl⟩
set_option maxRecDepth 100000 in
theorem cwd14 : Cond.code (mNm 14) (mBy 14) (mLo 14) (mRt 14) ∈ lw_good := List.mem_filter.mpr ⟨List.mem_of_getElem? (show lw_tbl[397]? = some _ from rfl), rfl⟩
set_option maxRecDepth 100000 in
theorem cwd15 : Cond.code (mNm 15) (mBy 15) (mLo 15) (mRt 15) ∈ lw_good := List.mem_filter.mpr ⟨List.mem_of_getElem? (show lw_tbl[417]? = some _ from rfl), rfl⟩
set_option maxRecDepth 100000 in
theorem cwd16 : Cond.code (mNm 16) (mBy 16) (mLo 16) (mRt 16) ∈ lw_good := List.mem_filter.mpr ⟨List.mem_of_getElem? (show lw_tbl[160]? = some _ from rfl), rfl⟩
set_option maxRecDepth 100000 in
theorem cwd17 : Cond.code (mNm 17) (mBy 17) (mLo 17) (mRt 17) ∈ lw_good := List.mem_filter.mpr ⟨List.mem_of_getElem? (show lw_tbl[328]? = some _ from rfl), rfl⟩
set_option maxRecDepth 100000 in
theorem cwd18 : Cond.code (mNm 18) (mBy 18) (mLo 18) (mRt 18) ∈ lw_good := List.mem_filter.mpr ⟨List.mem_of_getElem? (show lw_tbl[340]? = some _ from rfl), rfl⟩
set_option maxRecDepth 100000 in
theorem cwd19 : Cond.code (mNm 19) (mBy 19) (mLo 19) (mRt 19) ∈ lw_good := List.mem_filter.mpr ⟨List.mem_of_getElem? (show lw_tbl[405]? = some _ from rfl), rfl⟩
set_option maxRecDepth 100000 in
theorem cwd20 : Cond.code (mNm 20) (mBy 20) (mLo 20) (mRt 20) ∈ lw_good := List.mem_filter.mpr ⟨List.mem_of_getElem? (show lw_tbl[409]? = some _ from rfl), rfl⟩
set_option maxRecDepth 100000 in
theorem cwd21 : Cond.code (mNm 21) (mBy 21) (mLo 21) (mRt 21) ∈ lw_good := List.mem_filter.mpr ⟨List.mem_of_getElem? (show lw_tbl[413]? = some _ from rfl), rfl⟩
set_option maxRecDepth 100000 in
theorem cwd22 : Cond.code (mNm 22) (mBy 22) (mLo 22) (mRt 22) ∈ lw_good := List.mem_filter.mpr ⟨List.mem_of_getElem? (show lw_tbl[598]? = some _ from rfl), rfl⟩
set_option maxRecDepth 100000 in
theorem cwd23 : Cond.code (mNm 23) (mBy 23) (mLo 23) (mRt 23) ∈ lw_good := List.mem_filter.mpr ⟨List.mem_of_getElem? (show lw_tbl[660]? = some _ from rfl), rfl⟩
set_option maxRecDepth 100000 in
theorem cwd24 : Cond.code (mNm 24) (mBy 24) (mLo 24) (mRt 24) ∈ lw_good := List.mem_filter.mpr ⟨List.mem_of_getElem? (show lw_tbl[700]? = some _ from rfl), rfl⟩
set_option maxRecDepth 100000 in
theorem cwd25 : Cond.code (mNm 25) (mBy 25) (mLo 25) (mRt 25) ∈ lw_good := List.mem_filter.mpr ⟨List.mem_of_getElem? (show lw_tbl[798]? = some _ from rfl), rfl⟩
set_option maxRecDepth 100000 in
theorem cwd26 : Cond.code (mNm 26) (mBy 26) (mLo 26) (mRt 26) ∈ lw_good := List.mem_filter.mpr ⟨List.mem_of_getElem? (show lw_tbl[802]? = some _ from rfl), rfl⟩
set_option maxRecDepth 100000 in
theorem cwd27 : Cond.code (mNm 27) (mBy 27) (mLo 27) (mRt 27) ∈ lw_good := List.mem_filter.mpr ⟨List.mem_of_getElem? (show lw_tbl[806]? = some _ from rfl), rfl⟩
set_option maxRecDepth 100000 in
theorem cwd28 : Cond.code (mNm 28) (mBy 28) (mLo 28) (mRt 28) ∈ lw_good := List.mem_filter.mpr ⟨List.mem_of_getElem? (show lw_tbl[810]? = some _ from rfl), rfl⟩
set_option maxRecDepth 100000 in
theorem cwd29 : Cond.code (mNm 29) (mBy 29) (mLo 29) (mRt 29) ∈ lw_good := List.mem_filter.mpr ⟨List.mem_of_getElem? (show lw_tbl[170]? = some _ from rfl), rfl⟩
set_option maxRecDepth 100000 in
theorem cwd30 : Cond.code (mNm 30) (mBy 30) (mLo 30) (mRt 30) ∈ lw_good := List.mem_filter.mpr ⟨List.mem_of_getElem? (show lw_tbl[728]? = some _ from rfl), rfl⟩
set_option maxRecDepth 100000 in
theorem cwd31 : Cond.code (mNm 31) (mBy 31) (mLo 31) (mRt 31) ∈ lw_good := List.mem_filter.mpr ⟨List.mem_of_getElem? (show lw_tbl[732]? = some _ from rfl), rfl⟩
set_option maxRecDepth 100000 in
theorem cwd32 : Cond.code (mNm 32) (mBy 32) (mLo 32) (mRt 32) ∈ lw_good := List.mem_filter.mpr ⟨List.mem_of_getElem? (show lw_tbl[737]? = some _ from rfl), rfl⟩
set_option maxRecDepth 100000 in
theorem cwd33 : Cond.code (mNm 33) (mBy 33) (mLo 33) (mRt 33) ∈ lw_good := List.mem_filter.mpr ⟨List.mem_of_getElem? (show lw_tbl[741]? = some _ from rfl), rfl⟩
set_option maxRecDepth 100000 in
theorem cwd34 : Cond.code (mNm 34) (mBy 34) (mLo 34) (mRt 34) ∈ lw_good := List.mem_filter.mpr ⟨List.mem_of_getElem? (show lw_tbl[754]? = some _ from rfl), rfl⟩
set_option maxRecDepth 100000 in
theorem cwd35 : Cond.code (mNm 35) (mBy 35) (mLo 35) (mRt 35) ∈ lw_good := List.mem_filter.mpr ⟨List.mem_of_getElem? (show lw_tbl[762]? = some _ from rfl), rfl⟩
set_option maxRecDepth 100000 in
theorem cwd36 : Cond.code (mNm 36) (mBy 36) (mLo 36) (mRt 36) ∈ lw_good := List.mem_filter.mpr ⟨List.mem_of_getElem? (show lw_tbl[769]? = some _ from rfl), rfl⟩
set_option maxRecDepth 100000 in
theorem cwd37 : Cond.code (mNm 37) (mBy 37) (mLo 37) (mRt 37) ∈ lw_good := List.mem_filter.mpr ⟨List.mem_of_getElem? (show lw_tbl[778]? = some _ from rfl), rfl⟩
set_option maxRecDepth 100000 in
theorem cwd38 : Cond.code (mNm 38) (mBy 38) (mLo 38) (mRt 38) ∈ lw_good := List.mem_filter.mpr ⟨List.mem_of_getElem? (show lw_tbl[953]? = some _ from rfl), rfl⟩
set_option maxRecDepth 100000 in
theorem cwd39 : Cond.code (mNm 39) (mBy 39) (mLo 39) (mRt 39) ∈ lw_good := List.mem_filter.mpr ⟨List.mem_of_getElem? (show lw_tbl[1007]? = some _ from rfl), rfl⟩
set_option maxRecDepth 100000 in
theorem cwd40 : Cond.code (mNm 40) (mBy 40) (mLo 40) (mRt 40) ∈ lw_good := List.mem_filter.mpr ⟨List.mem_of_getElem? (show lw_tbl[1031]? = some _ from rfl), rfl⟩
set_option maxRecDepth 100000 in
theorem cwd41 : Cond.code (mNm 41) (mBy 41) (mLo 41) (mRt 41) ∈ lw_good := List.mem_filter.mpr ⟨List.mem_of_getElem? (show lw_tbl[1035]? = some _ from rfl), rfl⟩
set_option maxRecDepth 100000 in
theorem cwd42 : Cond.code (mNm 42) (mBy 42) (mLo 42) (mRt 42) ∈ lw_good := List.mem_filter.mpr ⟨List.mem_of_getElem? (show lw_tbl[1039]? = some _ from rfl), rfl⟩
set_option maxRecDepth 100000 in
theorem cwd43 : Cond.code (mNm 43) (mBy 43) (mLo 43) (mRt 43) ∈ lw_good := List.mem_filter.mpr ⟨List.mem_of_getElem? (show lw_tbl[1043]? = some _ from rfl), rfl⟩
set_option maxRecDepth 100000 in
theorem cwd44 : Cond.code (mNm 44) (mBy 44) (mLo 44) (mRt 44) ∈ lw_good := List.mem_filter.mpr ⟨List.mem_of_getElem? (show lw_tbl[1048]? = some _ from rfl), rfl⟩
set_option maxRecDepth 100000 in
theorem cwd45 : Cond.code (mNm 45) (mBy 45) (mLo 45) (mRt 45) ∈ lw_good := List.mem_filter.mpr ⟨List.mem_of_getElem? (show lw_tbl[242]? = some _ from rfl), rfl⟩
set_option maxRecDepth 100000 in
theorem cwd46 : Cond.code (mNm 46) (mBy 46) (mLo 46) (mRt 46) ∈ lw_good := List.mem_filter.mpr ⟨List.mem_of_getElem? (show lw_tbl[945]? = some _ from rfl), rfl⟩
set_option maxRecDepth 100000 in
theorem cwd47 : Cond.code (mNm 47) (mBy 47) (mLo 47) (mRt 47) ∈ lw_good := List.mem_filter.mpr ⟨List.mem_of_getElem? (show lw_tbl[949]? = some _ from rfl), rfl⟩
set_option maxRecDepth 100000 in
theorem cwd48 : Cond.code (mNm 48) (mBy 48) (mLo 48) (mRt 48) ∈ lw_good := List.mem_filter.mpr ⟨List.mem_of_getElem? (show lw_tbl[1004]? = some _ from rfl), rfl⟩
set_option maxRecDepth 100000 in
theorem cwd49 : Cond.code (mNm 49) (mBy 49) (mLo 49) (mRt 49) ∈ lw_good := List.mem_filter.mpr ⟨List.mem_of_getElem? (show lw_tbl[1015]? = some _ from rfl), rfl⟩
set_option maxRecDepth 100000 in
theorem cwd50 : Cond.code (mNm 50) (mBy 50) (mLo 50) (mRt 50) ∈ lw_good := List.mem_filter.mpr ⟨List.mem_of_getElem? (show lw_tbl[1023]? = some _ from rfl), rfl⟩
set_option maxRecDepth 100000 in
theorem cwd51 : Cond.code (mNm 51) (mBy 51) (mLo 51) (mRt 51) ∈ lw_good := List.mem_filter.mpr ⟨List.mem_of_getElem? (show lw_tbl[1027]? = some _ from rfl), rfl⟩
set_option maxRecDepth 100000 in
theorem cwd52 : Cond.code (mNm 52) (mBy 52) (mLo 52) (mRt 52) ∈ lw_good := List.mem_filter.mpr ⟨List.mem_of_getElem? (show lw_tbl[532]? = some _ from rfl), rfl⟩
set_option maxRecDepth 100000 in
theorem cwd53 : Cond.code (mNm 53) (mBy 53) (mLo 53) (mRt 53) ∈ lw_good := List.mem_filter.mpr ⟨List.mem_of_getElem? (show lw_tbl[643]? = some _ from rfl), rfl⟩
set_option maxRecDepth 100000 in
theorem cwd54 : Cond.code (mNm 54) (mBy 54) (mLo 54) (mRt 54) ∈ lw_good := List.mem_filter.mpr ⟨List.mem_of_getElem? (show lw_tbl[693]? = some _ from rfl), rfl⟩
set_option maxRecDepth 100000 in
theorem cwd55 : Cond.code (mNm 55) (mBy 55) (mLo 55) (mRt 55) ∈ lw_good := List.mem_filter.mpr ⟨List.mem_of_getElem? (show lw_tbl[696]? = some _ from rfl), rfl⟩
set_option maxRecDepth 100000 in
theorem cwd56 : Cond.code (mNm 56) (mBy 56) (mLo 56) (mRt 56) ∈ lw_good := List.mem_filter.mpr ⟨List.mem_of_getElem? (show lw_tbl[750]? = some _ from rfl), rfl⟩
set_option maxRecDepth 100000 in
theorem cwd57 : Cond.code (mNm 57) (mBy 57) (mLo 57) (mRt 57) ∈ lw_good := List.mem_filter.mpr ⟨List.mem_of_getElem? (show lw_tbl[786]? = some _ from rfl), rfl⟩
set_option maxRecDepth 100000 in
theorem cwd58 : Cond.code (mNm 58) (mBy 58) (mLo 58) (mRt 58) ∈ lw_good := List.mem_filter.mpr ⟨List.mem_of_getElem? (show lw_tbl[790]? = some _ from rfl), rfl⟩
set_option maxRecDepth 100000 in
theorem cwd59 : Cond.code (mNm 59) (mBy 59) (mLo 59) (mRt 59) ∈ lw_good := List.mem_filter.mpr ⟨List.mem_of_getElem? (show lw_tbl[794]? = some _ from rfl), rfl⟩
set_option maxRecDepth 100000 in
theorem cwd60 : Cond.code (mNm 60) (mBy 60) (mLo 60) (mRt 60) ∈ lw_good := List.mem_filter.mpr ⟨List.mem_of_getElem? (show lw_tbl[853]? = some _ from rfl), rfl⟩
set_option maxRecDepth 100000 in
theorem cwd61 : Cond.code (mNm 61) (mBy 61) (mLo 61) (mRt 61) ∈ lw_good := List.mem_filter.mpr ⟨List.mem_of_getElem? (show lw_tbl[857]? = some _ from rfl), rfl⟩
set_option maxRecDepth 100000 in
theorem cwd62 : Cond.code (mNm 62) (mBy 62) (mLo 62) (mRt 62) ∈ lw_good := List.mem_filter.mpr ⟨List.mem_of_getElem? (show lw_tbl[150]? = some _ from rfl), rfl⟩
set_option maxRecDepth 100000 in
theorem cwd63 : Cond.code (mNm 63) (mBy 63) (mLo 63) (mRt 63) ∈ lw_good := List.mem_filter.mpr ⟨List.mem_of_getElem? (show lw_tbl[527]? = some _ from rfl), rfl⟩
set_option maxRecDepth 100000 in
theorem cwd64 : Cond.code (mNm 64) (mBy 64) (mLo 64) (mRt 64) ∈ lw_good := List.mem_filter.mpr ⟨List.mem_of_getElem? (show lw_tbl[564]? = some _ from rfl), rfl⟩
set_option maxRecDepth 100000 in
theorem cwd65 : Cond.code (mNm 65) (mBy 65) (mLo 65) (mRt 65) ∈ lw_good := List.mem_filter.mpr ⟨List.mem_of_getElem? (show lw_tbl[576]? = some _ from rfl), rfl⟩
set_option maxRecDepth 100000 in
theorem cwd66 : Cond.code (mNm 66) (mBy 66) (mLo 66) (mRt 66) ∈ lw_good := List.mem_filter.mpr ⟨List.mem_of_getElem? (show lw_tbl[581]? = some _ from rfl), rfl⟩
set_option maxRecDepth 100000 in
theorem cwd67 : Cond.code (mNm 67) (mBy 67) (mLo 67) (mRt 67) ∈ lw_good := List.mem_filter.mpr ⟨List.mem_of_getElem? (show lw_tbl[587]? = some _ from rfl), rfl⟩
set_option maxRecDepth 100000 in
theorem cwd68 : Cond.code (mNm 68) (mBy 68) (mLo 68) (mRt 68) ∈ lw_good := List.mem_filter.mpr ⟨List.mem_of_getElem? (show lw_tbl[647]? = some _ from rfl), rfl⟩
set_option maxRecDepth 100000 in
theorem cwd69 : Cond.code (mNm 69) (mBy 69) (mLo 69) (mRt 69) ∈ lw_good := List.mem_filter.mpr ⟨List.mem_of_getElem? (show lw_tbl[652]? = some _ from rfl), rfl⟩
set_option maxRecDepth 100000 in
theorem cwd70 : Cond.code (mNm 70) (mBy 70) (mLo 70) (mRt 70) ∈ lw_good := List.mem_filter.mpr ⟨List.mem_of_getElem? (show lw_tbl[656]? = some _ from rfl), rfl⟩
set_option maxRecDepth 100000 in
theorem cwd71 : Cond.code (mNm 71) (mBy 71) (mLo 71) (mRt 71) ∈ lw_good := List.mem_filter.mpr ⟨List.mem_of_getElem? (show lw_tbl[665]? = some _ from rfl), rfl⟩
set_option maxRecDepth 100000 in
theorem cwd72 : Cond.code (mNm 72) (mBy 72) (mLo 72) (mRt 72) ∈ lw_good := List.mem_filter.mpr ⟨List.mem_of_getElem? (show lw_tbl[669]? = some _ from rfl), rfl⟩
set_option maxRecDepth 100000 in
theorem cwd73 : Cond.code (mNm 73) (mBy 73) (mLo 73) (mRt 73) ∈ lw_good := List.mem_filter.mpr ⟨List.mem_of_getElem? (show lw_tbl[675]? = some _ from rfl), rfl⟩
set_option maxRecDepth 100000 in
theorem cwd74 : Cond.code (mNm 74) (mBy 74) (mLo 74) (mRt 74) ∈ lw_good := List.mem_filter.mpr ⟨List.mem_of_getElem? (show lw_tbl[679]? = some _ from rfl), rfl⟩
set_option maxRecDepth 100000 in
theorem cwd75 : Cond.code (mNm 75) (mBy 75) (mLo 75) (mRt 75) ∈ lw_good := List.mem_filter.mpr ⟨List.mem_of_getElem? (show lw_tbl[126]? = some _ from rfl), rfl⟩
set_option maxRecDepth 100000 in
theorem cwd76 : Cond.code (mNm 76) (mBy 76) (mLo 76) (mRt 76) ∈ lw_good := List.mem_filter.mpr ⟨List.mem_of_getElem? (show lw_tbl[314]? = some _ from rfl), rfl⟩
set_option maxRecDepth 100000 in
theorem cwd77 : Cond.code (mNm 77) (mBy 77) (mLo 77) (mRt 77) ∈ lw_good := List.mem_filter.mpr ⟨List.mem_of_getElem? (show lw_tbl[324]? = some _ from rfl), rfl⟩
set_option maxRecDepth 100000 in
theorem cwd78 : Cond.code (mNm 78) (mBy 78) (mLo 78) (mRt 78) ∈ lw_good := List.mem_filter.mpr ⟨List.mem_of_getElem? (show lw_tbl[336]? = some _ from rfl), rfl⟩
set_option maxRecDepth 100000 in
theorem cwd79 : Cond.code (mNm 79) (mBy 79) (mLo 79) (mRt 79) ∈ lw_good := List.mem_filter.mpr ⟨List.mem_of_getElem? (show lw_tbl[349]? = some _ from rfl), rfl⟩
set_option maxRecDepth 100000 in
theorem cwd80 : Cond.code (mNm 80) (mBy 80) (mLo 80) (mRt 80) ∈ lw_good := List.mem_filter.mpr ⟨List.mem_of_getElem? (show lw_tbl[353]? = some _ from rfl), rfl⟩
set_option maxRecDepth 100000 in
theorem cwd81 : Cond.code (mNm 81) (mBy 81) (mLo 81) (mRt 81) ∈ lw_good := List.mem_filter.mpr ⟨List.mem_of_getElem? (show lw_tbl[357]? = some _ from rfl), rfl⟩
set_option maxRecDepth 100000 in
theorem cwd82 : Cond.code (mNm 82) (mBy 82) (mLo 82) (mRt 82) ∈ lw_good := List.mem_filter.mpr ⟨List.mem_of_getElem? (show lw_tbl[382]? = some _ from rfl), rfl⟩
set_option maxRecDepth 100000 in
theorem cwd83 : Cond.code (mNm 83) (mBy 83) (mLo 83) (mRt 83) ∈ lw_good := List.mem_filter.mpr ⟨List.mem_of_getElem? (show lw_tbl[401]? = some _ from rfl), rfl⟩
set_option maxRecDepth 100000 in
theorem cwd84 : Cond.code (mNm 84) (mBy 84) (mLo 84) (mRt 84) ∈ lw_good := List.mem_filter.mpr ⟨List.mem_of_getElem? (show lw_tbl[423]? = some _ from rfl), rfl⟩
set_option maxRecDepth 100000 in
theorem cwd85 : Cond.code (mNm 85) (mBy 85) (mLo 85) (mRt 85) ∈ lw_good := List.mem_filter.mpr ⟨List.mem_of_getElem? (show lw_tbl[116]? = some _ from rfl), rfl⟩
set_option maxRecDepth 100000 in
theorem cwd86 : Cond.code (mNm 86) (mBy 86) (mLo 86) (mRt 86) ∈ lw_good := List.mem_filter.mpr ⟨List.mem_of_getElem? (show lw_tbl[385]? = some _ from rfl), rfl⟩
set_option maxRecDepth 100000 in
theorem cwd87 : Cond.code (mNm 87) (mBy 87) (mLo 87) (mRt 87) ∈ lw_good := List.mem_filter.mpr ⟨List.mem_of_getElem? (show lw_tbl[515]? = some _ from rfl), rfl⟩
set_option maxRecDepth 100000 in
theorem cwd88 : Cond.code (mNm 88) (mBy 88) (mLo 88) (mRt 88) ∈ lw_good := List.mem_filter.mpr ⟨List.mem_of_getElem? (show lw_tbl[519]? = some _ from rfl), rfl⟩
set_option maxRecDepth 100000 in
theorem cwd89 : Cond.code (mNm 89) (mBy 89) (mLo 89) (mRt 89) ∈ lw_good := List.mem_filter.mpr ⟨List.mem_of_getElem? (show lw_tbl[523]? = some _ from rfl), rfl⟩
set_option maxRecDepth 100000 in
theorem cwd90 : Cond.code (mNm 90) (mBy 90) (mLo 90) (mRt 90) ∈ lw_good := List.mem_filter.mpr ⟨List.mem_of_getElem? (show lw_tbl[592]? = some _ from rfl), rfl⟩
set_option maxRecDepth 100000 in
theorem cwd91 : Cond.code (mNm 91) (mBy 91) (mLo 91) (mRt 91) ∈ lw_good := List.mem_filter.mpr ⟨List.mem_of_getElem? (show lw_tbl[685]? = some _ from rfl), rfl⟩
set_option maxRecDepth 100000 in
theorem cwd92 : Cond.code (mNm 92) (mBy 92) (mLo 92) (mRt 92) ∈ lw_good := List.mem_filter.mpr ⟨List.mem_of_getElem? (show lw_tbl[689]? = some _ from rfl), rfl⟩
set_option maxRecDepth 100000 in
theorem cwd93 : Cond.code (mNm 93) (mBy 93) (mLo 93) (mRt 93) ∈ lw_good := List.mem_filter.mpr ⟨List.mem_of_getElem? (show lw_tbl[704]? = some _ from rfl), rfl⟩
set_option maxRecDepth 100000 in
theorem cwd94 : Cond.code (mNm 94) (mBy 94) (mLo 94) (mRt 94) ∈ lw_good := List.mem_filter.mpr ⟨List.mem_of_getElem? (show lw_tbl[707]? = some _ from rfl), rfl⟩
set_option maxRecDepth 100000 in
theorem cwd95 : Cond.code (mNm 95) (mBy 95) (mLo 95) (mRt 95) ∈ lw_good := List.mem_filter.mpr ⟨List.mem_of_getElem? (show lw_tbl[720]? = some _ from rfl), rfl⟩
set_option maxRecDepth 100000 in
theorem cwd96 : Cond.code (mNm 96) (mBy 96) (mLo 96) (mRt 96) ∈ lw_good := List.mem_filter.mpr ⟨List.mem_of_getElem? (show lw_tbl[724]? = some _ from rfl), rfl⟩
set_option maxRecDepth 100000 in
theorem cwd97 : Cond.code (mNm 97) (mBy 97) (mLo 97) (mRt 97) ∈ lw_good := List.mem_filter.mpr ⟨List.mem_of_getElem? (show lw_tbl[774]? = some _ from rfl), rfl⟩
set_option maxRecDepth 100000 in
theorem cwd98 : Cond.code (mNm 98) (mBy 98) (mLo 98) (mRt 98) ∈ lw_good := List.mem_filter.mpr ⟨List.mem_of_getElem? (show lw_tbl[782]? = some _ from rfl), rfl⟩
set_option maxRecDepth 100000 in
theorem cwd99 : Cond.code (mNm 99) (mBy 99) (mLo 99) (mRt 99) ∈ lw_good := List.mem_filter.mpr ⟨List.mem_of_getElem? (show lw_tbl[814]? = some _ from rfl), rfl⟩
set_option maxRecDepth 100000 in
theorem cwd100 : Cond.code (mNm 100) (mBy 100) (mLo 100) (mRt 100) ∈ lw_good := List.mem_filter.mpr ⟨List.mem_of_getElem? (show lw_tbl[830]? = some _ from rfl), rfl⟩
set_option maxRecDepth 100000 in
theorem cwd101 : Cond.code (mNm 101) (mBy 101) (mLo 101) (mRt 101) ∈ lw_good := List.mem_filter.mpr ⟨List.mem_of_getElem? (show lw_tbl[835]? = some _ from rfl), rfl⟩
set_option maxRecDepth 100000 in
theorem cwd102 : Cond.code (mNm 102) (mBy 102) (mLo 102) (mRt 102) ∈ lw_good := List.mem_filter.mpr ⟨List.mem_of_getElem? (show lw_tbl[849]? = some _ from rfl), rfl⟩
set_option maxRecDepth 100000 in
theorem cwd103 : Cond.code (mNm 103) (mBy 103) (mLo 103) (mRt 103) ∈ lw_good := List.mem_filter.mpr ⟨List.mem_of_getElem? (show lw_tbl[863]? = some _ from rfl), rfl⟩
set_option maxRecDepth 100000 in
theorem cwd104 : Cond.code (mNm 104) (mBy 104) (mLo 104) (mRt 104) ∈ lw_good := List.mem_filter.mpr ⟨List.mem_of_getElem? (show lw_tbl[867]? = some _ from rfl), rfl⟩
set_option maxRecDepth 100000 in
theorem cwd105 : Cond.code (mNm 105) (mBy 105) (mLo 105) (mRt 105) ∈ lw_good := List.mem_filter.mpr ⟨List.mem_of_getElem? (show lw_tbl[875]? = some _ from rfl), rfl⟩
set_option maxRecDepth 100000 in
theorem cwd106 : Cond.code (mNm 106) (mBy 106) (mLo 106) (mRt 106) ∈ lw_good := List.mem_filter.mpr ⟨List.mem_of_getElem? (show lw_tbl[879]? = some _ from rfl), rfl⟩
set_option maxRecDepth 100000 in
theorem cwd107 : Cond.code (mNm 107) (mBy 107) (mLo 107) (mRt 107) ∈ lw_good := List.mem_filter.mpr ⟨List.mem_of_getElem? (show lw_tbl[929]? = some _ from rfl), rfl⟩
set_option maxRecDepth 100000 in
theorem cwd108 : Cond.code (mNm 108) (mBy 108) (mLo 108) (mRt 108) ∈ lw_good := List.mem_filter.mpr ⟨List.mem_of_getElem? (show lw_tbl[937]? = some _ from rfl), rfl⟩
set_option maxRecDepth 100000 in
theorem cwd109 : Cond.code (mNm 109) (mBy 109) (mLo 109) (mRt 109) ∈ lw_good := List.mem_filter.mpr ⟨List.mem_of_getElem? (show lw_tbl[941]? = some _ from rfl), rfl⟩
set_option maxRecDepth 100000 in
theorem cwd110 : Cond.code (mNm 110) (mBy 110) (mLo 110) (mRt 110) ∈ lw_good := List.mem_filter.mpr ⟨List.mem_of_getElem? (show lw_tbl[1011]? = some _ from rfl), rfl⟩
set_option maxRecDepth 100000 in
theorem cwd111 : Cond.code (mNm 111) (mBy 111) (mLo 111) (mRt 111) ∈ lw_good := List.mem_filter.mpr ⟨List.mem_of_getElem? (show lw_tbl[1019]? = some _ from rfl), rfl⟩
set_option maxRecDepth 100000 in
theorem cwd112 : Cond.code (mNm 112) (mBy 112) (mLo 112) (mRt 112) ∈ lw_good := List.mem_filter.mpr ⟨List.mem_of_getElem? (show lw_tbl[1052]? = some _ from rfl), rfl⟩
set_option maxRecDepth 100000 in
theorem cwd113 : Cond.code (mNm 113) (mBy 113) (mLo 113) (mRt 113) ∈ lw_good := List.mem_filter.mpr ⟨List.mem_of_getElem? (show lw_tbl[1057]? = some _ from rfl), rfl⟩
set_option maxRecDepth 100000 in
theorem cwd114 : Cond.code (mNm 114) (mBy 114) (mLo 114) (mRt 114) ∈ lw_good := List.mem_filter.mpr ⟨List.mem_of_getElem? (show lw_tbl[1062]? = some _ from rfl), rfl⟩
set_option maxRecDepth 100000 in
theorem cwd115 : Cond.code (mNm 115) (mBy 115) (mLo 115) (mRt 115) ∈ lw_good := List.mem_filter.mpr ⟨List.mem_of_getElem? (show lw_tbl[1066]? = some _ from rfl), rfl⟩
set_option maxRecDepth 100000 in
theorem cwd116 : Cond.code (mNm 116) (mBy 116) (mLo 116) (mRt 116) ∈ lw_good := List.mem_filter.mpr ⟨List.mem_of_getElem? (show lw_tbl[1070]? = some _ from rfl), rfl⟩
set_option maxRecDepth 100000 in
theorem cwd117 : Cond.code (mNm 117) (mBy 117) (mLo 117) (mRt 117) ∈ lw_good := List.mem_filter.mpr ⟨List.mem_of_getElem? (show lw_tbl[1074]? = some _ from rfl), rfl⟩
set_option maxRecDepth 100000 in
theorem cwd118 : Cond.code (mNm 118) (mBy 118) (mLo 118) (mRt 118) ∈ lw_good := List.mem_filter.mpr ⟨List.mem_of_getElem? (show lw_tbl[1224]? = some _ from rfl), rfl⟩
set_option maxRecDepth 100000 in
theorem cwd119 : Cond.code (mNm 119) (mBy 119) (mLo 119) (mRt 119) ∈ lw_good := List.mem_filter.mpr ⟨List.mem_of_getElem? (show lw_tbl[1228]? = some _ from rfl), rfl⟩
set_option maxRecDepth 100000 in
theorem cwd120 : Cond.code (mNm 120) (mBy 120) (mLo 120) (mRt 120) ∈ lw_good := List.mem_filter.mpr ⟨List.mem_of_getElem? (show lw_tbl[1232]? = some _ from rfl), rfl⟩
set_option maxRecDepth 100000 in
theorem cwd121 : Cond.code (mNm 121) (mBy 121) (mLo 121) (mRt 121) ∈ lw_good := List.mem_filter.mpr ⟨List.mem_of_getElem? (show lw_tbl[1236]? = some _ from rfl), rfl⟩
set_option maxRecDepth 100000 in
theorem cwd122 : Cond.code (mNm 122) (mBy 122) (mLo 122) (mRt 122) ∈ lw_good := List.mem_filter.mpr ⟨List.mem_of_getElem? (show lw_tbl[1240]? = some _ from rfl), rfl⟩
set_option maxRecDepth 100000 in
theorem cwd123 : Cond.code (mNm 123) (mBy 123) (mLo 123) (mRt 123) ∈ lw_good := List.mem_filter.mpr ⟨List.mem_of_getElem? (show lw_tbl[1244]? = some _ from rfl), rfl⟩
set_option maxRecDepth 100000 in
theorem cwd124 : Cond.code (mNm 124) (mBy 124) (mLo 124) (mRt 124) ∈ lw_good := List.mem_filter.mpr ⟨List.mem_of_getElem? (show lw_tbl[1247]? = some _ from rfl), rfl⟩
set_option maxRecDepth 100000 in
theorem cwd125 : Cond.code (mNm 125) (mBy 125) (mLo 125) (mRt 125) ∈ lw_good := List.mem_filter.mpr ⟨List.mem_of_getElem? (show lw_tbl[1251]? = some _ from rfl), rfl⟩
set_option maxRecDepth 100000 in
theorem cwd126 : Cond.code (mNm 126) (mBy 126) (mLo 126) (mRt 126) ∈ lw_good := List.mem_filter.mpr ⟨List.mem_of_getElem? (show lw_tbl[1255]? = some _ from rfl), rfl⟩
set_option maxRecDepth 100000 in
theorem cwd127 : Cond.code (mNm 127) (mBy 127) (mLo 127) (mRt 127) ∈ lw_good := List.mem_filter.mpr ⟨List.mem_of_getElem? (show lw_tbl[1258]? = some _ from rfl), rfl⟩
set_option maxRecDepth 100000 in
theorem cwd128 : Cond.code (mNm 128) (mBy 128) (mLo 128) (mRt 128) ∈ lw_good := List.mem_filter.mpr ⟨List.mem_of_getElem? (show lw_tbl[1261]? = some _ from rfl), rfl⟩
set_option maxRecDepth 100000 in
theorem cwd129 : Cond.code (mNm 129) (mBy 129) (mLo 129) (mRt 129) ∈ lw_good := List.mem_filter.mpr ⟨List.mem_of_getElem? (show lw_tbl[1265]? = some _ from rfl), rfl⟩
set_option maxRecDepth 100000 in
theorem cwd130 : Cond.code (mNm 130) (mBy 130) (mLo 130) (mRt 130) ∈ lw_good := List.mem_filter.mpr ⟨List.mem_of_getElem? (show lw_tbl[1269]? = some _ from rfl), rfl⟩
set_option maxRecDepth 100000 in
theorem cwd131 : Cond.code (mNm 131) (mBy 131) (mLo 131) (mRt 131) ∈ lw_good := List.mem_filter.mpr ⟨List.mem_of_getElem? (show lw_tbl[1273]? = some _ from rfl), rfl⟩
set_option maxRecDepth 100000 in
theorem cwd132 : Cond.code (mNm 132) (mBy 132) (mLo 132) (mRt 132) ∈ lw_good := List.mem_filter.mpr ⟨List.mem_of_getElem? (show lw_tbl[1276]? = some _ from rfl), rfl⟩
set_option maxRecDepth 100000 in
theorem cwd133 : Cond.code (mNm 133) (mBy 133) (mLo 133) (mRt 133) ∈ lw_good := List.mem_filter.mpr ⟨List.mem_of_getElem? (show lw_tbl[1289]? = some _ from rfl), rfl⟩
set_option maxRecDepth 100000 in
theorem cwd134 : Cond.code (mNm 134) (mBy 134) (mLo 134) (mRt 134) ∈ lw_good := List.mem_filter.mpr ⟨List.mem_of_getElem? (show lw_tbl[1294]? = some _ from rfl), rfl⟩
set_option maxRecDepth 100000 in
theorem cwd135 : Cond.code (mNm 135) (mBy 135) (mLo 135) (mRt 135) ∈ lw_good := List.mem_filter.mpr ⟨List.mem_of_getElem? (show lw_tbl[1298]? = some _ from rfl), rfl⟩
set_option maxRecDepth 100000 in
theorem cwd136 : Cond.code (mNm 136) (mBy 136) (mLo 136) (mRt 136) ∈ lw_good := List.mem_filter.mpr ⟨List.mem_of_getElem? (show lw_tbl[1301]? = some _ from rfl), rfl⟩
set_option maxRecDepth 100000 in
theorem cwd137 : Cond.code (mNm 137) (mBy 137) (mLo 137) (mRt 137) ∈ lw_good := List.mem_filter.mpr ⟨List.mem_of_getElem? (show lw_tbl[1317]? = some _ from rfl), rfl⟩
set_option maxRecDepth 100000 in
theorem cwd138 : Cond.code (mNm 138) (mBy 138) (mLo 138) (mRt 138) ∈ lw_good := List.mem_filter.mpr ⟨List.mem_of_getElem? (show lw_tbl[1324]? = some _ from rfl), rfl⟩
set_option maxRecDepth 100000 in
theorem cwd139 : Cond.code (mNm 139) (mBy 139) (mLo 139) (mRt 139) ∈ lw_good := List.mem_filter.mpr ⟨List.mem_of_getElem? (show lw_tbl[1329]? = some _ from rfl), rfl⟩
set_option maxRecDepth 100000 in
theorem cwd140 : Cond.code (mNm 140) (mBy 140) (mLo 140) (mRt 140) ∈ lw_good := List.mem_filter.mpr ⟨List.mem_of_getElem? (show lw_tbl[1334]? = some _ from rfl), rfl⟩
set_option maxRecDepth 100000 in
theorem cwd141 : Cond.code (mNm 141) (mBy 141) (mLo 141) (mRt 141) ∈ lw_good := List.mem_filter.mpr ⟨List.mem_of_getElem? (show lw_tbl[1337]? = some _ from rfl), rfl⟩
set_option maxRecDepth 100000 in
theorem cwd142 : Cond.code (mNm 142) (mBy 142) (mLo 142) (mRt 142) ∈ lw_good := List.mem_filter.mpr ⟨List.mem_of_getElem? (show lw_tbl[1366]? = some _ from rfl), rfl⟩
set_option maxRecDepth 100000 in
theorem cwd143 : Cond.code (mNm 143) (mBy 143) (mLo 143) (mRt 143) ∈ lw_good := List.mem_filter.mpr ⟨List.mem_of_getElem? (show lw_tbl[1369]? = some _ from rfl), rfl⟩
set_option maxRecDepth 100000 in
theorem cwd144 : Cond.code (mNm 144) (mBy 144) (mLo 144) (mRt 144) ∈ lw_good := List.mem_filter.mpr ⟨List.mem_of_getElem? (show lw_tbl[1378]? = some _ from rfl), rfl⟩
set_option maxRecDepth 100000 in
theorem cwd145 : Cond.code (mNm 145) (mBy 145) (mLo 145) (mRt 145) ∈ lw_good := List.mem_filter.mpr ⟨List.mem_of_getElem? (show lw_tbl[1382]? = some _ from rfl), rfl⟩
set_option maxRecDepth 100000 in
theorem cwd146 : Cond.code (mNm 146) (mBy 146) (mLo 146) (mRt 146) ∈ lw_good := List.mem_filter.mpr ⟨List.mem_of_getElem? (show lw_tbl[1388]? = some _ from rfl), rfl⟩
set_option maxRecDepth 100000 in
theorem cwd147 : Cond.code (mNm 147) (mBy 147) (mLo 147) (mRt 147) ∈ lw_good := List.mem_filter.mpr ⟨List.mem_of_getElem? (show lw_tbl[1392]? = some _ from rfl), rfl⟩
set_option maxRecDepth 100000 in
theorem cwd148 : Cond.code (mNm 148) (mBy 148) (mLo 148) (mRt 148) ∈ lw_good := List.mem_filter.mpr ⟨List.mem_of_getElem? (show lw_tbl[1398]? = some _ from rfl), rfl⟩
set_option maxRecDepth 100000 in
theorem cwd149 : Cond.code (mNm 149) (mBy 149) (mLo 149) (mRt 149) ∈ lw_good := List.mem_filter.mpr ⟨List.mem_of_getElem? (show lw_tbl[1401]? = some _ from rfl), rfl⟩
set_option maxRecDepth 100000 in
theorem cwd150 : Cond.code (mNm 150) (mBy 150) (mLo 150) (mRt 150) ∈ lw_good := List.mem_filter.mpr ⟨List.mem_of_getElem? (show lw_tbl[1404]? = some _ from rfl), rfl⟩
set_option maxRecDepth 100000 in
theorem cwd151 : Cond.code (mNm 151) (mBy 151) (mLo 151) (mRt 151) ∈ lw_good := List.mem_filter.mpr ⟨List.mem_of_getElem? (show lw_tbl[1408]? = some _ from rfl), rfl⟩
set_option maxRecDepth 100000 in
theorem cwd152 : Cond.code (mNm 152) (mBy 152) (mLo 152) (mRt 152) ∈ lw_good := List.mem_filter.mpr ⟨List.mem_of_getElem? (show lw_tbl[1411]? = some _ from rfl), rfl⟩
set_option maxRecDepth 100000 in
theorem cwd153 : Cond.code (mNm 153) (mBy 153) (mLo 153) (mRt 153) ∈ lw_good := List.mem_filter.mpr ⟨List.mem_of_getElem? (show lw_tbl[1420]? = some _ from rfl), rfl⟩
set_option maxRecDepth 100000 in
theorem cwd154 : Cond.code (mNm 154) (mBy 154) (mLo 154) (mRt 154) ∈ lw_good := List.mem_filter.mpr ⟨List.mem_of_getElem? (show lw_tbl[1423]? = some _ from rfl), rfl⟩
set_option maxRecDepth 100000 in
theorem cwd155 : Cond.code (mNm 155) (mBy 155) (mLo 155) (mRt 155) ∈ lw_good := List.mem_filter.mpr ⟨List.mem_of_getElem? (show lw_tbl[1432]? = some _ from rfl), rfl⟩
set_option maxRecDepth 100000 in
theorem cwd156 : Cond.code (mNm 156) (mBy 156) (mLo 156) (mRt 156) ∈ lw_good := List.mem_filter.mpr ⟨List.mem_of_getElem? (show lw_tbl[1436]? = some _ from rfl), rfl⟩
set_option maxRecDepth 100000 in
theorem cwd157 : Cond.code (mNm 157) (mBy 157) (mLo 157) (mRt 157) ∈ lw_good := List.mem_filter.mpr ⟨List.mem_of_getElem? (show lw_tbl[1440]? = some _ from rfl), rfl⟩
set_option maxRecDepth 100000 in
theorem cwd158 : Cond.code (mNm 158) (mBy 158) (mLo 158) (mRt 158) ∈ lw_good := List.mem_filter.mpr ⟨List.mem_of_getElem? (show lw_tbl[1444]? = some _ from rfl), rfl⟩
set_option maxRecDepth 100000 in
theorem cwd159 : Cond.code (mNm 159) (mBy 159) (mLo 159) (mRt 159) ∈ lw_good := List.mem_filter.mpr ⟨List.mem_of_getElem? (show lw_tbl[1448]? = some _ from rfl), rfl⟩
set_option maxRecDepth 100000 in
theorem cwd160 : Cond.code (mNm 160) (mBy 160) (mLo 160) (mRt 160) ∈ lw_good := List.mem_filter.mpr ⟨List.mem_of_getElem? (show lw_tbl[1452]? = some _ from rfl), rfl⟩
set_option maxRecDepth 100000 in
theorem cwd161 : Cond.code (mNm 161) (mBy 161) (mLo 161) (mRt 161) ∈ lw_good := List.mem_filter.mpr ⟨List.mem_of_getElem? (show lw_tbl[1457]? = some _ from rfl), rfl⟩
set_option maxRecDepth 100000 in
theorem cwd162 : Cond.code (mNm 162) (mBy 162) (mLo 162) (mRt 162) ∈ lw_good := List.mem_filter.mpr ⟨List.mem_of_getElem? (show lw_tbl[1461]? = some _ from rfl), rfl⟩
set_option maxRecDepth 100000 in
theorem cwd163 : Cond.code (mNm 163) (mBy 163) (mLo 163) (mRt 163) ∈ lw_good := List.mem_filter.mpr ⟨List.mem_of_getElem? (show lw_tbl[1465]? = some _ from rfl), rfl⟩
set_option maxRecDepth 100000 in
theorem cwd164 : Cond.code (mNm 164) (mBy 164) (mLo 164) (mRt 164) ∈ lw_good := List.mem_filter.mpr ⟨List.mem_of_getElem? (show lw_tbl[1469]? = some _ from rfl), rfl⟩
set_option maxRecDepth 100000 in
theorem cwd165 : Cond.code (mNm 165) (mBy 165) (mLo 165) (mRt 165) ∈ lw_good := List.mem_filter.mpr ⟨List.mem_of_getElem? (show lw_tbl[1473]? = some _ from rfl), rfl⟩
set_option maxRecDepth 100000 in
theorem cwd166 : Cond.code (mNm 166) (mBy 166) (mLo 166) (mRt 166) ∈ lw_good := List.mem_filter.mpr ⟨List.mem_of_getElem? (show lw_tbl[1477]? = some _ from rfl), rfl⟩
set_option maxRecDepth 100000 in
theorem cwd167 : Cond.code (mNm 167) (mBy 167) (mLo 167) (mRt 167) ∈ lw_good := List.mem_filter.mpr ⟨List.mem_of_getElem? (show lw_tbl[1481]? = some _ from rfl), rfl⟩
set_option maxRecDepth 100000 in
theorem cwd168 : Cond.code (mNm 168) (mBy 168) (mLo 168) (mRt 168) ∈ lw_good := List.mem_filter.mpr ⟨List.mem_of_getElem? (show lw_tbl[1485]? = some _ from rfl), rfl⟩
set_option maxRecDepth 100000 in
theorem cwd169 : Cond.code (mNm 169) (mBy 169) (mLo 169) (mRt 169) ∈ lw_good := List.mem_filter.mpr ⟨List.mem_of_getElem? (show lw_tbl[1489]? = some _ from rfl), rfl⟩
set_option maxRecDepth 100000 in
theorem cwd170 : Cond.code (mNm 170) (mBy 170) (mLo 170) (mRt 170) ∈ lw_good := List.mem_filter.mpr ⟨List.mem_of_getElem? (show lw_tbl[1493]? = some _ from rfl), rfl⟩
set_option maxRecDepth 100000 in
theorem cwd171 : Cond.code (mNm 171) (mBy 171) (mLo 171) (mRt 171) ∈ lw_good := List.mem_filter.mpr ⟨List.mem_of_getElem? (show lw_tbl[1497]? = some _ from rfl), rfl⟩
set_option maxRecDepth 100000 in
theorem cwd172 : Cond.code (mNm 172) (mBy 172) (mLo 172) (mRt 172) ∈ lw_good := List.mem_filter.mpr ⟨List.mem_of_getElem? (show lw_tbl[1501]? = some _ from rfl), rfl⟩
set_option maxRecDepth 100000 in
theorem cwd173 : Cond.code (mNm 173) (mBy 173) (mLo 173) (mRt 173) ∈ lw_good := List.mem_filter.mpr ⟨List.mem_of_getElem? (show lw_tbl[1505]? = some _ from rfl), rfl⟩
set_option maxRecDepth 100000 in
theorem cwd174 : Cond.code (mNm 174) (mBy 174) (mLo 174) (mRt 174) ∈ lw_good := List.mem_filter.mpr ⟨List.mem_of_getElem? (show lw_tbl[1509]? = some _ from rfl), rfl⟩
set_option maxRecDepth 100000 in
theorem cwd175 : Cond.code (mNm 175) (mBy 175) (mLo 175) (mRt 175) ∈ lw_good := List.mem_filter.mpr ⟨List.mem_of_getElem? (show lw_tbl[1512]? = some _ from rfl), rfl⟩
set_option maxRecDepth 100000 in
theorem cwd176 : Cond.code (mNm 176) (mBy 176) (mLo 176) (mRt 176) ∈ lw_good := List.mem_filter.mpr ⟨List.mem_of_getElem? (show lw_tbl[1516]? = some _ from rfl), rfl⟩
set_option maxRecDepth 100000 in
theorem cwd177 : Cond.code (mNm 177) (mBy 177) (mLo 177) (mRt 177) ∈ lw_good := List.mem_filter.mpr ⟨List.mem_of_getElem? (show lw_tbl[1521]? = some _ from rfl), rfl⟩
set_option maxRecDepth 100000 in
theorem cwd178 : Cond.code (mNm 178) (mBy 178) (mLo 178) (mRt 178) ∈ lw_good := List.mem_filter.mpr ⟨List.mem_of_getElem? (show lw_tbl[1525]? = some _ from rfl), rfl⟩
set_option maxRecDepth 100000 in
theorem cwd179 : Cond.code (mNm 179) (mBy 179) (mLo 179) (mRt 179) ∈ lw_good := List.mem_filter.mpr ⟨List.mem_of_getElem? (show lw_tbl[1528]? = some _ from rfl), rfl⟩
set_option maxRecDepth 100000 in
theorem cwd180 : Cond.code (mNm 180) (mBy 180) (mLo 180) (mRt 180) ∈ lw_good := List.mem_filter.mpr ⟨List.mem_of_getElem? (show lw_tbl[1541]? = some _ from rfl), rfl⟩
set_option maxRecDepth 100000 in
theorem cwd181 : Cond.code (mNm 181) (mBy 181) (mLo 181) (mRt 181) ∈ lw_good := List.mem_filter.mpr ⟨List.mem_of_getElem? (show lw_tbl[1544]? = some _ from rfl), rfl⟩
set_option maxRecDepth 100000 in
theorem cwd182 : Cond.code (mNm 182) (mBy 182) (mLo 182) (mRt 182) ∈ lw_good := List.mem_filter.mpr ⟨List.mem_of_getElem? (show lw_tbl[1548]? = some _ from rfl), rfl⟩
set_option maxRecDepth 100000 in
theorem cwd183 : Cond.code (mNm 183) (mBy 183) (mLo 183) (mRt 183) ∈ lw_good := List.mem_filter.mpr ⟨List.mem_of_getElem? (show lw_tbl[1552]? = some _ from rfl), rfl⟩
set_option maxRecDepth 100000 in
theorem cwd184 : Cond.code (mNm 184) (mBy 184) (mLo 184) (mRt 184) ∈ lw_good := List.mem_filter.mpr ⟨List.mem_of_getElem? (show lw_tbl[1556]? = some _ from rfl), rfl⟩
set_option maxRecDepth 100000 in
theorem cwd185 : Cond.code (mNm 185) (mBy 185) (mLo 185) (mRt 185) ∈ lw_good := List.mem_filter.mpr ⟨List.mem_of_getElem? (show lw_tbl[1560]? = some _ from rfl), rfl⟩
set_option maxRecDepth 100000 in
theorem cwd186 : Cond.code (mNm 186) (mBy 186) (mLo 186) (mRt 186) ∈ lw_good := List.mem_filter.mpr ⟨List.mem_of_getElem? (show lw_tbl[1564]? = some _ from rfl), rfl⟩
set_option maxRecDepth 100000 in
theorem cwd187 : Cond.code (mNm 187) (mBy 187) (mLo 187) (mRt 187) ∈ lw_good := List.mem_filter.mpr ⟨List.mem_of_getElem? (show lw_tbl[1568]? = some _ from rfl), rfl⟩
set_option maxRecDepth 100000 in
theorem cwd188 : Cond.code (mNm 188) (mBy 188) (mLo 188) (mRt 188) ∈ lw_good := List.mem_filter.mpr ⟨List.mem_of_getElem? (show lw_tbl[1572]? = some _ from rfl), rfl⟩
set_option maxRecDepth 100000 in
theorem cwd189 : Cond.code (mNm 189) (mBy 189) (mLo 189) (mRt 189) ∈ lw_good := List.mem_filter.mpr ⟨List.mem_of_getElem? (show lw_tbl[1576]? = some _ from rfl), rfl⟩
set_option maxRecDepth 100000 in
theorem cwd190 : Cond.code (mNm 190) (mBy 190) (mLo 190) (mRt 190) ∈ lw_good := List.mem_filter.mpr ⟨List.mem_of_getElem? (show lw_tbl[1579]? = some _ from rfl), rfl⟩
set_option maxRecDepth 100000 in
theorem cwd191 : Cond.code (mNm 191) (mBy 191) (mLo 191) (mRt 191) ∈ lw_good := List.mem_filter.mpr ⟨List.mem_of_getElem? (show lw_tbl[1583]? = some _ from rfl), rfl⟩
set_option maxRecDepth 100000 in
theorem cwd192 : Cond.code (mNm 192) (mBy 192) (mLo 192) (mRt 192) ∈ lw_good := List.mem_filter.mpr ⟨List.mem_of_getElem? (show lw_tbl[1586]? = some _ from rfl), rfl⟩
set_option maxRecDepth 100000 in
theorem cwd193 : Cond.code (mNm 193) (mBy 193) (mLo 193) (mRt 193) ∈ lw_good := List.mem_filter.mpr ⟨List.mem_of_getElem? (show lw_tbl[1590]? = some _ from rfl), rfl⟩
set_option maxRecDepth 100000 in
theorem cwd194 : Cond.code (mNm 194) (mBy 194) (mLo 194) (mRt 194) ∈ lw_good := List.mem_filter.mpr ⟨List.mem_of_getElem? (show lw_tbl[1594]? = some _ from rfl), rfl⟩
set_option maxRecDepth 100000 in
theorem cwd195 : Cond.code (mNm 195) (mBy 195) (mLo 195) (mRt 195) ∈ lw_good := List.mem_filter.mpr ⟨List.mem_of_getElem? (show lw_tbl[1598]? = some _ from rfl), rfl⟩
set_option maxRecDepth 100000 in
theorem cwd196 : Cond.code (mNm 196) (mBy 196) (mLo 196) (mRt 196) ∈ lw_good := List.mem_filter.mpr ⟨List.mem_of_getElem? (show lw_tbl[1601]? = some _ from rfl), rfl⟩
set_option maxRecDepth 100000 in
theorem cwd197 : Cond.code (mNm 197) (mBy 197) (mLo 197) (mRt 197) ∈ lw_good := List.mem_filter.mpr ⟨List.mem_of_getElem? (show lw_tbl[1604]? = some _ from rfl), rfl⟩
set_option maxRecDepth 100000 in
theorem cwd198 : Cond.code (mNm 198) (mBy 198) (mLo 198) (mRt 198) ∈ lw_good := List.mem_filter.mpr ⟨List.mem_of_getElem? (show lw_tbl[1608]? = some _ from rfl), rfl⟩
set_option maxRecDepth 100000 in
theorem cwd199 : Cond.code (mNm 199) (mBy 199) (mLo 199) (mRt 199) ∈ lw_good := List.mem_filter.mpr ⟨List.mem_of_getElem? (show lw_tbl[1611]? = some _ from rfl), rfl⟩
set_option maxRecDepth 100000 in
theorem cwd200 : Cond.code (mNm 200) (mBy 200) (mLo 200) (mRt 200) ∈ lw_good := List.mem_filter.mpr ⟨List.mem_of_getElem? (show lw_tbl[1614]? = some _ from rfl), rfl⟩
set_option maxRecDepth 100000 in
theorem cwd201 : Cond.code (mNm 201) (mBy 201) (mLo 201) (mRt 201) ∈ lw_good := List.mem_filter.mpr ⟨List.mem_of_getElem? (show lw_tbl[1617]? = some _ from rfl), rfl⟩
set_option maxRecDepth 100000 in
theorem cwd202 : Cond.code (mNm 202) (mBy 202) (mLo 202) (mRt 202) ∈ lw_good := List.mem_filter.mpr ⟨List.mem_of_getElem? (show lw_tbl[1620]? = some _ from rfl), rfl⟩
set_option maxRecDepth 100000 in
theorem cwd203 : Cond.code (mNm 203) (mBy 203) (mLo 203) (mRt 203) ∈ lw_good := List.mem_filter.mpr ⟨List.mem_of_getElem? (show lw_tbl[1624]? = some _ from rfl), rfl⟩
set_option maxRecDepth 100000 in
theorem cwd204 : Cond.code (mNm 204) (mBy 204) (mLo 204) (mRt 204) ∈ lw_good := List.mem_filter.mpr ⟨List.mem_of_getElem? (show lw_tbl[1628]? = some _ from rfl), rfl⟩
set_option maxRecDepth 100000 in
theorem cwd205 : Cond.code (mNm 205) (mBy 205) (mLo 205) (mRt 205) ∈ lw_good := List.mem_filter.mpr ⟨List.mem_of_getElem? (show lw_tbl[1633]? = some _ from rfl), rfl⟩
set_option maxRecDepth 100000 in
theorem cwd206 : Cond.code (mNm 206) (mBy 206) (mLo 206) (mRt 206) ∈ lw_good := List.mem_filter.mpr ⟨List.mem_of_getElem? (show lw_tbl[1637]? = some _ from rfl), rfl⟩
set_option maxRecDepth 100000 in
theorem cwd207 : Cond.code (mNm 207) (mBy 207) (mLo 207) (mRt 207) ∈ lw_good := List.mem_filter.mpr ⟨List.mem_of_getElem? (show lw_tbl[1641]? = some _ from rfl), rfl⟩
set_option maxRecDepth 100000 in
theorem cwd208 : Cond.code (mNm 208) (mBy 208) (mLo 208) (mRt 208) ∈ lw_good := List.mem_filter.mpr ⟨List.mem_of_getElem? (show lw_tbl[1645]? = some _ from rfl), rfl⟩
set_option maxRecDepth 100000 in
theorem cwd209 : Cond.code (mNm 209) (mBy 209) (mLo 209) (mRt 209) ∈ lw_good := List.mem_filter.mpr ⟨List.mem_of_getElem? (show lw_tbl[1649]? = some _ from rfl), rfl⟩
set_option maxRecDepth 100000 in
theorem cwd210 : Cond.code (mNm 210) (mBy 210) (mLo 210) (mRt 210) ∈ lw_good := List.mem_filter.mpr ⟨List.mem_of_getElem? (show lw_tbl[1653]? = some _ from rfl), rfl⟩
set_option maxRecDepth 100000 in
theorem cwd211 : Cond.code (mNm 211) (mBy 211) (mLo 211) (mRt 211) ∈ lw_good := List.mem_filter.mpr ⟨List.mem_of_getElem? (show lw_tbl[1657]? = some _ from rfl), rfl⟩
set_option maxRecDepth 100000 in
theorem cwd212 : Cond.code (mNm 212) (mBy 212) (mLo 212) (mRt 212) ∈ lw_good := List.mem_filter.mpr ⟨List.mem_of_getElem? (show lw_tbl[1661]? = some _ from rfl), rfl⟩
set_option maxRecDepth 100000 in
theorem cwd213 : Cond.code (mNm 213) (mBy 213) (mLo 213) (mRt 213) ∈ lw_good := List.mem_filter.mpr ⟨List.mem_of_getElem? (show lw_tbl[882]? = some _ from rfl), rfl⟩
set_option maxRecDepth 100000 in
theorem cwd214 : Cond.code (mNm 214) (mBy 214) (mLo 214) (mRt 214) ∈ lw_good := List.mem_filter.mpr ⟨List.mem_of_getElem? (show lw_tbl[885]? = some _ from rfl), rfl⟩
set_option maxRecDepth 100000 in
theorem cwd215 : Cond.code (mNm 215) (mBy 215) (mLo 215) (mRt 215) ∈ lw_good := List.mem_filter.mpr ⟨List.mem_of_getElem? (show lw_tbl[892]? = some _ from rfl), rfl⟩
set_option maxRecDepth 100000 in
theorem cwd216 : Cond.code (mNm 216) (mBy 216) (mLo 216) (mRt 216) ∈ lw_good := List.mem_filter.mpr ⟨List.mem_of_getElem? (show lw_tbl[895]? = some _ from rfl), rfl⟩
set_option maxRecDepth 100000 in
theorem cwd217 : Cond.code (mNm 217) (mBy 217) (mLo 217) (mRt 217) ∈ lw_good := List.mem_filter.mpr ⟨List.mem_of_getElem? (show lw_tbl[898]? = some _ from rfl), rfl⟩
set_option maxRecDepth 100000 in
theorem cwd218 : Cond.code (mNm 218) (mBy 218) (mLo 218) (mRt 218) ∈ lw_good := List.mem_filter.mpr ⟨List.mem_of_getElem? (show lw_tbl[901]? = some _ from rfl), rfl⟩
set_option maxRecDepth 100000 in
theorem cwd219 : Cond.code (mNm 219) (mBy 219) (mLo 219) (mRt 219) ∈ lw_good := List.mem_filter.mpr ⟨List.mem_of_getElem? (show lw_tbl[904]? = some _ from rfl), rfl⟩
set_option maxRecDepth 100000 in
theorem cwd220 : Cond.code (mNm 220) (mBy 220) (mLo 220) (mRt 220) ∈ lw_good := List.mem_filter.mpr ⟨List.mem_of_getElem? (show lw_tbl[910]? = some _ from rfl), rfl⟩
set_option maxRecDepth 100000 in
theorem cwd221 : Cond.code (mNm 221) (mBy 221) (mLo 221) (mRt 221) ∈ lw_good := List.mem_filter.mpr ⟨List.mem_of_getElem? (show lw_tbl[915]? = some _ from rfl), rfl⟩
set_option maxRecDepth 100000 in
theorem cwd222 : Cond.code (mNm 222) (mBy 222) (mLo 222) (mRt 222) ∈ lw_good := List.mem_filter.mpr ⟨List.mem_of_getElem? (show lw_tbl[919]? = some _ from rfl), rfl⟩
set_option maxRecDepth 100000 in
theorem cwd223 : Cond.code (mNm 223) (mBy 223) (mLo 223) (mRt 223) ∈ lw_good := List.mem_filter.mpr ⟨List.mem_of_getElem? (show lw_tbl[922]? = some _ from rfl), rfl⟩
set_option maxRecDepth 100000 in
theorem cwd224 : Cond.code (mNm 224) (mBy 224) (mLo 224) (mRt 224) ∈ lw_good := List.mem_filter.mpr ⟨List.mem_of_getElem? (show lw_tbl[925]? = some _ from rfl), rfl⟩
set_option maxRecDepth 100000 in
theorem cwd225 : Cond.code (mNm 225) (mBy 225) (mLo 225) (mRt 225) ∈ lw_good := List.mem_filter.mpr ⟨List.mem_of_getElem? (show lw_tbl[932]? = some _ from rfl), rfl⟩
set_option maxRecDepth 100000 in
theorem cwd226 : Cond.code (mNm 226) (mBy 226) (mLo 226) (mRt 226) ∈ lw_good := List.mem_filter.mpr ⟨List.mem_of_getElem? (show lw_tbl[261]? = some _ from rfl), rfl⟩
set_option maxRecDepth 100000 in
theorem cwd227 : Cond.code (mNm 227) (mBy 227) (mLo 227) (mRt 227) ∈ lw_good := List.mem_filter.mpr ⟨List.mem_of_getElem? (show lw_tbl[265]? = some _ from rfl), rfl⟩
set_option maxRecDepth 100000 in
theorem cwd228 : Cond.code (mNm 228) (mBy 228) (mLo 228) (mRt 228) ∈ lw_good := List.mem_filter.mpr ⟨List.mem_of_getElem? (show lw_tbl[306]? = some _ from rfl), rfl⟩
set_option maxRecDepth 100000 in
theorem cwd229 : Cond.code (mNm 229) (mBy 229) (mLo 229) (mRt 229) ∈ lw_good := List.mem_filter.mpr ⟨List.mem_of_getElem? (show lw_tbl[310]? = some _ from rfl), rfl⟩
set_option maxRecDepth 100000 in
theorem cwd230 : Cond.code (mNm 230) (mBy 230) (mLo 230) (mRt 230) ∈ lw_good := List.mem_filter.mpr ⟨List.mem_of_getElem? (show lw_tbl[362]? = some _ from rfl), rfl⟩
set_option maxRecDepth 100000 in
theorem cwd231 : Cond.code (mNm 231) (mBy 231) (mLo 231) (mRt 231) ∈ lw_good := List.mem_filter.mpr ⟨List.mem_of_getElem? (show lw_tbl[428]? = some _ from rfl), rfl⟩
set_option maxRecDepth 100000 in
theorem cwd232 : Cond.code (mNm 232) (mBy 232) (mLo 232) (mRt 232) ∈ lw_good := List.mem_filter.mpr ⟨List.mem_of_getElem? (show lw_tbl[432]? = some _ from rfl), rfl⟩
set_option maxRecDepth 100000 in
theorem cwd233 : Cond.code (mNm 233) (mBy 233) (mLo 233) (mRt 233) ∈ lw_good := List.mem_filter.mpr ⟨List.mem_of_getElem? (show lw_tbl[270]? = some _ from rfl), rfl⟩
set_option maxRecDepth 100000 in
theorem cwd234 : Cond.code (mNm 234) (mBy 234) (mLo 234) (mRt 234) ∈ lw_good := List.mem_filter.mpr ⟨List.mem_of_getElem? (show lw_tbl[273]? = some _ from rfl), rfl⟩
set_option maxRecDepth 100000 in
theorem cwd235 : Cond.code (mNm 235) (mBy 235) (mLo 235) (mRt 235) ∈ lw_good := List.mem_filter.mpr ⟨List.mem_of_getElem? (show lw_tbl[365]? = some _ from rfl), rfl⟩
set_option maxRecDepth 100000 in
theorem cwd236 : Cond.code (mNm 236) (mBy 236) (mLo 236) (mRt 236) ∈ lw_good := List.mem_filter.mpr ⟨List.mem_of_getElem? (show lw_tbl[436]? = some _ from rfl), rfl⟩
set_option maxRecDepth 100000 in
theorem cwd237 : Cond.code (mNm 237) (mBy 237) (mLo 237) (mRt 237) ∈ lw_good := List.mem_filter.mpr ⟨List.mem_of_getElem? (show lw_tbl[439]? = some _ from rfl), rfl⟩
set_option maxRecDepth 100000 in
theorem cwd238 : Cond.code (mNm 238) (mBy 238) (mLo 238) (mRt 238) ∈ lw_good := List.mem_filter.mpr ⟨List.mem_of_getElem? (show lw_tbl[444]? = some _ from rfl), rfl⟩
theorem cwd_ok : ∀ y, y < 239 → Cond.code (mNm y) (mBy y) (mLo y) (mRt y) ∈ lw_good
  | 0, _ => cwd0
  | 1, _ => cwd1
  | 2, _ => cwd2
  | 3, _ => cwd3
  | 4, _ => cwd4
  | 5, _ => cwd5
  | 6, _ => cwd6
  | 7, _ => cwd7
  | 8, _ => cwd8
  | 9, _ => cwd9
  | 10, _ => cwd10
  | 11, _ => cwd11
  | 12, _ => cwd12
  | 13, _ => cwd13
  | 14, _ => cwd14
  | 15, _ => cwd15
  | 16, _ => cwd16
  | 17, _ => cwd17
  | 18, _ => cwd18
  | 19, _ => cwd19
  | 20, _ => cwd20
  | 21, _ => cwd21
  | 22, _ => cwd22
  | 23, _ => cwd23
  | 24, _ => cwd24
  | 25, _ => cwd25
  | 26, _ => cwd26
  | 27, _ => cwd27
  | 28, _ => cwd28
  | 29, _ => cwd29
  | 30, _ => cwd30
  | 31, _ => cwd31
  | 32, _ => cwd32
  | 33, _ => cwd33
  | 34, _ => cwd34
  | 35, _ => cwd35
  | 36, _ => cwd36
  | 37, _ => cwd37
  | 38, _ => cwd38
  | 39, _ => cwd39
  | 40, _ => cwd40
  | 41, _ => cwd41
  | 42, _ => cwd42
  | 43, _ => cwd43
  | 44, _ => cwd44
  | 45, _ => cwd45
  | 46, _ => cwd46
  | 47, _ => cwd47
  | 48, _ => cwd48
  | 49, _ => cwd49
  | 50, _ => cwd50
  | 51, _ => cwd51
  | 52, _ => cwd52
  | 53, _ => cwd53
  | 54, _ => cwd54
  | 55, _ => cwd55
  | 56, _ => cwd56
  | 57, _ => cwd57
  | 58, _ => cwd58
  | 59, _ => cwd59
  | 60, _ => cwd60
  | 61, _ => cwd61
  | 62, _ => cwd62
  | 63, _ => cwd63
  | 64, _ => cwd64
  | 65, _ => cwd65
  | 66, _ => cwd66
  | 67, _ => cwd67
  | 68, _ => cwd68
  | 69, _ => cwd69
  | 70, _ => cwd70
  | 71, _ => cwd71
  | 72, _ => cwd72
  | 73, _ => cwd73
  | 74, _ => cwd74
  | 75, _ => cwd75
  | 76, _ => cwd76
  | 77, _ => cwd77
  | 78, _ => cwd78
  | 79, _ => cwd79
  | 80, _ => cwd80
  | 81, _ => cwd81
  | 82, _ => cwd82
  | 83, _ => cwd83
  | 84, _ => cwd84
  | 85, _ => cwd85
  | 86, _ => cwd86
  | 87, _ => cwd87
  | 88, _ => cwd88
  | 89, _ => cwd89
  | 90, _ => cwd90
  | 91, _ => cwd91
  | 92, _ => cwd92
  | 93, _ => cwd93
  | 94, _ => cwd94
  | 95, _ => cwd95
  | 96, _ => cwd96
  | 97, _ => cwd97
  | 98, _ => cwd98
  | 99, _ => cwd99
  | 100, _ => cwd100
  | 101, _ => cwd101
  | 102, _ => cwd102
  | 103, _ => cwd103
  | 104, _ => cwd104
  | 105, _ => cwd105
  | 106, _ => cwd106
  | 107, _ => cwd107
  | 108, _ => cwd108
  | 109, _ => cwd109
  | 110, _ => cwd110
  | 111, _ => cwd111
  | 112, _ => cwd112
  | 113, _ => cwd113
  | 114, _ => cwd114
  | 115, _ => cwd115
  | 116, _ => cwd116
  | 117, _ => cwd117
  | 118, _ => cwd118
  | 119, _ => cwd119
  | 120, _ => cwd120
  | 121, _ => cwd121
  | 122, _ => cwd122
  | 123, _ => cwd123
  | 124, _ => cwd124
  | 125, _ => cwd125
  | 126, _ => cwd126
  | 127, _ => cwd127
  | 128, _ => cwd128
  | 129, _ => cwd129
  | 130, _ => cwd130
  | 131, _ => cwd131
  | 132, _ => cwd132
  | 133, _ => cwd133
  | 134, _ => cwd134
  | 135, _ => cwd135
  | 136, _ => cwd136
  | 137, _ => cwd137
  | 138, _ => cwd138
  | 139, _ => cwd139
  | 140, _ => cwd140
  | 141, _ => cwd141
  | 142, _ => cwd142
  | 143, _ => cwd143
  | 144, _ => cwd144
  | 145, _ => cwd145
  | 146, _ => cwd146
  | 147, _ => cwd147
  | 148, _ => cwd148
  | 149, _ => cwd149
  | 150, _ => cwd150
  | 151, _ => cwd151
  | 152, _ => cwd152
  | 153, _ => cwd153
  | 154, _ => cwd154
  | 155, _ => cwd155
  | 156, _ => cwd156
  | 157, _ => cwd157
  | 158, _ => cwd158
  | 159, _ => cwd159
  | 160, _ => cwd160
  | 161, _ => cwd161
  | 162, _ => cwd162
  | 163, _ => cwd163
  | 164, _ => cwd164
  | 165, _ => cwd165
  | 166, _ => cwd166
  | 167, _ => cwd167
  | 168, _ => cwd168
  | 169, _ => cwd169
  | 170, _ => cwd170
  | 171, _ => cwd171
  | 172, _ => cwd172
  | 173, _ => cwd173
  | 174, _ => cwd174
  | 175, _ => cwd175
  | 176, _ => cwd176
  | 177, _ => cwd177
  | 178, _ => cwd178
  | 179, _ => cwd179
  | 180, _ => cwd180
  | 181, _ => cwd181
  | 182, _ => cwd182
  | 183, _ => cwd183
  | 184, _ => cwd184
  | 185, _ => cwd185
  | 186, _ => cwd186
  | 187, _ => cwd187
  | 188, _ => cwd188
  | 189, _ => cwd189
  | 190, _ => cwd190
  | 191, _ => cwd191
  | 192, _ => cwd192
  | 193, _ => cwd193
  | 194, _ => cwd194
  | 195, _ => cwd195
  | 196, _ => cwd196
  | 197, _ => cwd197
  | 198, _ => cwd198
  | 199, _ => cwd199
  | 200, _ => cwd200
  | 201, _ => cwd201
  | 202, _ => cwd202
  | 203, _ => cwd203
  | 204, _ => cwd204
  | 205, _ => cwd205
  | 206, _ => cwd206
  | 207, _ => cwd207
  | 208, _ => cwd208
  | 209, _ => cwd209
  | 210, _ => cwd210
  | 211, _ => cwd211
  | 212, _ => cwd212
  | 213, _ => cwd213
  | 214, _ => cwd214
  | 215, _ => cwd215
  | 216, _ => cwd216
  | 217, _ => cwd217
  | 218, _ => cwd218
  | 219, _ => cwd219
  | 220, _ => cwd220
  | 221, _ => cwd221
  | 222, _ => cwd222
  | 223, _ => cwd223
  | 224, _ => cwd224
  | 225, _ => cwd225
  | 226, _ => cwd226
  | 227, _ => cwd227
  | 228, _ => cwd228
  | 229, _ => cwd229
  | 230, _ => cwd230
  | 231, _ => cwd231
  | 232, _ => cwd232
  | 233, _ => cwd233
  | 234, _ => cwd234
  | 235, _ => cwd235
  | 236, _ => cwd236
  | 237, _ => cwd237
  | 238, _ => cwd238
  | n + 239, h => absurd h (by omega)
set_option maxRecDepth 100000 in
theorem cm0 : chkM 0 = true := by decide +kernel
set_option maxRecDepth 100000 in
theorem cm1 : chkM 1 = true := by decide +kernel
set_option maxRecDepth 100000 in
theorem cm2 : chkM 2 = true := by decide +kernel
set_option maxRecDepth 100000 in
theorem cm3 : chkM 3 = true := by decide +kernel
set_option maxRecDepth 100000 in
theorem cm4 : chkM 4 = true := by decide +kernel
set_option maxRecDepth 100000 in
theorem cm5 : chkM 5 = true := by decide +kernel
set_option maxRecDepth 100000 in
theorem cm6 : chkM 6 = true := by decide +kernel
set_option maxRecDepth 100000 in
theorem cm7 : chkM 7 = true := by decide +kernel
set_option maxRecDepth 100000 in
theorem cm8 : chkM 8 = true := by decide +kernel
set_option maxRecDepth 100000 in
theorem cm9 : chkM 9 = true := by decide +kernel
set_option maxRecDepth 100000 in
theorem cm10 : chkM 10 = true := by decide +kernel
set_option maxRecDepth 100000 in
theorem cm11 : chkM 11 = true := by decide +kernel
set_option maxRecDepth 100000 in
theorem cm12 : chkM 12 = true := by decide +kernel
set_option maxRecDepth 100000 in
theorem cm13 : chkM 13 = true := by decide +kernel
set_option maxRecDepth 100000 in
theorem cm14 : chkM 14 = true := by decide +kernel
set_option maxRecDepth 100000 in
theorem cm15 : chkM 15 = true := by decide +kernel
set_option maxRecDepth 100000 in
theorem cm16 : chkM 16 = true := by decide +kernel
set_option maxRecDepth 100000 in
theorem cm17 : chkM 17 = true := by decide +kernel
set_option maxRecDepth 100000 in
theorem cm18 : chkM 18 = true := by decide +kernel
set_option maxRecDepth 100000 in
theorem cm19 : chkM 19 = true := by decide +kernel
set_option maxRecDepth 100000 in
theorem cm20 : chkM 20 = true := by decide +kernel
set_option maxRecDepth 100000 in
theorem cm21 : chkM 21 = true := by decide +kernel
set_option maxRecDepth 100000 in
theorem cm22 : chkM 22 = true := by decide +kernel
set_option maxRecDepth 100000 in
theorem cm23 : chkM 23 = true := by decide +kernel
set_option maxRecDepth 100000 in
theorem cm24 : chkM 24 = true := by decide +kernel
set_option maxRecDepth 100000 in
theorem cm25 : chkM 25 = true := by decide +kernel
set_option maxRecDepth 100000 in
theorem cm26 : chkM 26 = true := by decide +kernel
set_option maxRecDepth 100000 in
theorem cm27 : chkM 27 = true := by decide +kernel
set_option maxRecDepth 100000 in
theorem cm28 : chkM 28 = true := by decide +kernel
set_option maxRecDepth 100000 in
theorem cm29 : chkM 29 = true := by decide +kernel
set_option maxRecDepth 100000 in
theorem cm30 : chkM 30 = true := by decide +kernel
set_option maxRecDepth 100000 in
theorem cm31 : chkM 31 = true := by decide +kernel
set_option maxRecDepth 100000 in
theorem cm32 : chkM 32 = true := by decide +kernel
set_option maxRecDepth 100000 in
theorem cm33 : chkM 33 = true := by decide +kernel
set_option maxRecDepth 100000 in
theorem cm34 : chkM 34 = true := by decide +kernel
set_option maxRecDepth 100000 in
theorem cm35 : chkM 35 = true := by decide +kernel
set_option maxRecDepth 100000 in
theorem cm36 : chkM 36 = true := by decide +kernel
set_option maxRecDepth 100000 in
theorem cm37 : chkM 37 = true := by decide +kernel
set_option maxRecDepth 100000 in
theorem cm38 : chkM 38 = true := by decide +kernel
set_option maxRecDepth 100000 in
theorem cm39 : chkM 39 = true := by decide +kernel
set_option maxRecDepth 100000 in
theorem cm40 : chkM 40 = true := by decide +kernel
set_option maxRecDepth 100000 in
theorem cm41 : chkM 41 = true := by decide +kernel
set_option maxRecDepth 100000 in
theorem cm42 : chkM 42 = true := by decide +kernel
set_option maxRecDepth 100000 in
theorem cm43 : chkM 43 = true := by decide +kernel
set_option maxRecDepth 100000 in
theorem cm44 : chkM 44 = true := by decide +kernel
set_option maxRecDepth 100000 in
theorem cm45 : chkM 45 = true := by decide +kernel
set_option maxRecDepth 100000 in
theorem cm46 : chkM 46 = true := by decide +kernel
set_option maxRecDepth 100000 in
theorem cm47 : chkM 47 = true := by decide +kernel
set_option maxRecDepth 100000 in
theorem cm48 : chkM 48 = true := by decide +kernel
set_option maxRecDepth 100000 in
theorem cm49 : chkM 49 = true := by decide +kernel
set_option maxRecDepth 100000 in
theorem cm50 : chkM 50 = true := by decide +kernel
set_option maxRecDepth 100000 in
theorem cm51 : chkM 51 = true := by decide +kernel
set_option maxRecDepth 100000 in
theorem cm52 : chkM 52 = true := by decide +kernel
set_option maxRecDepth 100000 in
theorem cm53 : chkM 53 = true := by decide +kernel
set_option maxRecDepth 100000 in
theorem cm54 : chkM 54 = true := by decide +kernel
set_option maxRecDepth 100000 in
theorem cm55 : chkM 55 = true := by decide +kernel
set_option maxRecDepth 100000 in
theorem cm56 : chkM 56 = true := by decide +kernel
set_option maxRecDepth 100000 in
theorem cm57 : chkM 57 = true := by decide +kernel
set_option maxRecDepth 100000 in
theorem cm58 : chkM 58 = true := by decide +kernel
set_option maxRecDepth 100000 in
theorem cm59 : chkM 59 = true := by decide +kernel
set_option maxRecDepth 100000 in
theorem cm60 : chkM 60 = true := by decide +kernel
set_option maxRecDepth 100000 in
theorem cm61 : chkM 61 = true := by decide +kernel
set_option maxRecDepth 100000 in
theorem cm62 : chkM 62 = true := by decide +kernel
set_option maxRecDepth 100000 in
theorem cm63 : chkM 63 = true := by decide +kernel
set_option maxRecDepth 100000 in
theorem cm64 : chkM 64 = true := by decide +kernel
set_option maxRecDepth 100000 in
theorem cm65 : chkM 65 = true := by decide +kernel
set_option maxRecDepth 100000 in
theorem cm66 : chkM 66 = true := by decide +kernel
set_option maxRecDepth 100000 in
theorem cm67 : chkM 67 = true := by decide +kernel
set_option maxRecDepth 100000 in
theorem cm68 : chkM 68 = true := by decide +kernel
set_option maxRecDepth 100000 in
theorem cm69 : chkM 69 = true := by decide +kernel
set_option maxRecDepth 100000 in
theorem cm70 : chkM 70 = true := by decide +kernel
set_option maxRecDepth 100000 in
theorem cm71 : chkM 71 = true := by decide +kernel
set_option maxRecDepth 100000 in
theorem cm72 : chkM 72 = true := by decide +kernel
set_option maxRecDepth 100000 in
theorem cm73 : chkM 73 = true := by decide +kernel
set_option maxRecDepth 100000 in
theorem cm74 : chkM 74 = true := by decide +kernel
set_option maxRecDepth 100000 in
theorem cm75 : chkM 75 = true := by decide +kernel
set_option maxRecDepth 100000 in
theorem cm76 : chkM 76 = true := by decide +kernel
set_option maxRecDepth 100000 in
theorem cm77 : chkM 77 = true := by decide +kernel
set_option maxRecDepth 100000 in
theorem cm78 : chkM 78 = true := by decide +kernel
set_option maxRecDepth 100000 in
theorem cm79 : chkM 79 = true := by decide +kernel
set_option maxRecDepth 100000 in
theorem cm80 : chkM 80 = true := by decide +kernel
set_option maxRecDepth 100000 in
theorem cm81 : chkM 81 = true := by decide +kernel
set_option maxRecDepth 100000 in
theorem cm82 : chkM 82 = true := by decide +kernel
set_option maxRecDepth 100000 in
theorem cm83 : chkM 83 = true := by decide +kernel
set_option maxRecDepth 100000 in
theorem cm84 : chkM 84 = true := by decide +kernel
set_option maxRecDepth 100000 in
theorem cm85 : chkM 85 = true := by decide +kernel
set_option maxRecDepth 100000 in
theorem cm86 : chkM 86 = true := by decide +kernel
set_option maxRecDepth 100000 in
theorem cm87 : chkM 87 = true := by decide +kernel
set_option maxRecDepth 100000 in
theorem cm88 : chkM 88 = true := by decide +kernel
set_option maxRecDepth 100000 in
theorem cm89 : chkM 89 = true := by decide +kernel
set_option maxRecDepth 100000 in
theorem cm90 : chkM 90 = true := by decide +kernel
set_option maxRecDepth 100000 in
theorem cm91 : chkM 91 = true := by decide +kernel
set_option maxRecDepth 100000 in
theorem cm92 : chkM 92 = true := by decide +kernel
set_option maxRecDepth 100000 in
theorem cm93 : chkM 93 = true := by decide +kernel
set_option maxRecDepth 100000 in
theorem cm94 : chkM 94 = true := by decide +kernel
set_option maxRecDepth 100000 in
theorem cm95 : chkM 95 = true := by decide +kernel
set_option maxRecDepth 100000 in
theorem cm96 : chkM 96 = true := by decide +kernel
set_option maxRecDepth 100000 in
theorem cm97 : chkM 97 = true := by decide +kernel
set_option maxRecDepth 100000 in
theorem cm98 : chkM 98 = true := by decide +kernel
set_option maxRecDepth 100000 in
theorem cm99 : chkM 99 = true := by decide +kernel
set_option maxRecDepth 100000 in
theorem cm100 : chkM 100 = true := by decide +kernel
set_option maxRecDepth 100000 in
theorem cm101 : chkM 101 = true := by decide +kernel
set_option maxRecDepth 100000 in
theorem cm102 : chkM 102 = true := by decide +kernel
set_option maxRecDepth 100000 in
theorem cm103 : chkM 103 = true := by decide +kernel
set_option maxRecDepth 100000 in
theorem cm104 : chkM 104 = true := by decide +kernel
set_option maxRecDepth 100000 in
theorem cm105 : chkM 105 = true := by decide +kernel
set_option maxRecDepth 100000 in
theorem cm106 : chkM 106 = true := by decide +kernel
set_option maxRecDepth 100000 in
theorem cm107 : chkM 107 = true := by decide +kernel
set_option maxRecDepth 100000 in
theorem cm108 : chkM 108 = true := by decide +kernel
set_option maxRecDepth 100000 in
theorem cm109 : chkM 109 = true := by decide +kernel
set_option maxRecDepth 100000 in
theorem cm110 : chkM 110 = true := by decide +kernel
set_option maxRecDepth 100000 in
theorem cm111 : chkM 111 = true := by decide +kernel
set_option maxRecDepth 100000 in
theorem cm112 : chkM 112 = true := by decide +kernel
set_option maxRecDepth 100000 in
theorem cm113 : chkM 113 = true := by decide +kernel
set_option maxRecDepth 100000 in
theorem cm114 : chkM 114 = true := by decide +kernel
set_option maxRecDepth 100000 in
theorem cm115 : chkM 115 = true := by decide +kernel
set_option maxRecDepth 100000 in
theorem cm116 : chkM 116 = true := by decide +kernel
set_option maxRecDepth 100000 in
theorem cm117 : chkM 117 = true := by decide +kernel
set_option maxRecDepth 100000 in
theorem cm118 : chkM 118 = true := by decide +kernel
set_option maxRecDepth 100000 in
theorem cm119 : chkM 119 = true := by decide +kernel
set_option maxRecDepth 100000 in
theorem cm120 : chkM 120 = true := by decide +kernel
set_option maxRecDepth 100000 in
theorem cm121 : chkM 121 = true := by decide +kernel
set_option maxRecDepth 100000 in
theorem cm122 : chkM 122 = true := by decide +kernel
set_option maxRecDepth 100000 in
theorem cm123 : chkM 123 = true := by decide +kernel
set_option maxRecDepth 100000 in
theorem cm124 : chkM 124 = true := by decide +kernel
set_option maxRecDepth 100000 in
theorem cm125 : chkM 125 = true := by decide +kernel
set_option maxRecDepth 100000 in
theorem cm126 : chkM 126 = true := by decide +kernel
set_option maxRecDepth 100000 in
theorem cm127 : chkM 127 = true := by decide +kernel
set_option maxRecDepth 100000 in
theorem cm128 : chkM 128 = true := by decide +kernel
set_option maxRecDepth 100000 in
theorem cm129 : chkM 129 = true := by decide +kernel
set_option maxRecDepth 100000 in
theorem cm130 : chkM 130 = true := by decide +kernel
set_option maxRecDepth 100000 in
theorem cm131 : chkM 131 = true := by decide +kernel
set_option maxRecDepth 100000 in
theorem cm132 : chkM 132 = true := by decide +kernel
set_option maxRecDepth 100000 in
theorem cm133 : chkM 133 = true := by decide +kernel
set_option maxRecDepth 100000 in
theorem cm134 : chkM 134 = true := by decide +kernel
set_option maxRecDepth 100000 in
theorem cm135 : chkM 135 = true := by decide +kernel
set_option maxRecDepth 100000 in
theorem cm136 : chkM 136 = true := by decide +kernel
set_option maxRecDepth 100000 in
theorem cm137 : chkM 137 = true := by decide +kernel
set_option maxRecDepth 100000 in
theorem cm138 : chkM 138 = true := by decide +kernel
set_option maxRecDepth 100000 in
theorem cm139 : chkM 139 = true := by decide +kernel
set_option maxRecDepth 100000 in
theorem cm140 : chkM 140 = true := by decide +kernel
set_option maxRecDepth 100000 in
theorem cm141 : chkM 141 = true := by decide +kernel
set_option maxRecDepth 100000 in
theorem cm142 : chkM 142 = true := by decide +kernel
set_option maxRecDepth 100000 in
theorem cm143 : chkM 143 = true := by decide +kernel
set_option maxRecDepth 100000 in
theorem cm144 : chkM 144 = true := by decide +kernel
set_option maxRecDepth 100000 in
theorem cm145 : chkM 145 = true := by decide +kernel
set_option maxRecDepth 100000 in
theorem cm146 : chkM 146 = true := by decide +kernel
set_option maxRecDepth 100000 in
theorem cm147 : chkM 147 = true := by decide +kernel
set_option maxRecDepth 100000 in
theorem cm148 : chkM 148 = true := by decide +kernel
set_option maxRecDepth 100000 in
theorem cm149 : chkM 149 = true := by decide +kernel
set_option maxRecDepth 100000 in
theorem cm150 : chkM 150 = true := by decide +kernel
set_option maxRecDepth 100000 in
theorem cm151 : chkM 151 = true := by decide +kernel
set_option maxRecDepth 100000 in
theorem cm152 : chkM 152 = true := by decide +kernel
set_option maxRecDepth 100000 in
theorem cm153 : chkM 153 = true := by decide +kernel
set_option maxRecDepth 100000 in
theorem cm154 : chkM 154 = true := by decide +kernel
set_option maxRecDepth 100000 in
theorem cm155 : chkM 155 = true := by decide +kernel
set_option maxRecDepth 100000 in
theorem cm156 : chkM 156 = true := by decide +kernel
set_option maxRecDepth 100000 in
theorem cm157 : chkM 157 = true := by decide +kernel
set_option maxRecDepth 100000 in
theorem cm158 : chkM 158 = true := by decide +kernel
set_option maxRecDepth 100000 in
theorem cm159 : chkM 159 = true := by decide +kernel
set_option maxRecDepth 100000 in
theorem cm160 : chkM 160 = true := by decide +kernel
set_option maxRecDepth 100000 in
theorem cm161 : chkM 161 = true := by decide +kernel
set_option maxRecDepth 100000 in
theorem cm162 : chkM 162 = true := by decide +kernel
set_option maxRecDepth 100000 in
theorem cm163 : chkM 163 = true := by decide +kernel
set_option maxRecDepth 100000 in
theorem cm164 : chkM 164 = true := by decide +kernel
set_option maxRecDepth 100000 in
theorem cm165 : chkM 165 = true := by decide +kernel
set_option maxRecDepth 100000 in
theorem cm166 : chkM 166 = true := by decide +kernel
set_option maxRecDepth 100000 in
theorem cm167 : chkM 167 = true := by decide +kernel
set_option maxRecDepth 100000 in
theorem cm168 : chkM 168 = true := by decide +kernel
set_option maxRecDepth 100000 in
theorem cm169 : chkM 169 = true := by decide +kernel
set_option maxRecDepth 100000 in
theorem cm170 : chkM 170 = true := by decide +kernel
set_option maxRecDepth 100000 in
theorem cm171 : chkM 171 = true := by decide +kernel
set_option maxRecDepth 100000 in
theorem cm172 : chkM 172 = true := by decide +kernel
set_option maxRecDepth 100000 in
theorem cm173 : chkM 173 = true := by decide +kernel
set_option maxRecDepth 100000 in
theorem cm174 : chkM 174 = true := by decide +kernel
set_option maxRecDepth 100000 in
theorem cm175 : chkM 175 = true := by decide +kernel
set_option maxRecDepth 100000 in
theorem cm176 : chkM 176 = true := by decide +kernel
set_option maxRecDepth 100000 in
theorem cm177 : chkM 177 = true := by decide +kernel
set_option maxRecDepth 100000 in
theorem cm178 : chkM 178 = true := by decide +kernel
set_option maxRecDepth 100000 in
theorem cm179 : chkM 179 = true := by decide +kernel
set_option maxRecDepth 100000 in
theorem cm180 : chkM 180 = true := by decide +kernel
set_option maxRecDepth 100000 in
theorem cm181 : chkM 181 = true := by decide +kernel
set_option maxRecDepth 100000 in
theorem cm182 : chkM 182 = true := by decide +kernel
set_option maxRecDepth 100000 in
theorem cm183 : chkM 183 = true := by decide +kernel
set_option maxRecDepth 100000 in
theorem cm184 : chkM 184 = true := by decide +kernel
set_option maxRecDepth 100000 in
theorem cm185 : chkM 185 = true := by decide +kernel
set_option maxRecDepth 100000 in
theorem cm186 : chkM 186 = true := by decide +kernel
set_option maxRecDepth 100000 in
theorem cm187 : chkM 187 = true := by decide +kernel
set_option maxRecDepth 100000 in
theorem cm188 : chkM 188 = true := by decide +kernel
set_option maxRecDepth 100000 in
theorem cm189 : chkM 189 = true := by decide +kernel
set_option maxRecDepth 100000 in
theorem cm190 : chkM 190 = true := by decide +kernel
set_option maxRecDepth 100000 in
theorem cm191 : chkM 191 = true := by decide +kernel
set_option maxRecDepth 100000 in
theorem cm192 : chkM 192 = true := by decide +kernel
set_option maxRecDepth 100000 in
theorem cm193 : chkM 193 = true := by decide +kernel
set_option maxRecDepth 100000 in
theorem cm194 : chkM 194 = true := by decide +kernel
set_option maxRecDepth 100000 in
theorem cm195 : chkM 195 = true := by decide +kernel
set_option maxRecDepth 100000 in
theorem cm196 : chkM 196 = true := by decide +kernel
set_option maxRecDepth 100000 in
theorem cm197 : chkM 197 = true := by decide +kernel
set_option maxRecDepth 100000 in
theorem cm198 : chkM 198 = true := by decide +kernel
set_option maxRecDepth 100000 in
theorem cm199 : chkM 199 = true := by decide +kernel
set_option maxRecDepth 100000 in
theorem cm200 : chkM 200 = true := by decide +kernel
set_option maxRecDepth 100000 in
theorem cm201 : chkM 201 = true := by decide +kernel
set_option maxRecDepth 100000 in
theorem cm202 : chkM 202 = true := by decide +kernel
set_option maxRecDepth 100000 in
theorem cm203 : chkM 203 = true := by decide +kernel
set_option maxRecDepth 100000 in
theorem cm204 : chkM 204 = true := by decide +kernel
set_option maxRecDepth 100000 in
theorem cm205 : chkM 205 = true := by decide +kernel
set_option maxRecDepth 100000 in
theorem cm206 : chkM 206 = true := by decide +kernel
set_option maxRecDepth 100000 in
theorem cm207 : chkM 207 = true := by decide +kernel
set_option maxRecDepth 100000 in
theorem cm208 : chkM 208 = true := by decide +kernel
set_option maxRecDepth 100000 in
theorem cm209 : chkM 209 = true := by decide +kernel
set_option maxRecDepth 100000 in
theorem cm210 : chkM 210 = true := by decide +kernel
set_option maxRecDepth 100000 in
theorem cm211 : chkM 211 = true := by decide +kernel
set_option maxRecDepth 100000 in
theorem cm212 : chkM 212 = true := by decide +kernel
set_option maxRecDepth 100000 in
theorem cm213 : chkM 213 = true := by decide +kernel
set_option maxRecDepth 100000 in
theorem cm214 : chkM 214 = true := by decide +kernel
set_option maxRecDepth 100000 in
theorem cm215 : chkM 215 = true := by decide +kernel
set_option maxRecDepth 100000 in
theorem cm216 : chkM 216 = true := by decide +kernel
set_option maxRecDepth 100000 in
theorem cm217 : chkM 217 = true := by decide +kernel
set_option maxRecDepth 100000 in
theorem cm218 : chkM 218 = true := by decide +kernel
set_option maxRecDepth 100000 in
theorem cm219 : chkM 219 = true := by decide +kernel
set_option maxRecDepth 100000 in
theorem cm220 : chkM 220 = true := by decide +kernel
set_option maxRecDepth 100000 in
theorem cm221 : chkM 221 = true := by decide +kernel
set_option maxRecDepth 100000 in
theorem cm222 : chkM 222 = true := by decide +kernel
set_option maxRecDepth 100000 in
theorem cm223 : chkM 223 = true := by decide +kernel
set_option maxRecDepth 100000 in
theorem cm224 : chkM 224 = true := by decide +kernel
set_option maxRecDepth 100000 in
theorem cm225 : chkM 225 = true := by decide +kernel
set_option maxRecDepth 100000 in
theorem cm226 : chkM 226 = true := by decide +kernel
set_option maxRecDepth 100000 in
theorem cm227 : chkM 227 = true := by decide +kernel
set_option maxRecDepth 100000 in
theorem cm228 : chkM 228 = true := by decide +kernel
set_option maxRecDepth 100000 in
theorem cm229 : chkM 229 = true := by decide +kernel
set_option maxRecDepth 100000 in
theorem cm230 : chkM 230 = true := by decide +kernel
set_option maxRecDepth 100000 in
theorem cm231 : chkM 231 = true := by decide +kernel
set_option maxRecDepth 100000 in
theorem cm232 : chkM 232 = true := by decide +kernel
set_option maxRecDepth 100000 in
theorem cm233 : chkM 233 = true := by decide +kernel
set_option maxRecDepth 100000 in
theorem cm234 : chkM 234 = true := by decide +kernel
set_option maxRecDepth 100000 in
theorem cm235 : chkM 235 = true := by decide +kernel
set_option maxRecDepth 100000 in
theorem cm236 : chkM 236 = true := by decide +kernel
set_option maxRecDepth 100000 in
theorem cm237 : chkM 237 = true := by decide +kernel
set_option maxRecDepth 100000 in
theorem cm238 : chkM 238 = true := by decide +kernel
theorem chkM_ok : ∀ y, y < 239 → chkM y = true
  | 0, _ => cm0
  | 1, _ => cm1
  | 2, _ => cm2
  | 3, _ => cm3
  | 4, _ => cm4
  | 5, _ => cm5
  | 6, _ => cm6
  | 7, _ => cm7
  | 8, _ => cm8
  | 9, _ => cm9
  | 10, _ => cm10
  | 11, _ => cm11
  | 12, _ => cm12
  | 13, _ => cm13
  | 14, _ => cm14
  | 15, _ => cm15
  | 16, _ => cm16
  | 17, _ => cm17
  | 18, _ => cm18
  | 19, _ => cm19
  | 20, _ => cm20
  | 21, _ => cm21
  | 22, _ => cm22
  | 23, _ => cm23
  | 24, _ => cm24
  | 25, _ => cm25
  | 26, _ => cm26
  | 27, _ => cm27
  | 28, _ => cm28
  | 29, _ => cm29
  | 30, _ => cm30
  | 31, _ => cm31
  | 32, _ => cm32
  | 33, _ => cm33
  | 34, _ => cm34
  | 35, _ => cm35
  | 36, _ => cm36
  | 37, _ => cm37
  | 38, _ => cm38
  | 39, _ => cm39
  | 40, _ => cm40
  | 41, _ => cm41
  | 42, _ => cm42
  | 43, _ => cm43
  | 44, _ => cm44
  | 45, _ => cm45
  | 46, _ => cm46
  | 47, _ => cm47
  | 48, _ => cm48
  | 49, _ => cm49
  | 50, _ => cm50
  | 51, _ => cm51
  | 52, _ => cm52
  | 53, _ => cm53
  | 54, _ => cm54
  | 55, _ => cm55
  | 56, _ => cm56
  | 57, _ => cm57
  | 58, _ => cm58
  | 59, _ => cm59
  | 60, _ => cm60
  | 61, _ => cm61
  | 62, _ => cm62
  | 63, _ => cm63
  | 64, _ => cm64
  | 65, _ => cm65
  | 66, _ => cm66
  | 67, _ => cm67
  | 68, _ => cm68
  | 69, _ => cm69
  | 70, _ => cm70
  | 71, _ => cm71
  | 72, _ => cm72
  | 73, _ => cm73
  | 74, _ => cm74
  | 75, _ => cm75
  | 76, _ => cm76
  | 77, _ => cm77
  | 78, _ => cm78
  | 79, _ => cm79
  | 80, _ => cm80
  | 81, _ => cm81
  | 82, _ => cm82
  | 83, _ => cm83
  | 84, _ => cm84
  | 85, _ => cm85
  | 86, _ => cm86
  | 87, _ => cm87
  | 88, _ => cm88
  | 89, _ => cm89
  | 90, _ => cm90
  | 91, _ => cm91
  | 92, _ => cm92
  | 93, _ => cm93
  | 94, _ => cm94
  | 95, _ => cm95
  | 96, _ => cm96
  | 97, _ => cm97
  | 98, _ => cm98
  | 99, _ => cm99
  | 100, _ => cm100
  | 101, _ => cm101
  | 102, _ => cm102
  | 103, _ => cm103
  | 104, _ => cm104
  | 105, _ => cm105
  | 106, _ => cm106
  | 107, _ => cm107
  | 108, _ => cm108
  | 109, _ => cm109
  | 110, _ => cm110
  | 111, _ => cm111
  | 112, _ => cm112
  | 113, _ => cm113
  | 114, _ => cm114
  | 115, _ => cm115
  | 116, _ => cm116
  | 117, _ => cm117
  | 118, _ => cm118
  | 119, _ => cm119
  | 120, _ => cm120
  | 121, _ => cm121
  | 122, _ => cm122
  | 123, _ => cm123
  | 124, _ => cm124
  | 125, _ => cm125
  | 126, _ => cm126
  | 127, _ => cm127
  | 128, _ => cm128
  | 129, _ => cm129
  | 130, _ => cm130
  | 131, _ => cm131
  | 132, _ => cm132
  | 133, _ => cm133
  | 134, _ => cm134
  | 135, _ => cm135
  | 136, _ => cm136
  | 137, _ => cm137
  | 138, _ => cm138
  | 139, _ => cm139
  | 140, _ => cm140
  | 141, _ => cm141
  | 142, _ => cm142
  | 143, _ => cm143
  | 144, _ => cm144
  | 145, _ => cm145
  | 146, _ => cm146
  | 147, _ => cm147
  | 148, _ => cm148
  | 149, _ => cm149
  | 150, _ => cm150
  | 151, _ => cm151
  | 152, _ => cm152
  | 153, _ => cm153
  | 154, _ => cm154
  | 155, _ => cm155
  | 156, _ => cm156
  | 157, _ => cm157
  | 158, _ => cm158
  | 159, _ => cm159
  | 160, _ => cm160
  | 161, _ => cm161
  | 162, _ => cm162
  | 163, _ => cm163
  | 164, _ => cm164
  | 165, _ => cm165
  | 166, _ => cm166
  | 167, _ => cm167
  | 168, _ => cm168
  | 169, _ => cm169
  | 170, _ => cm170
  | 171, _ => cm171
  | 172, _ => cm172
  | 173, _ => cm173
  | 174, _ => cm174
  | 175, _ => cm175
  | 176, _ => cm176
  | 177, _ => cm177
  | 178, _ => cm178
  | 179, _ => cm179
  | 180, _ => cm180
  | 181, _ => cm181
  | 182, _ => cm182
  | 183, _ => cm183
  | 184, _ => cm184
  | 185, _ => cm185
  | 186, _ => cm186
  | 187, _ => cm187
  | 188, _ => cm188
  | 189, _ => cm189
  | 190, _ => cm190
  | 191, _ => cm191
  | 192, _ => cm192
  | 193, _ => cm193
  | 194, _ => cm194
  | 195, _ => cm195
  | 196, _ => cm196
  | 197, _ => cm197
  | 198, _ => cm198
  | 199, _ => cm199
  | 200, _ => cm200
  | 201, _ => cm201
  | 202, _ => cm202
  | 203, _ => cm203
  | 204, _ => cm204
  | 205, _ => cm205
  | 206, _ => cm206
  | 207, _ => cm207
  | 208, _ => cm208
  | 209, _ => cm209
  | 210, _ => cm210
  | 211, _ => cm211
  | 212, _ => cm212
  | 213, _ => cm213
  | 214, _ => cm214
  | 215, _ => cm215
  | 216, _ => cm216
  | 217, _ => cm217
  | 218, _ => cm218
  | 219, _ => cm219
  | 220, _ => cm220
  | 221, _ => cm221
  | 222, _ => cm222
  | 223, _ => cm223
  | 224, _ => cm224
  | 225, _ => cm225
  | 226, _ => cm226
  | 227, _ => cm227
  | 228, _ => cm228
  | 229, _ => cm229
  | 230, _ => cm230
  | 231, _ => cm231
  | 232, _ => cm232
  | 233, _ => cm233
  | 234, _ => cm234
  | 235, _ => cm235
  | 236, _ => cm236
  | 237, _ => cm237
  | 238, _ => cm238
  | n + 239, h => absurd h (by omega)
