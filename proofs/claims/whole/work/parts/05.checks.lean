/-! CHECKS by program (wip/whole/gen8.py): the words of the tables, the code -/
def lw_good : List Cond := lw_tbl.filter goodWord
def wOK (j : Nat) (w : Cond) : Bool := match lw_tbl[j]? with
  | some v => decide (v = w) && goodWord w
  | none => false
theorem wOK_mem {j : Nat} {w : Cond} (h : wOK j w = true) : w ∈ lw_good := by
  unfold wOK at h
  split at h
  · rename_i v hv
    simp only [Bool.and_eq_true, decide_eq_true_eq] at h
    obtain ⟨rfl, h2⟩ := h
    exact List.mem_filter.mpr ⟨List.mem_of_getElem? hv, h2⟩
  · cases h
theorem lw_good_good {w : Cond} (h : w ∈ lw_good) : w ∈ lw_tbl ∧ goodWord w = true := List.mem_filter.mp h
theorem all_zip {α β : Type} {l : List α} {m : List β} {f : α × β → Bool} (h : (l.zip m).all f = true) (hl : l.length ≤ m.length) : ∀ x ∈ l, ∃ j, f (x, j) = true := by
  induction l generalizing m with
  | nil => intro x hx; cases hx
  | cons a r ih =>
    cases m with
    | nil => exact absurd hl (by simp)
    | cons b s =>
      simp only [List.zip_cons_cons, List.all_cons, Bool.and_eq_true] at h
      intro x hx
      rcases List.mem_cons.mp hx with rfl | hx
      · exact ⟨b, h.1⟩
      · exact ih h.2 (by simpa using hl) x hx
theorem lk2_mem {α : Type} {l : List (Nat × Nat × α)} {m n : Nat} {v : α} (h : lk2 l m n = some v) : (m, n, v) ∈ l := by
  induction l with
  | nil => cases h
  | cons q r ih =>
    obtain ⟨a, b, w⟩ := q
    unfold lk2 at h
    split at h
    · rename_i h1 h2
      have e1 := Nat.eq_of_beq_eq_true h1
      have e2 := Nat.eq_of_beq_eq_true h2
      cases h
      rw [e1, e2]
      exact List.mem_cons_self
    · exact List.mem_cons_of_mem _ (ih h)
theorem lk_mem {α : Type} {l : List (Nat × α)} {n : Nat} {v : α} (h : lk l n = some v) : (n, v) ∈ l := by
  induction l with
  | nil => cases h
  | cons q r ih =>
    obtain ⟨a, w⟩ := q
    unfold lk at h
    split at h
    · rename_i h1
      have e1 := Nat.eq_of_beq_eq_true h1
      cases h
      rw [e1]
      exact List.mem_cons_self
    · exact List.mem_cons_of_mem _ (ih h)
def layW : List (List Nat) := [[227, 229, 231, 233, 235], [202, 204, 206, 208, 210, 212, 214], [163], [627, 629, 631, 633, 635, 637], [174, 176], [974, 976, 978, 980, 982, 984, 986, 988, 990, 992, 994, 996, 998], [250, 252, 254], [550, 552, 554, 556, 558], [153], [134, 136, 138, 140, 142], [490, 492, 494, 496, 498, 500, 502, 504, 506, 508], [1123, 1125, 1127, 1129, 1131, 1133, 1135, 1137, 1139, 1141, 1143, 1145, 1147, 1149, 1151, 1153, 1155, 1157, 1159, 1161, 1163, 1165, 1167, 1169, 1171, 1173, 1175, 1177, 1179, 1181, 1183, 1185, 1187, 1189, 1191, 1193, 1195, 1197, 1199, 1201, 1203, 1205, 1207, 1209, 1211, 1213, 1215, 1217]]
def chkL (t : Nat) : Bool := (List.range (nfl t)).all fun k => wOK ((layW.getD t []).getD k 0) (u_lay (cnm t) (TRs t) k) && decide (parseFieldDescriptor (TRs t k).2.2.1 = some (tyRs t k))
set_option maxRecDepth 100000 in
theorem chkL_ok : (List.range 12).all chkL = true := by decide +kernel
def chkNm (t : Nat) : Bool := (List.range (nfl t)).all fun a => (List.range (nfl t)).all fun b => Nat.beq a b || !((TRs t a).2.1 == (TRs t b).2.1)
set_option maxRecDepth 100000 in
theorem chkNm_ok : (List.range 12).all chkNm = true := by decide +kernel
theorem cls_at : ∀ t, t < 12 → clsL[t]? = some (cnm t, TRs t, nfl t)
  | 0, _ => rfl
  | 1, _ => rfl
  | 2, _ => rfl
  | 3, _ => rfl
  | 4, _ => rfl
  | 5, _ => rfl
  | 6, _ => rfl
  | 7, _ => rfl
  | 8, _ => rfl
  | 9, _ => rfl
  | 10, _ => rfl
  | 11, _ => rfl
  | n + 12, h => absurd h (by omega)
def insW : List (Nat × Nat) := [(180, 98), (186, 99), (157, 96), (595, 109), (167, 97), (950, 111), (239, 100), (529, 108), (147, 95), (123, 94), (113, 93), (1054, 107)]
def chkI (t : Nat) : Bool := wOK (insW.getD t (0, 0)).1 (.instantiable (cnm t) (nfl t)) && wOK (insW.getD t (0, 0)).2 (.initialized (cnm t))
set_option maxRecDepth 100000 in
theorem chkI_ok : (List.range 12).all chkI = true := by decide +kernel
def nestL : List Cond := [.fieldLinkNest "HeraldDesk" 79 "HeraldDesk$Bench" "common" "LHeraldDesk$Pack;" "HeraldDesk", .fieldLinkNest "HeraldDesk" 110 "HeraldDesk$Bench" "draft" "LHeraldDesk$Pack;" "HeraldDesk", .fieldLinkNest "HeraldDesk" 140 "HeraldDesk$Bench" "begun" "I" "HeraldDesk", .fieldLinkNest "HeraldDesk" 163 "HeraldDesk$Shield" "pointsOf" "[I" "HeraldDesk", .fieldLinkNest "HeraldDesk" 195 "HeraldDesk$Register" "size" "I" "HeraldDesk", .fieldLinkNest "HeraldDesk" 198 "HeraldDesk$Tokens" "start" "I" "HeraldDesk", .fieldLinkNest "HeraldDesk$Bench" 33 "HeraldDesk$Pack" "bodies" "I" "HeraldDesk", .fieldLinkNest "HeraldDesk$Bench" 48 "HeraldDesk$Part" "kind" "I" "HeraldDesk", .fieldLinkNest "HeraldDesk$Bench" 57 "HeraldDesk$Pack" "nexts" "[I" "HeraldDesk", .fieldLinkNest "HeraldDesk$Bench" 67 "HeraldDesk$Pack" "starts" "[I" "HeraldDesk", .fieldLinkNest "HeraldDesk$Bench" 70 "HeraldDesk$Pack" "steps" "[I" "HeraldDesk", .fieldLinkNest "HeraldDesk$Bench" 81 "HeraldDesk$Part" "tincture" "I" "HeraldDesk", .fieldLinkNest "HeraldDesk$Bench" 93 "HeraldDesk$Part" "number" "I" "HeraldDesk", .fieldLinkNest "HeraldDesk$Bench" 96 "HeraldDesk$Part" "attitude" "I" "HeraldDesk", .fieldLinkNest "HeraldDesk$Bench" 103 "HeraldDesk$Part" "place" "I" "HeraldDesk", .fieldLinkNest "HeraldDesk$Painter" 29 "HeraldDesk$Part" "tincture" "I" "HeraldDesk", .fieldLinkNest "HeraldDesk$Painter" 35 "HeraldDesk$Shield" "parting" "I" "HeraldDesk", .fieldLinkNest "HeraldDesk$Painter" 42 "HeraldDesk$Shield" "second" "I" "HeraldDesk", .fieldLinkNest "HeraldDesk$Painter" 45 "HeraldDesk$Shield" "first" "I" "HeraldDesk", .fieldLinkNest "HeraldDesk$Painter" 58 "HeraldDesk$Part" "place" "I" "HeraldDesk", .fieldLinkNest "HeraldDesk$Painter" 61 "HeraldDesk$Part" "kind" "I" "HeraldDesk", .fieldLinkNest "HeraldDesk$Painter" 74 "HeraldDesk$Part" "number" "I" "HeraldDesk", .fieldLinkNest "HeraldDesk$Pen" 33 "HeraldDesk$Shield" "parting" "I" "HeraldDesk", .fieldLinkNest "HeraldDesk$Pen" 46 "HeraldDesk$Shield" "first" "I" "HeraldDesk", .fieldLinkNest "HeraldDesk$Pen" 51 "HeraldDesk$Shield" "second" "I" "HeraldDesk", .fieldLinkNest "HeraldDesk$Pen" 54 "HeraldDesk$Part" "place" "I" "HeraldDesk", .fieldLinkNest "HeraldDesk$Pen" 71 "HeraldDesk$Part" "number" "I" "HeraldDesk", .fieldLinkNest "HeraldDesk$Pen" 77 "HeraldDesk$Part" "attitude" "I" "HeraldDesk", .fieldLinkNest "HeraldDesk$Pen" 82 "HeraldDesk$Part" "tincture" "I" "HeraldDesk", .fieldLinkNest "HeraldDesk$Pen" 90 "HeraldDesk$Part" "kind" "I" "HeraldDesk", .fieldLinkNest "HeraldDesk$Pen" 95 "HeraldDesk$Part" "duties" "[I" "HeraldDesk", .fieldLinkNest "HeraldDesk$Register" 28 "HeraldDesk$Person" "man" "Z" "HeraldDesk", .fieldLinkNest "HeraldDesk$Register" 32 "HeraldDesk$Person" "married" "LHeraldDesk$Person;" "HeraldDesk", .fieldLinkNest "HeraldDesk$Register" 39 "HeraldDesk$Person" "children" "I" "HeraldDesk", .fieldLinkNest "HeraldDesk$Register" 42 "HeraldDesk$Person" "sons" "I" "HeraldDesk", .fieldLinkNest "HeraldDesk$Register" 48 "HeraldDesk$Person" "quarteringCount" "I" "HeraldDesk", .fieldLinkNest "HeraldDesk$Register" 55 "HeraldDesk$Person" "mark" "I" "HeraldDesk", .fieldLinkNest "HeraldDesk$Register" 58 "HeraldDesk$Person" "generations" "I" "HeraldDesk", .fieldLinkNest "HeraldDesk$Register" 61 "HeraldDesk$Person" "number" "I" "HeraldDesk", .fieldLinkNest "HeraldDesk$Shield" 24 "HeraldDesk$Part" "place" "I" "HeraldDesk", .fieldLinkNest "HeraldDesk$Shield" 41 "HeraldDesk$Part" "tincture" "I" "HeraldDesk", .fieldLinkNest "HeraldDesk$ShieldReader" 40 "HeraldDesk$Shield" "first" "I" "HeraldDesk", .fieldLinkNest "HeraldDesk$ShieldReader" 46 "HeraldDesk$Shield" "parting" "I" "HeraldDesk", .fieldLinkNest "HeraldDesk$ShieldReader" 58 "HeraldDesk$Shield" "second" "I" "HeraldDesk", .fieldLinkNest "HeraldDesk$ShieldReader" 132 "HeraldDesk$Part" "kind" "I" "HeraldDesk", .fieldLinkNest "HeraldDesk$ShieldReader" 137 "HeraldDesk$Part" "attitude" "I" "HeraldDesk", .fieldLinkNest "HeraldDesk$ShieldReader" 140 "HeraldDesk$Part" "tincture" "I" "HeraldDesk", .fieldLinkNest "HeraldDesk$ShieldReader" 149 "HeraldDesk$Part" "duties" "[I" "HeraldDesk", .methodLinkNest "HeraldDesk" 21 ⟨"HeraldDesk$Tokens", "<init>", "()V"⟩ "HeraldDesk", .methodLinkNest "HeraldDesk" 44 ⟨"HeraldDesk$Pen", "<init>", "()V"⟩ "HeraldDesk", .methodLinkNest "HeraldDesk" 58 ⟨"HeraldDesk$Register", "<init>", "()V"⟩ "HeraldDesk", .methodLinkNest "HeraldDesk$Bench" 11 ⟨"HeraldDesk$Pack", "<init>", "()V"⟩ "HeraldDesk", .methodLinkNest "HeraldDesk$Bench" 29 ⟨"HeraldDesk", "isOffice", "(I)Z"⟩ "HeraldDesk", .methodLinkNest "HeraldDesk$Bench" 63 ⟨"HeraldDesk", "familyOf", "(I)I"⟩ "HeraldDesk", .methodLinkNest "HeraldDesk$Bench" 84 ⟨"HeraldDesk", "sortOf", "(I)I"⟩ "HeraldDesk", .methodLinkNest "HeraldDesk$PackReader" 43 ⟨"HeraldDesk", "isRule", "(I)Z"⟩ "HeraldDesk", .methodLinkNest "HeraldDesk$Painter" 93 ⟨"HeraldDesk", "entry", "([II)I"⟩ "HeraldDesk", .methodLinkNest "HeraldDesk$Painter" 100 ⟨"HeraldDesk", "familyOf", "(I)I"⟩ "HeraldDesk", .methodLinkNest "HeraldDesk$Shield" 44 ⟨"HeraldDesk", "sortOf", "(I)I"⟩ "HeraldDesk", .methodLinkNest "HeraldDesk$ShieldReader" 17 ⟨"HeraldDesk$Shield", "<init>", "()V"⟩ "HeraldDesk", .methodLinkNest "HeraldDesk$ShieldReader" 122 ⟨"HeraldDesk", "isCharge", "(I)Z"⟩ "HeraldDesk"]
def nestW : List Nat := [220, 223, 226, 549, 248, 132, 192, 606, 199, 197, 201, 622, 613, 616, 604, 619, 536, 545, 542, 603, 608, 612, 538, 543, 547, 602, 611, 615, 620, 607, 625, 958, 966, 969, 968, 972, 963, 965, 956, 601, 621, 541, 537, 546, 609, 617, 623, 626, 124, 168, 240, 187, 712, 828, 847, 383, 907, 916, 858, 530, 590]
def nestOk (q : Cond × Nat) : Bool := decide (lw_tbl[q.2]? = some q.1) && q.1.onTables
set_option maxRecDepth 100000 in
theorem nest_ok : (nestL.zip nestW).all nestOk = true := by decide +kernel
def isNest : Cond → Bool
  | .fieldLinkNest _ _ _ _ _ _ => true
  | .methodLinkNest _ _ _ _ => true
  | _ => false
theorem nest_is : nestL.all isNest = true := by decide +kernel
def fldW : List Nat := [219, 221, 222, 224, 225, 6, 7, 8, 9, 10, 11, 12, 13, 14, 194, 195, 196, 198, 200, 191, 193, 162, 624, 600, 605, 610, 618, 614, 172, 173, 22, 23, 24, 25, 26, 27, 28, 29, 30, 970, 955, 957, 959, 960, 961, 962, 964, 967, 971, 973, 246, 247, 249, 31, 32, 33, 34, 35, 36, 37, 38, 540, 544, 548, 539, 39, 40, 152, 41, 42, 43, 44, 45, 46, 47, 128, 129, 133, 131, 130, 480, 482, 484, 485, 486, 487, 488, 489, 481, 483, 0, 1, 2, 3, 4, 5, 1075, 1077, 1087, 1088, 1089, 1090, 1091, 1093, 1094, 1095, 1096, 1097, 1098, 1099, 1100, 1101, 1108, 1110, 1111, 1112, 1113, 1116, 1117, 1118, 1119, 1120, 1121, 1122, 1076, 1078, 1081, 1080, 1083, 1084, 1082, 1079, 1085, 1086, 1092, 1102, 1103, 1104, 1106, 1105, 1109, 1114, 1107, 1115, 15, 16, 17, 18, 19, 20, 21, 1663, 1662]
/-- the kind of a field fits its type -/
def kOk (t k : Nat) : Bool := match fk t k with
  | 0 => decide (tyRs t k = .int)
  | 1 => decide (tyRs t k = .long)
  | 2 => decide (tyRs t k = .boolean)
  | 3 => false
  | 4 => false
  | _ + 5 => match tyRs t k with
    | .object _ => true
    | .array _ => true
    | _ => false
def chkF (q : (Nat × Nat × Nat × Nat × Nat) × Nat) : Bool := match q with
  | ((own, idx, 40, k, 0), j) => match k with
    | 0 => wOK j (.fieldLink (cnm own) idx "java/lang/String" "value" "[B")
    | 1 => wOK j (.fieldLink (cnm own) idx "java/lang/String" "coder" "B")
    | _ => false
  | ((own, idx, t, k, 0), j) => Nat.blt t 12 && Nat.blt k (nfl t) && kOk t k && wOK j (.fieldLink (cnm own) idx (TRs t k).1 (TRs t k).2.1 (TRs t k).2.2.1)
  | ((own, idx, t, k, _), j) => Nat.blt t 12 && Nat.blt k (nfl t) && kOk t k && decide (nestL[j]? = some (.fieldLinkNest (cnm own) idx (TRs t k).1 (TRs t k).2.1 (TRs t k).2.2.1 "HeraldDesk"))
set_option maxRecDepth 100000 in
theorem fld_ok : (fldL.zip fldW).all chkF = true := by decide +kernel
theorem fld_len : fldL.length ≤ fldW.length := by decide +kernel
def mthW : List Nat := [184, 825, 821, 836, 837, 841, 844, 850, 859, 51, 52, 53, 54, 190, 161, 329, 333, 337, 341, 346, 379, 386, 389, 390, 394, 398, 402, 406, 420, 414, 410, 419, 55, 599, 799, 803, 807, 171, 729, 747, 751, 734, 738, 759, 766, 742, 743, 954, 1032, 1036, 1040, 243, 1005, 946, 951, 1024, 1044, 1045, 1028, 533, 787, 694, 854, 697, 58, 151, 561, 572, 573, 566, 570, 571, 578, 661, 663, 593, 666, 676, 672, 584, 596, 640, 649, 644, 653, 658, 59, 60, 127, 315, 318, 321, 358, 359, 354, 350, 425, 117, 148, 158, 181, 258, 303, 311, 325, 516, 524, 682, 686, 705, 708, 713, 721, 725, 775, 783, 791, 795, 815, 816, 817, 868, 880, 930, 833, 690, 942, 1001, 1012, 1020, 48, 49, 50, 1058, 1059, 1225, 1252, 1256, 1259, 1402, 1274, 1286, 1335, 1409, 1299, 1245, 1270, 1248, 1266, 1291, 1295, 1399, 1405, 1418, 1421, 1367, 1389, 1363, 1385, 1395, 1321, 1326, 1375, 1379, 1332, 1241, 1262, 1314, 1433, 1437, 1233, 1237, 1429, 1454, 1449, 1458, 1470, 1445, 1462, 1466, 1474, 1486, 1490, 1494, 1498, 1063, 1067, 1071, 1542, 1526, 1538, 1545, 1518, 1522, 1510, 1513, 1553, 1577, 1580, 1565, 1569, 1573, 1584, 1561, 1602, 1599, 1609, 1612, 1615, 1605, 1618, 1621, 1629, 1634, 1650, 1654, 1646, 933, 883, 889, 890, 923, 886, 920, 893, 896, 899, 902, 908, 913, 917, 56, 57, 114, 1055, 512, 1221, 520, 1229, 701, 1506, 717, 1441, 771, 1478, 779, 1482, 811, 1557, 860, 1587, 864, 1549, 872, 1591, 876, 1595, 926, 1625, 934, 1502, 938, 1630, 1008, 1638, 1016, 1642, 1049, 1658, 268, 307, 262, 363, 433, 429, 434, 366, 271, 441, 437, 440, 442]
def ckName : MethodName := ⟨"java/lang/String", "checkIndex", "(II)V"⟩
def chkT (q : (Nat × Nat × Nat × Nat) × Nat) : Bool := match q with
  | ((own, idx, 9999, 0), j) => wOK j (.methodLink (cnm own) idx objectInit)
  | ((own, idx, 9998, 0), j) => wOK j (.methodLink (cnm own) idx ckName)
  | ((own, idx, 9997, 0), j) => wOK j (.methodLink (cnm own) idx Lib.Math.min.name)
  | ((own, idx, 9996, 0), j) => wOK j (.methodLink (cnm own) idx Lib.Math.max.name)
  | ((own, idx, 9995, 0), j) => wOK j (.methodLink (cnm own) idx Lib.Math.abs.name)
  | ((own, idx, y, 0), j) => Nat.blt y 239 && wOK j (.methodLink (cnm own) idx (mNm y))
  | ((own, idx, y, _), j) => Nat.blt y 239 && decide (nestL[j]? = some (.methodLinkNest (cnm own) idx (mNm y) "HeraldDesk"))
set_option maxRecDepth 100000 in
theorem mth_ok : (mthL.zip mthW).all chkT = true := by decide +kernel
theorem mth_len : mthL.length ≤ mthW.length := by decide +kernel
def clkW : List Nat := [185, 244, 534, 528, 594, 120, 122, 146, 156, 166, 179, 238, 112, 1053]
def chkC (q : (Nat × Nat × Nat) × Nat) : Bool := wOK q.2 (.classLink (cnm q.1.1) q.1.2.1 (cnm q.1.2.2))
set_option maxRecDepth 100000 in
theorem clk_ok : (clkL.zip clkW).all chkC = true := by decide +kernel
theorem clk_len : clkL.length ≤ clkW.length := by decide +kernel
def cjW : List Nat := [1277, 1278, 1279, 1280, 1281, 1282, 1283, 1284, 1285, 1338, 1339, 1340, 1341, 1342, 1343, 1344, 1345, 1302, 1303, 1304, 1305, 1346, 1306, 1347, 1320, 1348, 1349, 1350, 1351, 1352, 1353, 1354, 1355, 1356, 1357, 1358, 1359, 1360, 1361, 1362, 1393, 1394, 1319, 1370, 1371, 1372, 1373, 1374, 1412, 1413, 1414, 1415, 1416, 1417, 1424, 1425, 1426, 1427, 1428, 1307, 1308, 1309, 1310, 1311, 1312, 1290, 1313, 1383, 1384, 1318, 1325, 1330, 1331, 1453, 1529, 1530, 1531, 1532, 1533, 1534, 1535, 1536, 1537, 1517]
def chkJ (q : (Nat × Nat × Int64) × Nat) : Bool := wOK q.2 (.constantLong (cnm q.1.1) q.1.2.1 q.1.2.2)
set_option maxRecDepth 100000 in
theorem cj_ok : (cjL.zip cjW).all chkJ = true := by decide +kernel
theorem cj_len : cjL.length ≤ cjW.length := by decide +kernel
theorem gst_ok0 : Cond.fieldLink (cnm 10) 201 "HeraldDesk" "FAMILIES" "[I" ∈ lw_good := wOK_mem (j := 831) (by decide +kernel)
theorem gst_ok1 : Cond.fieldLink (cnm 12) 89 "HeraldDesk$Painter" "FIELD_U" "[I" ∈ lw_good := wOK_mem (j := 905) (by decide +kernel)
theorem gst_ok2 : Cond.fieldLink (cnm 12) 97 "HeraldDesk$Painter" "FIELD_V" "[I" ∈ lw_good := wOK_mem (j := 911) (by decide +kernel)
theorem gst_ok3 : Cond.fieldLink (cnm 40) 38 "java/lang/String" "COMPACT_STRINGS" "Z" ∈ lw_good := wOK_mem (j := 266) (by decide +kernel)
theorem arc_int : Cond.arrayClass .int ∈ lw_good := wOK_mem (j := 217) (by decide +kernel)
theorem arc_byte : Cond.arrayClass .byte ∈ lw_good := wOK_mem (j := 511) (by decide +kernel)
theorem arc_char : Cond.arrayClass .char ∈ lw_good := wOK_mem (j := 145) (by decide +kernel)
theorem arc_boolean : Cond.arrayClass .boolean ∈ lw_good := wOK_mem (j := 1220) (by decide +kernel)
theorem obj_w1 : Cond.instanceMethod objectInit ∈ lw_good := wOK_mem (j := 118) (by decide +kernel)
theorem obj_w2 : Cond.code objectInit ⟨#[0xb1]⟩ 1 none ∈ lw_good := wOK_mem (j := 119) (by decide +kernel)
