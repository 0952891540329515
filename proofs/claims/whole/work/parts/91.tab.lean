/-! every link of the tables stands among the words of the claim (written by gen3.py) -/
theorem a_allin {α : Type} (l : List α) (f : α → Cond) (ix : List Nat) (h : l.map f = ix.filterMap (fun i => lw_tbl[i]?)) : ∀ e ∈ l, f e ∈ lw_tbl := by
  intro e he
  have h1 : f e ∈ l.map f := List.mem_map_of_mem he
  rw [h] at h1
  obtain ⟨i, -, hi⟩ := List.mem_filterMap.mp h1
  exact List.mem_of_getElem? hi
def a_own (c : Nat) : String := a_cn.getD c ""
def a_wF (e : Nat × Nat × Nat × Nat) : Cond := match vwCl[e.2.2.1]? with
  | some (C, T, N) => .fieldLink (a_own e.1) e.2.1 (T e.2.2.2).1 (T e.2.2.2).2.1 (T e.2.2.2).2.2.1
  | none => .tt
theorem a_wF_in : ∀ e ∈ a_fldT, a_wF e ∈ lw_tbl := a_allin _ a_wF [230, 231, 232, 233, 234, 235, 236, 238, 239, 237, 226, 334, 332, 333, 367, 368, 369, 370, 371, 372, 376, 373, 374, 375, 301, 302, 303, 304, 305, 306, 307, 308, 192, 193, 194, 195, 196, 288, 289, 119, 120, 125, 121, 123, 122, 124, 261, 262, 263, 264, 265, 266, 148, 149, 150, 151, 152, 153, 154, 155, 156, 157, 158, 159, 348, 349, 350, 351, 398, 399, 400, 401, 402, 403, 404, 405, 406, 407, 408, 409, 1204, 1207, 1208, 1209, 1210, 1211, 1212, 1221, 1222, 1223, 1224, 1225, 1226, 1227, 1228, 1229, 1231, 1232, 1233, 1236, 1238, 1239, 1240, 1242, 1243, 1244, 1206, 1205, 1213, 1214, 1216, 1215, 1217, 1218, 1220, 1219, 1230, 1234, 1235, 1237, 1203, 1241] (by decide +kernel)
theorem a_fld_lt : ∀ e ∈ a_fldT, e.2.2.1 < 13 ∧ e.2.2.2 < a_nf e.2.2.1 := by decide +kernel
def a_wM (e : Nat × Nat × Nat × Nat) : Cond := .methodLink (a_own e.1) e.2.1 (a_mnm e.2.2.2)
def a_wMN (e : Nat × Nat × Nat × Nat) : Cond := .methodLinkNest (a_own e.1) e.2.1 (a_mnm e.2.2.2) "HandsPicture"
theorem a_wM013_in : ∀ e ∈ (a_mthT.filter (fun e => e.2.2.1 == 0 || e.2.2.1 == 1 || e.2.2.1 == 3)), a_wM e ∈ lw_tbl := a_allin _ a_wM [822, 826, 834, 860, 865, 864, 869, 873, 885, 901, 908, 877, 884, 889, 893, 897, 830, 838, 839, 843, 847, 851, 855, 859, 1076, 1080, 1085, 1090, 1095, 578, 584, 1029, 1058, 1113, 1108, 1109, 1120, 1114, 1133, 776, 965, 966, 992, 971, 984, 975, 976, 977, 978, 979, 983, 466, 470, 554, 558, 562, 566, 570, 574, 474, 479, 546, 550, 483, 494, 498, 508, 813, 817, 818, 921, 944, 952, 933, 934, 935, 936, 636, 681, 715, 719, 724, 728, 723, 732, 736, 760, 764, 1157, 439, 442, 446, 454, 462, 590, 594, 598, 607, 611, 619, 622, 625, 628, 632, 644, 649, 657, 661, 665, 673, 691, 699, 707, 711, 740, 748, 756, 772, 786, 789, 913, 917, 929, 940, 948, 797, 960, 961, 988, 997, 1017, 1021, 1007, 1025, 1034, 1038, 1046, 801, 1054, 1059, 1065, 1072, 1104, 1121, 1129, 1141, 1145, 1153, 1161, 1165, 1173, 653, 1050, 1181, 1185, 1193, 805, 793, 809, 1001, 1002, 1008, 1009, 1335, 1359, 1364, 1351, 1355, 1347, 1371, 1375, 1367, 1383, 1401, 1391, 1394, 1397, 1413, 1418, 1426, 1445, 1441, 1457, 1496, 1488, 1520, 1504, 1508, 1512, 1516, 1524, 1484, 1492, 1500, 1527, 1476, 1480, 1469, 1472, 1539, 1543, 1551, 1560, 1564, 1580, 1584, 1587, 1591, 1576, 1610, 1602, 1606, 1613, 1629, 502, 512, 516, 524, 519, 107, 1199, 435, 1331, 450, 1339, 458, 1343, 603, 1379, 615, 1387, 640, 1405, 645, 1409, 669, 1422, 687, 1429, 695, 1433, 703, 1437, 744, 1449, 752, 1453, 768, 1461, 782, 1465, 925, 1531, 956, 1535, 993, 1547, 1013, 1556, 1030, 1568, 1042, 1572, 1100, 1598, 1125, 1617, 1137, 1621, 1149, 1625, 1169, 1633, 1177, 1637, 1189, 1641] (by decide +kernel)
theorem a_wM24_in : ∀ e ∈ (a_mthT.filter (fun e => e.2.2.1 == 2 || e.2.2.1 == 4)), a_wMN e ∈ lw_tbl := a_allin _ a_wMN [222, 478, 216, 115, 144, 188, 210, 281, 284, 297, 328, 344, 363] (by decide +kernel)
theorem a_mth_lt : ∀ e ∈ a_mthT, e.2.2.2 < 262 := by decide +kernel
def a_wCode (k : Nat) : Cond := .code (a_mnm k) (a_mb k) (a_ml k) (a_mr k)
theorem a_int1 {w : Cond} (h : w ∈ tables_1_1) : w ∈ lw_tbl := by
  unfold lw_tbl tables_1
  simp only [List.mem_append]
  simp only [h, true_or, or_true]
theorem a_int2 {w : Cond} (h : w ∈ tables_1_2) : w ∈ lw_tbl := by
  unfold lw_tbl tables_1
  simp only [List.mem_append]
  simp only [h, true_or, or_true]
theorem a_int3 {w : Cond} (h : w ∈ tables_1_3) : w ∈ lw_tbl := by
  unfold lw_tbl tables_1
  simp only [List.mem_append]
  simp only [h, true_or, or_true]
theorem a_int4 {w : Cond} (h : w ∈ tables_1_4) : w ∈ lw_tbl := by
  unfold lw_tbl tables_1
  simp only [List.mem_append]
  simp only [h, true_or, or_true]
theorem a_int5 {w : Cond} (h : w ∈ tables_1_5) : w ∈ lw_tbl := by
  unfold lw_tbl tables_1
  simp only [List.mem_append]
  simp only [h, true_or, or_true]
theorem a_int6 {w : Cond} (h : w ∈ tables_1_6) : w ∈ lw_tbl := by
  unfold lw_tbl tables_1
  simp only [List.mem_append]
  simp only [h, true_or, or_true]
theorem a_int7 {w : Cond} (h : w ∈ tables_1_7) : w ∈ lw_tbl := by
  unfold lw_tbl tables_1
  simp only [List.mem_append]
  simp only [h, true_or, or_true]
set_option maxRecDepth 20000 in
theorem a_cw0 : a_wCode 0 ∈ lw_tbl := a_int1 (List.mem_of_getElem? (i := 135) rfl)
set_option maxRecDepth 20000 in
theorem a_cw1 : a_wCode 1 ∈ lw_tbl := a_int4 (List.mem_of_getElem? (i := 121) rfl)
set_option maxRecDepth 20000 in
theorem a_cw2 : a_wCode 2 ∈ lw_tbl := a_int4 (List.mem_of_getElem? (i := 144) rfl)
set_option maxRecDepth 20000 in
theorem a_cw3 : a_wCode 3 ∈ lw_tbl := a_int4 (List.mem_of_getElem? (i := 152) rfl)
set_option maxRecDepth 20000 in
theorem a_cw4 : a_wCode 4 ∈ lw_tbl := a_int4 (List.mem_of_getElem? (i := 18) rfl)
set_option maxRecDepth 20000 in
theorem a_cw5 : a_wCode 5 ∈ lw_tbl := a_int4 (List.mem_of_getElem? (i := 60) rfl)
set_option maxRecDepth 20000 in
theorem a_cw6 : a_wCode 6 ∈ lw_tbl := a_int4 (List.mem_of_getElem? (i := 65) rfl)
set_option maxRecDepth 20000 in
theorem a_cw7 : a_wCode 7 ∈ lw_tbl := a_int4 (List.mem_of_getElem? (i := 73) rfl)
set_option maxRecDepth 20000 in
theorem a_cw8 : a_wCode 8 ∈ lw_tbl := a_int4 (List.mem_of_getElem? (i := 85) rfl)
set_option maxRecDepth 20000 in
theorem a_cw9 : a_wCode 9 ∈ lw_tbl := a_int4 (List.mem_of_getElem? (i := 93) rfl)
set_option maxRecDepth 20000 in
theorem a_cw10 : a_wCode 10 ∈ lw_tbl := a_int4 (List.mem_of_getElem? (i := 101) rfl)
set_option maxRecDepth 20000 in
theorem a_cw11 : a_wCode 11 ∈ lw_tbl := a_int4 (List.mem_of_getElem? (i := 108) rfl)
set_option maxRecDepth 20000 in
theorem a_cw12 : a_wCode 12 ∈ lw_tbl := a_int1 (List.mem_of_getElem? (i := 141) rfl)
set_option maxRecDepth 20000 in
theorem a_cw13 : a_wCode 13 ∈ lw_tbl := a_int4 (List.mem_of_getElem? (i := 202) rfl)
set_option maxRecDepth 20000 in
theorem a_cw14 : a_wCode 14 ∈ lw_tbl := a_int4 (List.mem_of_getElem? (i := 26) rfl)
set_option maxRecDepth 20000 in
theorem a_cw15 : a_wCode 15 ∈ lw_tbl := a_int4 (List.mem_of_getElem? (i := 30) rfl)
set_option maxRecDepth 20000 in
theorem a_cw16 : a_wCode 16 ∈ lw_tbl := a_int4 (List.mem_of_getElem? (i := 77) rfl)
set_option maxRecDepth 20000 in
theorem a_cw17 : a_wCode 17 ∈ lw_tbl := a_int4 (List.mem_of_getElem? (i := 34) rfl)
set_option maxRecDepth 20000 in
theorem a_cw18 : a_wCode 18 ∈ lw_tbl := a_int4 (List.mem_of_getElem? (i := 39) rfl)
set_option maxRecDepth 20000 in
theorem a_cw19 : a_wCode 19 ∈ lw_tbl := a_int4 (List.mem_of_getElem? (i := 55) rfl)
set_option maxRecDepth 20000 in
theorem a_cw20 : a_wCode 20 ∈ lw_tbl := a_int4 (List.mem_of_getElem? (i := 209) rfl)
set_option maxRecDepth 20000 in
theorem a_cw21 : a_wCode 21 ∈ lw_tbl := a_int4 (List.mem_of_getElem? (i := 89) rfl)
set_option maxRecDepth 20000 in
theorem a_cw22 : a_wCode 22 ∈ lw_tbl := a_int4 (List.mem_of_getElem? (i := 97) rfl)
set_option maxRecDepth 20000 in
theorem a_cw23 : a_wCode 23 ∈ lw_tbl := a_int2 (List.mem_of_getElem? (i := 7) rfl)
set_option maxRecDepth 20000 in
theorem a_cw24 : a_wCode 24 ∈ lw_tbl := a_int5 (List.mem_of_getElem? (i := 153) rfl)
set_option maxRecDepth 20000 in
theorem a_cw25 : a_wCode 25 ∈ lw_tbl := a_int5 (List.mem_of_getElem? (i := 32) rfl)
set_option maxRecDepth 20000 in
theorem a_cw26 : a_wCode 26 ∈ lw_tbl := a_int5 (List.mem_of_getElem? (i := 36) rfl)
set_option maxRecDepth 20000 in
theorem a_cw27 : a_wCode 27 ∈ lw_tbl := a_int5 (List.mem_of_getElem? (i := 40) rfl)
set_option maxRecDepth 20000 in
theorem a_cw28 : a_wCode 28 ∈ lw_tbl := a_int5 (List.mem_of_getElem? (i := 45) rfl)
set_option maxRecDepth 20000 in
theorem a_cw29 : a_wCode 29 ∈ lw_tbl := a_int5 (List.mem_of_getElem? (i := 50) rfl)
set_option maxRecDepth 20000 in
theorem a_cw30 : a_wCode 30 ∈ lw_tbl := a_int5 (List.mem_of_getElem? (i := 55) rfl)
set_option maxRecDepth 20000 in
theorem a_cw31 : a_wCode 31 ∈ lw_tbl := a_int2 (List.mem_of_getElem? (i := 42) rfl)
set_option maxRecDepth 20000 in
theorem a_cw32 : a_wCode 32 ∈ lw_tbl := a_int3 (List.mem_of_getElem? (i := 38) rfl)
set_option maxRecDepth 20000 in
theorem a_cw33 : a_wCode 33 ∈ lw_tbl := a_int3 (List.mem_of_getElem? (i := 147) rfl)
set_option maxRecDepth 20000 in
theorem a_cw34 : a_wCode 34 ∈ lw_tbl := a_int2 (List.mem_of_getElem? (i := 146) rfl)
set_option maxRecDepth 20000 in
theorem a_cw35 : a_wCode 35 ∈ lw_tbl := a_int3 (List.mem_of_getElem? (i := 6) rfl)
set_option maxRecDepth 20000 in
theorem a_cw36 : a_wCode 36 ∈ lw_tbl := a_int3 (List.mem_of_getElem? (i := 14) rfl)
set_option maxRecDepth 20000 in
theorem a_cw37 : a_wCode 37 ∈ lw_tbl := a_int3 (List.mem_of_getElem? (i := 51) rfl)
set_option maxRecDepth 20000 in
theorem a_cw38 : a_wCode 38 ∈ lw_tbl := a_int4 (List.mem_of_getElem? (i := 43) rfl)
set_option maxRecDepth 20000 in
theorem a_cw39 : a_wCode 39 ∈ lw_tbl := a_int4 (List.mem_of_getElem? (i := 47) rfl)
set_option maxRecDepth 20000 in
theorem a_cw40 : a_wCode 40 ∈ lw_tbl := a_int4 (List.mem_of_getElem? (i := 51) rfl)
set_option maxRecDepth 20000 in
theorem a_cw41 : a_wCode 41 ∈ lw_tbl := a_int4 (List.mem_of_getElem? (i := 69) rfl)
set_option maxRecDepth 20000 in
theorem a_cw42 : a_wCode 42 ∈ lw_tbl := a_int3 (List.mem_of_getElem? (i := 24) rfl)
set_option maxRecDepth 20000 in
theorem a_cw43 : a_wCode 43 ∈ lw_tbl := a_int3 (List.mem_of_getElem? (i := 18) rfl)
set_option maxRecDepth 20000 in
theorem a_cw44 : a_wCode 44 ∈ lw_tbl := a_int4 (List.mem_of_getElem? (i := 5) rfl)
set_option maxRecDepth 20000 in
theorem a_cw45 : a_wCode 45 ∈ lw_tbl := a_int4 (List.mem_of_getElem? (i := 22) rfl)
set_option maxRecDepth 20000 in
theorem a_cw46 : a_wCode 46 ∈ lw_tbl := a_int4 (List.mem_of_getElem? (i := 221) rfl)
set_option maxRecDepth 20000 in
theorem a_cw47 : a_wCode 47 ∈ lw_tbl := a_int4 (List.mem_of_getElem? (i := 13) rfl)
set_option maxRecDepth 20000 in
theorem a_cw48 : a_wCode 48 ∈ lw_tbl := a_int4 (List.mem_of_getElem? (i := 136) rfl)
set_option maxRecDepth 20000 in
theorem a_cw49 : a_wCode 49 ∈ lw_tbl := a_int4 (List.mem_of_getElem? (i := 217) rfl)
set_option maxRecDepth 20000 in
theorem a_cw50 : a_wCode 50 ∈ lw_tbl := a_int4 (List.mem_of_getElem? (i := 225) rfl)
set_option maxRecDepth 20000 in
theorem a_cw51 : a_wCode 51 ∈ lw_tbl := a_int1 (List.mem_of_getElem? (i := 216) rfl)
set_option maxRecDepth 20000 in
theorem a_cw52 : a_wCode 52 ∈ lw_tbl := a_int5 (List.mem_of_getElem? (i := 10) rfl)
set_option maxRecDepth 20000 in
theorem a_cw53 : a_wCode 53 ∈ lw_tbl := a_int4 (List.mem_of_getElem? (i := 234) rfl)
set_option maxRecDepth 20000 in
theorem a_cw54 : a_wCode 54 ∈ lw_tbl := a_int4 (List.mem_of_getElem? (i := 238) rfl)
set_option maxRecDepth 20000 in
theorem a_cw55 : a_wCode 55 ∈ lw_tbl := a_int5 (List.mem_of_getElem? (i := 14) rfl)
set_option maxRecDepth 20000 in
theorem a_cw56 : a_wCode 56 ∈ lw_tbl := a_int5 (List.mem_of_getElem? (i := 19) rfl)
set_option maxRecDepth 20000 in
theorem a_cw57 : a_wCode 57 ∈ lw_tbl := a_int5 (List.mem_of_getElem? (i := 25) rfl)
set_option maxRecDepth 20000 in
theorem a_cw58 : a_wCode 58 ∈ lw_tbl := a_int5 (List.mem_of_getElem? (i := 81) rfl)
set_option maxRecDepth 20000 in
theorem a_cw59 : a_wCode 59 ∈ lw_tbl := a_int5 (List.mem_of_getElem? (i := 64) rfl)
set_option maxRecDepth 20000 in
theorem a_cw60 : a_wCode 60 ∈ lw_tbl := a_int5 (List.mem_of_getElem? (i := 69) rfl)
set_option maxRecDepth 20000 in
theorem a_cw61 : a_wCode 61 ∈ lw_tbl := a_int5 (List.mem_of_getElem? (i := 89) rfl)
set_option maxRecDepth 20000 in
theorem a_cw62 : a_wCode 62 ∈ lw_tbl := a_int5 (List.mem_of_getElem? (i := 93) rfl)
set_option maxRecDepth 20000 in
theorem a_cw63 : a_wCode 63 ∈ lw_tbl := a_int5 (List.mem_of_getElem? (i := 73) rfl)
set_option maxRecDepth 20000 in
theorem a_cw64 : a_wCode 64 ∈ lw_tbl := a_int1 (List.mem_of_getElem? (i := 107) rfl)
set_option maxRecDepth 20000 in
theorem a_cw65 : a_wCode 65 ∈ lw_tbl := a_int3 (List.mem_of_getElem? (i := 180) rfl)
set_option maxRecDepth 20000 in
theorem a_cw66 : a_wCode 66 ∈ lw_tbl := a_int3 (List.mem_of_getElem? (i := 188) rfl)
set_option maxRecDepth 20000 in
theorem a_cw67 : a_wCode 67 ∈ lw_tbl := a_int3 (List.mem_of_getElem? (i := 155) rfl)
set_option maxRecDepth 20000 in
theorem a_cw68 : a_wCode 68 ∈ lw_tbl := a_int3 (List.mem_of_getElem? (i := 172) rfl)
set_option maxRecDepth 20000 in
theorem a_cw69 : a_wCode 69 ∈ lw_tbl := a_int3 (List.mem_of_getElem? (i := 176) rfl)
set_option maxRecDepth 20000 in
theorem a_cw70 : a_wCode 70 ∈ lw_tbl := a_int3 (List.mem_of_getElem? (i := 212) rfl)
set_option maxRecDepth 20000 in
theorem a_cw71 : a_wCode 71 ∈ lw_tbl := a_int1 (List.mem_of_getElem? (i := 203) rfl)
set_option maxRecDepth 20000 in
theorem a_cw72 : a_wCode 72 ∈ lw_tbl := a_int4 (List.mem_of_getElem? (i := 161) rfl)
set_option maxRecDepth 20000 in
theorem a_cw73 : a_wCode 73 ∈ lw_tbl := a_int4 (List.mem_of_getElem? (i := 188) rfl)
set_option maxRecDepth 20000 in
theorem a_cw74 : a_wCode 74 ∈ lw_tbl := a_int4 (List.mem_of_getElem? (i := 166) rfl)
set_option maxRecDepth 20000 in
theorem a_cw75 : a_wCode 75 ∈ lw_tbl := a_int4 (List.mem_of_getElem? (i := 171) rfl)
set_option maxRecDepth 20000 in
theorem a_cw76 : a_wCode 76 ∈ lw_tbl := a_int4 (List.mem_of_getElem? (i := 179) rfl)
set_option maxRecDepth 20000 in
theorem a_cw77 : a_wCode 77 ∈ lw_tbl := a_int4 (List.mem_of_getElem? (i := 184) rfl)
set_option maxRecDepth 20000 in
theorem a_cw78 : a_wCode 78 ∈ lw_tbl := a_int1 (List.mem_of_getElem? (i := 34) rfl)
set_option maxRecDepth 20000 in
theorem a_cw79 : a_wCode 79 ∈ lw_tbl := a_int2 (List.mem_of_getElem? (i := 122) rfl)
set_option maxRecDepth 20000 in
theorem a_cw80 : a_wCode 80 ∈ lw_tbl := a_int2 (List.mem_of_getElem? (i := 126) rfl)
set_option maxRecDepth 20000 in
theorem a_cw81 : a_wCode 81 ∈ lw_tbl := a_int2 (List.mem_of_getElem? (i := 134) rfl)
set_option maxRecDepth 20000 in
theorem a_cw82 : a_wCode 82 ∈ lw_tbl := a_int2 (List.mem_of_getElem? (i := 142) rfl)
set_option maxRecDepth 20000 in
theorem a_cw83 : a_wCode 83 ∈ lw_tbl := a_int2 (List.mem_of_getElem? (i := 234) rfl)
set_option maxRecDepth 20000 in
theorem a_cw84 : a_wCode 84 ∈ lw_tbl := a_int3 (List.mem_of_getElem? (i := 10) rfl)
set_option maxRecDepth 20000 in
theorem a_cw85 : a_wCode 85 ∈ lw_tbl := a_int2 (List.mem_of_getElem? (i := 238) rfl)
set_option maxRecDepth 20000 in
theorem a_cw86 : a_wCode 86 ∈ lw_tbl := a_int3 (List.mem_of_getElem? (i := 2) rfl)
set_option maxRecDepth 20000 in
theorem a_cw87 : a_wCode 87 ∈ lw_tbl := a_int2 (List.mem_of_getElem? (i := 150) rfl)
set_option maxRecDepth 20000 in
theorem a_cw88 : a_wCode 88 ∈ lw_tbl := a_int2 (List.mem_of_getElem? (i := 154) rfl)
set_option maxRecDepth 20000 in
theorem a_cw89 : a_wCode 89 ∈ lw_tbl := a_int2 (List.mem_of_getElem? (i := 159) rfl)
set_option maxRecDepth 20000 in
theorem a_cw90 : a_wCode 90 ∈ lw_tbl := a_int2 (List.mem_of_getElem? (i := 162) rfl)
set_option maxRecDepth 20000 in
theorem a_cw91 : a_wCode 91 ∈ lw_tbl := a_int2 (List.mem_of_getElem? (i := 174) rfl)
set_option maxRecDepth 20000 in
theorem a_cw92 : a_wCode 92 ∈ lw_tbl := a_int2 (List.mem_of_getElem? (i := 226) rfl)
set_option maxRecDepth 20000 in
theorem a_cw93 : a_wCode 93 ∈ lw_tbl := a_int2 (List.mem_of_getElem? (i := 230) rfl)
set_option maxRecDepth 20000 in
theorem a_cw94 : a_wCode 94 ∈ lw_tbl := a_int1 (List.mem_of_getElem? (i := 129) rfl)
set_option maxRecDepth 20000 in
theorem a_cw95 : a_wCode 95 ∈ lw_tbl := a_int3 (List.mem_of_getElem? (i := 34) rfl)
set_option maxRecDepth 20000 in
theorem a_cw96 : a_wCode 96 ∈ lw_tbl := a_int3 (List.mem_of_getElem? (i := 233) rfl)
set_option maxRecDepth 20000 in
theorem a_cw97 : a_wCode 97 ∈ lw_tbl := a_int4 (List.mem_of_getElem? (i := 9) rfl)
set_option maxRecDepth 20000 in
theorem a_cw98 : a_wCode 98 ∈ lw_tbl := a_int4 (List.mem_of_getElem? (i := 113) rfl)
set_option maxRecDepth 20000 in
theorem a_cw99 : a_wCode 99 ∈ lw_tbl := a_int4 (List.mem_of_getElem? (i := 117) rfl)
set_option maxRecDepth 20000 in
theorem a_cw100 : a_wCode 100 ∈ lw_tbl := a_int4 (List.mem_of_getElem? (i := 140) rfl)
set_option maxRecDepth 20000 in
theorem a_cw101 : a_wCode 101 ∈ lw_tbl := a_int4 (List.mem_of_getElem? (i := 148) rfl)
set_option maxRecDepth 20000 in
theorem a_cw102 : a_wCode 102 ∈ lw_tbl := a_int4 (List.mem_of_getElem? (i := 129) rfl)
set_option maxRecDepth 20000 in
theorem a_cw103 : a_wCode 103 ∈ lw_tbl := a_int1 (List.mem_of_getElem? (i := 63) rfl)
set_option maxRecDepth 20000 in
theorem a_cw104 : a_wCode 104 ∈ lw_tbl := a_int3 (List.mem_of_getElem? (i := 93) rfl)
set_option maxRecDepth 20000 in
theorem a_cw105 : a_wCode 105 ∈ lw_tbl := a_int3 (List.mem_of_getElem? (i := 68) rfl)
set_option maxRecDepth 20000 in
theorem a_cw106 : a_wCode 106 ∈ lw_tbl := a_int3 (List.mem_of_getElem? (i := 30) rfl)
set_option maxRecDepth 20000 in
theorem a_cw107 : a_wCode 107 ∈ lw_tbl := a_int3 (List.mem_of_getElem? (i := 76) rfl)
set_option maxRecDepth 20000 in
theorem a_cw108 : a_wCode 108 ∈ lw_tbl := a_int3 (List.mem_of_getElem? (i := 72) rfl)
set_option maxRecDepth 20000 in
theorem a_cw109 : a_wCode 109 ∈ lw_tbl := a_int3 (List.mem_of_getElem? (i := 105) rfl)
set_option maxRecDepth 20000 in
theorem a_cw110 : a_wCode 110 ∈ lw_tbl := a_int3 (List.mem_of_getElem? (i := 97) rfl)
set_option maxRecDepth 20000 in
theorem a_cw111 : a_wCode 111 ∈ lw_tbl := a_int3 (List.mem_of_getElem? (i := 101) rfl)
set_option maxRecDepth 20000 in
theorem a_cw112 : a_wCode 112 ∈ lw_tbl := a_int3 (List.mem_of_getElem? (i := 113) rfl)
set_option maxRecDepth 20000 in
theorem a_cw113 : a_wCode 113 ∈ lw_tbl := a_int3 (List.mem_of_getElem? (i := 139) rfl)
set_option maxRecDepth 20000 in
theorem a_cw114 : a_wCode 114 ∈ lw_tbl := a_int5 (List.mem_of_getElem? (i := 145) rfl)
set_option maxRecDepth 20000 in
theorem a_cw115 : a_wCode 115 ∈ lw_tbl := a_int3 (List.mem_of_getElem? (i := 131) rfl)
set_option maxRecDepth 20000 in
theorem a_cw116 : a_wCode 116 ∈ lw_tbl := a_int3 (List.mem_of_getElem? (i := 151) rfl)
set_option maxRecDepth 20000 in
theorem a_cw117 : a_wCode 117 ∈ lw_tbl := a_int3 (List.mem_of_getElem? (i := 159) rfl)
set_option maxRecDepth 20000 in
theorem a_cw118 : a_wCode 118 ∈ lw_tbl := a_int3 (List.mem_of_getElem? (i := 164) rfl)
set_option maxRecDepth 20000 in
theorem a_cw119 : a_wCode 119 ∈ lw_tbl := a_int3 (List.mem_of_getElem? (i := 168) rfl)
set_option maxRecDepth 20000 in
theorem a_cw120 : a_wCode 120 ∈ lw_tbl := a_int3 (List.mem_of_getElem? (i := 196) rfl)
set_option maxRecDepth 20000 in
theorem a_cw121 : a_wCode 121 ∈ lw_tbl := a_int3 (List.mem_of_getElem? (i := 204) rfl)
set_option maxRecDepth 20000 in
theorem a_cw122 : a_wCode 122 ∈ lw_tbl := a_int3 (List.mem_of_getElem? (i := 200) rfl)
set_option maxRecDepth 20000 in
theorem a_cw123 : a_wCode 123 ∈ lw_tbl := a_int2 (List.mem_of_getElem? (i := 23) rfl)
set_option maxRecDepth 20000 in
theorem a_cw124 : a_wCode 124 ∈ lw_tbl := a_int5 (List.mem_of_getElem? (i := 141) rfl)
set_option maxRecDepth 20000 in
theorem a_cw125 : a_wCode 125 ∈ lw_tbl := a_int5 (List.mem_of_getElem? (i := 101) rfl)
set_option maxRecDepth 20000 in
theorem a_cw126 : a_wCode 126 ∈ lw_tbl := a_int5 (List.mem_of_getElem? (i := 105) rfl)
set_option maxRecDepth 20000 in
theorem a_cw127 : a_wCode 127 ∈ lw_tbl := a_int5 (List.mem_of_getElem? (i := 113) rfl)
set_option maxRecDepth 20000 in
theorem a_cw128 : a_wCode 128 ∈ lw_tbl := a_int5 (List.mem_of_getElem? (i := 117) rfl)
set_option maxRecDepth 20000 in
theorem a_cw129 : a_wCode 129 ∈ lw_tbl := a_int5 (List.mem_of_getElem? (i := 125) rfl)
set_option maxRecDepth 20000 in
theorem a_cw130 : a_wCode 130 ∈ lw_tbl := a_int5 (List.mem_of_getElem? (i := 121) rfl)
set_option maxRecDepth 20000 in
theorem a_cw131 : a_wCode 131 ∈ lw_tbl := a_int5 (List.mem_of_getElem? (i := 133) rfl)
set_option maxRecDepth 20000 in
theorem a_cw132 : a_wCode 132 ∈ lw_tbl := a_int1 (List.mem_of_getElem? (i := 26) rfl)
set_option maxRecDepth 20000 in
theorem a_cw133 : a_wCode 133 ∈ lw_tbl := a_int2 (List.mem_of_getElem? (i := 115) rfl)
set_option maxRecDepth 20000 in
theorem a_cw134 : a_wCode 134 ∈ lw_tbl := a_int2 (List.mem_of_getElem? (i := 130) rfl)
set_option maxRecDepth 20000 in
theorem a_cw135 : a_wCode 135 ∈ lw_tbl := a_int2 (List.mem_of_getElem? (i := 138) rfl)
set_option maxRecDepth 20000 in
theorem a_cw136 : a_wCode 136 ∈ lw_tbl := a_int3 (List.mem_of_getElem? (i := 43) rfl)
set_option maxRecDepth 20000 in
theorem a_cw137 : a_wCode 137 ∈ lw_tbl := a_int3 (List.mem_of_getElem? (i := 55) rfl)
set_option maxRecDepth 20000 in
theorem a_cw138 : a_wCode 138 ∈ lw_tbl := a_int3 (List.mem_of_getElem? (i := 80) rfl)
set_option maxRecDepth 20000 in
theorem a_cw139 : a_wCode 139 ∈ lw_tbl := a_int3 (List.mem_of_getElem? (i := 85) rfl)
set_option maxRecDepth 20000 in
theorem a_cw140 : a_wCode 140 ∈ lw_tbl := a_int3 (List.mem_of_getElem? (i := 109) rfl)
set_option maxRecDepth 20000 in
theorem a_cw141 : a_wCode 141 ∈ lw_tbl := a_int3 (List.mem_of_getElem? (i := 127) rfl)
set_option maxRecDepth 20000 in
theorem a_cw142 : a_wCode 142 ∈ lw_tbl := a_int3 (List.mem_of_getElem? (i := 135) rfl)
set_option maxRecDepth 20000 in
theorem a_cw143 : a_wCode 143 ∈ lw_tbl := a_int3 (List.mem_of_getElem? (i := 143) rfl)
set_option maxRecDepth 20000 in
theorem a_cw144 : a_wCode 144 ∈ lw_tbl := a_int3 (List.mem_of_getElem? (i := 184) rfl)
set_option maxRecDepth 20000 in
theorem a_cw145 : a_wCode 145 ∈ lw_tbl := a_int3 (List.mem_of_getElem? (i := 192) rfl)
set_option maxRecDepth 20000 in
theorem a_cw146 : a_wCode 146 ∈ lw_tbl := a_int3 (List.mem_of_getElem? (i := 208) rfl)
set_option maxRecDepth 20000 in
theorem a_cw147 : a_wCode 147 ∈ lw_tbl := a_int3 (List.mem_of_getElem? (i := 222) rfl)
set_option maxRecDepth 20000 in
theorem a_cw148 : a_wCode 148 ∈ lw_tbl := a_int4 (List.mem_of_getElem? (i := 125) rfl)
set_option maxRecDepth 20000 in
theorem a_cw149 : a_wCode 149 ∈ lw_tbl := a_int4 (List.mem_of_getElem? (i := 156) rfl)
set_option maxRecDepth 20000 in
theorem a_cw150 : a_wCode 150 ∈ lw_tbl := a_int4 (List.mem_of_getElem? (i := 193) rfl)
set_option maxRecDepth 20000 in
theorem a_cw151 : a_wCode 151 ∈ lw_tbl := a_int4 (List.mem_of_getElem? (i := 213) rfl)
set_option maxRecDepth 20000 in
theorem a_cw152 : a_wCode 152 ∈ lw_tbl := a_int4 (List.mem_of_getElem? (i := 230) rfl)
set_option maxRecDepth 20000 in
theorem a_cw153 : a_wCode 153 ∈ lw_tbl := a_int5 (List.mem_of_getElem? (i := 2) rfl)
set_option maxRecDepth 20000 in
theorem a_cw154 : a_wCode 154 ∈ lw_tbl := a_int5 (List.mem_of_getElem? (i := 60) rfl)
set_option maxRecDepth 20000 in
theorem a_cw155 : a_wCode 155 ∈ lw_tbl := a_int5 (List.mem_of_getElem? (i := 85) rfl)
set_option maxRecDepth 20000 in
theorem a_cw156 : a_wCode 156 ∈ lw_tbl := a_int5 (List.mem_of_getElem? (i := 97) rfl)
set_option maxRecDepth 20000 in
theorem a_cw157 : a_wCode 157 ∈ lw_tbl := a_int5 (List.mem_of_getElem? (i := 109) rfl)
set_option maxRecDepth 20000 in
theorem a_cw158 : a_wCode 158 ∈ lw_tbl := a_int5 (List.mem_of_getElem? (i := 129) rfl)
set_option maxRecDepth 20000 in
theorem a_cw159 : a_wCode 159 ∈ lw_tbl := a_int5 (List.mem_of_getElem? (i := 137) rfl)
set_option maxRecDepth 20000 in
theorem a_cw160 : a_wCode 160 ∈ lw_tbl := a_int5 (List.mem_of_getElem? (i := 149) rfl)
set_option maxRecDepth 20000 in
theorem a_cw161 : a_wCode 161 ∈ lw_tbl := a_int2 (List.mem_of_getElem? (i := 118) rfl)
set_option maxRecDepth 20000 in
theorem a_cw162 : a_wCode 162 ∈ lw_tbl := a_int3 (List.mem_of_getElem? (i := 58) rfl)
set_option maxRecDepth 20000 in
theorem a_cw163 : a_wCode 163 ∈ lw_tbl := a_int3 (List.mem_of_getElem? (i := 61) rfl)
set_option maxRecDepth 20000 in
theorem a_cw164 : a_wCode 164 ∈ lw_tbl := a_int3 (List.mem_of_getElem? (i := 64) rfl)
set_option maxRecDepth 20000 in
theorem a_cw165 : a_wCode 165 ∈ lw_tbl := a_int3 (List.mem_of_getElem? (i := 225) rfl)
set_option maxRecDepth 20000 in
theorem a_cw166 : a_wCode 166 ∈ lw_tbl := a_int3 (List.mem_of_getElem? (i := 47) rfl)
set_option maxRecDepth 20000 in
theorem a_cw167 : a_wCode 167 ∈ lw_tbl := a_int3 (List.mem_of_getElem? (i := 89) rfl)
set_option maxRecDepth 20000 in
theorem a_cw168 : a_wCode 168 ∈ lw_tbl := a_int5 (List.mem_of_getElem? (i := 6) rfl)
set_option maxRecDepth 20000 in
theorem a_cw169 : a_wCode 169 ∈ lw_tbl := a_int4 (List.mem_of_getElem? (i := 1) rfl)
set_option maxRecDepth 20000 in
theorem a_cw170 : a_wCode 170 ∈ lw_tbl := a_int3 (List.mem_of_getElem? (i := 237) rfl)
set_option maxRecDepth 20000 in
theorem a_cw171 : a_wCode 171 ∈ lw_tbl := a_int3 (List.mem_of_getElem? (i := 229) rfl)
set_option maxRecDepth 20000 in
theorem a_cw172 : a_wCode 172 ∈ lw_tbl := a_int4 (List.mem_of_getElem? (i := 197) rfl)
set_option maxRecDepth 20000 in
theorem a_cw173 : a_wCode 173 ∈ lw_tbl := a_int5 (List.mem_of_getElem? (i := 158) rfl)
set_option maxRecDepth 20000 in
theorem a_cw174 : a_wCode 174 ∈ lw_tbl := a_int6 (List.mem_of_getElem? (i := 54) rfl)
set_option maxRecDepth 20000 in
theorem a_cw175 : a_wCode 175 ∈ lw_tbl := a_int6 (List.mem_of_getElem? (i := 51) rfl)
set_option maxRecDepth 20000 in
theorem a_cw176 : a_wCode 176 ∈ lw_tbl := a_int6 (List.mem_of_getElem? (i := 59) rfl)
set_option maxRecDepth 20000 in
theorem a_cw177 : a_wCode 177 ∈ lw_tbl := a_int6 (List.mem_of_getElem? (i := 71) rfl)
set_option maxRecDepth 20000 in
theorem a_cw178 : a_wCode 178 ∈ lw_tbl := a_int6 (List.mem_of_getElem? (i := 78) rfl)
set_option maxRecDepth 20000 in
theorem a_cw179 : a_wCode 179 ∈ lw_tbl := a_int6 (List.mem_of_getElem? (i := 83) rfl)
set_option maxRecDepth 20000 in
theorem a_cw180 : a_wCode 180 ∈ lw_tbl := a_int6 (List.mem_of_getElem? (i := 75) rfl)
set_option maxRecDepth 20000 in
theorem a_cw181 : a_wCode 181 ∈ lw_tbl := a_int6 (List.mem_of_getElem? (i := 67) rfl)
set_option maxRecDepth 20000 in
theorem a_cw182 : a_wCode 182 ∈ lw_tbl := a_int6 (List.mem_of_getElem? (i := 91) rfl)
set_option maxRecDepth 20000 in
theorem a_cw183 : a_wCode 183 ∈ lw_tbl := a_int6 (List.mem_of_getElem? (i := 95) rfl)
set_option maxRecDepth 20000 in
theorem a_cw184 : a_wCode 184 ∈ lw_tbl := a_int6 (List.mem_of_getElem? (i := 87) rfl)
set_option maxRecDepth 20000 in
theorem a_cw185 : a_wCode 185 ∈ lw_tbl := a_int6 (List.mem_of_getElem? (i := 63) rfl)
set_option maxRecDepth 20000 in
theorem a_cw186 : a_wCode 186 ∈ lw_tbl := a_int6 (List.mem_of_getElem? (i := 103) rfl)
set_option maxRecDepth 20000 in
theorem a_cw187 : a_wCode 187 ∈ lw_tbl := a_int6 (List.mem_of_getElem? (i := 99) rfl)
set_option maxRecDepth 20000 in
theorem a_cw188 : a_wCode 188 ∈ lw_tbl := a_int6 (List.mem_of_getElem? (i := 110) rfl)
set_option maxRecDepth 20000 in
theorem a_cw189 : a_wCode 189 ∈ lw_tbl := a_int6 (List.mem_of_getElem? (i := 113) rfl)
set_option maxRecDepth 20000 in
theorem a_cw190 : a_wCode 190 ∈ lw_tbl := a_int6 (List.mem_of_getElem? (i := 133) rfl)
set_option maxRecDepth 20000 in
theorem a_cw191 : a_wCode 191 ∈ lw_tbl := a_int6 (List.mem_of_getElem? (i := 121) rfl)
set_option maxRecDepth 20000 in
theorem a_cw192 : a_wCode 192 ∈ lw_tbl := a_int6 (List.mem_of_getElem? (i := 117) rfl)
set_option maxRecDepth 20000 in
theorem a_cw193 : a_wCode 193 ∈ lw_tbl := a_int6 (List.mem_of_getElem? (i := 107) rfl)
set_option maxRecDepth 20000 in
theorem a_cw194 : a_wCode 194 ∈ lw_tbl := a_int6 (List.mem_of_getElem? (i := 125) rfl)
set_option maxRecDepth 20000 in
theorem a_cw195 : a_wCode 195 ∈ lw_tbl := a_int6 (List.mem_of_getElem? (i := 138) rfl)
set_option maxRecDepth 20000 in
theorem a_cw196 : a_wCode 196 ∈ lw_tbl := a_int6 (List.mem_of_getElem? (i := 129) rfl)
set_option maxRecDepth 20000 in
theorem a_cw197 : a_wCode 197 ∈ lw_tbl := a_int6 (List.mem_of_getElem? (i := 145) rfl)
set_option maxRecDepth 20000 in
theorem a_cw198 : a_wCode 198 ∈ lw_tbl := a_int6 (List.mem_of_getElem? (i := 142) rfl)
set_option maxRecDepth 20000 in
theorem a_cw199 : a_wCode 199 ∈ lw_tbl := a_int6 (List.mem_of_getElem? (i := 149) rfl)
set_option maxRecDepth 20000 in
theorem a_cw200 : a_wCode 200 ∈ lw_tbl := a_int6 (List.mem_of_getElem? (i := 153) rfl)
set_option maxRecDepth 20000 in
theorem a_cw201 : a_wCode 201 ∈ lw_tbl := a_int6 (List.mem_of_getElem? (i := 165) rfl)
set_option maxRecDepth 20000 in
theorem a_cw202 : a_wCode 202 ∈ lw_tbl := a_int6 (List.mem_of_getElem? (i := 161) rfl)
set_option maxRecDepth 20000 in
theorem a_cw203 : a_wCode 203 ∈ lw_tbl := a_int6 (List.mem_of_getElem? (i := 157) rfl)
set_option maxRecDepth 20000 in
theorem a_cw204 : a_wCode 204 ∈ lw_tbl := a_int6 (List.mem_of_getElem? (i := 169) rfl)
set_option maxRecDepth 20000 in
theorem a_cw205 : a_wCode 205 ∈ lw_tbl := a_int6 (List.mem_of_getElem? (i := 177) rfl)
set_option maxRecDepth 20000 in
theorem a_cw206 : a_wCode 206 ∈ lw_tbl := a_int6 (List.mem_of_getElem? (i := 173) rfl)
set_option maxRecDepth 20000 in
theorem a_cw207 : a_wCode 207 ∈ lw_tbl := a_int6 (List.mem_of_getElem? (i := 181) rfl)
set_option maxRecDepth 20000 in
theorem a_cw208 : a_wCode 208 ∈ lw_tbl := a_int6 (List.mem_of_getElem? (i := 208) rfl)
set_option maxRecDepth 20000 in
theorem a_cw209 : a_wCode 209 ∈ lw_tbl := a_int6 (List.mem_of_getElem? (i := 216) rfl)
set_option maxRecDepth 20000 in
theorem a_cw210 : a_wCode 210 ∈ lw_tbl := a_int6 (List.mem_of_getElem? (i := 196) rfl)
set_option maxRecDepth 20000 in
theorem a_cw211 : a_wCode 211 ∈ lw_tbl := a_int7 (List.mem_of_getElem? (i := 0) rfl)
set_option maxRecDepth 20000 in
theorem a_cw212 : a_wCode 212 ∈ lw_tbl := a_int6 (List.mem_of_getElem? (i := 236) rfl)
set_option maxRecDepth 20000 in
theorem a_cw213 : a_wCode 213 ∈ lw_tbl := a_int6 (List.mem_of_getElem? (i := 212) rfl)
set_option maxRecDepth 20000 in
theorem a_cw214 : a_wCode 214 ∈ lw_tbl := a_int6 (List.mem_of_getElem? (i := 224) rfl)
set_option maxRecDepth 20000 in
theorem a_cw215 : a_wCode 215 ∈ lw_tbl := a_int6 (List.mem_of_getElem? (i := 232) rfl)
set_option maxRecDepth 20000 in
theorem a_cw216 : a_wCode 216 ∈ lw_tbl := a_int6 (List.mem_of_getElem? (i := 228) rfl)
set_option maxRecDepth 20000 in
theorem a_cw217 : a_wCode 217 ∈ lw_tbl := a_int7 (List.mem_of_getElem? (i := 3) rfl)
set_option maxRecDepth 20000 in
theorem a_cw218 : a_wCode 218 ∈ lw_tbl := a_int6 (List.mem_of_getElem? (i := 220) rfl)
set_option maxRecDepth 20000 in
theorem a_cw219 : a_wCode 219 ∈ lw_tbl := a_int6 (List.mem_of_getElem? (i := 204) rfl)
set_option maxRecDepth 20000 in
theorem a_cw220 : a_wCode 220 ∈ lw_tbl := a_int7 (List.mem_of_getElem? (i := 7) rfl)
set_option maxRecDepth 20000 in
theorem a_cw221 : a_wCode 221 ∈ lw_tbl := a_int6 (List.mem_of_getElem? (i := 200) rfl)
set_option maxRecDepth 20000 in
theorem a_cw222 : a_wCode 222 ∈ lw_tbl := a_int6 (List.mem_of_getElem? (i := 192) rfl)
set_option maxRecDepth 20000 in
theorem a_cw223 : a_wCode 223 ∈ lw_tbl := a_int6 (List.mem_of_getElem? (i := 188) rfl)
set_option maxRecDepth 20000 in
theorem a_cw224 : a_wCode 224 ∈ lw_tbl := a_int6 (List.mem_of_getElem? (i := 185) rfl)
set_option maxRecDepth 20000 in
theorem a_cw225 : a_wCode 225 ∈ lw_tbl := a_int7 (List.mem_of_getElem? (i := 11) rfl)
set_option maxRecDepth 20000 in
theorem a_cw226 : a_wCode 226 ∈ lw_tbl := a_int7 (List.mem_of_getElem? (i := 19) rfl)
set_option maxRecDepth 20000 in
theorem a_cw227 : a_wCode 227 ∈ lw_tbl := a_int7 (List.mem_of_getElem? (i := 23) rfl)
set_option maxRecDepth 20000 in
theorem a_cw228 : a_wCode 228 ∈ lw_tbl := a_int7 (List.mem_of_getElem? (i := 15) rfl)
set_option maxRecDepth 20000 in
theorem a_cw229 : a_wCode 229 ∈ lw_tbl := a_int7 (List.mem_of_getElem? (i := 31) rfl)
set_option maxRecDepth 20000 in
theorem a_cw230 : a_wCode 230 ∈ lw_tbl := a_int7 (List.mem_of_getElem? (i := 27) rfl)
set_option maxRecDepth 20000 in
theorem a_cw231 : a_wCode 231 ∈ lw_tbl := a_int7 (List.mem_of_getElem? (i := 40) rfl)
set_option maxRecDepth 20000 in
theorem a_cw232 : a_wCode 232 ∈ lw_tbl := a_int7 (List.mem_of_getElem? (i := 44) rfl)
set_option maxRecDepth 20000 in
theorem a_cw233 : a_wCode 233 ∈ lw_tbl := a_int7 (List.mem_of_getElem? (i := 36) rfl)
set_option maxRecDepth 20000 in
theorem a_cw234 : a_wCode 234 ∈ lw_tbl := a_int7 (List.mem_of_getElem? (i := 48) rfl)
set_option maxRecDepth 20000 in
theorem a_cw235 : a_wCode 235 ∈ lw_tbl := a_int7 (List.mem_of_getElem? (i := 63) rfl)
set_option maxRecDepth 20000 in
theorem a_cw236 : a_wCode 236 ∈ lw_tbl := a_int7 (List.mem_of_getElem? (i := 60) rfl)
set_option maxRecDepth 20000 in
theorem a_cw237 : a_wCode 237 ∈ lw_tbl := a_int7 (List.mem_of_getElem? (i := 67) rfl)
set_option maxRecDepth 20000 in
theorem a_cw238 : a_wCode 238 ∈ lw_tbl := a_int7 (List.mem_of_getElem? (i := 70) rfl)
set_option maxRecDepth 20000 in
theorem a_cw239 : a_wCode 239 ∈ lw_tbl := a_int7 (List.mem_of_getElem? (i := 56) rfl)
set_option maxRecDepth 20000 in
theorem a_cw240 : a_wCode 240 ∈ lw_tbl := a_int7 (List.mem_of_getElem? (i := 52) rfl)
set_option maxRecDepth 20000 in
theorem a_cw241 : a_wCode 241 ∈ lw_tbl := a_int7 (List.mem_of_getElem? (i := 89) rfl)
set_option maxRecDepth 20000 in
theorem a_cw242 : a_wCode 242 ∈ lw_tbl := a_int7 (List.mem_of_getElem? (i := 86) rfl)
set_option maxRecDepth 20000 in
theorem a_cw243 : a_wCode 243 ∈ lw_tbl := a_int7 (List.mem_of_getElem? (i := 93) rfl)
set_option maxRecDepth 20000 in
theorem a_cw244 : a_wCode 244 ∈ lw_tbl := a_int7 (List.mem_of_getElem? (i := 82) rfl)
set_option maxRecDepth 20000 in
theorem a_cw245 : a_wCode 245 ∈ lw_tbl := a_int7 (List.mem_of_getElem? (i := 78) rfl)
set_option maxRecDepth 20000 in
theorem a_cw246 : a_wCode 246 ∈ lw_tbl := a_int7 (List.mem_of_getElem? (i := 97) rfl)
set_option maxRecDepth 20000 in
theorem a_cw247 : a_wCode 247 ∈ lw_tbl := a_int7 (List.mem_of_getElem? (i := 101) rfl)
set_option maxRecDepth 20000 in
theorem a_cw248 : a_wCode 248 ∈ lw_tbl := a_int7 (List.mem_of_getElem? (i := 109) rfl)
set_option maxRecDepth 20000 in
theorem a_cw249 : a_wCode 249 ∈ lw_tbl := a_int7 (List.mem_of_getElem? (i := 105) rfl)
set_option maxRecDepth 20000 in
theorem a_cw250 : a_wCode 250 ∈ lw_tbl := a_int7 (List.mem_of_getElem? (i := 113) rfl)
set_option maxRecDepth 20000 in
theorem a_cw251 : a_wCode 251 ∈ lw_tbl := a_int7 (List.mem_of_getElem? (i := 117) rfl)
set_option maxRecDepth 20000 in
theorem a_cw252 : a_wCode 252 ∈ lw_tbl := a_int7 (List.mem_of_getElem? (i := 121) rfl)
set_option maxRecDepth 20000 in
theorem a_cw253 : a_wCode 253 ∈ lw_tbl := a_int2 (List.mem_of_getElem? (i := 178) rfl)
set_option maxRecDepth 20000 in
theorem a_cw254 : a_wCode 254 ∈ lw_tbl := a_int2 (List.mem_of_getElem? (i := 188) rfl)
set_option maxRecDepth 20000 in
theorem a_cw255 : a_wCode 255 ∈ lw_tbl := a_int2 (List.mem_of_getElem? (i := 182) rfl)
set_option maxRecDepth 20000 in
theorem a_cw256 : a_wCode 256 ∈ lw_tbl := a_int2 (List.mem_of_getElem? (i := 192) rfl)
set_option maxRecDepth 20000 in
theorem a_cw257 : a_wCode 257 ∈ lw_tbl := a_int2 (List.mem_of_getElem? (i := 198) rfl)
set_option maxRecDepth 20000 in
theorem a_cw258 : a_wCode 258 ∈ lw_tbl := a_int2 (List.mem_of_getElem? (i := 195) rfl)
set_option maxRecDepth 20000 in
theorem a_cw259 : a_wCode 259 ∈ lw_tbl := a_int2 (List.mem_of_getElem? (i := 203) rfl)
set_option maxRecDepth 20000 in
theorem a_cw260 : a_wCode 260 ∈ lw_tbl := a_int3 (List.mem_of_getElem? (i := 215) rfl)
set_option maxRecDepth 20000 in
theorem a_cw261 : a_wCode 261 ∈ lw_tbl := a_int3 (List.mem_of_getElem? (i := 120) rfl)
theorem a_cwl0 : ∀ k ∈ [0, 1, 2, 3, 4, 5, 6, 7, 8, 9, 10, 11, 12, 13, 14, 15, 16, 17, 18, 19, 20, 21, 22, 23, 24, 25, 26, 27, 28, 29], a_wCode k ∈ lw_tbl := List.forall_mem_cons.mpr ⟨a_cw0, List.forall_mem_cons.mpr ⟨a_cw1, List.forall_mem_cons.mpr ⟨a_cw2, List.forall_mem_cons.mpr ⟨a_cw3, List.forall_mem_cons.mpr ⟨a_cw4, List.forall_mem_cons.mpr ⟨a_cw5, List.forall_mem_cons.mpr ⟨a_cw6, List.forall_mem_cons.mpr ⟨a_cw7, List.forall_mem_cons.mpr ⟨a_cw8, List.forall_mem_cons.mpr ⟨a_cw9, List.forall_mem_cons.mpr ⟨a_cw10, List.forall_mem_cons.mpr ⟨a_cw11, List.forall_mem_cons.mpr ⟨a_cw12, List.forall_mem_cons.mpr ⟨a_cw13, List.forall_mem_cons.mpr ⟨a_cw14, List.forall_mem_cons.mpr ⟨a_cw15, List.forall_mem_cons.mpr ⟨a_cw16, List.forall_mem_cons.mpr ⟨a_cw17, List.forall_mem_cons.mpr ⟨a_cw18, List.forall_mem_cons.mpr ⟨a_cw19, List.forall_mem_cons.mpr ⟨a_cw20, List.forall_mem_cons.mpr ⟨a_cw21, List.forall_mem_cons.mpr ⟨a_cw22, List.forall_mem_cons.mpr ⟨a_cw23, List.forall_mem_cons.mpr ⟨a_cw24, List.forall_mem_cons.mpr ⟨a_cw25, List.forall_mem_cons.mpr ⟨a_cw26, List.forall_mem_cons.mpr ⟨a_cw27, List.forall_mem_cons.mpr ⟨a_cw28, List.forall_mem_cons.mpr ⟨a_cw29, List.forall_mem_nil _⟩⟩⟩⟩⟩⟩⟩⟩⟩⟩⟩⟩⟩⟩⟩⟩⟩⟩⟩⟩⟩⟩⟩⟩⟩⟩⟩⟩⟩⟩
theorem a_cwl1 : ∀ k ∈ [30, 31, 32, 33, 34, 35, 36, 37, 38, 39, 40, 41, 42, 43, 44, 45, 46, 47, 48, 49, 50, 51, 52, 53, 54, 55, 56, 57, 58, 59], a_wCode k ∈ lw_tbl := List.forall_mem_cons.mpr ⟨a_cw30, List.forall_mem_cons.mpr ⟨a_cw31, List.forall_mem_cons.mpr ⟨a_cw32, List.forall_mem_cons.mpr ⟨a_cw33, List.forall_mem_cons.mpr ⟨a_cw34, List.forall_mem_cons.mpr ⟨a_cw35, List.forall_mem_cons.mpr ⟨a_cw36, List.forall_mem_cons.mpr ⟨a_cw37, List.forall_mem_cons.mpr ⟨a_cw38, List.forall_mem_cons.mpr ⟨a_cw39, List.forall_mem_cons.mpr ⟨a_cw40, List.forall_mem_cons.mpr ⟨a_cw41, List.forall_mem_cons.mpr ⟨a_cw42, List.forall_mem_cons.mpr ⟨a_cw43, List.forall_mem_cons.mpr ⟨a_cw44, List.forall_mem_cons.mpr ⟨a_cw45, List.forall_mem_cons.mpr ⟨a_cw46, List.forall_mem_cons.mpr ⟨a_cw47, List.forall_mem_cons.mpr ⟨a_cw48, List.forall_mem_cons.mpr ⟨a_cw49, List.forall_mem_cons.mpr ⟨a_cw50, List.forall_mem_cons.mpr ⟨a_cw51, List.forall_mem_cons.mpr ⟨a_cw52, List.forall_mem_cons.mpr ⟨a_cw53, List.forall_mem_cons.mpr ⟨a_cw54, List.forall_mem_cons.mpr ⟨a_cw55, List.forall_mem_cons.mpr ⟨a_cw56, List.forall_mem_cons.mpr ⟨a_cw57, List.forall_mem_cons.mpr ⟨a_cw58, List.forall_mem_cons.mpr ⟨a_cw59, List.forall_mem_nil _⟩⟩⟩⟩⟩⟩⟩⟩⟩⟩⟩⟩⟩⟩⟩⟩⟩⟩⟩⟩⟩⟩⟩⟩⟩⟩⟩⟩⟩⟩
theorem a_cwl2 : ∀ k ∈ [60, 61, 62, 63, 64, 65, 66, 67, 68, 69, 70, 71, 72, 73, 74, 75, 76, 77, 78, 79, 80, 81, 82, 83, 84, 85, 86, 87, 88, 89], a_wCode k ∈ lw_tbl := List.forall_mem_cons.mpr ⟨a_cw60, List.forall_mem_cons.mpr ⟨a_cw61, List.forall_mem_cons.mpr ⟨a_cw62, List.forall_mem_cons.mpr ⟨a_cw63, List.forall_mem_cons.mpr ⟨a_cw64, List.forall_mem_cons.mpr ⟨a_cw65, List.forall_mem_cons.mpr ⟨a_cw66, List.forall_mem_cons.mpr ⟨a_cw67, List.forall_mem_cons.mpr ⟨a_cw68, List.forall_mem_cons.mpr ⟨a_cw69, List.forall_mem_cons.mpr ⟨a_cw70, List.forall_mem_cons.mpr ⟨a_cw71, List.forall_mem_cons.mpr ⟨a_cw72, List.forall_mem_cons.mpr ⟨a_cw73, List.forall_mem_cons.mpr ⟨a_cw74, List.forall_mem_cons.mpr ⟨a_cw75, List.forall_mem_cons.mpr ⟨a_cw76, List.forall_mem_cons.mpr ⟨a_cw77, List.forall_mem_cons.mpr ⟨a_cw78, List.forall_mem_cons.mpr ⟨a_cw79, List.forall_mem_cons.mpr ⟨a_cw80, List.forall_mem_cons.mpr ⟨a_cw81, List.forall_mem_cons.mpr ⟨a_cw82, List.forall_mem_cons.mpr ⟨a_cw83, List.forall_mem_cons.mpr ⟨a_cw84, List.forall_mem_cons.mpr ⟨a_cw85, List.forall_mem_cons.mpr ⟨a_cw86, List.forall_mem_cons.mpr ⟨a_cw87, List.forall_mem_cons.mpr ⟨a_cw88, List.forall_mem_cons.mpr ⟨a_cw89, List.forall_mem_nil _⟩⟩⟩⟩⟩⟩⟩⟩⟩⟩⟩⟩⟩⟩⟩⟩⟩⟩⟩⟩⟩⟩⟩⟩⟩⟩⟩⟩⟩⟩
theorem a_cwl3 : ∀ k ∈ [90, 91, 92, 93, 94, 95, 96, 97, 98, 99, 100, 101, 102, 103, 104, 105, 106, 107, 108, 109, 110, 111, 112, 113, 114, 115, 116, 117, 118, 119], a_wCode k ∈ lw_tbl := List.forall_mem_cons.mpr ⟨a_cw90, List.forall_mem_cons.mpr ⟨a_cw91, List.forall_mem_cons.mpr ⟨a_cw92, List.forall_mem_cons.mpr ⟨a_cw93, List.forall_mem_cons.mpr ⟨a_cw94, List.forall_mem_cons.mpr ⟨a_cw95, List.forall_mem_cons.mpr ⟨a_cw96, List.forall_mem_cons.mpr ⟨a_cw97, List.forall_mem_cons.mpr ⟨a_cw98, List.forall_mem_cons.mpr ⟨a_cw99, List.forall_mem_cons.mpr ⟨a_cw100, List.forall_mem_cons.mpr ⟨a_cw101, List.forall_mem_cons.mpr ⟨a_cw102, List.forall_mem_cons.mpr ⟨a_cw103, List.forall_mem_cons.mpr ⟨a_cw104, List.forall_mem_cons.mpr ⟨a_cw105, List.forall_mem_cons.mpr ⟨a_cw106, List.forall_mem_cons.mpr ⟨a_cw107, List.forall_mem_cons.mpr ⟨a_cw108, List.forall_mem_cons.mpr ⟨a_cw109, List.forall_mem_cons.mpr ⟨a_cw110, List.forall_mem_cons.mpr ⟨a_cw111, List.forall_mem_cons.mpr ⟨a_cw112, List.forall_mem_cons.mpr ⟨a_cw113, List.forall_mem_cons.mpr ⟨a_cw114, List.forall_mem_cons.mpr ⟨a_cw115, List.forall_mem_cons.mpr ⟨a_cw116, List.forall_mem_cons.mpr ⟨a_cw117, List.forall_mem_cons.mpr ⟨a_cw118, List.forall_mem_cons.mpr ⟨a_cw119, List.forall_mem_nil _⟩⟩⟩⟩⟩⟩⟩⟩⟩⟩⟩⟩⟩⟩⟩⟩⟩⟩⟩⟩⟩⟩⟩⟩⟩⟩⟩⟩⟩⟩
theorem a_cwl4 : ∀ k ∈ [120, 121, 122, 123, 124, 125, 126, 127, 128, 129, 130, 131, 132, 133, 134, 135, 136, 137, 138, 139, 140, 141, 142, 143, 144, 145, 146, 147, 148, 149], a_wCode k ∈ lw_tbl := List.forall_mem_cons.mpr ⟨a_cw120, List.forall_mem_cons.mpr ⟨a_cw121, List.forall_mem_cons.mpr ⟨a_cw122, List.forall_mem_cons.mpr ⟨a_cw123, List.forall_mem_cons.mpr ⟨a_cw124, List.forall_mem_cons.mpr ⟨a_cw125, List.forall_mem_cons.mpr ⟨a_cw126, List.forall_mem_cons.mpr ⟨a_cw127, List.forall_mem_cons.mpr ⟨a_cw128, List.forall_mem_cons.mpr ⟨a_cw129, List.forall_mem_cons.mpr ⟨a_cw130, List.forall_mem_cons.mpr ⟨a_cw131, List.forall_mem_cons.mpr ⟨a_cw132, List.forall_mem_cons.mpr ⟨a_cw133, List.forall_mem_cons.mpr ⟨a_cw134, List.forall_mem_cons.mpr ⟨a_cw135, List.forall_mem_cons.mpr ⟨a_cw136, List.forall_mem_cons.mpr ⟨a_cw137, List.forall_mem_cons.mpr ⟨a_cw138, List.forall_mem_cons.mpr ⟨a_cw139, List.forall_mem_cons.mpr ⟨a_cw140, List.forall_mem_cons.mpr ⟨a_cw141, List.forall_mem_cons.mpr ⟨a_cw142, List.forall_mem_cons.mpr ⟨a_cw143, List.forall_mem_cons.mpr ⟨a_cw144, List.forall_mem_cons.mpr ⟨a_cw145, List.forall_mem_cons.mpr ⟨a_cw146, List.forall_mem_cons.mpr ⟨a_cw147, List.forall_mem_cons.mpr ⟨a_cw148, List.forall_mem_cons.mpr ⟨a_cw149, List.forall_mem_nil _⟩⟩⟩⟩⟩⟩⟩⟩⟩⟩⟩⟩⟩⟩⟩⟩⟩⟩⟩⟩⟩⟩⟩⟩⟩⟩⟩⟩⟩⟩
theorem a_cwl5 : ∀ k ∈ [150, 151, 152, 153, 154, 155, 156, 157, 158, 159, 160, 161, 162, 163, 164, 165, 166, 167, 168, 169, 170, 171, 172, 173, 174, 175, 176, 177, 178, 179], a_wCode k ∈ lw_tbl := List.forall_mem_cons.mpr ⟨a_cw150, List.forall_mem_cons.mpr ⟨a_cw151, List.forall_mem_cons.mpr ⟨a_cw152, List.forall_mem_cons.mpr ⟨a_cw153, List.forall_mem_cons.mpr ⟨a_cw154, List.forall_mem_cons.mpr ⟨a_cw155, List.forall_mem_cons.mpr ⟨a_cw156, List.forall_mem_cons.mpr ⟨a_cw157, List.forall_mem_cons.mpr ⟨a_cw158, List.forall_mem_cons.mpr ⟨a_cw159, List.forall_mem_cons.mpr ⟨a_cw160, List.forall_mem_cons.mpr ⟨a_cw161, List.forall_mem_cons.mpr ⟨a_cw162, List.forall_mem_cons.mpr ⟨a_cw163, List.forall_mem_cons.mpr ⟨a_cw164, List.forall_mem_cons.mpr ⟨a_cw165, List.forall_mem_cons.mpr ⟨a_cw166, List.forall_mem_cons.mpr ⟨a_cw167, List.forall_mem_cons.mpr ⟨a_cw168, List.forall_mem_cons.mpr ⟨a_cw169, List.forall_mem_cons.mpr ⟨a_cw170, List.forall_mem_cons.mpr ⟨a_cw171, List.forall_mem_cons.mpr ⟨a_cw172, List.forall_mem_cons.mpr ⟨a_cw173, List.forall_mem_cons.mpr ⟨a_cw174, List.forall_mem_cons.mpr ⟨a_cw175, List.forall_mem_cons.mpr ⟨a_cw176, List.forall_mem_cons.mpr ⟨a_cw177, List.forall_mem_cons.mpr ⟨a_cw178, List.forall_mem_cons.mpr ⟨a_cw179, List.forall_mem_nil _⟩⟩⟩⟩⟩⟩⟩⟩⟩⟩⟩⟩⟩⟩⟩⟩⟩⟩⟩⟩⟩⟩⟩⟩⟩⟩⟩⟩⟩⟩
theorem a_cwl6 : ∀ k ∈ [180, 181, 182, 183, 184, 185, 186, 187, 188, 189, 190, 191, 192, 193, 194, 195, 196, 197, 198, 199, 200, 201, 202, 203, 204, 205, 206, 207, 208, 209], a_wCode k ∈ lw_tbl := List.forall_mem_cons.mpr ⟨a_cw180, List.forall_mem_cons.mpr ⟨a_cw181, List.forall_mem_cons.mpr ⟨a_cw182, List.forall_mem_cons.mpr ⟨a_cw183, List.forall_mem_cons.mpr ⟨a_cw184, List.forall_mem_cons.mpr ⟨a_cw185, List.forall_mem_cons.mpr ⟨a_cw186, List.forall_mem_cons.mpr ⟨a_cw187, List.forall_mem_cons.mpr ⟨a_cw188, List.forall_mem_cons.mpr ⟨a_cw189, List.forall_mem_cons.mpr ⟨a_cw190, List.forall_mem_cons.mpr ⟨a_cw191, List.forall_mem_cons.mpr ⟨a_cw192, List.forall_mem_cons.mpr ⟨a_cw193, List.forall_mem_cons.mpr ⟨a_cw194, List.forall_mem_cons.mpr ⟨a_cw195, List.forall_mem_cons.mpr ⟨a_cw196, List.forall_mem_cons.mpr ⟨a_cw197, List.forall_mem_cons.mpr ⟨a_cw198, List.forall_mem_cons.mpr ⟨a_cw199, List.forall_mem_cons.mpr ⟨a_cw200, List.forall_mem_cons.mpr ⟨a_cw201, List.forall_mem_cons.mpr ⟨a_cw202, List.forall_mem_cons.mpr ⟨a_cw203, List.forall_mem_cons.mpr ⟨a_cw204, List.forall_mem_cons.mpr ⟨a_cw205, List.forall_mem_cons.mpr ⟨a_cw206, List.forall_mem_cons.mpr ⟨a_cw207, List.forall_mem_cons.mpr ⟨a_cw208, List.forall_mem_cons.mpr ⟨a_cw209, List.forall_mem_nil _⟩⟩⟩⟩⟩⟩⟩⟩⟩⟩⟩⟩⟩⟩⟩⟩⟩⟩⟩⟩⟩⟩⟩⟩⟩⟩⟩⟩⟩⟩
theorem a_cwl7 : ∀ k ∈ [210, 211, 212, 213, 214, 215, 216, 217, 218, 219, 220, 221, 222, 223, 224, 225, 226, 227, 228, 229, 230, 231, 232, 233, 234, 235, 236, 237, 238, 239], a_wCode k ∈ lw_tbl := List.forall_mem_cons.mpr ⟨a_cw210, List.forall_mem_cons.mpr ⟨a_cw211, List.forall_mem_cons.mpr ⟨a_cw212, List.forall_mem_cons.mpr ⟨a_cw213, List.forall_mem_cons.mpr ⟨a_cw214, List.forall_mem_cons.mpr ⟨a_cw215, List.forall_mem_cons.mpr ⟨a_cw216, List.forall_mem_cons.mpr ⟨a_cw217, List.forall_mem_cons.mpr ⟨a_cw218, List.forall_mem_cons.mpr ⟨a_cw219, List.forall_mem_cons.mpr ⟨a_cw220, List.forall_mem_cons.mpr ⟨a_cw221, List.forall_mem_cons.mpr ⟨a_cw222, List.forall_mem_cons.mpr ⟨a_cw223, List.forall_mem_cons.mpr ⟨a_cw224, List.forall_mem_cons.mpr ⟨a_cw225, List.forall_mem_cons.mpr ⟨a_cw226, List.forall_mem_cons.mpr ⟨a_cw227, List.forall_mem_cons.mpr ⟨a_cw228, List.forall_mem_cons.mpr ⟨a_cw229, List.forall_mem_cons.mpr ⟨a_cw230, List.forall_mem_cons.mpr ⟨a_cw231, List.forall_mem_cons.mpr ⟨a_cw232, List.forall_mem_cons.mpr ⟨a_cw233, List.forall_mem_cons.mpr ⟨a_cw234, List.forall_mem_cons.mpr ⟨a_cw235, List.forall_mem_cons.mpr ⟨a_cw236, List.forall_mem_cons.mpr ⟨a_cw237, List.forall_mem_cons.mpr ⟨a_cw238, List.forall_mem_cons.mpr ⟨a_cw239, List.forall_mem_nil _⟩⟩⟩⟩⟩⟩⟩⟩⟩⟩⟩⟩⟩⟩⟩⟩⟩⟩⟩⟩⟩⟩⟩⟩⟩⟩⟩⟩⟩⟩
theorem a_cwl8 : ∀ k ∈ [240, 241, 242, 243, 244, 245, 246, 247, 248, 249, 250, 251, 252, 253, 254, 255, 256, 257, 258, 259, 260, 261], a_wCode k ∈ lw_tbl := List.forall_mem_cons.mpr ⟨a_cw240, List.forall_mem_cons.mpr ⟨a_cw241, List.forall_mem_cons.mpr ⟨a_cw242, List.forall_mem_cons.mpr ⟨a_cw243, List.forall_mem_cons.mpr ⟨a_cw244, List.forall_mem_cons.mpr ⟨a_cw245, List.forall_mem_cons.mpr ⟨a_cw246, List.forall_mem_cons.mpr ⟨a_cw247, List.forall_mem_cons.mpr ⟨a_cw248, List.forall_mem_cons.mpr ⟨a_cw249, List.forall_mem_cons.mpr ⟨a_cw250, List.forall_mem_cons.mpr ⟨a_cw251, List.forall_mem_cons.mpr ⟨a_cw252, List.forall_mem_cons.mpr ⟨a_cw253, List.forall_mem_cons.mpr ⟨a_cw254, List.forall_mem_cons.mpr ⟨a_cw255, List.forall_mem_cons.mpr ⟨a_cw256, List.forall_mem_cons.mpr ⟨a_cw257, List.forall_mem_cons.mpr ⟨a_cw258, List.forall_mem_cons.mpr ⟨a_cw259, List.forall_mem_cons.mpr ⟨a_cw260, List.forall_mem_cons.mpr ⟨a_cw261, List.forall_mem_nil _⟩⟩⟩⟩⟩⟩⟩⟩⟩⟩⟩⟩⟩⟩⟩⟩⟩⟩⟩⟩⟩⟩
theorem a_wCode_in (k : Nat) (hk : k < 262) : a_wCode k ∈ lw_tbl := by
  by_cases h0 : k < 30
  · exact a_cwl0 k (by simp only [List.mem_cons, List.not_mem_nil, or_false]; omega)
  by_cases h1 : k < 60
  · exact a_cwl1 k (by simp only [List.mem_cons, List.not_mem_nil, or_false]; omega)
  by_cases h2 : k < 90
  · exact a_cwl2 k (by simp only [List.mem_cons, List.not_mem_nil, or_false]; omega)
  by_cases h3 : k < 120
  · exact a_cwl3 k (by simp only [List.mem_cons, List.not_mem_nil, or_false]; omega)
  by_cases h4 : k < 150
  · exact a_cwl4 k (by simp only [List.mem_cons, List.not_mem_nil, or_false]; omega)
  by_cases h5 : k < 180
  · exact a_cwl5 k (by simp only [List.mem_cons, List.not_mem_nil, or_false]; omega)
  by_cases h6 : k < 210
  · exact a_cwl6 k (by simp only [List.mem_cons, List.not_mem_nil, or_false]; omega)
  by_cases h7 : k < 240
  · exact a_cwl7 k (by simp only [List.mem_cons, List.not_mem_nil, or_false]; omega)
  by_cases h8 : k < 262
  · exact a_cwl8 k (by simp only [List.mem_cons, List.not_mem_nil, or_false]; omega)
  · omega
def a_wIni (k : Nat) : Cond := .initialized (a_mnm k).cls
theorem a_wIni_in : ∀ e ∈ (List.range 262), a_wIni e ∈ lw_tbl := a_allin _ a_wIni [89, 89, 89, 89, 89, 89, 89, 89, 89, 89, 89, 89, 90, 90, 90, 90, 90, 90, 90, 90, 90, 90, 90, 93, 93, 93, 93, 93, 93, 93, 93, 95, 95, 95, 95, 95, 95, 95, 95, 95, 95, 95, 95, 95, 95, 95, 95, 95, 95, 95, 95, 92, 92, 92, 92, 92, 92, 92, 92, 92, 92, 92, 92, 92, 87, 87, 87, 87, 87, 87, 87, 91, 91, 91, 91, 91, 91, 91, 85, 85, 85, 85, 85, 85, 85, 85, 85, 85, 85, 85, 85, 85, 85, 85, 88, 88, 88, 88, 88, 88, 88, 88, 88, 86, 86, 86, 86, 86, 86, 86, 86, 86, 86, 86, 86, 86, 86, 86, 86, 86, 86, 86, 86, 94, 94, 94, 94, 94, 94, 94, 94, 94, 84, 84, 84, 84, 84, 84, 84, 84, 84, 84, 84, 84, 84, 84, 84, 84, 84, 84, 84, 84, 84, 84, 84, 84, 84, 84, 84, 84, 84, 84, 84, 84, 84, 84, 84, 84, 84, 84, 84, 84, 84, 96, 96, 96, 96, 96, 96, 96, 96, 96, 96, 96, 96, 96, 96, 96, 96, 96, 96, 96, 96, 96, 96, 96, 96, 96, 96, 96, 96, 96, 96, 96, 96, 96, 96, 96, 96, 96, 96, 96, 96, 96, 96, 96, 96, 96, 96, 96, 96, 96, 96, 96, 96, 96, 96, 96, 96, 96, 96, 96, 96, 96, 96, 96, 96, 96, 96, 96, 96, 96, 96, 96, 96, 96, 96, 96, 96, 96, 96, 96, 96, 97, 97, 97, 97, 97, 98, 99, 103, 102] (by decide +kernel)
def a_isS : List Nat := [63, 90, 161, 162, 163, 164, 165, 174, 178, 179, 188, 189, 197, 217, 223, 235, 238, 241, 257, 258, 259, 260, 261]
def a_isIm : List Nat := [0, 1, 2, 3, 4, 5, 6, 7, 8, 9, 10, 11, 12, 13, 14, 15, 16, 17, 18, 19, 20, 21, 22, 23, 24, 25, 26, 27, 28, 29, 30, 31, 32, 33, 34, 35, 36, 37, 38, 39, 40, 41, 42, 43, 44, 45, 46, 47, 48, 49, 50, 51, 52, 53, 54, 55, 56, 57, 58, 59, 60, 61, 62, 64, 65, 66, 67, 68, 69, 70, 71, 72, 73, 74, 75, 76, 77, 78, 79, 80, 81, 82, 83, 84, 85, 86, 87, 88, 89, 91, 92, 93, 94, 95, 96, 97, 98, 99, 100, 101, 102, 103, 104, 105, 106, 107, 108, 109, 110, 111, 112, 113, 114, 115, 116, 117, 118, 119, 120, 121, 122, 123, 124, 125, 126, 127, 128, 129, 130, 131, 132, 133, 134, 135, 136, 137, 138, 139, 140, 141, 142, 143, 144, 145, 146, 147, 148, 149, 150, 151, 152, 153, 154, 155, 156, 157, 158, 159, 160, 166, 167, 168, 169, 170, 171, 172, 173, 175, 176, 177, 180, 181, 182, 183, 184, 185, 186, 187, 190, 191, 192, 193, 194, 195, 196, 198, 199, 200, 201, 202, 203, 204, 205, 206, 207, 208, 209, 210, 211, 212, 213, 214, 215, 216, 218, 219, 220, 221, 222, 224, 225, 226, 227, 228, 229, 230, 231, 232, 233, 234, 236, 237, 239, 240, 242, 243, 244, 245, 246, 247, 248, 249, 250, 251, 252, 253, 254, 255, 256]
def a_wInst (k : Nat) : Cond := .instanceMethod (a_mnm k)
theorem a_wInst_in : ∀ e ∈ a_isIm, a_wInst e ∈ lw_tbl := a_allin _ a_wInst [217, 922, 945, 953, 819, 862, 867, 875, 887, 895, 903, 910, 223, 1003, 827, 832, 878, 835, 840, 857, 1010, 890, 898, 329, 1194, 1073, 1078, 1082, 1087, 1092, 1097, 364, 599, 708, 467, 567, 575, 612, 844, 848, 852, 870, 585, 579, 806, 823, 1022, 814, 937, 1018, 1026, 298, 1051, 1035, 1039, 1055, 1060, 1066, 1122, 1105, 1111, 1130, 1135, 189, 741, 749, 716, 733, 737, 773, 285, 962, 989, 968, 973, 981, 986, 116, 443, 447, 455, 463, 556, 572, 560, 564, 472, 476, 481, 496, 548, 552, 211, 595, 794, 810, 914, 918, 941, 949, 930, 145, 654, 629, 591, 637, 633, 666, 658, 662, 674, 700, 1186, 692, 712, 721, 726, 730, 757, 766, 762, 345, 1182, 1142, 1146, 1154, 1159, 1166, 1162, 1174, 108, 436, 451, 459, 604, 616, 641, 646, 670, 688, 696, 704, 745, 753, 769, 783, 926, 957, 994, 1014, 1031, 1043, 1101, 1126, 1138, 1150, 1170, 1178, 1190, 609, 651, 1048, 803, 799, 791, 999, 1200, 1332, 1340, 1353, 1357, 1349, 1373, 1377, 1369, 1344, 1385, 1380, 1415, 1403, 1399, 1388, 1406, 1420, 1410, 1423, 1430, 1434, 1447, 1443, 1438, 1450, 1459, 1454, 1462, 1490, 1498, 1478, 1522, 1518, 1494, 1506, 1514, 1510, 1502, 1486, 1529, 1482, 1474, 1466, 1532, 1541, 1545, 1536, 1553, 1548, 1562, 1566, 1557, 1569, 1582, 1589, 1578, 1573, 1608, 1615, 1604, 1599, 1618, 1622, 1631, 1626, 1634, 1638, 1642, 499, 509, 503, 513] (by decide +kernel)
def a_wStat (k : Nat) : Cond := .static (a_mnm k)
theorem a_wStat_in : ∀ e ∈ a_isS, a_wStat e ∈ lw_tbl := a_allin _ a_wStat [1115, 484, 440, 620, 623, 626, 787, 1336, 1360, 1365, 1392, 1395, 1427, 1525, 1470, 1585, 1592, 1611, 520, 517, 525, 777, 682] (by decide +kernel)
def a_isV : List Nat := [1, 2, 3, 4, 5, 6, 7, 8, 9, 10, 11, 13, 14, 15, 16, 17, 18, 19, 20, 21, 22, 24, 25, 26, 27, 28, 29, 30, 32, 33, 34, 35, 36, 37, 38, 39, 40, 41, 42, 43, 44, 45, 46, 47, 48, 49, 50, 52, 53, 54, 55, 56, 57, 58, 59, 60, 61, 62, 65, 66, 67, 68, 69, 70, 72, 73, 74, 75, 76, 77, 79, 80, 81, 82, 83, 84, 85, 86, 87, 88, 89, 91, 92, 93, 95, 96, 97, 98, 99, 100, 101, 102, 104, 105, 106, 107, 108, 109, 110, 111, 112, 113, 114, 115, 116, 117, 118, 119, 120, 121, 122, 124, 125, 126, 127, 128, 129, 130, 131, 133, 134, 135, 136, 137, 138, 139, 140, 141, 142, 143, 144, 145, 146, 147, 148, 149, 150, 151, 152, 153, 154, 155, 156, 157, 158, 159, 160, 166, 167, 168, 169, 170, 171, 172, 175, 176, 177, 180, 181, 182, 183, 184, 185, 186, 187, 190, 191, 192, 193, 194, 195, 196, 198, 199, 200, 201, 202, 203, 204, 205, 206, 207, 208, 209, 210, 211, 212, 213, 214, 215, 216, 218, 219, 220, 221, 222, 224, 225, 226, 227, 228, 229, 230, 231, 232, 233, 234, 236, 237, 239, 240, 242, 243, 244, 245, 246, 247, 248, 249, 250, 251, 252, 253, 254, 255, 256]
def a_wSel (k : Nat) : Cond := .selects (a_mnm k).cls (a_mnm k) (a_mnm k)
theorem a_wSel_in : ∀ e ∈ a_isV, a_wSel e ∈ lw_tbl := a_allin _ a_wSel [923, 946, 954, 820, 22, 23, 24, 25, 26, 27, 28, 1004, 828, 20, 879, 836, 841, 21, 1011, 891, 899, 1195, 1074, 35, 36, 37, 38, 39, 600, 709, 468, 568, 576, 613, 845, 849, 853, 871, 586, 580, 807, 824, 1023, 815, 938, 1019, 1027, 1052, 1036, 1040, 1056, 1061, 1067, 1123, 1106, 40, 1131, 41, 742, 750, 717, 734, 738, 774, 963, 990, 29, 30, 31, 32, 444, 448, 456, 464, 6, 9, 7, 8, 0, 1, 2, 3, 4, 5, 596, 795, 811, 915, 919, 942, 950, 931, 655, 630, 592, 638, 634, 667, 659, 663, 675, 701, 1187, 693, 713, 12, 13, 14, 758, 16, 15, 1183, 1143, 1147, 1155, 42, 1167, 1163, 1175, 437, 452, 460, 605, 617, 642, 647, 671, 689, 697, 705, 746, 754, 770, 784, 927, 958, 995, 1015, 1032, 1044, 1102, 1127, 1139, 1151, 1171, 1179, 1191, 10, 11, 34, 19, 18, 17, 33, 1333, 1341, 44, 45, 43, 47, 48, 46, 1345, 49, 1381, 52, 51, 50, 1389, 1407, 53, 1411, 1424, 1431, 1435, 55, 54, 1439, 1451, 56, 1455, 1463, 61, 63, 58, 69, 68, 62, 65, 67, 66, 64, 60, 70, 59, 57, 1467, 1533, 71, 72, 1537, 73, 1549, 74, 75, 1558, 1570, 77, 78, 76, 1574, 80, 81, 79, 1600, 1619, 1623, 82, 1627, 1635, 1639, 1643, 500, 510, 504, 514] (by decide +kernel)
theorem a_kV : ∀ e ∈ a_mthT, e.2.2.1 = 0 → e.2.2.2 ∈ a_isV ∧ e.2.2.2 ∈ a_isIm := by decide +kernel
theorem a_kS : ∀ e ∈ a_mthT, e.2.2.1 = 1 ∨ e.2.2.1 = 2 → e.2.2.2 ∈ a_isS := by decide +kernel
theorem a_kI : ∀ e ∈ a_mthT, e.2.2.1 = 3 ∨ e.2.2.1 = 4 → e.2.2.2 ∈ a_isIm ∧ (a_mnm e.2.2.2).name = "<init>" ∧ a_mr e.2.2.2 = none := by decide +kernel
theorem a_mfacts : ∀ k ∈ List.range 262, plainName (a_mnm k).cls = true := by decide +kernel
theorem a_mfacts2 : ∀ k ∈ List.range 262, (a_mnm k).cls ≠ "java/lang/invoke/MethodHandle" ∧ (a_mnm k).cls ≠ "java/lang/invoke/VarHandle" := by decide +kernel
theorem a_mfacts3 : ∀ k ∈ List.range 262, (parseMethodDescriptor (a_mnm k).desc).map (fun d => d.parameters.length) = some (a_mn k) := by decide +kernel
theorem a_mfacts4 : ∀ k ∈ List.range 262, (a_mnm k).cls = a_own (a_mcl k) ∧ a_ml k ≤ 18 := by decide +kernel
def a_wO (e : Nat × Nat × Nat × Nat) : Cond := .methodLink (a_own e.1) e.2.1 Lib.objectInit
theorem a_wO_in : ∀ e ∈ (a_mthT.filter (fun e => e.2.2.1 == 5)), a_wO e ∈ lw_tbl := a_allin _ a_wO [219, 225, 331, 366, 300, 191, 287, 118, 213, 147, 347, 110, 1202] (by decide +kernel)
def a_wA (e : Nat × Nat × Nat × Nat) : Cond := .methodLink (a_own e.1) e.2.1 arraycopyName
theorem a_wA_in : ∀ e ∈ (a_mthT.filter (fun e => e.2.2.1 == 6)), a_wA e ∈ lw_tbl := a_allin _ a_wA [912, 881] (by decide +kernel)
def a_misc : List Cond := [.native arraycopyName, .static arraycopyName, .initialized "java/lang/System", .instanceMethod Lib.objectInit, .code Lib.objectInit ⟨#[0xb1]⟩ 1 none, .arrayClass .int, .arrayClass .byte, .arrayClass .boolean, .arrayClass .long, .fieldLink "java/lang/String" 9 "java/lang/String" "value" "[B", .fieldLink "java/lang/String" 15 "java/lang/String" "coder" "B"]
theorem a_misc_in : ∀ e ∈ a_misc, id e ∈ lw_tbl := a_allin _ id [883, 882, 104, 111, 112, 141, 602, 1330, 185, 1646, 1647] (by decide +kernel)
def a_wX (e : Nat × Nat × Nat × Nat) : Cond := .methodLink (a_own e.1) e.2.1 (if e.2.2.1 = 7 then Lib.Math.max.name else if e.2.2.1 = 8 then Lib.Math.min.name else if e.2.2.1 = 9 then Lib.Math.abs.name else yJ9_floorDiv_7cf53)
theorem a_wX_in : ∀ e ∈ (a_mthT.filter (fun e => e.2.2.1 == 7 || e.2.2.1 == 8 || e.2.2.1 == 9 || e.2.2.1 == 10)), a_wX e ∈ lw_tbl := a_allin _ a_wX [905, 1063, 1064, 1069, 1117, 678] (by decide +kernel)
def a_miscM : List Cond := [.static Lib.Math.max.name, .static Lib.Math.min.name, .static Lib.Math.abs.name, .static yJ9_floorDiv_7cf53, .initialized "java/lang/Math", .code Lib.Math.max.name Lib.Math.max.code 2 (some .int), .code Lib.Math.min.name Lib.Math.min.code 2 (some .int), .code Lib.Math.abs.name Lib.Math.abs.code 1 (some .int), .code yJ9_floorDiv_7cf53 cJ9_floorDiv_7cf53 3 (some .int)]
theorem a_miscM_in : ∀ e ∈ a_miscM, id e ∈ lw_tbl := a_allin _ id [679, 1070, 906, 1118, 101, 680, 1071, 907, 1119] (by decide +kernel)
def a_wK (e : Nat × Nat × Value) : Cond := match e.2.2 with
  | .int v => .constant (a_own e.1) e.2.1 v
  | .long v => .constantLong (a_own e.1) e.2.1 v
  | _ => .tt
theorem a_wK_in : ∀ e ∈ (a_cstT.filter (fun e => match e.2.2 with | .ref _ => false | _ => true)), a_wK e ∈ lw_tbl := a_allin _ a_wK [1006, 1084, 1089, 1094, 1099, 970, 677, 1338, 1362, 1363, 1417, 1555, 1594, 1595, 1596, 1597, 779, 780, 781, 684, 685, 686, 1645] (by decide +kernel)
theorem a_cst_str : ∀ e ∈ a_cstT, (match e.2.2 with | .ref r => decide (1010 ≤ r) && decide (r < 1018) && (e.1 == 7) && (e.2.1 == 90 + 2 * (r - 1010)) | .int _ => true | .long _ => true | _ => false) = true := by decide +kernel
def a_staN (v : Value) : String × String × String := if v = .ref 1001 then ("HandsPicture$Laws", "AXIS", "[I") else if v = .ref 1002 then ("HandsPicture$Laws", "STIFF", "[I") else if v = .ref 1003 then ("jdk/internal/util/Preconditions", "SIOOBE_FORMATTER", "Ljava/util/function/BiFunction;") else ("java/lang/String", "COMPACT_STRINGS", "Z")
def a_wS (e : Nat × Nat × Value) : Cond := .fieldLink (a_own e.1) e.2.1 (a_staN e.2.2).1 (a_staN e.2.2).2.1 (a_staN e.2.2).2.2
theorem a_wS_in : ∀ e ∈ a_staT, a_wS e ∈ lw_tbl := a_allin _ a_wS [588, 582, 506, 522] (by decide +kernel)
theorem a_sta_v : ∀ e ∈ a_staT, e.2.2 = .ref 1001 ∨ e.2.2 = .ref 1002 ∨ e.2.2 = .ref 1003 ∨ e.2.2 = .int 1 := by decide +kernel
theorem a_str_v : ∀ e ∈ a_strT, e = (14, 9, 0) ∨ e = (14, 15, 1) := by decide +kernel
def a_cnm (ci : Nat) : String := ((vwCl[ci]?).map (fun q => q.1)).getD ""
def a_wN (e : Nat × Nat × Nat) : Cond := .classLink (a_own e.1) e.2.1 (a_cnm e.2.2)
theorem a_wN_in : ∀ e ∈ a_newT, a_wN e ∈ lw_tbl := a_allin _ a_wN [220, 214, 113, 142, 186, 208, 280, 282, 295, 326, 342, 361, 105, 1197] (by decide +kernel)
def a_wN1 (e : Nat × Nat × Nat) : Cond := .instantiable (a_cnm e.2.2) (a_nf e.2.2)
theorem a_wN1_in : ∀ e ∈ a_newT, a_wN1 e ∈ lw_tbl := a_allin _ a_wN1 [221, 215, 114, 143, 187, 209, 221, 283, 296, 327, 343, 362, 106, 1198] (by decide +kernel)
def a_wN2 (e : Nat × Nat × Nat) : Cond := .initialized (a_cnm e.2.2)
theorem a_wN2_in : ∀ e ∈ a_newT, a_wN2 e ∈ lw_tbl := a_allin _ a_wN2 [90, 89, 85, 86, 87, 88, 90, 91, 92, 93, 94, 95, 84, 96] (by decide +kernel)
theorem a_new_lt : ∀ e ∈ a_newT, e.2.2 < 13 := by decide +kernel
theorem a_u0 : ∀ w ∈ u_ws RX0 TX0 10, w ∈ lw_tbl := a_allin _ id [240, 242, 244, 246, 248, 250, 252, 254, 256, 258] (by decide +kernel)
theorem a_ug0 : ∀ w ∈ u_ws RX0 TX0 10, goodWord w = true := by decide +kernel
theorem a_u1 : ∀ w ∈ u_ws RX1 TX1 1, w ∈ lw_tbl := a_allin _ id [227] (by decide +kernel)
theorem a_ug1 : ∀ w ∈ u_ws RX1 TX1 1, goodWord w = true := by decide +kernel
theorem a_u2 : ∀ w ∈ u_ws RX2 TX2 3, w ∈ lw_tbl := a_allin _ id [335, 337, 339] (by decide +kernel)
theorem a_ug2 : ∀ w ∈ u_ws RX2 TX2 3, goodWord w = true := by decide +kernel
theorem a_u3 : ∀ w ∈ u_ws RX3 TX3 10, w ∈ lw_tbl := a_allin _ id [377, 379, 381, 383, 385, 387, 389, 391, 393, 395] (by decide +kernel)
theorem a_ug3 : ∀ w ∈ u_ws RX3 TX3 10, goodWord w = true := by decide +kernel
theorem a_u4 : ∀ w ∈ u_ws RX4 TX4 8, w ∈ lw_tbl := a_allin _ id [309, 311, 313, 315, 317, 319, 321, 323] (by decide +kernel)
theorem a_ug4 : ∀ w ∈ u_ws RX4 TX4 8, goodWord w = true := by decide +kernel
theorem a_u5 : ∀ w ∈ u_ws RX5 TX5 5, w ∈ lw_tbl := a_allin _ id [197, 199, 201, 203, 205] (by decide +kernel)
theorem a_ug5 : ∀ w ∈ u_ws RX5 TX5 5, goodWord w = true := by decide +kernel
theorem a_u6 : ∀ w ∈ u_ws RX6 TX6 2, w ∈ lw_tbl := a_allin _ id [290, 292] (by decide +kernel)
theorem a_ug6 : ∀ w ∈ u_ws RX6 TX6 2, goodWord w = true := by decide +kernel
theorem a_u7 : ∀ w ∈ u_ws RX7 TX7 7, w ∈ lw_tbl := a_allin _ id [126, 128, 130, 132, 134, 136, 138] (by decide +kernel)
theorem a_ug7 : ∀ w ∈ u_ws RX7 TX7 7, goodWord w = true := by decide +kernel
theorem a_u8 : ∀ w ∈ u_ws RX8 TX8 6, w ∈ lw_tbl := a_allin _ id [267, 269, 271, 273, 275, 277] (by decide +kernel)
theorem a_ug8 : ∀ w ∈ u_ws RX8 TX8 6, goodWord w = true := by decide +kernel
theorem a_u9 : ∀ w ∈ u_ws RX9 TX9 12, w ∈ lw_tbl := a_allin _ id [160, 162, 164, 166, 168, 170, 172, 174, 176, 178, 180, 182] (by decide +kernel)
theorem a_ug9 : ∀ w ∈ u_ws RX9 TX9 12, goodWord w = true := by decide +kernel
theorem a_u10 : ∀ w ∈ u_ws RX10 TX10 4, w ∈ lw_tbl := a_allin _ id [352, 354, 356, 358] (by decide +kernel)
theorem a_ug10 : ∀ w ∈ u_ws RX10 TX10 4, goodWord w = true := by decide +kernel
theorem a_u11 : ∀ w ∈ u_ws RX11 TX11 12, w ∈ lw_tbl := a_allin _ id [410, 412, 414, 416, 418, 420, 422, 424, 426, 428, 430, 432] (by decide +kernel)
theorem a_ug11 : ∀ w ∈ u_ws RX11 TX11 12, goodWord w = true := by decide +kernel
theorem a_u12 : ∀ w ∈ u_ws RX12 TX12 42, w ∈ lw_tbl := a_allin _ id [1245, 1247, 1249, 1251, 1253, 1255, 1257, 1259, 1261, 1263, 1265, 1267, 1269, 1271, 1273, 1275, 1277, 1279, 1281, 1283, 1285, 1287, 1289, 1291, 1293, 1295, 1297, 1299, 1301, 1303, 1305, 1307, 1309, 1311, 1313, 1315, 1317, 1319, 1321, 1323, 1325, 1327] (by decide +kernel)
theorem a_ug12 : ∀ w ∈ u_ws RX12 TX12 42, goodWord w = true := by decide +kernel
