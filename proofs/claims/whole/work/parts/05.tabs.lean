/-! the heap that the two constructors make: 193 cells; behind them the two that a call makes for itself -/
def NP : Nat := 193
/-- a cell: (0, its class), or (1 int, 2 byte, 3 boolean, 4 long, 5 int[], 6 Papers; how long) -/
def KT : List (Nat × Nat) := [(0, 11), (2, 1600), (0, 8), (4, 24), (1, 1601), (1, 1601), (4, 1601), (0, 9), (4, 16), (1, 16), (1, 16), (5, 16), (1, 8), (1, 8), (1, 8), (1, 8), (1, 8), (1, 8), (1, 8), (1, 8), (1, 8), (1, 8), (1, 8), (1, 8), (1, 8), (1, 8), (1, 8), (1, 8), (1, 16), (1, 4), (1, 4), (0, 9), (4, 16), (1, 16), (1, 16), (5, 16), (1, 8), (1, 8), (1, 8), (1, 8), (1, 8), (1, 8), (1, 8), (1, 8), (1, 8), (1, 8), (1, 8), (1, 8), (1, 8), (1, 8), (1, 8), (1, 8), (1, 16), (1, 4), (1, 4), (0, 5), (4, 6), (1, 6), (1, 6), (1, 800), (1, 800), (1, 12), (1, 40), (0, 5), (4, 6), (1, 6), (1, 6), (1, 800), (1, 800), (1, 12), (1, 40), (0, 2), (1, 40), (1, 40), (1, 40), (1, 40), (1, 40), (1, 40), (6, 3), (0, 0), (1, 8), (0, 1), (5, 16), (1, 8), (1, 8), (1, 8), (1, 8), (1, 8), (1, 8), (1, 8), (1, 8), (1, 8), (1, 8), (1, 8), (1, 8), (1, 8), (1, 8), (1, 8), (1, 8), (5, 16), (1, 8), (1, 8), (1, 8), (1, 8), (1, 8), (1, 8), (1, 8), (1, 8), (1, 8), (1, 8), (1, 8), (1, 8), (1, 8), (1, 8), (1, 8), (1, 8), (1, 8), (0, 3), (1, 4), (1, 801), (1, 801), (0, 7), (1, 8), (1, 16), (1, 16), (1, 4), (0, 4), (1, 40), (1, 40), (1, 40), (0, 2), (1, 40), (1, 40), (1, 40), (1, 40), (1, 40), (1, 40), (0, 2), (1, 40), (1, 40), (1, 40), (1, 40), (1, 40), (1, 40), (0, 2), (1, 40), (1, 40), (1, 40), (1, 40), (1, 40), (1, 40), (0, 12), (2, 1620), (2, 1600), (1, 2), (1, 2), (1, 2), (1, 2), (1, 32), (1, 32), (1, 256), (1, 32), (1, 8), (1, 8), (3, 2), (3, 2), (3, 8), (4, 32), (1, 800), (1, 800), (1, 90), (1, 90), (1, 70), (1, 14), (1, 14), (4, 6), (1, 8), (1, 8), (1, 40), (1, 40), (1, 40), (1, 40), (1, 40), (1, 40), (3, 40), (1, 3), (1, 3), (1, 120), (1, 120), (1, 120), (1, 120), (1, 120), (1, 120), (0, 10), (0, 6)]
/-- the fields of a class: 0 an int, 1 a long, 2 a reference -/
def FT : List (List Nat) := [[2, 2, 2], [2, 2, 2, 2, 2, 0, 0], [0, 0, 0, 2, 2, 2, 2, 2, 2], [2, 2, 2, 2, 2], [2, 2, 2, 2, 2, 0, 0], [0, 0, 0, 0, 0, 0, 2, 2, 2, 2, 2, 2, 2], [2, 2, 0, 0], [2, 2, 2, 2, 2, 2, 2, 0, 0, 0, 0, 0], [2, 2, 2, 2, 2, 0, 0, 0, 0, 0, 0, 0, 1, 0, 0], [0, 0, 0, 0, 2, 2, 2, 2, 2, 2, 2], [2, 2, 0, 0, 0], [2, 0, 0, 0, 2, 2, 2, 2, 2, 2, 2, 2, 2, 2, 2, 2], [2, 2, 0, 0, 0, 0, 0, 0, 0, 0, 1, 0, 2, 2, 2, 2, 2, 2, 2, 2, 2, 2, 2, 2, 2, 2, 0, 0, 2, 2, 2, 2, 2, 2, 2, 2, 0, 0, 0, 0, 0, 0, 0, 0, 0, 0, 0, 0, 0, 0, 0, 0, 2, 2, 2, 2, 2, 2, 2, 2, 0, 0, 0, 0, 0, 2, 2, 2, 2, 2, 2, 2, 2, 2]]
/-- the references: 0 none, else the cell and 1 -/
def RT : List (List Nat) := [[2, 0, 0, 0, 3, 8, 32, 56, 64, 72, 79, 80, 82, 118, 122, 127], [], [2, 4, 5, 6, 7, 0, 0, 0, 0, 0, 0, 0, 0, 0, 0], [], [], [], [], [0, 0, 0, 0, 9, 10, 11, 12, 29, 30, 31], [], [], [], [13, 14, 15, 16, 17, 18, 19, 20, 21, 22, 23, 24, 25, 26, 27, 28], [], [], [], [], [], [], [], [], [], [], [], [], [], [], [], [], [], [], [], [0, 0, 0, 0, 33, 34, 35, 36, 53, 54, 55], [], [], [], [37, 38, 39, 40, 41, 42, 43, 44, 45, 46, 47, 48, 49, 50, 51, 52], [], [], [], [], [], [], [], [], [], [], [], [], [], [], [], [], [], [], [], [0, 0, 0, 0, 0, 0, 57, 58, 59, 60, 61, 62, 63], [], [], [], [], [], [], [], [0, 0, 0, 0, 0, 0, 65, 66, 67, 68, 69, 70, 71], [], [], [], [], [], [], [], [0, 0, 0, 73, 74, 75, 76, 77, 78], [], [], [], [], [], [], [131, 138, 145], [8, 56, 81], [], [8, 56, 83, 100, 117, 0, 0], [84, 85, 86, 87, 88, 89, 90, 91, 92, 93, 94, 95, 96, 97, 98, 99], [], [], [], [], [], [], [], [], [], [], [], [], [], [], [], [], [101, 102, 103, 104, 105, 106, 107, 108, 109, 110, 111, 112, 113, 114, 115, 116], [], [], [], [], [], [], [], [], [], [], [], [], [], [], [], [], [], [8, 82, 119, 120, 121], [], [], [], [8, 72, 80, 123, 124, 125, 126, 0, 0, 0, 0, 0], [], [], [], [], [8, 72, 128, 129, 130, 0, 0], [], [], [], [0, 0, 0, 132, 133, 134, 135, 136, 137], [], [], [], [], [], [], [0, 0, 0, 139, 140, 141, 142, 143, 144], [], [], [], [], [], [], [0, 0, 0, 146, 147, 148, 149, 150, 151], [], [], [], [], [], [], [153, 154, 0, 0, 0, 0, 0, 0, 0, 0, 0, 0, 155, 156, 157, 158, 159, 160, 161, 162, 163, 164, 165, 166, 167, 168, 0, 0, 169, 170, 171, 172, 173, 174, 175, 176, 0, 0, 0, 0, 0, 0, 0, 0, 0, 0, 0, 0, 0, 0, 0, 0, 177, 178, 179, 180, 181, 182, 183, 184, 0, 0, 0, 0, 0, 185, 186, 187, 188, 189, 190, 191, 192, 193], [], [], [], [], [], [], [], [], [], [], [], [], [], [], [], [], [], [], [], [], [], [], [], [], [], [], [], [], [], [], [], [], [], [], [], [], [], [], [], [], [], [3, 32, 0, 0, 0], [3, 64, 0, 0]]
def RF (a k : Nat) : Option Nat := match (RT.getD a []).getD k 0 with
  | 0 => none
  | n + 1 => some n
def TS : List Cond := lw_tbl.filter goodWord
theorem TS_good : ∀ w ∈ TS, (w.onTables && w.keeps) = true ∨ ∃ ty, w = .arrayClass ty := fun w h => good_of_word (List.mem_filter.mp h).2
theorem TS_in : ∀ w ∈ TS, w ∈ lw_tbl := fun w h => (List.mem_filter.mp h).1
theorem ts_all (ws : List Cond) (ps : List Nat) (hp : ps.map (fun i => lw_tbl[i]?) = ws.map some) (hg : ws.all goodWord = true) : ∀ w ∈ ws, w ∈ TS := by
  intro w hw
  have h1 : some w ∈ ps.map (fun i => lw_tbl[i]?) := by rw [hp]; exact List.mem_map.mpr ⟨w, hw, rfl⟩
  obtain ⟨i, -, hi⟩ := List.mem_map.mp h1
  exact List.mem_filter.mpr ⟨List.mem_of_getElem? hi, List.all_eq_true.mp hg w hw⟩
theorem ts_of {w : Cond} (i : Nat) (hi : lw_tbl[i]? = some w) (hg : goodWord w = true) : w ∈ TS := List.mem_filter.mpr ⟨List.mem_of_getElem? hi, hg⟩
theorem cf_0 : ∀ w ∈ wsX00, w ∈ TS := ts_all _ [420, 422, 424] (by decide +kernel) (by decide +kernel)
theorem cf_1 : ∀ w ∈ wsX10, w ∈ TS := ts_all _ [441, 443, 445, 447, 449, 451, 453] (by decide +kernel) (by decide +kernel)
theorem cf_2 : ∀ w ∈ wsX20, w ∈ TS := ts_all _ [391, 393, 395, 397, 399, 401, 403, 405, 407] (by decide +kernel) (by decide +kernel)
theorem cf_3 : ∀ w ∈ wsX30, w ∈ TS := ts_all _ [467, 469, 471, 473, 475] (by decide +kernel) (by decide +kernel)
theorem cf_4 : ∀ w ∈ wsX40, w ∈ TS := ts_all _ [539, 541, 543, 545, 547, 549, 551] (by decide +kernel) (by decide +kernel)
theorem cf_5 : ∀ w ∈ wsX50, w ∈ TS := ts_all _ [344, 346, 348, 350, 352, 354, 356, 358, 360, 362, 364, 366, 368] (by decide +kernel) (by decide +kernel)
theorem cf_6 : ∀ w ∈ wsX60, w ∈ TS := ts_all _ [809, 811, 813, 815] (by decide +kernel) (by decide +kernel)
theorem cf_7 : ∀ w ∈ wsX70, w ∈ TS := ts_all _ [499, 501, 503, 505, 507, 509, 511, 513, 515, 517, 519, 521] (by decide +kernel) (by decide +kernel)
theorem cf_8 : ∀ w ∈ wsX80, w ∈ TS := ts_all _ [229, 231, 233, 235, 237, 239, 241, 243, 245, 247, 249, 251, 253, 255, 257] (by decide +kernel) (by decide +kernel)
theorem cf_9 : ∀ w ∈ wsX90, w ∈ TS := ts_all _ [297, 299, 301, 303, 305, 307, 309, 311, 313, 315, 317] (by decide +kernel) (by decide +kernel)
theorem cf_10 : ∀ w ∈ wsX100, w ∈ TS := ts_all _ [674, 676, 678, 680, 682] (by decide +kernel) (by decide +kernel)
theorem cf_11 : ∀ w ∈ wsX110, w ∈ TS := ts_all _ [570, 572, 574, 576, 578, 580, 582, 584, 586, 588, 590, 592, 594, 596, 598, 600] (by decide +kernel) (by decide +kernel)
theorem cf_12 : ∀ w ∈ wsX120, w ∈ TS := ts_all _ [1472, 1474, 1476, 1478, 1480, 1482, 1484, 1486, 1488, 1490, 1492, 1494, 1496, 1498, 1500, 1502, 1504, 1506, 1508, 1510, 1512, 1514, 1516, 1518, 1520, 1522, 1524, 1526, 1528, 1530, 1532, 1534, 1536, 1538, 1540, 1542, 1544, 1546, 1548, 1550, 1552, 1554, 1556, 1558, 1560, 1562, 1564, 1566, 1568, 1570, 1572, 1574, 1576, 1578, 1580, 1582, 1584, 1586, 1588, 1590, 1592, 1594, 1596, 1598, 1600, 1602, 1604, 1606, 1608, 1610, 1612, 1614, 1616, 1618] (by decide +kernel) (by decide +kernel)
theorem kt_0 : KT.getD 0 (9, 0) = (0, 11) := by decide +kernel
theorem kt_1 : KT.getD 1 (9, 0) = (2, 1600) := by decide +kernel
theorem kt_2 : KT.getD 2 (9, 0) = (0, 8) := by decide +kernel
theorem kt_3 : KT.getD 3 (9, 0) = (4, 24) := by decide +kernel
theorem kt_4 : KT.getD 4 (9, 0) = (1, 1601) := by decide +kernel
theorem kt_5 : KT.getD 5 (9, 0) = (1, 1601) := by decide +kernel
theorem kt_6 : KT.getD 6 (9, 0) = (4, 1601) := by decide +kernel
theorem kt_7 : KT.getD 7 (9, 0) = (0, 9) := by decide +kernel
theorem kt_8 : KT.getD 8 (9, 0) = (4, 16) := by decide +kernel
theorem kt_9 : KT.getD 9 (9, 0) = (1, 16) := by decide +kernel
theorem kt_10 : KT.getD 10 (9, 0) = (1, 16) := by decide +kernel
theorem kt_11 : KT.getD 11 (9, 0) = (5, 16) := by decide +kernel
theorem kt_12 : KT.getD 12 (9, 0) = (1, 8) := by decide +kernel
theorem kt_13 : KT.getD 13 (9, 0) = (1, 8) := by decide +kernel
theorem kt_14 : KT.getD 14 (9, 0) = (1, 8) := by decide +kernel
theorem kt_15 : KT.getD 15 (9, 0) = (1, 8) := by decide +kernel
theorem kt_16 : KT.getD 16 (9, 0) = (1, 8) := by decide +kernel
theorem kt_17 : KT.getD 17 (9, 0) = (1, 8) := by decide +kernel
theorem kt_18 : KT.getD 18 (9, 0) = (1, 8) := by decide +kernel
theorem kt_19 : KT.getD 19 (9, 0) = (1, 8) := by decide +kernel
theorem kt_20 : KT.getD 20 (9, 0) = (1, 8) := by decide +kernel
theorem kt_21 : KT.getD 21 (9, 0) = (1, 8) := by decide +kernel
theorem kt_22 : KT.getD 22 (9, 0) = (1, 8) := by decide +kernel
theorem kt_23 : KT.getD 23 (9, 0) = (1, 8) := by decide +kernel
theorem kt_24 : KT.getD 24 (9, 0) = (1, 8) := by decide +kernel
theorem kt_25 : KT.getD 25 (9, 0) = (1, 8) := by decide +kernel
theorem kt_26 : KT.getD 26 (9, 0) = (1, 8) := by decide +kernel
theorem kt_27 : KT.getD 27 (9, 0) = (1, 8) := by decide +kernel
theorem kt_28 : KT.getD 28 (9, 0) = (1, 16) := by decide +kernel
theorem kt_29 : KT.getD 29 (9, 0) = (1, 4) := by decide +kernel
theorem kt_30 : KT.getD 30 (9, 0) = (1, 4) := by decide +kernel
theorem kt_31 : KT.getD 31 (9, 0) = (0, 9) := by decide +kernel
theorem kt_32 : KT.getD 32 (9, 0) = (4, 16) := by decide +kernel
theorem kt_33 : KT.getD 33 (9, 0) = (1, 16) := by decide +kernel
theorem kt_34 : KT.getD 34 (9, 0) = (1, 16) := by decide +kernel
theorem kt_35 : KT.getD 35 (9, 0) = (5, 16) := by decide +kernel
theorem kt_36 : KT.getD 36 (9, 0) = (1, 8) := by decide +kernel
theorem kt_37 : KT.getD 37 (9, 0) = (1, 8) := by decide +kernel
theorem kt_38 : KT.getD 38 (9, 0) = (1, 8) := by decide +kernel
theorem kt_39 : KT.getD 39 (9, 0) = (1, 8) := by decide +kernel
theorem kt_40 : KT.getD 40 (9, 0) = (1, 8) := by decide +kernel
theorem kt_41 : KT.getD 41 (9, 0) = (1, 8) := by decide +kernel
theorem kt_42 : KT.getD 42 (9, 0) = (1, 8) := by decide +kernel
theorem kt_43 : KT.getD 43 (9, 0) = (1, 8) := by decide +kernel
theorem kt_44 : KT.getD 44 (9, 0) = (1, 8) := by decide +kernel
theorem kt_45 : KT.getD 45 (9, 0) = (1, 8) := by decide +kernel
theorem kt_46 : KT.getD 46 (9, 0) = (1, 8) := by decide +kernel
theorem kt_47 : KT.getD 47 (9, 0) = (1, 8) := by decide +kernel
theorem kt_48 : KT.getD 48 (9, 0) = (1, 8) := by decide +kernel
theorem kt_49 : KT.getD 49 (9, 0) = (1, 8) := by decide +kernel
theorem kt_50 : KT.getD 50 (9, 0) = (1, 8) := by decide +kernel
theorem kt_51 : KT.getD 51 (9, 0) = (1, 8) := by decide +kernel
theorem kt_52 : KT.getD 52 (9, 0) = (1, 16) := by decide +kernel
theorem kt_53 : KT.getD 53 (9, 0) = (1, 4) := by decide +kernel
theorem kt_54 : KT.getD 54 (9, 0) = (1, 4) := by decide +kernel
theorem kt_55 : KT.getD 55 (9, 0) = (0, 5) := by decide +kernel
theorem kt_56 : KT.getD 56 (9, 0) = (4, 6) := by decide +kernel
theorem kt_57 : KT.getD 57 (9, 0) = (1, 6) := by decide +kernel
theorem kt_58 : KT.getD 58 (9, 0) = (1, 6) := by decide +kernel
theorem kt_59 : KT.getD 59 (9, 0) = (1, 800) := by decide +kernel
theorem kt_60 : KT.getD 60 (9, 0) = (1, 800) := by decide +kernel
theorem kt_61 : KT.getD 61 (9, 0) = (1, 12) := by decide +kernel
theorem kt_62 : KT.getD 62 (9, 0) = (1, 40) := by decide +kernel
theorem kt_63 : KT.getD 63 (9, 0) = (0, 5) := by decide +kernel
theorem kt_64 : KT.getD 64 (9, 0) = (4, 6) := by decide +kernel
theorem kt_65 : KT.getD 65 (9, 0) = (1, 6) := by decide +kernel
theorem kt_66 : KT.getD 66 (9, 0) = (1, 6) := by decide +kernel
theorem kt_67 : KT.getD 67 (9, 0) = (1, 800) := by decide +kernel
theorem kt_68 : KT.getD 68 (9, 0) = (1, 800) := by decide +kernel
theorem kt_69 : KT.getD 69 (9, 0) = (1, 12) := by decide +kernel
theorem kt_70 : KT.getD 70 (9, 0) = (1, 40) := by decide +kernel
theorem kt_71 : KT.getD 71 (9, 0) = (0, 2) := by decide +kernel
theorem kt_72 : KT.getD 72 (9, 0) = (1, 40) := by decide +kernel
theorem kt_73 : KT.getD 73 (9, 0) = (1, 40) := by decide +kernel
theorem kt_74 : KT.getD 74 (9, 0) = (1, 40) := by decide +kernel
theorem kt_75 : KT.getD 75 (9, 0) = (1, 40) := by decide +kernel
theorem kt_76 : KT.getD 76 (9, 0) = (1, 40) := by decide +kernel
theorem kt_77 : KT.getD 77 (9, 0) = (1, 40) := by decide +kernel
theorem kt_78 : KT.getD 78 (9, 0) = (6, 3) := by decide +kernel
theorem kt_79 : KT.getD 79 (9, 0) = (0, 0) := by decide +kernel
theorem kt_80 : KT.getD 80 (9, 0) = (1, 8) := by decide +kernel
theorem kt_81 : KT.getD 81 (9, 0) = (0, 1) := by decide +kernel
theorem kt_82 : KT.getD 82 (9, 0) = (5, 16) := by decide +kernel
theorem kt_83 : KT.getD 83 (9, 0) = (1, 8) := by decide +kernel
theorem kt_84 : KT.getD 84 (9, 0) = (1, 8) := by decide +kernel
theorem kt_85 : KT.getD 85 (9, 0) = (1, 8) := by decide +kernel
theorem kt_86 : KT.getD 86 (9, 0) = (1, 8) := by decide +kernel
theorem kt_87 : KT.getD 87 (9, 0) = (1, 8) := by decide +kernel
theorem kt_88 : KT.getD 88 (9, 0) = (1, 8) := by decide +kernel
theorem kt_89 : KT.getD 89 (9, 0) = (1, 8) := by decide +kernel
theorem kt_90 : KT.getD 90 (9, 0) = (1, 8) := by decide +kernel
theorem kt_91 : KT.getD 91 (9, 0) = (1, 8) := by decide +kernel
theorem kt_92 : KT.getD 92 (9, 0) = (1, 8) := by decide +kernel
theorem kt_93 : KT.getD 93 (9, 0) = (1, 8) := by decide +kernel
theorem kt_94 : KT.getD 94 (9, 0) = (1, 8) := by decide +kernel
theorem kt_95 : KT.getD 95 (9, 0) = (1, 8) := by decide +kernel
theorem kt_96 : KT.getD 96 (9, 0) = (1, 8) := by decide +kernel
theorem kt_97 : KT.getD 97 (9, 0) = (1, 8) := by decide +kernel
theorem kt_98 : KT.getD 98 (9, 0) = (1, 8) := by decide +kernel
theorem kt_99 : KT.getD 99 (9, 0) = (5, 16) := by decide +kernel
theorem kt_100 : KT.getD 100 (9, 0) = (1, 8) := by decide +kernel
theorem kt_101 : KT.getD 101 (9, 0) = (1, 8) := by decide +kernel
theorem kt_102 : KT.getD 102 (9, 0) = (1, 8) := by decide +kernel
theorem kt_103 : KT.getD 103 (9, 0) = (1, 8) := by decide +kernel
theorem kt_104 : KT.getD 104 (9, 0) = (1, 8) := by decide +kernel
theorem kt_105 : KT.getD 105 (9, 0) = (1, 8) := by decide +kernel
theorem kt_106 : KT.getD 106 (9, 0) = (1, 8) := by decide +kernel
theorem kt_107 : KT.getD 107 (9, 0) = (1, 8) := by decide +kernel
theorem kt_108 : KT.getD 108 (9, 0) = (1, 8) := by decide +kernel
theorem kt_109 : KT.getD 109 (9, 0) = (1, 8) := by decide +kernel
theorem kt_110 : KT.getD 110 (9, 0) = (1, 8) := by decide +kernel
theorem kt_111 : KT.getD 111 (9, 0) = (1, 8) := by decide +kernel
theorem kt_112 : KT.getD 112 (9, 0) = (1, 8) := by decide +kernel
theorem kt_113 : KT.getD 113 (9, 0) = (1, 8) := by decide +kernel
theorem kt_114 : KT.getD 114 (9, 0) = (1, 8) := by decide +kernel
theorem kt_115 : KT.getD 115 (9, 0) = (1, 8) := by decide +kernel
theorem kt_116 : KT.getD 116 (9, 0) = (1, 8) := by decide +kernel
theorem kt_117 : KT.getD 117 (9, 0) = (0, 3) := by decide +kernel
theorem kt_118 : KT.getD 118 (9, 0) = (1, 4) := by decide +kernel
theorem kt_119 : KT.getD 119 (9, 0) = (1, 801) := by decide +kernel
theorem kt_120 : KT.getD 120 (9, 0) = (1, 801) := by decide +kernel
theorem kt_121 : KT.getD 121 (9, 0) = (0, 7) := by decide +kernel
theorem kt_122 : KT.getD 122 (9, 0) = (1, 8) := by decide +kernel
theorem kt_123 : KT.getD 123 (9, 0) = (1, 16) := by decide +kernel
theorem kt_124 : KT.getD 124 (9, 0) = (1, 16) := by decide +kernel
theorem kt_125 : KT.getD 125 (9, 0) = (1, 4) := by decide +kernel
theorem kt_126 : KT.getD 126 (9, 0) = (0, 4) := by decide +kernel
theorem kt_127 : KT.getD 127 (9, 0) = (1, 40) := by decide +kernel
theorem kt_128 : KT.getD 128 (9, 0) = (1, 40) := by decide +kernel
theorem kt_129 : KT.getD 129 (9, 0) = (1, 40) := by decide +kernel
theorem kt_130 : KT.getD 130 (9, 0) = (0, 2) := by decide +kernel
theorem kt_131 : KT.getD 131 (9, 0) = (1, 40) := by decide +kernel
theorem kt_132 : KT.getD 132 (9, 0) = (1, 40) := by decide +kernel
theorem kt_133 : KT.getD 133 (9, 0) = (1, 40) := by decide +kernel
theorem kt_134 : KT.getD 134 (9, 0) = (1, 40) := by decide +kernel
theorem kt_135 : KT.getD 135 (9, 0) = (1, 40) := by decide +kernel
theorem kt_136 : KT.getD 136 (9, 0) = (1, 40) := by decide +kernel
theorem kt_137 : KT.getD 137 (9, 0) = (0, 2) := by decide +kernel
theorem kt_138 : KT.getD 138 (9, 0) = (1, 40) := by decide +kernel
theorem kt_139 : KT.getD 139 (9, 0) = (1, 40) := by decide +kernel
theorem kt_140 : KT.getD 140 (9, 0) = (1, 40) := by decide +kernel
theorem kt_141 : KT.getD 141 (9, 0) = (1, 40) := by decide +kernel
theorem kt_142 : KT.getD 142 (9, 0) = (1, 40) := by decide +kernel
theorem kt_143 : KT.getD 143 (9, 0) = (1, 40) := by decide +kernel
theorem kt_144 : KT.getD 144 (9, 0) = (0, 2) := by decide +kernel
theorem kt_145 : KT.getD 145 (9, 0) = (1, 40) := by decide +kernel
theorem kt_146 : KT.getD 146 (9, 0) = (1, 40) := by decide +kernel
theorem kt_147 : KT.getD 147 (9, 0) = (1, 40) := by decide +kernel
theorem kt_148 : KT.getD 148 (9, 0) = (1, 40) := by decide +kernel
theorem kt_149 : KT.getD 149 (9, 0) = (1, 40) := by decide +kernel
theorem kt_150 : KT.getD 150 (9, 0) = (1, 40) := by decide +kernel
theorem kt_151 : KT.getD 151 (9, 0) = (0, 12) := by decide +kernel
theorem kt_152 : KT.getD 152 (9, 0) = (2, 1620) := by decide +kernel
theorem kt_153 : KT.getD 153 (9, 0) = (2, 1600) := by decide +kernel
theorem kt_154 : KT.getD 154 (9, 0) = (1, 2) := by decide +kernel
theorem kt_155 : KT.getD 155 (9, 0) = (1, 2) := by decide +kernel
theorem kt_156 : KT.getD 156 (9, 0) = (1, 2) := by decide +kernel
theorem kt_157 : KT.getD 157 (9, 0) = (1, 2) := by decide +kernel
theorem kt_158 : KT.getD 158 (9, 0) = (1, 32) := by decide +kernel
theorem kt_159 : KT.getD 159 (9, 0) = (1, 32) := by decide +kernel
theorem kt_160 : KT.getD 160 (9, 0) = (1, 256) := by decide +kernel
theorem kt_161 : KT.getD 161 (9, 0) = (1, 32) := by decide +kernel
theorem kt_162 : KT.getD 162 (9, 0) = (1, 8) := by decide +kernel
theorem kt_163 : KT.getD 163 (9, 0) = (1, 8) := by decide +kernel
theorem kt_164 : KT.getD 164 (9, 0) = (3, 2) := by decide +kernel
theorem kt_165 : KT.getD 165 (9, 0) = (3, 2) := by decide +kernel
theorem kt_166 : KT.getD 166 (9, 0) = (3, 8) := by decide +kernel
theorem kt_167 : KT.getD 167 (9, 0) = (4, 32) := by decide +kernel
theorem kt_168 : KT.getD 168 (9, 0) = (1, 800) := by decide +kernel
theorem kt_169 : KT.getD 169 (9, 0) = (1, 800) := by decide +kernel
theorem kt_170 : KT.getD 170 (9, 0) = (1, 90) := by decide +kernel
theorem kt_171 : KT.getD 171 (9, 0) = (1, 90) := by decide +kernel
theorem kt_172 : KT.getD 172 (9, 0) = (1, 70) := by decide +kernel
theorem kt_173 : KT.getD 173 (9, 0) = (1, 14) := by decide +kernel
theorem kt_174 : KT.getD 174 (9, 0) = (1, 14) := by decide +kernel
theorem kt_175 : KT.getD 175 (9, 0) = (4, 6) := by decide +kernel
theorem kt_176 : KT.getD 176 (9, 0) = (1, 8) := by decide +kernel
theorem kt_177 : KT.getD 177 (9, 0) = (1, 8) := by decide +kernel
theorem kt_178 : KT.getD 178 (9, 0) = (1, 40) := by decide +kernel
theorem kt_179 : KT.getD 179 (9, 0) = (1, 40) := by decide +kernel
theorem kt_180 : KT.getD 180 (9, 0) = (1, 40) := by decide +kernel
theorem kt_181 : KT.getD 181 (9, 0) = (1, 40) := by decide +kernel
theorem kt_182 : KT.getD 182 (9, 0) = (1, 40) := by decide +kernel
theorem kt_183 : KT.getD 183 (9, 0) = (1, 40) := by decide +kernel
theorem kt_184 : KT.getD 184 (9, 0) = (3, 40) := by decide +kernel
theorem kt_185 : KT.getD 185 (9, 0) = (1, 3) := by decide +kernel
theorem kt_186 : KT.getD 186 (9, 0) = (1, 3) := by decide +kernel
theorem kt_187 : KT.getD 187 (9, 0) = (1, 120) := by decide +kernel
theorem kt_188 : KT.getD 188 (9, 0) = (1, 120) := by decide +kernel
theorem kt_189 : KT.getD 189 (9, 0) = (1, 120) := by decide +kernel
theorem kt_190 : KT.getD 190 (9, 0) = (1, 120) := by decide +kernel
theorem kt_191 : KT.getD 191 (9, 0) = (1, 120) := by decide +kernel
theorem kt_192 : KT.getD 192 (9, 0) = (1, 120) := by decide +kernel
theorem kt_193 : KT.getD 193 (9, 0) = (0, 10) := by decide +kernel
theorem kt_194 : KT.getD 194 (9, 0) = (0, 6) := by decide +kernel
theorem rf_0_0 : RF 0 0 = some 1 := by decide +kernel
theorem rf_0_4 : RF 0 4 = some 2 := by decide +kernel
theorem rf_0_5 : RF 0 5 = some 7 := by decide +kernel
theorem rf_0_6 : RF 0 6 = some 31 := by decide +kernel
theorem rf_0_7 : RF 0 7 = some 55 := by decide +kernel
theorem rf_0_8 : RF 0 8 = some 63 := by decide +kernel
theorem rf_0_9 : RF 0 9 = some 71 := by decide +kernel
theorem rf_0_10 : RF 0 10 = some 78 := by decide +kernel
theorem rf_0_11 : RF 0 11 = some 79 := by decide +kernel
theorem rf_0_12 : RF 0 12 = some 81 := by decide +kernel
theorem rf_0_13 : RF 0 13 = some 117 := by decide +kernel
theorem rf_0_14 : RF 0 14 = some 121 := by decide +kernel
theorem rf_0_15 : RF 0 15 = some 126 := by decide +kernel
theorem rf_2_0 : RF 2 0 = some 1 := by decide +kernel
theorem rf_2_1 : RF 2 1 = some 3 := by decide +kernel
theorem rf_2_2 : RF 2 2 = some 4 := by decide +kernel
theorem rf_2_3 : RF 2 3 = some 5 := by decide +kernel
theorem rf_2_4 : RF 2 4 = some 6 := by decide +kernel
theorem rf_7_4 : RF 7 4 = some 8 := by decide +kernel
theorem rf_7_5 : RF 7 5 = some 9 := by decide +kernel
theorem rf_7_6 : RF 7 6 = some 10 := by decide +kernel
theorem rf_7_7 : RF 7 7 = some 11 := by decide +kernel
theorem rf_7_8 : RF 7 8 = some 28 := by decide +kernel
theorem rf_7_9 : RF 7 9 = some 29 := by decide +kernel
theorem rf_7_10 : RF 7 10 = some 30 := by decide +kernel
theorem rq_11 : ∀ j, j < 16 → RF 11 j = some (12 + j) := by decide +kernel
theorem kq_11 : ∀ j, j < 16 → KT.getD (12 + j) (9, 0) = (1, 8) ∧ 12 + j < NP := by decide +kernel
theorem rf_31_4 : RF 31 4 = some 32 := by decide +kernel
theorem rf_31_5 : RF 31 5 = some 33 := by decide +kernel
theorem rf_31_6 : RF 31 6 = some 34 := by decide +kernel
theorem rf_31_7 : RF 31 7 = some 35 := by decide +kernel
theorem rf_31_8 : RF 31 8 = some 52 := by decide +kernel
theorem rf_31_9 : RF 31 9 = some 53 := by decide +kernel
theorem rf_31_10 : RF 31 10 = some 54 := by decide +kernel
theorem rq_35 : ∀ j, j < 16 → RF 35 j = some (36 + j) := by decide +kernel
theorem kq_35 : ∀ j, j < 16 → KT.getD (36 + j) (9, 0) = (1, 8) ∧ 36 + j < NP := by decide +kernel
theorem rf_55_6 : RF 55 6 = some 56 := by decide +kernel
theorem rf_55_7 : RF 55 7 = some 57 := by decide +kernel
theorem rf_55_8 : RF 55 8 = some 58 := by decide +kernel
theorem rf_55_9 : RF 55 9 = some 59 := by decide +kernel
theorem rf_55_10 : RF 55 10 = some 60 := by decide +kernel
theorem rf_55_11 : RF 55 11 = some 61 := by decide +kernel
theorem rf_55_12 : RF 55 12 = some 62 := by decide +kernel
theorem rf_63_6 : RF 63 6 = some 64 := by decide +kernel
theorem rf_63_7 : RF 63 7 = some 65 := by decide +kernel
theorem rf_63_8 : RF 63 8 = some 66 := by decide +kernel
theorem rf_63_9 : RF 63 9 = some 67 := by decide +kernel
theorem rf_63_10 : RF 63 10 = some 68 := by decide +kernel
theorem rf_63_11 : RF 63 11 = some 69 := by decide +kernel
theorem rf_63_12 : RF 63 12 = some 70 := by decide +kernel
theorem rf_71_3 : RF 71 3 = some 72 := by decide +kernel
theorem rf_71_4 : RF 71 4 = some 73 := by decide +kernel
theorem rf_71_5 : RF 71 5 = some 74 := by decide +kernel
theorem rf_71_6 : RF 71 6 = some 75 := by decide +kernel
theorem rf_71_7 : RF 71 7 = some 76 := by decide +kernel
theorem rf_71_8 : RF 71 8 = some 77 := by decide +kernel
theorem rf_79_0 : RF 79 0 = some 7 := by decide +kernel
theorem rf_79_1 : RF 79 1 = some 55 := by decide +kernel
theorem rf_79_2 : RF 79 2 = some 80 := by decide +kernel
theorem rf_81_0 : RF 81 0 = some 7 := by decide +kernel
theorem rf_81_1 : RF 81 1 = some 55 := by decide +kernel
theorem rf_81_2 : RF 81 2 = some 82 := by decide +kernel
theorem rf_81_3 : RF 81 3 = some 99 := by decide +kernel
theorem rf_81_4 : RF 81 4 = some 116 := by decide +kernel
theorem rq_82 : ∀ j, j < 16 → RF 82 j = some (83 + j) := by decide +kernel
theorem kq_82 : ∀ j, j < 16 → KT.getD (83 + j) (9, 0) = (1, 8) ∧ 83 + j < NP := by decide +kernel
theorem rq_99 : ∀ j, j < 16 → RF 99 j = some (100 + j) := by decide +kernel
theorem kq_99 : ∀ j, j < 16 → KT.getD (100 + j) (9, 0) = (1, 8) ∧ 100 + j < NP := by decide +kernel
theorem rf_117_0 : RF 117 0 = some 7 := by decide +kernel
theorem rf_117_1 : RF 117 1 = some 81 := by decide +kernel
theorem rf_117_2 : RF 117 2 = some 118 := by decide +kernel
theorem rf_117_3 : RF 117 3 = some 119 := by decide +kernel
theorem rf_117_4 : RF 117 4 = some 120 := by decide +kernel
theorem rf_121_0 : RF 121 0 = some 7 := by decide +kernel
theorem rf_121_1 : RF 121 1 = some 71 := by decide +kernel
theorem rf_121_2 : RF 121 2 = some 79 := by decide +kernel
theorem rf_121_3 : RF 121 3 = some 122 := by decide +kernel
theorem rf_121_4 : RF 121 4 = some 123 := by decide +kernel
theorem rf_121_5 : RF 121 5 = some 124 := by decide +kernel
theorem rf_121_6 : RF 121 6 = some 125 := by decide +kernel
theorem rf_126_0 : RF 126 0 = some 7 := by decide +kernel
theorem rf_126_1 : RF 126 1 = some 71 := by decide +kernel
theorem rf_126_2 : RF 126 2 = some 127 := by decide +kernel
theorem rf_126_3 : RF 126 3 = some 128 := by decide +kernel
theorem rf_126_4 : RF 126 4 = some 129 := by decide +kernel
theorem rf_130_3 : RF 130 3 = some 131 := by decide +kernel
theorem rf_130_4 : RF 130 4 = some 132 := by decide +kernel
theorem rf_130_5 : RF 130 5 = some 133 := by decide +kernel
theorem rf_130_6 : RF 130 6 = some 134 := by decide +kernel
theorem rf_130_7 : RF 130 7 = some 135 := by decide +kernel
theorem rf_130_8 : RF 130 8 = some 136 := by decide +kernel
theorem rf_137_3 : RF 137 3 = some 138 := by decide +kernel
theorem rf_137_4 : RF 137 4 = some 139 := by decide +kernel
theorem rf_137_5 : RF 137 5 = some 140 := by decide +kernel
theorem rf_137_6 : RF 137 6 = some 141 := by decide +kernel
theorem rf_137_7 : RF 137 7 = some 142 := by decide +kernel
theorem rf_137_8 : RF 137 8 = some 143 := by decide +kernel
theorem rf_144_3 : RF 144 3 = some 145 := by decide +kernel
theorem rf_144_4 : RF 144 4 = some 146 := by decide +kernel
theorem rf_144_5 : RF 144 5 = some 147 := by decide +kernel
theorem rf_144_6 : RF 144 6 = some 148 := by decide +kernel
theorem rf_144_7 : RF 144 7 = some 149 := by decide +kernel
theorem rf_144_8 : RF 144 8 = some 150 := by decide +kernel
theorem rf_151_0 : RF 151 0 = some 152 := by decide +kernel
theorem rf_151_1 : RF 151 1 = some 153 := by decide +kernel
theorem rf_151_12 : RF 151 12 = some 154 := by decide +kernel
theorem rf_151_13 : RF 151 13 = some 155 := by decide +kernel
theorem rf_151_14 : RF 151 14 = some 156 := by decide +kernel
theorem rf_151_15 : RF 151 15 = some 157 := by decide +kernel
theorem rf_151_16 : RF 151 16 = some 158 := by decide +kernel
theorem rf_151_17 : RF 151 17 = some 159 := by decide +kernel
theorem rf_151_18 : RF 151 18 = some 160 := by decide +kernel
theorem rf_151_19 : RF 151 19 = some 161 := by decide +kernel
theorem rf_151_20 : RF 151 20 = some 162 := by decide +kernel
theorem rf_151_21 : RF 151 21 = some 163 := by decide +kernel
theorem rf_151_22 : RF 151 22 = some 164 := by decide +kernel
theorem rf_151_23 : RF 151 23 = some 165 := by decide +kernel
theorem rf_151_24 : RF 151 24 = some 166 := by decide +kernel
theorem rf_151_25 : RF 151 25 = some 167 := by decide +kernel
theorem rf_151_28 : RF 151 28 = some 168 := by decide +kernel
theorem rf_151_29 : RF 151 29 = some 169 := by decide +kernel
theorem rf_151_30 : RF 151 30 = some 170 := by decide +kernel
theorem rf_151_31 : RF 151 31 = some 171 := by decide +kernel
theorem rf_151_32 : RF 151 32 = some 172 := by decide +kernel
theorem rf_151_33 : RF 151 33 = some 173 := by decide +kernel
theorem rf_151_34 : RF 151 34 = some 174 := by decide +kernel
theorem rf_151_35 : RF 151 35 = some 175 := by decide +kernel
theorem rf_151_52 : RF 151 52 = some 176 := by decide +kernel
theorem rf_151_53 : RF 151 53 = some 177 := by decide +kernel
theorem rf_151_54 : RF 151 54 = some 178 := by decide +kernel
theorem rf_151_55 : RF 151 55 = some 179 := by decide +kernel
theorem rf_151_56 : RF 151 56 = some 180 := by decide +kernel
theorem rf_151_57 : RF 151 57 = some 181 := by decide +kernel
theorem rf_151_58 : RF 151 58 = some 182 := by decide +kernel
theorem rf_151_59 : RF 151 59 = some 183 := by decide +kernel
theorem rf_151_65 : RF 151 65 = some 184 := by decide +kernel
theorem rf_151_66 : RF 151 66 = some 185 := by decide +kernel
theorem rf_151_67 : RF 151 67 = some 186 := by decide +kernel
theorem rf_151_68 : RF 151 68 = some 187 := by decide +kernel
theorem rf_151_69 : RF 151 69 = some 188 := by decide +kernel
theorem rf_151_70 : RF 151 70 = some 189 := by decide +kernel
theorem rf_151_71 : RF 151 71 = some 190 := by decide +kernel
theorem rf_151_72 : RF 151 72 = some 191 := by decide +kernel
theorem rf_151_73 : RF 151 73 = some 192 := by decide +kernel
theorem rf_193_0 : RF 193 0 = some 2 := by decide +kernel
theorem rf_193_1 : RF 193 1 = some 31 := by decide +kernel
theorem rf_194_0 : RF 194 0 = some 2 := by decide +kernel
theorem rf_194_1 : RF 194 1 = some 63 := by decide +kernel
