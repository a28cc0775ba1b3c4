/-! the heap that the two constructors make: 193 cells; behind them the two that a call makes for itself -/
def NP : Nat := 193
/-- a cell: (0, its class), or (1 int, 2 byte, 3 boolean, 4 long, 5 int[], 6 Papers; how long) -/
def KT : List (Nat × Nat) := [(0, 11), (2, 1600), (0, 8), (4, 24), (1, 1601), (1, 1601), (4, 1601), (0, 9), (4, 16), (1, 16), (1, 16), (5, 16), (1, 8), (1, 8), (1, 8), (1, 8), (1, 8), (1, 8), (1, 8), (1, 8), (1, 8), (1, 8), (1, 8), (1, 8), (1, 8), (1, 8), (1, 8), (1, 8), (1, 16), (1, 4), (1, 4), (0, 9), (4, 16), (1, 16), (1, 16), (5, 16), (1, 8), (1, 8), (1, 8), (1, 8), (1, 8), (1, 8), (1, 8), (1, 8), (1, 8), (1, 8), (1, 8), (1, 8), (1, 8), (1, 8), (1, 8), (1, 8), (1, 16), (1, 4), (1, 4), (0, 5), (4, 6), (1, 6), (1, 6), (1, 800), (1, 800), (1, 12), (1, 40), (0, 5), (4, 6), (1, 6), (1, 6), (1, 800), (1, 800), (1, 12), (1, 40), (0, 2), (1, 40), (1, 40), (1, 40), (1, 40), (1, 40), (1, 40), (6, 3), (0, 0), (1, 8), (0, 1), (5, 16), (1, 8), (1, 8), (1, 8), (1, 8), (1, 8), (1, 8), (1, 8), (1, 8), (1, 8), (1, 8), (1, 8), (1, 8), (1, 8), (1, 8), (1, 8), (1, 8), (5, 16), (1, 8), (1, 8), (1, 8), (1, 8), (1, 8), (1, 8), (1, 8), (1, 8), (1, 8), (1, 8), (1, 8), (1, 8), (1, 8), (1, 8), (1, 8), (1, 8), (1, 8), (0, 3), (1, 4), (1, 801), (1, 801), (0, 7), (1, 8), (1, 16), (1, 16), (1, 4), (0, 4), (1, 40), (1, 40), (1, 40), (0, 2), (1, 40), (1, 40), (1, 40), (1, 40), (1, 40), (1, 40), (0, 2), (1, 40), (1, 40), (1, 40), (1, 40), (1, 40), (1, 40), (0, 2), (1, 40), (1, 40), (1, 40), (1, 40), (1, 40), (1, 40), (0, 12), (2, 1620), (2, 1600), (1, 2), (1, 2), (1, 2), (1, 2), (1, 32), (1, 32), (1, 256), (1, 32), (1, 8), (1, 8), (3, 2), (3, 2), (3, 8), (4, 32), (1, 800), (1, 800), (1, 90), (1, 90), (1, 70), (1, 14), (1, 14), (4, 6), (1, 8), (1, 8), (1, 40), (1, 40), (1, 40), (1, 40), (1, 40), (1, 40), (3, 40), (1, 3), (1, 3), (1, 120), (1, 120), (1, 120), (1, 120), (1, 120), (1, 120), (0, 10), (0, 6)]
/-- the fields of a class: 0 an int, 1 a long, 2 a reference -/
def FT : List (List Nat) := [[2, 2, 2], [2, 2, 2, 2, 2, 0, 0], [0, 0, 0, 2, 2, 2, 2, 2, 2], [2, 2, 2, 2, 2], [2, 2, 2, 2, 2, 0, 0], [0, 0, 0, 0, 0, 0, 2, 2, 2, 2, 2, 2, 2], [2, 2, 0, 0], [2, 2, 2, 2, 2, 2, 2, 0, 0, 0, 0, 0], [2, 2, 2, 2, 2, 0, 0, 0, 0, 0, 0, 0, 1, 0, 0], [0, 0, 0, 0, 2, 2, 2, 2, 2, 2, 2], [2, 2, 0, 0, 0], [2, 0, 0, 0, 2, 2, 2, 2, 2, 2, 2, 2, 2, 2, 2, 2], [2, 2, 0, 0, 0, 0, 0, 0, 0, 0, 1, 0, 2, 2, 2, 2, 2, 2, 2, 2, 2, 2, 2, 2, 2, 2, 0, 0, 2, 2, 2, 2, 2, 2, 2, 2, 0, 0, 0, 0, 0, 0, 0, 0, 0, 0, 0, 0, 0, 0, 0, 0, 2, 2, 2, 2, 2, 2, 2, 2, 0, 0, 0, 0, 0, 2, 2, 2, 2, 2, 2, 2, 2, 2]]
/-- the references: 0 none, else the cell and 1 -/
def RT : List (List Nat) := [[2, 0, 0, 0, 3, 8, 32, 56, 64, 72, 79, 80, 82, 118, 122, 127], [], [2, 4, 5, 6, 7, 0, 0, 0, 0, 0, 0, 0, 0, 0, 0], [], [], [], [], [0, 0, 0, 0, 9, 10, 11, 12, 29, 30, 31], [], [], [], [13, 14, 15, 16, 17, 18, 19, 20, 21, 22, 23, 24, 25, 26, 27, 28], [], [], [], [], [], [], [], [], [], [], [], [], [], [], [], [], [], [], [], [0, 0, 0, 0, 33, 34, 35, 36, 53, 54, 55], [], [], [], [37, 38, 39, 40, 41, 42, 43, 44, 45, 46, 47, 48, 49, 50, 51, 52], [], [], [], [], [], [], [], [], [], [], [], [], [], [], [], [], [], [], [], [0, 0, 0, 0, 0, 0, 57, 58, 59, 60, 61, 62, 63], [], [], [], [], [], [], [], [0, 0, 0, 0, 0, 0, 65, 66, 67, 68, 69, 70, 71], [], [], [], [], [], [], [], [0, 0, 0, 73, 74, 75, 76, 77, 78], [], [], [], [], [], [], [131, 138, 145], [8, 56, 81], [], [8, 56, 83, 100, 117, 0, 0], [84, 85, 86, 87, 88, 89, 90, 91, 92, 93, 94, 95, 96, 97, 98, 99], [], [], [], [], [], [], [], [], [], [], [], [], [], [], [], [], [101, 102, 103, 104, 105, 106, 107, 108, 109, 110, 111, 112, 113, 114, 115, 116], [], [], [], [], [], [], [], [], [], [], [], [], [], [], [], [], [], [8, 82, 119, 120, 121], [], [], [], [8, 72, 80, 123, 124, 125, 126, 0, 0, 0, 0, 0], [], [], [], [], [8, 72, 128, 129, 130, 0, 0], [], [], [], [0, 0, 0, 132, 133, 134, 135, 136, 137], [], [], [], [], [], [], [0, 0, 0, 139, 140, 141, 142, 143, 144], [], [], [], [], [], [], [0, 0, 0, 146, 147, 148, 149, 150, 151], [], [], [], [], [], [], [153, 154, 0, 0, 0, 0, 0, 0, 0, 0, 0, 0, 155, 156, 157, 158, 159, 160, 161, 162, 163, 164, 165, 166, 167, 168, 0, 0, 169, 170, 171, 172, 173, 174, 175, 176, 0, 0, 0, 0, 0, 0, 0, 0, 0, 0, 0, 0, 0, 0, 0, 0, 177, 178, 179, 180, 181, 182, 183, 184, 0, 0, 0, 0, 0, 185, 186, 187, 188, 189, 190, 191, 192, 193], [], [], [], [], [], [], [], [], [], [], [], [], [], [], [], [], [], [], [], [], [], [], [], [], [], [], [], [], [], [], [], [], [], [], [], [], [], [], [], [], [], [3, 32, 0, 0, 0], [3, 64, 0, 0]]
def RF (a k : Nat) : Option Nat := match (RT.getD a []).getD k 0 with
  | 0 => none
  | n + 1 => some n
def TS : List Cond := lw_tbl.filter goodWord
theorem TS_good : ∀ w ∈ TS, (w.onTables && w.keeps) = true ∨ ∃ ty, w = .arrayClass ty := fun w h => good_of_word (List.mem_filter.mp h).2
theorem TS_in : ∀ w ∈ TS, w ∈ lw_tbl := fun w h => (List.mem_filter.mp h).1
theorem cf_0 : ∀ w ∈ wsX00, w ∈ TS := by decide +kernel
theorem cf_1 : ∀ w ∈ wsX10, w ∈ TS := by decide +kernel
theorem cf_2 : ∀ w ∈ wsX20, w ∈ TS := by decide +kernel
theorem cf_3 : ∀ w ∈ wsX30, w ∈ TS := by decide +kernel
theorem cf_4 : ∀ w ∈ wsX40, w ∈ TS := by decide +kernel
theorem cf_5 : ∀ w ∈ wsX50, w ∈ TS := by decide +kernel
theorem cf_6 : ∀ w ∈ wsX60, w ∈ TS := by decide +kernel
theorem cf_7 : ∀ w ∈ wsX70, w ∈ TS := by decide +kernel
theorem cf_8 : ∀ w ∈ wsX80, w ∈ TS := by decide +kernel
theorem cf_9 : ∀ w ∈ wsX90, w ∈ TS := by decide +kernel
theorem cf_10 : ∀ w ∈ wsX100, w ∈ TS := by decide +kernel
theorem cf_11 : ∀ w ∈ wsX110, w ∈ TS := by decide +kernel
theorem cf_12 : ∀ w ∈ wsX120, w ∈ TS := by decide +kernel
theorem kt_0 : KT.getD 0 (9, 0) = (0, 11) := rfl
theorem kt_1 : KT.getD 1 (9, 0) = (2, 1600) := rfl
theorem kt_2 : KT.getD 2 (9, 0) = (0, 8) := rfl
theorem kt_3 : KT.getD 3 (9, 0) = (4, 24) := rfl
theorem kt_4 : KT.getD 4 (9, 0) = (1, 1601) := rfl
theorem kt_5 : KT.getD 5 (9, 0) = (1, 1601) := rfl
theorem kt_6 : KT.getD 6 (9, 0) = (4, 1601) := rfl
theorem kt_7 : KT.getD 7 (9, 0) = (0, 9) := rfl
theorem kt_8 : KT.getD 8 (9, 0) = (4, 16) := rfl
theorem kt_9 : KT.getD 9 (9, 0) = (1, 16) := rfl
theorem kt_10 : KT.getD 10 (9, 0) = (1, 16) := rfl
theorem kt_11 : KT.getD 11 (9, 0) = (5, 16) := rfl
theorem kt_12 : KT.getD 12 (9, 0) = (1, 8) := rfl
theorem kt_13 : KT.getD 13 (9, 0) = (1, 8) := rfl
theorem kt_14 : KT.getD 14 (9, 0) = (1, 8) := rfl
theorem kt_15 : KT.getD 15 (9, 0) = (1, 8) := rfl
theorem kt_16 : KT.getD 16 (9, 0) = (1, 8) := rfl
theorem kt_17 : KT.getD 17 (9, 0) = (1, 8) := rfl
theorem kt_18 : KT.getD 18 (9, 0) = (1, 8) := rfl
theorem kt_19 : KT.getD 19 (9, 0) = (1, 8) := rfl
theorem kt_20 : KT.getD 20 (9, 0) = (1, 8) := rfl
theorem kt_21 : KT.getD 21 (9, 0) = (1, 8) := rfl
theorem kt_22 : KT.getD 22 (9, 0) = (1, 8) := rfl
theorem kt_23 : KT.getD 23 (9, 0) = (1, 8) := rfl
theorem kt_24 : KT.getD 24 (9, 0) = (1, 8) := rfl
theorem kt_25 : KT.getD 25 (9, 0) = (1, 8) := rfl
theorem kt_26 : KT.getD 26 (9, 0) = (1, 8) := rfl
theorem kt_27 : KT.getD 27 (9, 0) = (1, 8) := rfl
theorem kt_28 : KT.getD 28 (9, 0) = (1, 16) := rfl
theorem kt_29 : KT.getD 29 (9, 0) = (1, 4) := rfl
theorem kt_30 : KT.getD 30 (9, 0) = (1, 4) := rfl
theorem kt_31 : KT.getD 31 (9, 0) = (0, 9) := rfl
theorem kt_32 : KT.getD 32 (9, 0) = (4, 16) := rfl
theorem kt_33 : KT.getD 33 (9, 0) = (1, 16) := rfl
theorem kt_34 : KT.getD 34 (9, 0) = (1, 16) := rfl
theorem kt_35 : KT.getD 35 (9, 0) = (5, 16) := rfl
theorem kt_36 : KT.getD 36 (9, 0) = (1, 8) := rfl
theorem kt_37 : KT.getD 37 (9, 0) = (1, 8) := rfl
theorem kt_38 : KT.getD 38 (9, 0) = (1, 8) := rfl
theorem kt_39 : KT.getD 39 (9, 0) = (1, 8) := rfl
theorem kt_40 : KT.getD 40 (9, 0) = (1, 8) := rfl
theorem kt_41 : KT.getD 41 (9, 0) = (1, 8) := rfl
theorem kt_42 : KT.getD 42 (9, 0) = (1, 8) := rfl
theorem kt_43 : KT.getD 43 (9, 0) = (1, 8) := rfl
theorem kt_44 : KT.getD 44 (9, 0) = (1, 8) := rfl
theorem kt_45 : KT.getD 45 (9, 0) = (1, 8) := rfl
theorem kt_46 : KT.getD 46 (9, 0) = (1, 8) := rfl
theorem kt_47 : KT.getD 47 (9, 0) = (1, 8) := rfl
theorem kt_48 : KT.getD 48 (9, 0) = (1, 8) := rfl
theorem kt_49 : KT.getD 49 (9, 0) = (1, 8) := rfl
theorem kt_50 : KT.getD 50 (9, 0) = (1, 8) := rfl
theorem kt_51 : KT.getD 51 (9, 0) = (1, 8) := rfl
theorem kt_52 : KT.getD 52 (9, 0) = (1, 16) := rfl
theorem kt_53 : KT.getD 53 (9, 0) = (1, 4) := rfl
theorem kt_54 : KT.getD 54 (9, 0) = (1, 4) := rfl
theorem kt_55 : KT.getD 55 (9, 0) = (0, 5) := rfl
theorem kt_56 : KT.getD 56 (9, 0) = (4, 6) := rfl
theorem kt_57 : KT.getD 57 (9, 0) = (1, 6) := rfl
theorem kt_58 : KT.getD 58 (9, 0) = (1, 6) := rfl
theorem kt_59 : KT.getD 59 (9, 0) = (1, 800) := rfl
theorem kt_60 : KT.getD 60 (9, 0) = (1, 800) := rfl
theorem kt_61 : KT.getD 61 (9, 0) = (1, 12) := rfl
theorem kt_62 : KT.getD 62 (9, 0) = (1, 40) := rfl
theorem kt_63 : KT.getD 63 (9, 0) = (0, 5) := rfl
theorem kt_64 : KT.getD 64 (9, 0) = (4, 6) := rfl
theorem kt_65 : KT.getD 65 (9, 0) = (1, 6) := rfl
theorem kt_66 : KT.getD 66 (9, 0) = (1, 6) := rfl
theorem kt_67 : KT.getD 67 (9, 0) = (1, 800) := rfl
theorem kt_68 : KT.getD 68 (9, 0) = (1, 800) := rfl
theorem kt_69 : KT.getD 69 (9, 0) = (1, 12) := rfl
theorem kt_70 : KT.getD 70 (9, 0) = (1, 40) := rfl
theorem kt_71 : KT.getD 71 (9, 0) = (0, 2) := rfl
theorem kt_72 : KT.getD 72 (9, 0) = (1, 40) := rfl
theorem kt_73 : KT.getD 73 (9, 0) = (1, 40) := rfl
theorem kt_74 : KT.getD 74 (9, 0) = (1, 40) := rfl
theorem kt_75 : KT.getD 75 (9, 0) = (1, 40) := rfl
theorem kt_76 : KT.getD 76 (9, 0) = (1, 40) := rfl
theorem kt_77 : KT.getD 77 (9, 0) = (1, 40) := rfl
theorem kt_78 : KT.getD 78 (9, 0) = (6, 3) := rfl
theorem kt_79 : KT.getD 79 (9, 0) = (0, 0) := rfl
theorem kt_80 : KT.getD 80 (9, 0) = (1, 8) := rfl
theorem kt_81 : KT.getD 81 (9, 0) = (0, 1) := rfl
theorem kt_82 : KT.getD 82 (9, 0) = (5, 16) := rfl
theorem kt_83 : KT.getD 83 (9, 0) = (1, 8) := rfl
theorem kt_84 : KT.getD 84 (9, 0) = (1, 8) := rfl
theorem kt_85 : KT.getD 85 (9, 0) = (1, 8) := rfl
theorem kt_86 : KT.getD 86 (9, 0) = (1, 8) := rfl
theorem kt_87 : KT.getD 87 (9, 0) = (1, 8) := rfl
theorem kt_88 : KT.getD 88 (9, 0) = (1, 8) := rfl
theorem kt_89 : KT.getD 89 (9, 0) = (1, 8) := rfl
theorem kt_90 : KT.getD 90 (9, 0) = (1, 8) := rfl
theorem kt_91 : KT.getD 91 (9, 0) = (1, 8) := rfl
theorem kt_92 : KT.getD 92 (9, 0) = (1, 8) := rfl
theorem kt_93 : KT.getD 93 (9, 0) = (1, 8) := rfl
theorem kt_94 : KT.getD 94 (9, 0) = (1, 8) := rfl
theorem kt_95 : KT.getD 95 (9, 0) = (1, 8) := rfl
theorem kt_96 : KT.getD 96 (9, 0) = (1, 8) := rfl
theorem kt_97 : KT.getD 97 (9, 0) = (1, 8) := rfl
theorem kt_98 : KT.getD 98 (9, 0) = (1, 8) := rfl
theorem kt_99 : KT.getD 99 (9, 0) = (5, 16) := rfl
theorem kt_100 : KT.getD 100 (9, 0) = (1, 8) := rfl
theorem kt_101 : KT.getD 101 (9, 0) = (1, 8) := rfl
theorem kt_102 : KT.getD 102 (9, 0) = (1, 8) := rfl
theorem kt_103 : KT.getD 103 (9, 0) = (1, 8) := rfl
theorem kt_104 : KT.getD 104 (9, 0) = (1, 8) := rfl
theorem kt_105 : KT.getD 105 (9, 0) = (1, 8) := rfl
theorem kt_106 : KT.getD 106 (9, 0) = (1, 8) := rfl
theorem kt_107 : KT.getD 107 (9, 0) = (1, 8) := rfl
theorem kt_108 : KT.getD 108 (9, 0) = (1, 8) := rfl
theorem kt_109 : KT.getD 109 (9, 0) = (1, 8) := rfl
theorem kt_110 : KT.getD 110 (9, 0) = (1, 8) := rfl
theorem kt_111 : KT.getD 111 (9, 0) = (1, 8) := rfl
theorem kt_112 : KT.getD 112 (9, 0) = (1, 8) := rfl
theorem kt_113 : KT.getD 113 (9, 0) = (1, 8) := rfl
theorem kt_114 : KT.getD 114 (9, 0) = (1, 8) := rfl
theorem kt_115 : KT.getD 115 (9, 0) = (1, 8) := rfl
theorem kt_116 : KT.getD 116 (9, 0) = (1, 8) := rfl
theorem kt_117 : KT.getD 117 (9, 0) = (0, 3) := rfl
theorem kt_118 : KT.getD 118 (9, 0) = (1, 4) := rfl
theorem kt_119 : KT.getD 119 (9, 0) = (1, 801) := rfl
theorem kt_120 : KT.getD 120 (9, 0) = (1, 801) := rfl
theorem kt_121 : KT.getD 121 (9, 0) = (0, 7) := rfl
theorem kt_122 : KT.getD 122 (9, 0) = (1, 8) := rfl
theorem kt_123 : KT.getD 123 (9, 0) = (1, 16) := rfl
theorem kt_124 : KT.getD 124 (9, 0) = (1, 16) := rfl
theorem kt_125 : KT.getD 125 (9, 0) = (1, 4) := rfl
theorem kt_126 : KT.getD 126 (9, 0) = (0, 4) := rfl
theorem kt_127 : KT.getD 127 (9, 0) = (1, 40) := rfl
theorem kt_128 : KT.getD 128 (9, 0) = (1, 40) := rfl
theorem kt_129 : KT.getD 129 (9, 0) = (1, 40) := rfl
theorem kt_130 : KT.getD 130 (9, 0) = (0, 2) := rfl
theorem kt_131 : KT.getD 131 (9, 0) = (1, 40) := rfl
theorem kt_132 : KT.getD 132 (9, 0) = (1, 40) := rfl
theorem kt_133 : KT.getD 133 (9, 0) = (1, 40) := rfl
theorem kt_134 : KT.getD 134 (9, 0) = (1, 40) := rfl
theorem kt_135 : KT.getD 135 (9, 0) = (1, 40) := rfl
theorem kt_136 : KT.getD 136 (9, 0) = (1, 40) := rfl
theorem kt_137 : KT.getD 137 (9, 0) = (0, 2) := rfl
theorem kt_138 : KT.getD 138 (9, 0) = (1, 40) := rfl
theorem kt_139 : KT.getD 139 (9, 0) = (1, 40) := rfl
theorem kt_140 : KT.getD 140 (9, 0) = (1, 40) := rfl
theorem kt_141 : KT.getD 141 (9, 0) = (1, 40) := rfl
theorem kt_142 : KT.getD 142 (9, 0) = (1, 40) := rfl
theorem kt_143 : KT.getD 143 (9, 0) = (1, 40) := rfl
theorem kt_144 : KT.getD 144 (9, 0) = (0, 2) := rfl
theorem kt_145 : KT.getD 145 (9, 0) = (1, 40) := rfl
theorem kt_146 : KT.getD 146 (9, 0) = (1, 40) := rfl
theorem kt_147 : KT.getD 147 (9, 0) = (1, 40) := rfl
theorem kt_148 : KT.getD 148 (9, 0) = (1, 40) := rfl
theorem kt_149 : KT.getD 149 (9, 0) = (1, 40) := rfl
theorem kt_150 : KT.getD 150 (9, 0) = (1, 40) := rfl
theorem kt_151 : KT.getD 151 (9, 0) = (0, 12) := rfl
theorem kt_152 : KT.getD 152 (9, 0) = (2, 1620) := rfl
theorem kt_153 : KT.getD 153 (9, 0) = (2, 1600) := rfl
theorem kt_154 : KT.getD 154 (9, 0) = (1, 2) := rfl
theorem kt_155 : KT.getD 155 (9, 0) = (1, 2) := rfl
theorem kt_156 : KT.getD 156 (9, 0) = (1, 2) := rfl
theorem kt_157 : KT.getD 157 (9, 0) = (1, 2) := rfl
theorem kt_158 : KT.getD 158 (9, 0) = (1, 32) := rfl
theorem kt_159 : KT.getD 159 (9, 0) = (1, 32) := rfl
theorem kt_160 : KT.getD 160 (9, 0) = (1, 256) := rfl
theorem kt_161 : KT.getD 161 (9, 0) = (1, 32) := rfl
theorem kt_162 : KT.getD 162 (9, 0) = (1, 8) := rfl
theorem kt_163 : KT.getD 163 (9, 0) = (1, 8) := rfl
theorem kt_164 : KT.getD 164 (9, 0) = (3, 2) := rfl
theorem kt_165 : KT.getD 165 (9, 0) = (3, 2) := rfl
theorem kt_166 : KT.getD 166 (9, 0) = (3, 8) := rfl
theorem kt_167 : KT.getD 167 (9, 0) = (4, 32) := rfl
theorem kt_168 : KT.getD 168 (9, 0) = (1, 800) := rfl
theorem kt_169 : KT.getD 169 (9, 0) = (1, 800) := rfl
theorem kt_170 : KT.getD 170 (9, 0) = (1, 90) := rfl
theorem kt_171 : KT.getD 171 (9, 0) = (1, 90) := rfl
theorem kt_172 : KT.getD 172 (9, 0) = (1, 70) := rfl
theorem kt_173 : KT.getD 173 (9, 0) = (1, 14) := rfl
theorem kt_174 : KT.getD 174 (9, 0) = (1, 14) := rfl
theorem kt_175 : KT.getD 175 (9, 0) = (4, 6) := rfl
theorem kt_176 : KT.getD 176 (9, 0) = (1, 8) := rfl
theorem kt_177 : KT.getD 177 (9, 0) = (1, 8) := rfl
theorem kt_178 : KT.getD 178 (9, 0) = (1, 40) := rfl
theorem kt_179 : KT.getD 179 (9, 0) = (1, 40) := rfl
theorem kt_180 : KT.getD 180 (9, 0) = (1, 40) := rfl
theorem kt_181 : KT.getD 181 (9, 0) = (1, 40) := rfl
theorem kt_182 : KT.getD 182 (9, 0) = (1, 40) := rfl
theorem kt_183 : KT.getD 183 (9, 0) = (1, 40) := rfl
theorem kt_184 : KT.getD 184 (9, 0) = (3, 40) := rfl
theorem kt_185 : KT.getD 185 (9, 0) = (1, 3) := rfl
theorem kt_186 : KT.getD 186 (9, 0) = (1, 3) := rfl
theorem kt_187 : KT.getD 187 (9, 0) = (1, 120) := rfl
theorem kt_188 : KT.getD 188 (9, 0) = (1, 120) := rfl
theorem kt_189 : KT.getD 189 (9, 0) = (1, 120) := rfl
theorem kt_190 : KT.getD 190 (9, 0) = (1, 120) := rfl
theorem kt_191 : KT.getD 191 (9, 0) = (1, 120) := rfl
theorem kt_192 : KT.getD 192 (9, 0) = (1, 120) := rfl
theorem kt_193 : KT.getD 193 (9, 0) = (0, 10) := rfl
theorem kt_194 : KT.getD 194 (9, 0) = (0, 6) := rfl
theorem rf_0_0 : RF 0 0 = some 1 := rfl
theorem rf_0_4 : RF 0 4 = some 2 := rfl
theorem rf_0_5 : RF 0 5 = some 7 := rfl
theorem rf_0_6 : RF 0 6 = some 31 := rfl
theorem rf_0_7 : RF 0 7 = some 55 := rfl
theorem rf_0_8 : RF 0 8 = some 63 := rfl
theorem rf_0_9 : RF 0 9 = some 71 := rfl
theorem rf_0_10 : RF 0 10 = some 78 := rfl
theorem rf_0_11 : RF 0 11 = some 79 := rfl
theorem rf_0_12 : RF 0 12 = some 81 := rfl
theorem rf_0_13 : RF 0 13 = some 117 := rfl
theorem rf_0_14 : RF 0 14 = some 121 := rfl
theorem rf_0_15 : RF 0 15 = some 126 := rfl
theorem rf_2_0 : RF 2 0 = some 1 := rfl
theorem rf_2_1 : RF 2 1 = some 3 := rfl
theorem rf_2_2 : RF 2 2 = some 4 := rfl
theorem rf_2_3 : RF 2 3 = some 5 := rfl
theorem rf_2_4 : RF 2 4 = some 6 := rfl
theorem rf_7_4 : RF 7 4 = some 8 := rfl
theorem rf_7_5 : RF 7 5 = some 9 := rfl
theorem rf_7_6 : RF 7 6 = some 10 := rfl
theorem rf_7_7 : RF 7 7 = some 11 := rfl
theorem rf_7_8 : RF 7 8 = some 28 := rfl
theorem rf_7_9 : RF 7 9 = some 29 := rfl
theorem rf_7_10 : RF 7 10 = some 30 := rfl
theorem rq_11 : ∀ j, j < 16 → RF 11 j = some (12 + j) := by decide +kernel
theorem kq_11 : ∀ j, j < 16 → KT.getD (12 + j) (9, 0) = (1, 8) ∧ 12 + j < NP := by decide +kernel
theorem rf_31_4 : RF 31 4 = some 32 := rfl
theorem rf_31_5 : RF 31 5 = some 33 := rfl
theorem rf_31_6 : RF 31 6 = some 34 := rfl
theorem rf_31_7 : RF 31 7 = some 35 := rfl
theorem rf_31_8 : RF 31 8 = some 52 := rfl
theorem rf_31_9 : RF 31 9 = some 53 := rfl
theorem rf_31_10 : RF 31 10 = some 54 := rfl
theorem rq_35 : ∀ j, j < 16 → RF 35 j = some (36 + j) := by decide +kernel
theorem kq_35 : ∀ j, j < 16 → KT.getD (36 + j) (9, 0) = (1, 8) ∧ 36 + j < NP := by decide +kernel
theorem rf_55_6 : RF 55 6 = some 56 := rfl
theorem rf_55_7 : RF 55 7 = some 57 := rfl
theorem rf_55_8 : RF 55 8 = some 58 := rfl
theorem rf_55_9 : RF 55 9 = some 59 := rfl
theorem rf_55_10 : RF 55 10 = some 60 := rfl
theorem rf_55_11 : RF 55 11 = some 61 := rfl
theorem rf_55_12 : RF 55 12 = some 62 := rfl
theorem rf_63_6 : RF 63 6 = some 64 := rfl
theorem rf_63_7 : RF 63 7 = some 65 := rfl
theorem rf_63_8 : RF 63 8 = some 66 := rfl
theorem rf_63_9 : RF 63 9 = some 67 := rfl
theorem rf_63_10 : RF 63 10 = some 68 := rfl
theorem rf_63_11 : RF 63 11 = some 69 := rfl
theorem rf_63_12 : RF 63 12 = some 70 := rfl
theorem rf_71_3 : RF 71 3 = some 72 := rfl
theorem rf_71_4 : RF 71 4 = some 73 := rfl
theorem rf_71_5 : RF 71 5 = some 74 := rfl
theorem rf_71_6 : RF 71 6 = some 75 := rfl
theorem rf_71_7 : RF 71 7 = some 76 := rfl
theorem rf_71_8 : RF 71 8 = some 77 := rfl
theorem rf_79_0 : RF 79 0 = some 7 := rfl
theorem rf_79_1 : RF 79 1 = some 55 := rfl
theorem rf_79_2 : RF 79 2 = some 80 := rfl
theorem rf_81_0 : RF 81 0 = some 7 := rfl
theorem rf_81_1 : RF 81 1 = some 55 := rfl
theorem rf_81_2 : RF 81 2 = some 82 := rfl
theorem rf_81_3 : RF 81 3 = some 99 := rfl
theorem rf_81_4 : RF 81 4 = some 116 := rfl
theorem rq_82 : ∀ j, j < 16 → RF 82 j = some (83 + j) := by decide +kernel
theorem kq_82 : ∀ j, j < 16 → KT.getD (83 + j) (9, 0) = (1, 8) ∧ 83 + j < NP := by decide +kernel
theorem rq_99 : ∀ j, j < 16 → RF 99 j = some (100 + j) := by decide +kernel
theorem kq_99 : ∀ j, j < 16 → KT.getD (100 + j) (9, 0) = (1, 8) ∧ 100 + j < NP := by decide +kernel
theorem rf_117_0 : RF 117 0 = some 7 := rfl
theorem rf_117_1 : RF 117 1 = some 81 := rfl
theorem rf_117_2 : RF 117 2 = some 118 := rfl
theorem rf_117_3 : RF 117 3 = some 119 := rfl
theorem rf_117_4 : RF 117 4 = some 120 := rfl
theorem rf_121_0 : RF 121 0 = some 7 := rfl
theorem rf_121_1 : RF 121 1 = some 71 := rfl
theorem rf_121_2 : RF 121 2 = some 79 := rfl
theorem rf_121_3 : RF 121 3 = some 122 := rfl
theorem rf_121_4 : RF 121 4 = some 123 := rfl
theorem rf_121_5 : RF 121 5 = some 124 := rfl
theorem rf_121_6 : RF 121 6 = some 125 := rfl
theorem rf_126_0 : RF 126 0 = some 7 := rfl
theorem rf_126_1 : RF 126 1 = some 71 := rfl
theorem rf_126_2 : RF 126 2 = some 127 := rfl
theorem rf_126_3 : RF 126 3 = some 128 := rfl
theorem rf_126_4 : RF 126 4 = some 129 := rfl
theorem rf_130_3 : RF 130 3 = some 131 := rfl
theorem rf_130_4 : RF 130 4 = some 132 := rfl
theorem rf_130_5 : RF 130 5 = some 133 := rfl
theorem rf_130_6 : RF 130 6 = some 134 := rfl
theorem rf_130_7 : RF 130 7 = some 135 := rfl
theorem rf_130_8 : RF 130 8 = some 136 := rfl
theorem rf_137_3 : RF 137 3 = some 138 := rfl
theorem rf_137_4 : RF 137 4 = some 139 := rfl
theorem rf_137_5 : RF 137 5 = some 140 := rfl
theorem rf_137_6 : RF 137 6 = some 141 := rfl
theorem rf_137_7 : RF 137 7 = some 142 := rfl
theorem rf_137_8 : RF 137 8 = some 143 := rfl
theorem rf_144_3 : RF 144 3 = some 145 := rfl
theorem rf_144_4 : RF 144 4 = some 146 := rfl
theorem rf_144_5 : RF 144 5 = some 147 := rfl
theorem rf_144_6 : RF 144 6 = some 148 := rfl
theorem rf_144_7 : RF 144 7 = some 149 := rfl
theorem rf_144_8 : RF 144 8 = some 150 := rfl
theorem rf_151_0 : RF 151 0 = some 152 := rfl
theorem rf_151_1 : RF 151 1 = some 153 := rfl
theorem rf_151_12 : RF 151 12 = some 154 := rfl
theorem rf_151_13 : RF 151 13 = some 155 := rfl
theorem rf_151_14 : RF 151 14 = some 156 := rfl
theorem rf_151_15 : RF 151 15 = some 157 := rfl
theorem rf_151_16 : RF 151 16 = some 158 := rfl
theorem rf_151_17 : RF 151 17 = some 159 := rfl
theorem rf_151_18 : RF 151 18 = some 160 := rfl
theorem rf_151_19 : RF 151 19 = some 161 := rfl
theorem rf_151_20 : RF 151 20 = some 162 := rfl
theorem rf_151_21 : RF 151 21 = some 163 := rfl
theorem rf_151_22 : RF 151 22 = some 164 := rfl
theorem rf_151_23 : RF 151 23 = some 165 := rfl
theorem rf_151_24 : RF 151 24 = some 166 := rfl
theorem rf_151_25 : RF 151 25 = some 167 := rfl
theorem rf_151_28 : RF 151 28 = some 168 := rfl
theorem rf_151_29 : RF 151 29 = some 169 := rfl
theorem rf_151_30 : RF 151 30 = some 170 := rfl
theorem rf_151_31 : RF 151 31 = some 171 := rfl
theorem rf_151_32 : RF 151 32 = some 172 := rfl
theorem rf_151_33 : RF 151 33 = some 173 := rfl
theorem rf_151_34 : RF 151 34 = some 174 := rfl
theorem rf_151_35 : RF 151 35 = some 175 := rfl
theorem rf_151_52 : RF 151 52 = some 176 := rfl
theorem rf_151_53 : RF 151 53 = some 177 := rfl
theorem rf_151_54 : RF 151 54 = some 178 := rfl
theorem rf_151_55 : RF 151 55 = some 179 := rfl
theorem rf_151_56 : RF 151 56 = some 180 := rfl
theorem rf_151_57 : RF 151 57 = some 181 := rfl
theorem rf_151_58 : RF 151 58 = some 182 := rfl
theorem rf_151_59 : RF 151 59 = some 183 := rfl
theorem rf_151_65 : RF 151 65 = some 184 := rfl
theorem rf_151_66 : RF 151 66 = some 185 := rfl
theorem rf_151_67 : RF 151 67 = some 186 := rfl
theorem rf_151_68 : RF 151 68 = some 187 := rfl
theorem rf_151_69 : RF 151 69 = some 188 := rfl
theorem rf_151_70 : RF 151 70 = some 189 := rfl
theorem rf_151_71 : RF 151 71 = some 190 := rfl
theorem rf_151_72 : RF 151 72 = some 191 := rfl
theorem rf_151_73 : RF 151 73 = some 192 := rfl
theorem rf_193_0 : RF 193 0 = some 2 := rfl
theorem rf_193_1 : RF 193 1 = some 31 := rfl
theorem rf_194_0 : RF 194 0 = some 2 := rfl
theorem rf_194_1 : RF 194 1 = some 63 := rfl
/-- own class, pool index: field k of class ci, its type, final or not, its kind -/
def FL (own : String) (idx ci k : Nat) (ty : FieldType) (fin : Bool) (kd : Nat) : Prop := ∃ (C : String) (T : u_T) (N : Nat) (ty0 : Nat → FieldType), vwCl[ci]? = some (C, T, N) ∧ N = (FT.getD ci []).length ∧ k < N ∧ Cond.fieldLink own idx (T k).1 (T k).2.1 (T k).2.2.1 ∈ TS ∧ (∀ w ∈ u_ws C T N, w ∈ TS) ∧ (∀ k, k < N → parseFieldDescriptor (T k).2.2.1 = some (ty0 k)) ∧ (∀ a, a < N → ∀ b, b < N → a ≠ b → (T a).2.1 ≠ (T b).2.1) ∧ ty0 k = ty ∧ (T k).2.2.2 = fin ∧ (FT.getD ci []).getD k 9 = kd
def LV (own : String) (idx : Nat) (y : MethodName) (b : ByteArray) (mL : Nat) (ret : Option FieldType) (np : Nat) : Prop := (∀ w ∈ ([.methodLink own idx y, .instanceMethod y, .selects y.cls y y, .initialized y.cls, .code y b mL ret] : List Cond), w ∈ TS) ∧ (y.cls ≠ "java/lang/invoke/MethodHandle" ∧ y.cls ≠ "java/lang/invoke/VarHandle") ∧ (parseMethodDescriptor y.desc).map (fun d => d.parameters.length) = some np
def LS (own : String) (idx : Nat) (y : MethodName) (b : ByteArray) (mL : Nat) (ret : Option FieldType) (np : Nat) : Prop := (∀ w ∈ ([.methodLink own idx y, .static y, .initialized own, .code y b mL ret] : List Cond), w ∈ TS) ∧ y.cls = own ∧ (y.cls ≠ "java/lang/invoke/MethodHandle" ∧ y.cls ≠ "java/lang/invoke/VarHandle") ∧ (parseMethodDescriptor y.desc).map (fun d => d.parameters.length) = some np
def LC (own : String) (idx : Nat) (v : Int64) : Prop := Cond.constantLong own idx v ∈ TS
def LK (own : String) (idx : Nat) (v : Int32) : Prop := Cond.constant own idx v ∈ TS
theorem flX0_9 : FL RX0 9 0 2 (.array .int) true 2 := ⟨RX0, TX0, 3, tyX0, rfl, rfl, by decide, by decide +kernel, cf_0, tyX0_ok, nmX0, rfl, rfl, rfl⟩
theorem flX0_15 : FL RX0 15 0 0 (.object "TwoFaces$Town") true 2 := ⟨RX0, TX0, 3, tyX0, rfl, rfl, by decide, by decide +kernel, cf_0, tyX0_ok, nmX0, rfl, rfl, rfl⟩
theorem flX0_19 : FL RX0 19 0 1 (.object "TwoFaces$Rules") true 2 := ⟨RX0, TX0, 3, tyX0, rfl, rfl, by decide, by decide +kernel, cf_0, tyX0_ok, nmX0, rfl, rfl, rfl⟩
theorem flX0_39 : FL RX0 39 9 0 .int false 0 := ⟨RX9, TX9, 11, tyX9, rfl, rfl, by decide, by decide +kernel, cf_9, tyX9_ok, nmX9, rfl, rfl, rfl⟩
theorem flX0_53 : FL RX0 53 9 2 .int false 0 := ⟨RX9, TX9, 11, tyX9, rfl, rfl, by decide, by decide +kernel, cf_9, tyX9_ok, nmX9, rfl, rfl, rfl⟩
theorem flX1_11 : FL RX1 11 1 2 (.array (.array .int)) true 2 := ⟨RX1, TX1, 7, tyX1, rfl, rfl, by decide, by decide +kernel, cf_1, tyX1_ok, nmX1, rfl, rfl, rfl⟩
theorem flX1_16 : FL RX1 16 1 3 (.array (.array .int)) true 2 := ⟨RX1, TX1, 7, tyX1, rfl, rfl, by decide, by decide +kernel, cf_1, tyX1_ok, nmX1, rfl, rfl, rfl⟩
theorem flX1_19 : FL RX1 19 1 4 (.array .int) true 2 := ⟨RX1, TX1, 7, tyX1, rfl, rfl, by decide, by decide +kernel, cf_1, tyX1_ok, nmX1, rfl, rfl, rfl⟩
theorem flX1_23 : FL RX1 23 1 5 .int false 0 := ⟨RX1, TX1, 7, tyX1, rfl, rfl, by decide, by decide +kernel, cf_1, tyX1_ok, nmX1, rfl, rfl, rfl⟩
theorem flX1_27 : FL RX1 27 1 6 .int false 0 := ⟨RX1, TX1, 7, tyX1, rfl, rfl, by decide, by decide +kernel, cf_1, tyX1_ok, nmX1, rfl, rfl, rfl⟩
theorem flX1_30 : FL RX1 30 1 0 (.object "TwoFaces$Town") true 2 := ⟨RX1, TX1, 7, tyX1, rfl, rfl, by decide, by decide +kernel, cf_1, tyX1_ok, nmX1, rfl, rfl, rfl⟩
theorem flX1_34 : FL RX1 34 1 1 (.object "TwoFaces$Rules") true 2 := ⟨RX1, TX1, 7, tyX1, rfl, rfl, by decide, by decide +kernel, cf_1, tyX1_ok, nmX1, rfl, rfl, rfl⟩
theorem flX1_38 : FL RX1 38 9 2 .int false 0 := ⟨RX9, TX9, 11, tyX9, rfl, rfl, by decide, by decide +kernel, cf_9, tyX9_ok, nmX9, rfl, rfl, rfl⟩
theorem flX1_43 : FL RX1 43 9 0 .int false 0 := ⟨RX9, TX9, 11, tyX9, rfl, rfl, by decide, by decide +kernel, cf_9, tyX9_ok, nmX9, rfl, rfl, rfl⟩
theorem flX2_9 : FL RX2 9 2 0 .int false 0 := ⟨RX2, TX2, 9, tyX2, rfl, rfl, by decide, by decide +kernel, cf_2, tyX2_ok, nmX2, rfl, rfl, rfl⟩
theorem flX2_15 : FL RX2 15 2 1 .int false 0 := ⟨RX2, TX2, 9, tyX2, rfl, rfl, by decide, by decide +kernel, cf_2, tyX2_ok, nmX2, rfl, rfl, rfl⟩
theorem flX2_18 : FL RX2 18 2 2 .boolean false 0 := ⟨RX2, TX2, 9, tyX2, rfl, rfl, by decide, by decide +kernel, cf_2, tyX2_ok, nmX2, rfl, rfl, rfl⟩
theorem flX2_22 : FL RX2 22 2 3 (.array .int) true 2 := ⟨RX2, TX2, 9, tyX2, rfl, rfl, by decide, by decide +kernel, cf_2, tyX2_ok, nmX2, rfl, rfl, rfl⟩
theorem flX2_26 : FL RX2 26 2 4 (.array .int) true 2 := ⟨RX2, TX2, 9, tyX2, rfl, rfl, by decide, by decide +kernel, cf_2, tyX2_ok, nmX2, rfl, rfl, rfl⟩
theorem flX2_29 : FL RX2 29 2 5 (.array .int) true 2 := ⟨RX2, TX2, 9, tyX2, rfl, rfl, by decide, by decide +kernel, cf_2, tyX2_ok, nmX2, rfl, rfl, rfl⟩
theorem flX2_32 : FL RX2 32 2 6 (.array .int) true 2 := ⟨RX2, TX2, 9, tyX2, rfl, rfl, by decide, by decide +kernel, cf_2, tyX2_ok, nmX2, rfl, rfl, rfl⟩
theorem flX2_35 : FL RX2 35 2 7 (.array .int) true 2 := ⟨RX2, TX2, 9, tyX2, rfl, rfl, by decide, by decide +kernel, cf_2, tyX2_ok, nmX2, rfl, rfl, rfl⟩
theorem flX2_38 : FL RX2 38 2 8 (.array .int) true 2 := ⟨RX2, TX2, 9, tyX2, rfl, rfl, by decide, by decide +kernel, cf_2, tyX2_ok, nmX2, rfl, rfl, rfl⟩
theorem flX3_9 : FL RX3 9 3 2 (.array .int) true 2 := ⟨RX3, TX3, 5, tyX3, rfl, rfl, by decide, by decide +kernel, cf_3, tyX3_ok, nmX3, rfl, rfl, rfl⟩
theorem flX3_15 : FL RX3 15 3 3 (.array .int) true 2 := ⟨RX3, TX3, 5, tyX3, rfl, rfl, by decide, by decide +kernel, cf_3, tyX3_ok, nmX3, rfl, rfl, rfl⟩
theorem flX3_18 : FL RX3 18 3 4 (.array .int) true 2 := ⟨RX3, TX3, 5, tyX3, rfl, rfl, by decide, by decide +kernel, cf_3, tyX3_ok, nmX3, rfl, rfl, rfl⟩
theorem flX3_21 : FL RX3 21 3 0 (.object "TwoFaces$Town") true 2 := ⟨RX3, TX3, 5, tyX3, rfl, rfl, by decide, by decide +kernel, cf_3, tyX3_ok, nmX3, rfl, rfl, rfl⟩
theorem flX3_25 : FL RX3 25 3 1 (.object "TwoFaces$Gate") true 2 := ⟨RX3, TX3, 5, tyX3, rfl, rfl, by decide, by decide +kernel, cf_3, tyX3_ok, nmX3, rfl, rfl, rfl⟩
theorem flX3_40 : FL RX3 40 9 2 .int false 0 := ⟨RX9, TX9, 11, tyX9, rfl, rfl, by decide, by decide +kernel, cf_9, tyX9_ok, nmX9, rfl, rfl, rfl⟩
theorem flX4_9 : FL RX4 9 4 2 (.array .int) true 2 := ⟨RX4, TX4, 7, tyX4, rfl, rfl, by decide, by decide +kernel, cf_4, tyX4_ok, nmX4, rfl, rfl, rfl⟩
theorem flX4_15 : FL RX4 15 4 3 (.array .int) true 2 := ⟨RX4, TX4, 7, tyX4, rfl, rfl, by decide, by decide +kernel, cf_4, tyX4_ok, nmX4, rfl, rfl, rfl⟩
theorem flX4_18 : FL RX4 18 4 4 (.array .int) true 2 := ⟨RX4, TX4, 7, tyX4, rfl, rfl, by decide, by decide +kernel, cf_4, tyX4_ok, nmX4, rfl, rfl, rfl⟩
theorem flX4_21 : FL RX4 21 4 5 .int false 0 := ⟨RX4, TX4, 7, tyX4, rfl, rfl, by decide, by decide +kernel, cf_4, tyX4_ok, nmX4, rfl, rfl, rfl⟩
theorem flX4_25 : FL RX4 25 4 6 .int false 0 := ⟨RX4, TX4, 7, tyX4, rfl, rfl, by decide, by decide +kernel, cf_4, tyX4_ok, nmX4, rfl, rfl, rfl⟩
theorem flX4_28 : FL RX4 28 4 0 (.object "TwoFaces$Town") true 2 := ⟨RX4, TX4, 7, tyX4, rfl, rfl, by decide, by decide +kernel, cf_4, tyX4_ok, nmX4, rfl, rfl, rfl⟩
theorem flX4_32 : FL RX4 32 4 1 (.object "TwoFaces$Papers") true 2 := ⟨RX4, TX4, 7, tyX4, rfl, rfl, by decide, by decide +kernel, cf_4, tyX4_ok, nmX4, rfl, rfl, rfl⟩
theorem flX4_36 : FL RX4 36 2 0 .int false 0 := ⟨RX2, TX2, 9, tyX2, rfl, rfl, by decide, by decide +kernel, cf_2, tyX2_ok, nmX2, rfl, rfl, rfl⟩
theorem flX5_9 : FL RX5 9 5 0 .int false 0 := ⟨RX5, TX5, 13, tyX5, rfl, rfl, by decide, by decide +kernel, cf_5, tyX5_ok, nmX5, rfl, rfl, rfl⟩
theorem flX5_15 : FL RX5 15 5 1 .int false 0 := ⟨RX5, TX5, 13, tyX5, rfl, rfl, by decide, by decide +kernel, cf_5, tyX5_ok, nmX5, rfl, rfl, rfl⟩
theorem flX5_18 : FL RX5 18 5 2 .boolean false 0 := ⟨RX5, TX5, 13, tyX5, rfl, rfl, by decide, by decide +kernel, cf_5, tyX5_ok, nmX5, rfl, rfl, rfl⟩
theorem flX5_22 : FL RX5 22 5 3 .int false 0 := ⟨RX5, TX5, 13, tyX5, rfl, rfl, by decide, by decide +kernel, cf_5, tyX5_ok, nmX5, rfl, rfl, rfl⟩
theorem flX5_25 : FL RX5 25 5 4 .int false 0 := ⟨RX5, TX5, 13, tyX5, rfl, rfl, by decide, by decide +kernel, cf_5, tyX5_ok, nmX5, rfl, rfl, rfl⟩
theorem flX5_28 : FL RX5 28 5 5 .int false 0 := ⟨RX5, TX5, 13, tyX5, rfl, rfl, by decide, by decide +kernel, cf_5, tyX5_ok, nmX5, rfl, rfl, rfl⟩
theorem flX5_31 : FL RX5 31 5 6 (.array .long) true 2 := ⟨RX5, TX5, 13, tyX5, rfl, rfl, by decide, by decide +kernel, cf_5, tyX5_ok, nmX5, rfl, rfl, rfl⟩
theorem flX5_35 : FL RX5 35 5 7 (.array .int) true 2 := ⟨RX5, TX5, 13, tyX5, rfl, rfl, by decide, by decide +kernel, cf_5, tyX5_ok, nmX5, rfl, rfl, rfl⟩
theorem flX5_39 : FL RX5 39 5 8 (.array .int) true 2 := ⟨RX5, TX5, 13, tyX5, rfl, rfl, by decide, by decide +kernel, cf_5, tyX5_ok, nmX5, rfl, rfl, rfl⟩
theorem flX5_42 : FL RX5 42 5 9 (.array .int) true 2 := ⟨RX5, TX5, 13, tyX5, rfl, rfl, by decide, by decide +kernel, cf_5, tyX5_ok, nmX5, rfl, rfl, rfl⟩
theorem flX5_45 : FL RX5 45 5 10 (.array .int) true 2 := ⟨RX5, TX5, 13, tyX5, rfl, rfl, by decide, by decide +kernel, cf_5, tyX5_ok, nmX5, rfl, rfl, rfl⟩
theorem flX5_48 : FL RX5 48 5 11 (.array .int) true 2 := ⟨RX5, TX5, 13, tyX5, rfl, rfl, by decide, by decide +kernel, cf_5, tyX5_ok, nmX5, rfl, rfl, rfl⟩
theorem flX5_51 : FL RX5 51 5 12 (.array .int) true 2 := ⟨RX5, TX5, 13, tyX5, rfl, rfl, by decide, by decide +kernel, cf_5, tyX5_ok, nmX5, rfl, rfl, rfl⟩
theorem flX6_9 : FL RX6 9 6 3 .boolean false 0 := ⟨RX6, TX6, 4, tyX6, rfl, rfl, by decide, by decide +kernel, cf_6, tyX6_ok, nmX6, rfl, rfl, rfl⟩
theorem flX6_15 : FL RX6 15 6 0 (.object "TwoFaces$Tokens") true 2 := ⟨RX6, TX6, 4, tyX6, rfl, rfl, by decide, by decide +kernel, cf_6, tyX6_ok, nmX6, rfl, rfl, rfl⟩
theorem flX6_19 : FL RX6 19 6 1 (.object "TwoFaces$Rules") true 2 := ⟨RX6, TX6, 4, tyX6, rfl, rfl, by decide, by decide +kernel, cf_6, tyX6_ok, nmX6, rfl, rfl, rfl⟩
theorem flX6_23 : FL RX6 23 6 2 .int true 0 := ⟨RX6, TX6, 4, tyX6, rfl, rfl, by decide, by decide +kernel, cf_6, tyX6_ok, nmX6, rfl, rfl, rfl⟩
theorem flX6_32 : FL RX6 32 8 10 .int false 0 := ⟨RX8, TX8, 15, tyX8, rfl, rfl, by decide, by decide +kernel, cf_8, tyX8_ok, nmX8, rfl, rfl, rfl⟩
theorem flX6_51 : FL RX6 51 5 2 .boolean false 0 := ⟨RX5, TX5, 13, tyX5, rfl, rfl, by decide, by decide +kernel, cf_5, tyX5_ok, nmX5, rfl, rfl, rfl⟩
theorem flX6_71 : FL RX6 71 5 0 .int false 0 := ⟨RX5, TX5, 13, tyX5, rfl, rfl, by decide, by decide +kernel, cf_5, tyX5_ok, nmX5, rfl, rfl, rfl⟩
theorem flX6_74 : FL RX6 74 8 12 .long false 1 := ⟨RX8, TX8, 15, tyX8, rfl, rfl, by decide, by decide +kernel, cf_8, tyX8_ok, nmX8, rfl, rfl, rfl⟩
theorem flX6_111 : FL RX6 111 5 1 .int false 0 := ⟨RX5, TX5, 13, tyX5, rfl, rfl, by decide, by decide +kernel, cf_5, tyX5_ok, nmX5, rfl, rfl, rfl⟩
theorem flX6_120 : FL RX6 120 8 11 .int false 0 := ⟨RX8, TX8, 15, tyX8, rfl, rfl, by decide, by decide +kernel, cf_8, tyX8_ok, nmX8, rfl, rfl, rfl⟩
theorem flX7_9 : FL RX7 9 7 3 (.array .int) true 2 := ⟨RX7, TX7, 12, tyX7, rfl, rfl, by decide, by decide +kernel, cf_7, tyX7_ok, nmX7, rfl, rfl, rfl⟩
theorem flX7_15 : FL RX7 15 7 4 (.array .int) true 2 := ⟨RX7, TX7, 12, tyX7, rfl, rfl, by decide, by decide +kernel, cf_7, tyX7_ok, nmX7, rfl, rfl, rfl⟩
theorem flX7_18 : FL RX7 18 7 5 (.array .int) true 2 := ⟨RX7, TX7, 12, tyX7, rfl, rfl, by decide, by decide +kernel, cf_7, tyX7_ok, nmX7, rfl, rfl, rfl⟩
theorem flX7_21 : FL RX7 21 7 6 (.array .int) true 2 := ⟨RX7, TX7, 12, tyX7, rfl, rfl, by decide, by decide +kernel, cf_7, tyX7_ok, nmX7, rfl, rfl, rfl⟩
theorem flX7_24 : FL RX7 24 7 7 .int false 0 := ⟨RX7, TX7, 12, tyX7, rfl, rfl, by decide, by decide +kernel, cf_7, tyX7_ok, nmX7, rfl, rfl, rfl⟩
theorem flX7_28 : FL RX7 28 7 8 .int false 0 := ⟨RX7, TX7, 12, tyX7, rfl, rfl, by decide, by decide +kernel, cf_7, tyX7_ok, nmX7, rfl, rfl, rfl⟩
theorem flX7_31 : FL RX7 31 7 9 .int false 0 := ⟨RX7, TX7, 12, tyX7, rfl, rfl, by decide, by decide +kernel, cf_7, tyX7_ok, nmX7, rfl, rfl, rfl⟩
theorem flX7_34 : FL RX7 34 7 10 .int false 0 := ⟨RX7, TX7, 12, tyX7, rfl, rfl, by decide, by decide +kernel, cf_7, tyX7_ok, nmX7, rfl, rfl, rfl⟩
theorem flX7_37 : FL RX7 37 7 11 .int false 0 := ⟨RX7, TX7, 12, tyX7, rfl, rfl, by decide, by decide +kernel, cf_7, tyX7_ok, nmX7, rfl, rfl, rfl⟩
theorem flX7_40 : FL RX7 40 7 0 (.object "TwoFaces$Town") true 2 := ⟨RX7, TX7, 12, tyX7, rfl, rfl, by decide, by decide +kernel, cf_7, tyX7_ok, nmX7, rfl, rfl, rfl⟩
theorem flX7_44 : FL RX7 44 7 1 (.object "TwoFaces$Papers") true 2 := ⟨RX7, TX7, 12, tyX7, rfl, rfl, by decide, by decide +kernel, cf_7, tyX7_ok, nmX7, rfl, rfl, rfl⟩
theorem flX7_48 : FL RX7 48 7 2 (.object "TwoFaces$Darkroom") true 2 := ⟨RX7, TX7, 12, tyX7, rfl, rfl, by decide, by decide +kernel, cf_7, tyX7_ok, nmX7, rfl, rfl, rfl⟩
theorem flX7_83 : FL RX7 83 9 2 .int false 0 := ⟨RX9, TX9, 11, tyX9, rfl, rfl, by decide, by decide +kernel, cf_9, tyX9_ok, nmX9, rfl, rfl, rfl⟩
theorem flX7_98 : FL RX7 98 9 1 .int false 0 := ⟨RX9, TX9, 11, tyX9, rfl, rfl, by decide, by decide +kernel, cf_9, tyX9_ok, nmX9, rfl, rfl, rfl⟩
theorem flX7_111 : FL RX7 111 2 0 .int false 0 := ⟨RX2, TX2, 9, tyX2, rfl, rfl, by decide, by decide +kernel, cf_2, tyX2_ok, nmX2, rfl, rfl, rfl⟩
theorem flX8_11 : FL RX8 11 8 1 (.array .long) true 2 := ⟨RX8, TX8, 15, tyX8, rfl, rfl, by decide, by decide +kernel, cf_8, tyX8_ok, nmX8, rfl, rfl, rfl⟩
theorem flX8_15 : FL RX8 15 8 2 (.array .int) true 2 := ⟨RX8, TX8, 15, tyX8, rfl, rfl, by decide, by decide +kernel, cf_8, tyX8_ok, nmX8, rfl, rfl, rfl⟩
theorem flX8_19 : FL RX8 19 8 3 (.array .int) true 2 := ⟨RX8, TX8, 15, tyX8, rfl, rfl, by decide, by decide +kernel, cf_8, tyX8_ok, nmX8, rfl, rfl, rfl⟩
theorem flX8_22 : FL RX8 22 8 4 (.array .long) true 2 := ⟨RX8, TX8, 15, tyX8, rfl, rfl, by decide, by decide +kernel, cf_8, tyX8_ok, nmX8, rfl, rfl, rfl⟩
theorem flX8_25 : FL RX8 25 8 5 .int false 0 := ⟨RX8, TX8, 15, tyX8, rfl, rfl, by decide, by decide +kernel, cf_8, tyX8_ok, nmX8, rfl, rfl, rfl⟩
theorem flX8_29 : FL RX8 29 8 6 .boolean false 0 := ⟨RX8, TX8, 15, tyX8, rfl, rfl, by decide, by decide +kernel, cf_8, tyX8_ok, nmX8, rfl, rfl, rfl⟩
theorem flX8_33 : FL RX8 33 8 7 .int false 0 := ⟨RX8, TX8, 15, tyX8, rfl, rfl, by decide, by decide +kernel, cf_8, tyX8_ok, nmX8, rfl, rfl, rfl⟩
theorem flX8_36 : FL RX8 36 8 8 .int false 0 := ⟨RX8, TX8, 15, tyX8, rfl, rfl, by decide, by decide +kernel, cf_8, tyX8_ok, nmX8, rfl, rfl, rfl⟩
theorem flX8_39 : FL RX8 39 8 9 .int false 0 := ⟨RX8, TX8, 15, tyX8, rfl, rfl, by decide, by decide +kernel, cf_8, tyX8_ok, nmX8, rfl, rfl, rfl⟩
theorem flX8_42 : FL RX8 42 8 10 .int false 0 := ⟨RX8, TX8, 15, tyX8, rfl, rfl, by decide, by decide +kernel, cf_8, tyX8_ok, nmX8, rfl, rfl, rfl⟩
theorem flX8_45 : FL RX8 45 8 11 .int false 0 := ⟨RX8, TX8, 15, tyX8, rfl, rfl, by decide, by decide +kernel, cf_8, tyX8_ok, nmX8, rfl, rfl, rfl⟩
theorem flX8_48 : FL RX8 48 8 12 .long false 1 := ⟨RX8, TX8, 15, tyX8, rfl, rfl, by decide, by decide +kernel, cf_8, tyX8_ok, nmX8, rfl, rfl, rfl⟩
theorem flX8_52 : FL RX8 52 8 13 .int false 0 := ⟨RX8, TX8, 15, tyX8, rfl, rfl, by decide, by decide +kernel, cf_8, tyX8_ok, nmX8, rfl, rfl, rfl⟩
theorem flX8_55 : FL RX8 55 8 14 .int false 0 := ⟨RX8, TX8, 15, tyX8, rfl, rfl, by decide, by decide +kernel, cf_8, tyX8_ok, nmX8, rfl, rfl, rfl⟩
theorem flX8_58 : FL RX8 58 8 0 (.array .byte) true 2 := ⟨RX8, TX8, 15, tyX8, rfl, rfl, by decide, by decide +kernel, cf_8, tyX8_ok, nmX8, rfl, rfl, rfl⟩
theorem flX9_9 : FL RX9 9 9 0 .int false 0 := ⟨RX9, TX9, 11, tyX9, rfl, rfl, by decide, by decide +kernel, cf_9, tyX9_ok, nmX9, rfl, rfl, rfl⟩
theorem flX9_15 : FL RX9 15 9 1 .int false 0 := ⟨RX9, TX9, 11, tyX9, rfl, rfl, by decide, by decide +kernel, cf_9, tyX9_ok, nmX9, rfl, rfl, rfl⟩
theorem flX9_18 : FL RX9 18 9 2 .int false 0 := ⟨RX9, TX9, 11, tyX9, rfl, rfl, by decide, by decide +kernel, cf_9, tyX9_ok, nmX9, rfl, rfl, rfl⟩
theorem flX9_21 : FL RX9 21 9 3 .int false 0 := ⟨RX9, TX9, 11, tyX9, rfl, rfl, by decide, by decide +kernel, cf_9, tyX9_ok, nmX9, rfl, rfl, rfl⟩
theorem flX9_24 : FL RX9 24 9 4 (.array .long) true 2 := ⟨RX9, TX9, 11, tyX9, rfl, rfl, by decide, by decide +kernel, cf_9, tyX9_ok, nmX9, rfl, rfl, rfl⟩
theorem flX9_28 : FL RX9 28 9 5 (.array .int) true 2 := ⟨RX9, TX9, 11, tyX9, rfl, rfl, by decide, by decide +kernel, cf_9, tyX9_ok, nmX9, rfl, rfl, rfl⟩
theorem flX9_32 : FL RX9 32 9 6 (.array .int) true 2 := ⟨RX9, TX9, 11, tyX9, rfl, rfl, by decide, by decide +kernel, cf_9, tyX9_ok, nmX9, rfl, rfl, rfl⟩
theorem flX9_37 : FL RX9 37 9 7 (.array (.array .int)) true 2 := ⟨RX9, TX9, 11, tyX9, rfl, rfl, by decide, by decide +kernel, cf_9, tyX9_ok, nmX9, rfl, rfl, rfl⟩
theorem flX9_40 : FL RX9 40 9 8 (.array .int) true 2 := ⟨RX9, TX9, 11, tyX9, rfl, rfl, by decide, by decide +kernel, cf_9, tyX9_ok, nmX9, rfl, rfl, rfl⟩
theorem flX9_43 : FL RX9 43 9 9 (.array .int) true 2 := ⟨RX9, TX9, 11, tyX9, rfl, rfl, by decide, by decide +kernel, cf_9, tyX9_ok, nmX9, rfl, rfl, rfl⟩
theorem flX9_46 : FL RX9 46 9 10 (.array .int) true 2 := ⟨RX9, TX9, 11, tyX9, rfl, rfl, by decide, by decide +kernel, cf_9, tyX9_ok, nmX9, rfl, rfl, rfl⟩
theorem flX10_9 : FL RX10 9 10 2 .boolean false 0 := ⟨RX10, TX10, 5, tyX10, rfl, rfl, by decide, by decide +kernel, cf_10, tyX10_ok, nmX10, rfl, rfl, rfl⟩
theorem flX10_15 : FL RX10 15 10 3 .boolean false 0 := ⟨RX10, TX10, 5, tyX10, rfl, rfl, by decide, by decide +kernel, cf_10, tyX10_ok, nmX10, rfl, rfl, rfl⟩
theorem flX10_18 : FL RX10 18 10 4 .int false 0 := ⟨RX10, TX10, 5, tyX10, rfl, rfl, by decide, by decide +kernel, cf_10, tyX10_ok, nmX10, rfl, rfl, rfl⟩
theorem flX10_22 : FL RX10 22 10 0 (.object "TwoFaces$Tokens") true 2 := ⟨RX10, TX10, 5, tyX10, rfl, rfl, by decide, by decide +kernel, cf_10, tyX10_ok, nmX10, rfl, rfl, rfl⟩
theorem flX10_26 : FL RX10 26 10 1 (.object "TwoFaces$Town") true 2 := ⟨RX10, TX10, 5, tyX10, rfl, rfl, by decide, by decide +kernel, cf_10, tyX10_ok, nmX10, rfl, rfl, rfl⟩
theorem flX10_35 : FL RX10 35 8 10 .int false 0 := ⟨RX8, TX8, 15, tyX8, rfl, rfl, by decide, by decide +kernel, cf_8, tyX8_ok, nmX8, rfl, rfl, rfl⟩
theorem flX10_63 : FL RX10 63 9 2 .int false 0 := ⟨RX9, TX9, 11, tyX9, rfl, rfl, by decide, by decide +kernel, cf_9, tyX9_ok, nmX9, rfl, rfl, rfl⟩
theorem flX10_73 : FL RX10 73 8 11 .int false 0 := ⟨RX8, TX8, 15, tyX8, rfl, rfl, by decide, by decide +kernel, cf_8, tyX8_ok, nmX8, rfl, rfl, rfl⟩
theorem flX10_76 : FL RX10 76 9 0 .int false 0 := ⟨RX9, TX9, 11, tyX9, rfl, rfl, by decide, by decide +kernel, cf_9, tyX9_ok, nmX9, rfl, rfl, rfl⟩
theorem flX10_82 : FL RX10 82 9 1 .int false 0 := ⟨RX9, TX9, 11, tyX9, rfl, rfl, by decide, by decide +kernel, cf_9, tyX9_ok, nmX9, rfl, rfl, rfl⟩
theorem flX10_85 : FL RX10 85 8 12 .long false 1 := ⟨RX8, TX8, 15, tyX8, rfl, rfl, by decide, by decide +kernel, cf_8, tyX8_ok, nmX8, rfl, rfl, rfl⟩
theorem flX10_104 : FL RX10 104 9 3 .int false 0 := ⟨RX9, TX9, 11, tyX9, rfl, rfl, by decide, by decide +kernel, cf_9, tyX9_ok, nmX9, rfl, rfl, rfl⟩
theorem flX11_9 : FL RX11 9 11 0 (.array .byte) true 2 := ⟨RX11, TX11, 16, tyX11, rfl, rfl, by decide, by decide +kernel, cf_11, tyX11_ok, nmX11, rfl, rfl, rfl⟩
theorem flX11_13 : FL RX11 13 11 1 .int false 0 := ⟨RX11, TX11, 16, tyX11, rfl, rfl, by decide, by decide +kernel, cf_11, tyX11_ok, nmX11, rfl, rfl, rfl⟩
theorem flX11_17 : FL RX11 17 11 2 .int false 0 := ⟨RX11, TX11, 16, tyX11, rfl, rfl, by decide, by decide +kernel, cf_11, tyX11_ok, nmX11, rfl, rfl, rfl⟩
theorem flX11_20 : FL RX11 20 11 3 .int false 0 := ⟨RX11, TX11, 16, tyX11, rfl, rfl, by decide, by decide +kernel, cf_11, tyX11_ok, nmX11, rfl, rfl, rfl⟩
theorem flX11_28 : FL RX11 28 11 4 (.object "TwoFaces$Tokens") true 2 := ⟨RX11, TX11, 16, tyX11, rfl, rfl, by decide, by decide +kernel, cf_11, tyX11_ok, nmX11, rfl, rfl, rfl⟩
theorem flX11_35 : FL RX11 35 11 5 (.object "TwoFaces$Town") true 2 := ⟨RX11, TX11, 16, tyX11, rfl, rfl, by decide, by decide +kernel, cf_11, tyX11_ok, nmX11, rfl, rfl, rfl⟩
theorem flX11_39 : FL RX11 39 11 6 (.object "TwoFaces$Town") true 2 := ⟨RX11, TX11, 16, tyX11, rfl, rfl, by decide, by decide +kernel, cf_11, tyX11_ok, nmX11, rfl, rfl, rfl⟩
theorem flX11_45 : FL RX11 45 11 7 (.object "TwoFaces$Rules") true 2 := ⟨RX11, TX11, 16, tyX11, rfl, rfl, by decide, by decide +kernel, cf_11, tyX11_ok, nmX11, rfl, rfl, rfl⟩
theorem flX11_49 : FL RX11 49 11 8 (.object "TwoFaces$Rules") true 2 := ⟨RX11, TX11, 16, tyX11, rfl, rfl, by decide, by decide +kernel, cf_11, tyX11_ok, nmX11, rfl, rfl, rfl⟩
theorem flX11_55 : FL RX11 55 11 9 (.object "TwoFaces$Papers") true 2 := ⟨RX11, TX11, 16, tyX11, rfl, rfl, by decide, by decide +kernel, cf_11, tyX11_ok, nmX11, rfl, rfl, rfl⟩
theorem flX11_59 : FL RX11 59 11 10 (.array (.object "TwoFaces$Papers")) true 2 := ⟨RX11, TX11, 16, tyX11, rfl, rfl, by decide, by decide +kernel, cf_11, tyX11_ok, nmX11, rfl, rfl, rfl⟩
theorem flX11_68 : FL RX11 68 11 11 (.object "TwoFaces$Darkroom") true 2 := ⟨RX11, TX11, 16, tyX11, rfl, rfl, by decide, by decide +kernel, cf_11, tyX11_ok, nmX11, rfl, rfl, rfl⟩
theorem flX11_75 : FL RX11 75 11 12 (.object "TwoFaces$Gate") true 2 := ⟨RX11, TX11, 16, tyX11, rfl, rfl, by decide, by decide +kernel, cf_11, tyX11_ok, nmX11, rfl, rfl, rfl⟩
theorem flX11_84 : FL RX11 84 11 13 (.object "TwoFaces$PlainBars") true 2 := ⟨RX11, TX11, 16, tyX11, rfl, rfl, by decide, by decide +kernel, cf_11, tyX11_ok, nmX11, rfl, rfl, rfl⟩
theorem flX11_93 : FL RX11 93 11 14 (.object "TwoFaces$Search") true 2 := ⟨RX11, TX11, 16, tyX11, rfl, rfl, by decide, by decide +kernel, cf_11, tyX11_ok, nmX11, rfl, rfl, rfl⟩
theorem flX11_102 : FL RX11 102 11 15 (.object "TwoFaces$Rings") true 2 := ⟨RX11, TX11, 16, tyX11, rfl, rfl, by decide, by decide +kernel, cf_11, tyX11_ok, nmX11, rfl, rfl, rfl⟩
theorem flX11_139 : FL RX11 139 9 2 .int false 0 := ⟨RX9, TX9, 11, tyX9, rfl, rfl, by decide, by decide +kernel, cf_9, tyX9_ok, nmX9, rfl, rfl, rfl⟩
theorem flX11_144 : FL RX11 144 9 0 .int false 0 := ⟨RX9, TX9, 11, tyX9, rfl, rfl, by decide, by decide +kernel, cf_9, tyX9_ok, nmX9, rfl, rfl, rfl⟩
theorem flX11_158 : FL RX11 158 8 13 .int false 0 := ⟨RX8, TX8, 15, tyX8, rfl, rfl, by decide, by decide +kernel, cf_8, tyX8_ok, nmX8, rfl, rfl, rfl⟩
theorem flX11_159 : FL RX11 159 8 14 .int false 0 := ⟨RX8, TX8, 15, tyX8, rfl, rfl, by decide, by decide +kernel, cf_8, tyX8_ok, nmX8, rfl, rfl, rfl⟩
theorem flX11_242 : FL RX11 242 2 1 .int false 0 := ⟨RX2, TX2, 9, tyX2, rfl, rfl, by decide, by decide +kernel, cf_2, tyX2_ok, nmX2, rfl, rfl, rfl⟩
theorem flX11_252 : FL RX11 252 7 9 .int false 0 := ⟨RX7, TX7, 12, tyX7, rfl, rfl, by decide, by decide +kernel, cf_7, tyX7_ok, nmX7, rfl, rfl, rfl⟩
theorem flX11_267 : FL RX11 267 4 5 .int false 0 := ⟨RX4, TX4, 7, tyX4, rfl, rfl, by decide, by decide +kernel, cf_4, tyX4_ok, nmX4, rfl, rfl, rfl⟩
theorem flX11_273 : FL RX11 273 4 6 .int false 0 := ⟨RX4, TX4, 7, tyX4, rfl, rfl, by decide, by decide +kernel, cf_4, tyX4_ok, nmX4, rfl, rfl, rfl⟩
theorem flX11_285 : FL RX11 285 7 10 .int false 0 := ⟨RX7, TX7, 12, tyX7, rfl, rfl, by decide, by decide +kernel, cf_7, tyX7_ok, nmX7, rfl, rfl, rfl⟩
theorem flX11_288 : FL RX11 288 7 11 .int false 0 := ⟨RX7, TX7, 12, tyX7, rfl, rfl, by decide, by decide +kernel, cf_7, tyX7_ok, nmX7, rfl, rfl, rfl⟩
theorem flX11_316 : FL RX11 316 2 2 .boolean false 0 := ⟨RX2, TX2, 9, tyX2, rfl, rfl, by decide, by decide +kernel, cf_2, tyX2_ok, nmX2, rfl, rfl, rfl⟩
theorem flX11_320 : FL RX11 320 2 0 .int false 0 := ⟨RX2, TX2, 9, tyX2, rfl, rfl, by decide, by decide +kernel, cf_2, tyX2_ok, nmX2, rfl, rfl, rfl⟩
theorem flX11_323 : FL RX11 323 5 0 .int false 0 := ⟨RX5, TX5, 13, tyX5, rfl, rfl, by decide, by decide +kernel, cf_5, tyX5_ok, nmX5, rfl, rfl, rfl⟩
theorem flX11_326 : FL RX11 326 5 1 .int false 0 := ⟨RX5, TX5, 13, tyX5, rfl, rfl, by decide, by decide +kernel, cf_5, tyX5_ok, nmX5, rfl, rfl, rfl⟩
theorem flX11_329 : FL RX11 329 9 3 .int false 0 := ⟨RX9, TX9, 11, tyX9, rfl, rfl, by decide, by decide +kernel, cf_9, tyX9_ok, nmX9, rfl, rfl, rfl⟩
theorem flX11_332 : FL RX11 332 9 1 .int false 0 := ⟨RX9, TX9, 11, tyX9, rfl, rfl, by decide, by decide +kernel, cf_9, tyX9_ok, nmX9, rfl, rfl, rfl⟩
theorem flX12_7 : FL RX12 7 12 0 (.array .byte) true 2 := ⟨RX12, TX12, 74, tyX12, rfl, rfl, by decide, by decide +kernel, cf_12, tyX12_ok, nmX12, rfl, rfl, rfl⟩
theorem flX12_13 : FL RX12 13 12 1 (.array .byte) true 2 := ⟨RX12, TX12, 74, tyX12, rfl, rfl, by decide, by decide +kernel, cf_12, tyX12_ok, nmX12, rfl, rfl, rfl⟩
theorem flX12_16 : FL RX12 16 12 5 .int false 0 := ⟨RX12, TX12, 74, tyX12, rfl, rfl, by decide, by decide +kernel, cf_12, tyX12_ok, nmX12, rfl, rfl, rfl⟩
theorem flX12_20 : FL RX12 20 12 12 (.array .int) true 2 := ⟨RX12, TX12, 74, tyX12, rfl, rfl, by decide, by decide +kernel, cf_12, tyX12_ok, nmX12, rfl, rfl, rfl⟩
theorem flX12_24 : FL RX12 24 12 13 (.array .int) true 2 := ⟨RX12, TX12, 74, tyX12, rfl, rfl, by decide, by decide +kernel, cf_12, tyX12_ok, nmX12, rfl, rfl, rfl⟩
theorem flX12_27 : FL RX12 27 12 14 (.array .int) true 2 := ⟨RX12, TX12, 74, tyX12, rfl, rfl, by decide, by decide +kernel, cf_12, tyX12_ok, nmX12, rfl, rfl, rfl⟩
theorem flX12_30 : FL RX12 30 12 15 (.array .int) true 2 := ⟨RX12, TX12, 74, tyX12, rfl, rfl, by decide, by decide +kernel, cf_12, tyX12_ok, nmX12, rfl, rfl, rfl⟩
theorem flX12_33 : FL RX12 33 12 16 (.array .int) true 2 := ⟨RX12, TX12, 74, tyX12, rfl, rfl, by decide, by decide +kernel, cf_12, tyX12_ok, nmX12, rfl, rfl, rfl⟩
theorem flX12_36 : FL RX12 36 12 17 (.array .int) true 2 := ⟨RX12, TX12, 74, tyX12, rfl, rfl, by decide, by decide +kernel, cf_12, tyX12_ok, nmX12, rfl, rfl, rfl⟩
theorem flX12_39 : FL RX12 39 12 18 (.array .int) true 2 := ⟨RX12, TX12, 74, tyX12, rfl, rfl, by decide, by decide +kernel, cf_12, tyX12_ok, nmX12, rfl, rfl, rfl⟩
theorem flX12_42 : FL RX12 42 12 19 (.array .int) true 2 := ⟨RX12, TX12, 74, tyX12, rfl, rfl, by decide, by decide +kernel, cf_12, tyX12_ok, nmX12, rfl, rfl, rfl⟩
theorem flX12_45 : FL RX12 45 12 20 (.array .int) true 2 := ⟨RX12, TX12, 74, tyX12, rfl, rfl, by decide, by decide +kernel, cf_12, tyX12_ok, nmX12, rfl, rfl, rfl⟩
theorem flX12_48 : FL RX12 48 12 21 (.array .int) true 2 := ⟨RX12, TX12, 74, tyX12, rfl, rfl, by decide, by decide +kernel, cf_12, tyX12_ok, nmX12, rfl, rfl, rfl⟩
theorem flX12_51 : FL RX12 51 12 22 (.array .boolean) true 2 := ⟨RX12, TX12, 74, tyX12, rfl, rfl, by decide, by decide +kernel, cf_12, tyX12_ok, nmX12, rfl, rfl, rfl⟩
theorem flX12_55 : FL RX12 55 12 23 (.array .boolean) true 2 := ⟨RX12, TX12, 74, tyX12, rfl, rfl, by decide, by decide +kernel, cf_12, tyX12_ok, nmX12, rfl, rfl, rfl⟩
theorem flX12_58 : FL RX12 58 12 24 (.array .boolean) true 2 := ⟨RX12, TX12, 74, tyX12, rfl, rfl, by decide, by decide +kernel, cf_12, tyX12_ok, nmX12, rfl, rfl, rfl⟩
theorem flX12_61 : FL RX12 61 12 25 (.array .long) true 2 := ⟨RX12, TX12, 74, tyX12, rfl, rfl, by decide, by decide +kernel, cf_12, tyX12_ok, nmX12, rfl, rfl, rfl⟩
theorem flX12_65 : FL RX12 65 12 28 (.array .int) true 2 := ⟨RX12, TX12, 74, tyX12, rfl, rfl, by decide, by decide +kernel, cf_12, tyX12_ok, nmX12, rfl, rfl, rfl⟩
theorem flX12_68 : FL RX12 68 12 29 (.array .int) true 2 := ⟨RX12, TX12, 74, tyX12, rfl, rfl, by decide, by decide +kernel, cf_12, tyX12_ok, nmX12, rfl, rfl, rfl⟩
theorem flX12_71 : FL RX12 71 12 30 (.array .int) true 2 := ⟨RX12, TX12, 74, tyX12, rfl, rfl, by decide, by decide +kernel, cf_12, tyX12_ok, nmX12, rfl, rfl, rfl⟩
theorem flX12_74 : FL RX12 74 12 31 (.array .int) true 2 := ⟨RX12, TX12, 74, tyX12, rfl, rfl, by decide, by decide +kernel, cf_12, tyX12_ok, nmX12, rfl, rfl, rfl⟩
theorem flX12_77 : FL RX12 77 12 32 (.array .int) true 2 := ⟨RX12, TX12, 74, tyX12, rfl, rfl, by decide, by decide +kernel, cf_12, tyX12_ok, nmX12, rfl, rfl, rfl⟩
theorem flX12_80 : FL RX12 80 12 33 (.array .int) true 2 := ⟨RX12, TX12, 74, tyX12, rfl, rfl, by decide, by decide +kernel, cf_12, tyX12_ok, nmX12, rfl, rfl, rfl⟩
theorem flX12_83 : FL RX12 83 12 34 (.array .int) true 2 := ⟨RX12, TX12, 74, tyX12, rfl, rfl, by decide, by decide +kernel, cf_12, tyX12_ok, nmX12, rfl, rfl, rfl⟩
theorem flX12_86 : FL RX12 86 12 35 (.array .long) true 2 := ⟨RX12, TX12, 74, tyX12, rfl, rfl, by decide, by decide +kernel, cf_12, tyX12_ok, nmX12, rfl, rfl, rfl⟩
theorem flX12_89 : FL RX12 89 12 52 (.array .int) true 2 := ⟨RX12, TX12, 74, tyX12, rfl, rfl, by decide, by decide +kernel, cf_12, tyX12_ok, nmX12, rfl, rfl, rfl⟩
theorem flX12_92 : FL RX12 92 12 53 (.array .int) true 2 := ⟨RX12, TX12, 74, tyX12, rfl, rfl, by decide, by decide +kernel, cf_12, tyX12_ok, nmX12, rfl, rfl, rfl⟩
theorem flX12_95 : FL RX12 95 12 54 (.array .int) true 2 := ⟨RX12, TX12, 74, tyX12, rfl, rfl, by decide, by decide +kernel, cf_12, tyX12_ok, nmX12, rfl, rfl, rfl⟩
theorem flX12_98 : FL RX12 98 12 55 (.array .int) true 2 := ⟨RX12, TX12, 74, tyX12, rfl, rfl, by decide, by decide +kernel, cf_12, tyX12_ok, nmX12, rfl, rfl, rfl⟩
theorem flX12_101 : FL RX12 101 12 56 (.array .int) true 2 := ⟨RX12, TX12, 74, tyX12, rfl, rfl, by decide, by decide +kernel, cf_12, tyX12_ok, nmX12, rfl, rfl, rfl⟩
theorem flX12_104 : FL RX12 104 12 57 (.array .int) true 2 := ⟨RX12, TX12, 74, tyX12, rfl, rfl, by decide, by decide +kernel, cf_12, tyX12_ok, nmX12, rfl, rfl, rfl⟩
theorem flX12_107 : FL RX12 107 12 58 (.array .int) true 2 := ⟨RX12, TX12, 74, tyX12, rfl, rfl, by decide, by decide +kernel, cf_12, tyX12_ok, nmX12, rfl, rfl, rfl⟩
theorem flX12_110 : FL RX12 110 12 59 (.array .int) true 2 := ⟨RX12, TX12, 74, tyX12, rfl, rfl, by decide, by decide +kernel, cf_12, tyX12_ok, nmX12, rfl, rfl, rfl⟩
theorem flX12_113 : FL RX12 113 12 65 (.array .boolean) true 2 := ⟨RX12, TX12, 74, tyX12, rfl, rfl, by decide, by decide +kernel, cf_12, tyX12_ok, nmX12, rfl, rfl, rfl⟩
theorem flX12_116 : FL RX12 116 12 66 (.array .int) true 2 := ⟨RX12, TX12, 74, tyX12, rfl, rfl, by decide, by decide +kernel, cf_12, tyX12_ok, nmX12, rfl, rfl, rfl⟩
theorem flX12_119 : FL RX12 119 12 67 (.array .int) true 2 := ⟨RX12, TX12, 74, tyX12, rfl, rfl, by decide, by decide +kernel, cf_12, tyX12_ok, nmX12, rfl, rfl, rfl⟩
theorem flX12_122 : FL RX12 122 12 68 (.array .int) true 2 := ⟨RX12, TX12, 74, tyX12, rfl, rfl, by decide, by decide +kernel, cf_12, tyX12_ok, nmX12, rfl, rfl, rfl⟩
theorem flX12_125 : FL RX12 125 12 69 (.array .int) true 2 := ⟨RX12, TX12, 74, tyX12, rfl, rfl, by decide, by decide +kernel, cf_12, tyX12_ok, nmX12, rfl, rfl, rfl⟩
theorem flX12_128 : FL RX12 128 12 70 (.array .int) true 2 := ⟨RX12, TX12, 74, tyX12, rfl, rfl, by decide, by decide +kernel, cf_12, tyX12_ok, nmX12, rfl, rfl, rfl⟩
theorem flX12_131 : FL RX12 131 12 71 (.array .int) true 2 := ⟨RX12, TX12, 74, tyX12, rfl, rfl, by decide, by decide +kernel, cf_12, tyX12_ok, nmX12, rfl, rfl, rfl⟩
theorem flX12_134 : FL RX12 134 12 72 (.array .int) true 2 := ⟨RX12, TX12, 74, tyX12, rfl, rfl, by decide, by decide +kernel, cf_12, tyX12_ok, nmX12, rfl, rfl, rfl⟩
theorem flX12_137 : FL RX12 137 12 73 (.array .int) true 2 := ⟨RX12, TX12, 74, tyX12, rfl, rfl, by decide, by decide +kernel, cf_12, tyX12_ok, nmX12, rfl, rfl, rfl⟩
theorem flX12_143 : FL RX12 143 12 3 .int false 0 := ⟨RX12, TX12, 74, tyX12, rfl, rfl, by decide, by decide +kernel, cf_12, tyX12_ok, nmX12, rfl, rfl, rfl⟩
theorem flX12_146 : FL RX12 146 12 4 .int false 0 := ⟨RX12, TX12, 74, tyX12, rfl, rfl, by decide, by decide +kernel, cf_12, tyX12_ok, nmX12, rfl, rfl, rfl⟩
theorem flX12_197 : FL RX12 197 12 11 .boolean false 0 := ⟨RX12, TX12, 74, tyX12, rfl, rfl, by decide, by decide +kernel, cf_12, tyX12_ok, nmX12, rfl, rfl, rfl⟩
theorem flX12_201 : FL RX12 201 12 7 .int false 0 := ⟨RX12, TX12, 74, tyX12, rfl, rfl, by decide, by decide +kernel, cf_12, tyX12_ok, nmX12, rfl, rfl, rfl⟩
theorem flX12_204 : FL RX12 204 12 6 .int false 0 := ⟨RX12, TX12, 74, tyX12, rfl, rfl, by decide, by decide +kernel, cf_12, tyX12_ok, nmX12, rfl, rfl, rfl⟩
theorem flX12_211 : FL RX12 211 12 8 .int false 0 := ⟨RX12, TX12, 74, tyX12, rfl, rfl, by decide, by decide +kernel, cf_12, tyX12_ok, nmX12, rfl, rfl, rfl⟩
theorem flX12_218 : FL RX12 218 12 10 .long false 1 := ⟨RX12, TX12, 74, tyX12, rfl, rfl, by decide, by decide +kernel, cf_12, tyX12_ok, nmX12, rfl, rfl, rfl⟩
theorem flX12_229 : FL RX12 229 12 9 .int false 0 := ⟨RX12, TX12, 74, tyX12, rfl, rfl, by decide, by decide +kernel, cf_12, tyX12_ok, nmX12, rfl, rfl, rfl⟩
theorem flX12_260 : FL RX12 260 12 2 .int false 0 := ⟨RX12, TX12, 74, tyX12, rfl, rfl, by decide, by decide +kernel, cf_12, tyX12_ok, nmX12, rfl, rfl, rfl⟩
theorem flX12_263 : FL RX12 263 12 27 .int false 0 := ⟨RX12, TX12, 74, tyX12, rfl, rfl, by decide, by decide +kernel, cf_12, tyX12_ok, nmX12, rfl, rfl, rfl⟩
theorem flX12_269 : FL RX12 269 12 26 .int false 0 := ⟨RX12, TX12, 74, tyX12, rfl, rfl, by decide, by decide +kernel, cf_12, tyX12_ok, nmX12, rfl, rfl, rfl⟩
theorem flX12_275 : FL RX12 275 12 60 .int false 0 := ⟨RX12, TX12, 74, tyX12, rfl, rfl, by decide, by decide +kernel, cf_12, tyX12_ok, nmX12, rfl, rfl, rfl⟩
theorem flX12_278 : FL RX12 278 12 42 .int false 0 := ⟨RX12, TX12, 74, tyX12, rfl, rfl, by decide, by decide +kernel, cf_12, tyX12_ok, nmX12, rfl, rfl, rfl⟩
theorem flX12_281 : FL RX12 281 12 40 .int false 0 := ⟨RX12, TX12, 74, tyX12, rfl, rfl, by decide, by decide +kernel, cf_12, tyX12_ok, nmX12, rfl, rfl, rfl⟩
theorem flX12_284 : FL RX12 284 12 44 .int false 0 := ⟨RX12, TX12, 74, tyX12, rfl, rfl, by decide, by decide +kernel, cf_12, tyX12_ok, nmX12, rfl, rfl, rfl⟩
theorem flX12_287 : FL RX12 287 12 45 .boolean false 0 := ⟨RX12, TX12, 74, tyX12, rfl, rfl, by decide, by decide +kernel, cf_12, tyX12_ok, nmX12, rfl, rfl, rfl⟩
theorem flX12_316 : FL RX12 316 12 36 .int false 0 := ⟨RX12, TX12, 74, tyX12, rfl, rfl, by decide, by decide +kernel, cf_12, tyX12_ok, nmX12, rfl, rfl, rfl⟩
theorem flX12_319 : FL RX12 319 12 37 .int false 0 := ⟨RX12, TX12, 74, tyX12, rfl, rfl, by decide, by decide +kernel, cf_12, tyX12_ok, nmX12, rfl, rfl, rfl⟩
theorem flX12_322 : FL RX12 322 12 41 .int false 0 := ⟨RX12, TX12, 74, tyX12, rfl, rfl, by decide, by decide +kernel, cf_12, tyX12_ok, nmX12, rfl, rfl, rfl⟩
theorem flX12_325 : FL RX12 325 12 43 .int false 0 := ⟨RX12, TX12, 74, tyX12, rfl, rfl, by decide, by decide +kernel, cf_12, tyX12_ok, nmX12, rfl, rfl, rfl⟩
theorem flX12_328 : FL RX12 328 12 46 .boolean false 0 := ⟨RX12, TX12, 74, tyX12, rfl, rfl, by decide, by decide +kernel, cf_12, tyX12_ok, nmX12, rfl, rfl, rfl⟩
theorem flX12_337 : FL RX12 337 12 47 .boolean false 0 := ⟨RX12, TX12, 74, tyX12, rfl, rfl, by decide, by decide +kernel, cf_12, tyX12_ok, nmX12, rfl, rfl, rfl⟩
theorem flX12_343 : FL RX12 343 12 39 .int false 0 := ⟨RX12, TX12, 74, tyX12, rfl, rfl, by decide, by decide +kernel, cf_12, tyX12_ok, nmX12, rfl, rfl, rfl⟩
theorem flX12_346 : FL RX12 346 12 38 .int false 0 := ⟨RX12, TX12, 74, tyX12, rfl, rfl, by decide, by decide +kernel, cf_12, tyX12_ok, nmX12, rfl, rfl, rfl⟩
theorem flX12_370 : FL RX12 370 12 48 .int false 0 := ⟨RX12, TX12, 74, tyX12, rfl, rfl, by decide, by decide +kernel, cf_12, tyX12_ok, nmX12, rfl, rfl, rfl⟩
theorem flX12_373 : FL RX12 373 12 49 .int false 0 := ⟨RX12, TX12, 74, tyX12, rfl, rfl, by decide, by decide +kernel, cf_12, tyX12_ok, nmX12, rfl, rfl, rfl⟩
theorem flX12_376 : FL RX12 376 12 50 .int false 0 := ⟨RX12, TX12, 74, tyX12, rfl, rfl, by decide, by decide +kernel, cf_12, tyX12_ok, nmX12, rfl, rfl, rfl⟩
theorem flX12_379 : FL RX12 379 12 51 .int false 0 := ⟨RX12, TX12, 74, tyX12, rfl, rfl, by decide, by decide +kernel, cf_12, tyX12_ok, nmX12, rfl, rfl, rfl⟩
theorem flX12_458 : FL RX12 458 12 61 .int false 0 := ⟨RX12, TX12, 74, tyX12, rfl, rfl, by decide, by decide +kernel, cf_12, tyX12_ok, nmX12, rfl, rfl, rfl⟩
theorem flX12_468 : FL RX12 468 12 63 .int false 0 := ⟨RX12, TX12, 74, tyX12, rfl, rfl, by decide, by decide +kernel, cf_12, tyX12_ok, nmX12, rfl, rfl, rfl⟩
theorem flX12_478 : FL RX12 478 12 62 .int false 0 := ⟨RX12, TX12, 74, tyX12, rfl, rfl, by decide, by decide +kernel, cf_12, tyX12_ok, nmX12, rfl, rfl, rfl⟩
theorem flX12_481 : FL RX12 481 12 64 .int false 0 := ⟨RX12, TX12, 74, tyX12, rfl, rfl, by decide, by decide +kernel, cf_12, tyX12_ok, nmX12, rfl, rfl, rfl⟩
theorem lvL_13 : LV RL 13 yX11_feed cX11_feed 6 (some .int) 5 := ⟨by decide +kernel, by decide +kernel, by decide +kernel⟩
theorem lvL_17 : LV RL 17 yX12_feed cX12_feed 8 (some .int) 5 := ⟨by decide +kernel, by decide +kernel, by decide +kernel⟩
theorem lvL_18 : LV RL 18 yX11_end cX11_end 2 (some .int) 1 := ⟨by decide +kernel, by decide +kernel, by decide +kernel⟩
theorem lvL_22 : LV RL 22 yX12_end cX12_end 2 (some .int) 1 := ⟨by decide +kernel, by decide +kernel, by decide +kernel⟩
theorem lvL_23 : LV RL 23 yX11_town cX11_town 2 (some .int) 0 := ⟨by decide +kernel, by decide +kernel, by decide +kernel⟩
theorem lvL_27 : LV RL 27 yX12_town cX12_town 2 (some .int) 0 := ⟨by decide +kernel, by decide +kernel, by decide +kernel⟩
theorem lvL_28 : LV RL 28 yX11_rules cX11_rules 2 (some .int) 0 := ⟨by decide +kernel, by decide +kernel, by decide +kernel⟩
theorem lvL_31 : LV RL 31 yX12_rules cX12_rules 2 (some .int) 0 := ⟨by decide +kernel, by decide +kernel, by decide +kernel⟩
theorem lvL_32 : LV RL 32 yX11_fault cX11_fault 2 (some .int) 1 := ⟨by decide +kernel, by decide +kernel, by decide +kernel⟩
theorem lvL_35 : LV RL 35 yX12_fault cX12_fault 2 (some .int) 1 := ⟨by decide +kernel, by decide +kernel, by decide +kernel⟩
theorem lvL_36 : LV RL 36 yX11_face cX11_face 4 (some .int) 3 := ⟨by decide +kernel, by decide +kernel, by decide +kernel⟩
theorem lvL_40 : LV RL 40 yX12_face cX12_face 4 (some .int) 3 := ⟨by decide +kernel, by decide +kernel, by decide +kernel⟩
theorem lvL_41 : LV RL 41 yX11_far cX11_far 7 (some .int) 4 := ⟨by decide +kernel, by decide +kernel, by decide +kernel⟩
theorem lvL_45 : LV RL 45 yX12_far cX12_far 7 (some .int) 4 := ⟨by decide +kernel, by decide +kernel, by decide +kernel⟩
theorem lvL_46 : LV RL 46 yX11_passes cX11_passes 5 (some .int) 4 := ⟨by decide +kernel, by decide +kernel, by decide +kernel⟩
theorem lvL_49 : LV RL 49 yX12_passes cX12_passes 5 (some .int) 4 := ⟨by decide +kernel, by decide +kernel, by decide +kernel⟩
theorem lvL_50 : LV RL 50 yX11_mix cX11_mix 6 (some .int) 5 := ⟨by decide +kernel, by decide +kernel, by decide +kernel⟩
theorem lvL_53 : LV RL 53 yX12_mix cX12_mix 6 (some .int) 5 := ⟨by decide +kernel, by decide +kernel, by decide +kernel⟩
theorem lvL_54 : LV RL 54 yX11_both cX11_both 6 (some .int) 5 := ⟨by decide +kernel, by decide +kernel, by decide +kernel⟩
theorem lvL_57 : LV RL 57 yX12_both cX12_both 6 (some .int) 5 := ⟨by decide +kernel, by decide +kernel, by decide +kernel⟩
theorem lvL_58 : LV RL 58 yX11_able cX11_able 5 (some .int) 4 := ⟨by decide +kernel, by decide +kernel, by decide +kernel⟩
theorem lvL_61 : LV RL 61 yX12_able cX12_able 5 (some .int) 4 := ⟨by decide +kernel, by decide +kernel, by decide +kernel⟩
theorem lvL_62 : LV RL 62 yX11_pairs cX11_pairs 3 (some .int) 2 := ⟨by decide +kernel, by decide +kernel, by decide +kernel⟩
theorem lvL_66 : LV RL 66 yX12_pairs cX12_pairs 6 (some .int) 2 := ⟨by decide +kernel, by decide +kernel, by decide +kernel⟩
theorem lvL_67 : LV RL 67 yX11_pair cX11_pair 4 (some .int) 3 := ⟨by decide +kernel, by decide +kernel, by decide +kernel⟩
theorem lvL_70 : LV RL 70 yX12_pair cX12_pair 7 (some .int) 3 := ⟨by decide +kernel, by decide +kernel, by decide +kernel⟩
theorem lvL_71 : LV RL 71 yX11_gate cX11_gate 5 (some .int) 4 := ⟨by decide +kernel, by decide +kernel, by decide +kernel⟩
theorem lvL_74 : LV RL 74 yX12_gate cX12_gate 8 (some .int) 4 := ⟨by decide +kernel, by decide +kernel, by decide +kernel⟩
theorem lvL_75 : LV RL 75 yX11_twins cX11_twins 3 (some .int) 2 := ⟨by decide +kernel, by decide +kernel, by decide +kernel⟩
theorem lvL_78 : LV RL 78 yX12_twins cX12_twins 6 (some .int) 2 := ⟨by decide +kernel, by decide +kernel, by decide +kernel⟩
theorem lvL_79 : LV RL 79 yX11_until cX11_until 4 (some .int) 2 := ⟨by decide +kernel, by decide +kernel, by decide +kernel⟩
theorem lvL_82 : LV RL 82 yX12_until cX12_until 4 (some .int) 2 := ⟨by decide +kernel, by decide +kernel, by decide +kernel⟩
theorem lvL_83 : LV RL 83 yX11_signs cX11_signs 5 (some .int) 4 := ⟨by decide +kernel, by decide +kernel, by decide +kernel⟩
theorem lvL_86 : LV RL 86 yX12_signs cX12_signs 5 (some .int) 4 := ⟨by decide +kernel, by decide +kernel, by decide +kernel⟩
theorem lvL_87 : LV RL 87 yX11_caught cX11_caught 3 (some .int) 2 := ⟨by decide +kernel, by decide +kernel, by decide +kernel⟩
theorem lvL_90 : LV RL 90 yX12_caught cX12_caught 8 (some .int) 2 := ⟨by decide +kernel, by decide +kernel, by decide +kernel⟩
theorem lvL_91 : LV RL 91 yX11_paper cX11_paper 5 (some .int) 4 := ⟨by decide +kernel, by decide +kernel, by decide +kernel⟩
theorem lvL_94 : LV RL 94 yX12_paper cX12_paper 5 (some .int) 4 := ⟨by decide +kernel, by decide +kernel, by decide +kernel⟩
theorem lvL_95 : LV RL 95 yX11_untell cX11_untell 2 (some .boolean) 1 := ⟨by decide +kernel, by decide +kernel, by decide +kernel⟩
theorem lvL_99 : LV RL 99 yX12_untell cX12_untell 2 (some .boolean) 1 := ⟨by decide +kernel, by decide +kernel, by decide +kernel⟩
theorem lvL_100 : LV RL 100 yX11_later cX11_later 2 (some .int) 1 := ⟨by decide +kernel, by decide +kernel, by decide +kernel⟩
theorem lvL_103 : LV RL 103 yX12_later cX12_later 2 (some .int) 1 := ⟨by decide +kernel, by decide +kernel, by decide +kernel⟩
theorem lvL_104 : LV RL 104 yX11_behind cX11_behind 4 (some .int) 3 := ⟨by decide +kernel, by decide +kernel, by decide +kernel⟩
theorem lvL_107 : LV RL 107 yX12_behind cX12_behind 4 (some .int) 3 := ⟨by decide +kernel, by decide +kernel, by decide +kernel⟩
theorem lvL_108 : LV RL 108 yX11_rings cX11_rings 3 (some .int) 2 := ⟨by decide +kernel, by decide +kernel, by decide +kernel⟩
theorem lvL_111 : LV RL 111 yX12_rings cX12_rings 8 (some .int) 2 := ⟨by decide +kernel, by decide +kernel, by decide +kernel⟩
theorem lvL_112 : LV RL 112 yX11_ring cX11_ring 3 (some .int) 2 := ⟨by decide +kernel, by decide +kernel, by decide +kernel⟩
theorem lvL_115 : LV RL 115 yX12_ring cX12_ring 3 (some .int) 2 := ⟨by decide +kernel, by decide +kernel, by decide +kernel⟩
theorem lvL_116 : LV RL 116 yX11_between cX11_between 3 (some .int) 2 := ⟨by decide +kernel, by decide +kernel, by decide +kernel⟩
theorem lvL_119 : LV RL 119 yX12_between cX12_between 7 (some .int) 2 := ⟨by decide +kernel, by decide +kernel, by decide +kernel⟩
theorem lvL_120 : LV RL 120 yX11_looks cX11_looks 4 (some .int) 3 := ⟨by decide +kernel, by decide +kernel, by decide +kernel⟩
theorem lvL_123 : LV RL 123 yX12_looks cX12_looks 10 (some .int) 3 := ⟨by decide +kernel, by decide +kernel, by decide +kernel⟩
theorem lvL_124 : LV RL 124 yX11_cost cX11_cost 6 (some .int) 5 := ⟨by decide +kernel, by decide +kernel, by decide +kernel⟩
theorem lvL_127 : LV RL 127 yX12_cost cX12_cost 6 (some .int) 5 := ⟨by decide +kernel, by decide +kernel, by decide +kernel⟩
theorem lvL_128 : LV RL 128 yX11_bestBar cX11_bestBar 5 (some .int) 4 := ⟨by decide +kernel, by decide +kernel, by decide +kernel⟩
theorem lvL_131 : LV RL 131 yX12_bestBar cX12_bestBar 9 (some .int) 4 := ⟨by decide +kernel, by decide +kernel, by decide +kernel⟩
theorem lvL_132 : LV RL 132 yX11_fair cX11_fair 5 (some .int) 4 := ⟨by decide +kernel, by decide +kernel, by decide +kernel⟩
theorem lvL_135 : LV RL 135 yX12_fair cX12_fair 9 (some .int) 4 := ⟨by decide +kernel, by decide +kernel, by decide +kernel⟩
theorem lvL_136 : LV RL 136 yX11_measure cX11_measure 3 (some .int) 2 := ⟨by decide +kernel, by decide +kernel, by decide +kernel⟩
theorem lvL_139 : LV RL 139 yX12_measure cX12_measure 7 (some .int) 2 := ⟨by decide +kernel, by decide +kernel, by decide +kernel⟩
theorem lvL_140 : LV RL 140 yX11_image cX11_image 3 (some .int) 1 := ⟨by decide +kernel, by decide +kernel, by decide +kernel⟩
theorem lvL_143 : LV RL 143 yX12_image cX12_image 4 (some .int) 1 := ⟨by decide +kernel, by decide +kernel, by decide +kernel⟩
theorem lvL_144 : LV RL 144 yX11_back cX11_back 3 (some .int) 1 := ⟨by decide +kernel, by decide +kernel, by decide +kernel⟩
theorem lvL_147 : LV RL 147 yX12_back cX12_back 4 (some .int) 1 := ⟨by decide +kernel, by decide +kernel, by decide +kernel⟩
theorem lvL_148 : LV RL 148 yX11_about cX11_about 2 (some .int) 1 := ⟨by decide +kernel, by decide +kernel, by decide +kernel⟩
theorem lvL_151 : LV RL 151 yX12_about cX12_about 2 (some .int) 1 := ⟨by decide +kernel, by decide +kernel, by decide +kernel⟩
theorem lvX0_23 : LV RX0 23 yX0_developInto cX0_developInto 9 none 5 := ⟨by decide +kernel, by decide +kernel, by decide +kernel⟩
theorem lvX0_27 : LV RX0 27 yX9_blurOf cX9_blurOf 2 (some .int) 1 := ⟨by decide +kernel, by decide +kernel, by decide +kernel⟩
theorem lvX0_43 : LV RX0 43 yX9_mixed cX9_mixed 5 (some .int) 4 := ⟨by decide +kernel, by decide +kernel, by decide +kernel⟩
theorem lvX0_47 : LV RX0 47 yX5_shownBy cX5_shownBy 5 (some .int) 2 := ⟨by decide +kernel, by decide +kernel, by decide +kernel⟩
theorem lvX0_56 : LV RX0 56 yX0_caughtOf cX0_caughtOf 6 (some .int) 3 := ⟨by decide +kernel, by decide +kernel, by decide +kernel⟩
theorem lvX0_63 : LV RX0 63 yX0_shown cX0_shown 5 (some .int) 4 := ⟨by decide +kernel, by decide +kernel, by decide +kernel⟩
theorem lvX1_46 : LV RX1 46 yX9_measureIn cX9_measureIn 6 (some .int) 3 := ⟨by decide +kernel, by decide +kernel, by decide +kernel⟩
theorem lvX1_56 : LV RX1 56 yX9_has cX9_has 2 (some .boolean) 1 := ⟨by decide +kernel, by decide +kernel, by decide +kernel⟩
theorem lvX1_60 : LV RX1 60 yX9_apart cX9_apart 5 (some .int) 2 := ⟨by decide +kernel, by decide +kernel, by decide +kernel⟩
theorem lvX1_64 : LV RX1 64 yX1_apartFromPicture cX1_apartFromPicture 3 (some .int) 2 := ⟨by decide +kernel, by decide +kernel, by decide +kernel⟩
theorem lvX1_67 : LV RX1 67 yX1_lets cX1_lets 3 (some .boolean) 2 := ⟨by decide +kernel, by decide +kernel, by decide +kernel⟩
theorem lvX1_71 : LV RX1 71 yX9_kindOf cX9_kindOf 2 (some .int) 1 := ⟨by decide +kernel, by decide +kernel, by decide +kernel⟩
theorem lvX1_75 : LV RX1 75 yX5_lets cX5_lets 5 (some .boolean) 4 := ⟨by decide +kernel, by decide +kernel, by decide +kernel⟩
theorem lvX1_80 : LV RX1 80 yX9_mixed cX9_mixed 5 (some .int) 4 := ⟨by decide +kernel, by decide +kernel, by decide +kernel⟩
theorem lvX1_84 : LV RX1 84 yX1_makeMix cX1_makeMix 5 none 3 := ⟨by decide +kernel, by decide +kernel, by decide +kernel⟩
theorem lvX1_88 : LV RX1 88 yX1_apartFromMix cX1_apartFromMix 2 (some .int) 1 := ⟨by decide +kernel, by decide +kernel, by decide +kernel⟩
theorem lvX1_94 : LV RX1 94 yX1_isAble cX1_isAble 4 (some .boolean) 2 := ⟨by decide +kernel, by decide +kernel, by decide +kernel⟩
theorem lvX1_97 : LV RX1 97 yX1_isOf cX1_isOf 3 (some .boolean) 2 := ⟨by decide +kernel, by decide +kernel, by decide +kernel⟩
theorem lvX1_100 : LV RX1 100 yX1_letsInWith cX1_letsInWith 3 (some .boolean) 2 := ⟨by decide +kernel, by decide +kernel, by decide +kernel⟩
theorem lvX2_41 : LV RX2 41 yX2_has cX2_has 2 (some .boolean) 1 := ⟨by decide +kernel, by decide +kernel, by decide +kernel⟩
theorem lvX2_45 : LV RX2 45 yX2_shareOf cX2_shareOf 2 (some .int) 1 := ⟨by decide +kernel, by decide +kernel, by decide +kernel⟩
theorem lvX2_49 : LV RX2 49 yX2_faceOf cX2_faceOf 2 (some .int) 1 := ⟨by decide +kernel, by decide +kernel, by decide +kernel⟩
theorem lvX2_52 : LV RX2 52 yX2_otherOf cX2_otherOf 2 (some .int) 1 := ⟨by decide +kernel, by decide +kernel, by decide +kernel⟩
theorem lvX3_29 : LV RX3 29 yX3_falseByBars cX3_falseByBars 4 (some .int) 0 := ⟨by decide +kernel, by decide +kernel, by decide +kernel⟩
theorem lvX3_33 : LV RX3 33 yX3_heldBy cX3_heldBy 5 (some .int) 2 := ⟨by decide +kernel, by decide +kernel, by decide +kernel⟩
theorem lvX3_37 : LV RX3 37 yX3_countByFar cX3_countByFar 4 none 0 := ⟨by decide +kernel, by decide +kernel, by decide +kernel⟩
theorem lvX3_46 : LV RX3 46 yX1_apartFromPicture cX1_apartFromPicture 3 (some .int) 2 := ⟨by decide +kernel, by decide +kernel, by decide +kernel⟩
theorem lvX3_51 : LV RX3 51 yX9_kindOf cX9_kindOf 2 (some .int) 1 := ⟨by decide +kernel, by decide +kernel, by decide +kernel⟩
theorem lvX3_55 : LV RX3 55 yX3_falseOf cX3_falseOf 5 (some .int) 2 := ⟨by decide +kernel, by decide +kernel, by decide +kernel⟩
theorem lvX3_58 : LV RX3 58 yX9_countOfKind cX9_countOfKind 4 (some .int) 1 := ⟨by decide +kernel, by decide +kernel, by decide +kernel⟩
theorem lvX3_61 : LV RX3 61 yX3_ownBar cX3_ownBar 7 (some .int) 2 := ⟨by decide +kernel, by decide +kernel, by decide +kernel⟩
theorem lvX4_41 : LV RX4 41 yX2_counts cX2_counts 3 (some .boolean) 2 := ⟨by decide +kernel, by decide +kernel, by decide +kernel⟩
theorem lvX4_45 : LV RX4 45 yX4_gather cX4_gather 6 none 2 := ⟨by decide +kernel, by decide +kernel, by decide +kernel⟩
theorem lvX4_49 : LV RX4 49 yX4_greatestSize cX4_greatestSize 1 (some .int) 0 := ⟨by decide +kernel, by decide +kernel, by decide +kernel⟩
theorem lvX4_53 : LV RX4 53 yX4_hang cX4_hang 5 (some .boolean) 2 := ⟨by decide +kernel, by decide +kernel, by decide +kernel⟩
theorem lvX4_56 : LV RX4 56 yX2_faceOf cX2_faceOf 2 (some .int) 1 := ⟨by decide +kernel, by decide +kernel, by decide +kernel⟩
theorem lvX4_60 : LV RX4 60 yX9_knowEachOther cX9_knowEachOther 3 (some .boolean) 2 := ⟨by decide +kernel, by decide +kernel, by decide +kernel⟩
theorem lvX4_65 : LV RX4 65 yX4_isSameCorner cX4_isSameCorner 3 (some .boolean) 2 := ⟨by decide +kernel, by decide +kernel, by decide +kernel⟩
theorem lvX4_68 : LV RX4 68 yX2_printerOf cX2_printerOf 2 (some .int) 1 := ⟨by decide +kernel, by decide +kernel, by decide +kernel⟩
theorem lvX4_71 : LV RX4 71 yX2_streetOf cX2_streetOf 2 (some .int) 1 := ⟨by decide +kernel, by decide +kernel, by decide +kernel⟩
theorem lvX4_74 : LV RX4 74 yX2_yearOf cX2_yearOf 2 (some .int) 1 := ⟨by decide +kernel, by decide +kernel, by decide +kernel⟩
theorem lvX5_54 : LV RX5 54 yX5_result cX5_result 6 (some .int) 2 := ⟨by decide +kernel, by decide +kernel, by decide +kernel⟩
theorem lvX5_58 : LV RX5 58 yX5_lookAt cX5_lookAt 5 none 2 := ⟨by decide +kernel, by decide +kernel, by decide +kernel⟩
theorem lvX5_74 : LV RX5 74 yX5_valueAt cX5_valueAt 2 (some .int) 1 := ⟨by decide +kernel, by decide +kernel, by decide +kernel⟩
theorem lvX6_27 : LV RX6 27 yX5_clear cX5_clear 1 none 0 := ⟨by decide +kernel, by decide +kernel, by decide +kernel⟩
theorem lvX6_37 : LV RX6 37 yX6_readLine cX6_readLine 1 (some .boolean) 0 := ⟨by decide +kernel, by decide +kernel, by decide +kernel⟩
theorem lvX6_41 : LV RX6 41 yX6_readBar cX6_readBar 2 (some .boolean) 0 := ⟨by decide +kernel, by decide +kernel, by decide +kernel⟩
theorem lvX6_44 : LV RX6 44 yX6_readSign cX6_readSign 4 (some .boolean) 0 := ⟨by decide +kernel, by decide +kernel, by decide +kernel⟩
theorem lvX6_47 : LV RX6 47 yX8_refuse cX8_refuse 2 (some .boolean) 1 := ⟨by decide +kernel, by decide +kernel, by decide +kernel⟩
theorem lvX6_54 : LV RX6 54 yX8_step cX8_step 1 none 0 := ⟨by decide +kernel, by decide +kernel, by decide +kernel⟩
theorem lvX6_57 : LV RX6 57 yX5_stepsSoFar cX5_stepsSoFar 1 (some .int) 0 := ⟨by decide +kernel, by decide +kernel, by decide +kernel⟩
theorem lvX6_61 : LV RX6 61 yX6_readE cX6_readE 3 (some .boolean) 1 := ⟨by decide +kernel, by decide +kernel, by decide +kernel⟩
theorem lvX6_64 : LV RX6 64 yX8_take cX8_take 2 (some .boolean) 1 := ⟨by decide +kernel, by decide +kernel, by decide +kernel⟩
theorem lvX6_67 : LV RX6 67 yX5_addBar cX5_addBar 2 none 1 := ⟨by decide +kernel, by decide +kernel, by decide +kernel⟩
theorem lvX6_78 : LV RX6 78 yX5_hasSign cX5_hasSign 4 (some .boolean) 1 := ⟨by decide +kernel, by decide +kernel, by decide +kernel⟩
theorem lvX6_82 : LV RX6 82 yX5_addSign cX5_addSign 4 none 2 := ⟨by decide +kernel, by decide +kernel, by decide +kernel⟩
theorem lvX6_86 : LV RX6 86 yX6_readBoth cX6_readBoth 3 (some .boolean) 1 := ⟨by decide +kernel, by decide +kernel, by decide +kernel⟩
theorem lvX6_89 : LV RX6 89 yX5_put cX5_put 3 none 2 := ⟨by decide +kernel, by decide +kernel, by decide +kernel⟩
theorem lvX6_93 : LV RX6 93 yX6_readOne cX6_readOne 2 (some .boolean) 1 := ⟨by decide +kernel, by decide +kernel, by decide +kernel⟩
theorem lvX6_96 : LV RX6 96 yX6_readRelation cX6_readRelation 3 (some .boolean) 1 := ⟨by decide +kernel, by decide +kernel, by decide +kernel⟩
theorem lvX6_99 : LV RX6 99 yX6_readSum cX6_readSum 4 (some .boolean) 1 := ⟨by decide +kernel, by decide +kernel, by decide +kernel⟩
theorem lvX6_102 : LV RX6 102 yX6_relationHere cX6_relationHere 1 (some .int) 0 := ⟨by decide +kernel, by decide +kernel, by decide +kernel⟩
theorem lvX6_105 : LV RX6 105 yX6_readTerm cX6_readTerm 3 (some .boolean) 1 := ⟨by decide +kernel, by decide +kernel, by decide +kernel⟩
theorem lvX6_108 : LV RX6 108 yX6_readUnit cX6_readUnit 2 (some .boolean) 1 := ⟨by decide +kernel, by decide +kernel, by decide +kernel⟩
theorem lvX6_114 : LV RX6 114 yX6_readInner cX6_readInner 2 (some .boolean) 1 := ⟨by decide +kernel, by decide +kernel, by decide +kernel⟩
theorem lvX6_117 : LV RX6 117 yX6_readAt cX6_readAt 1 (some .boolean) 0 := ⟨by decide +kernel, by decide +kernel, by decide +kernel⟩
theorem lvX6_123 : LV RX6 123 yX6_barValueHere cX6_barValueHere 1 (some .int) 0 := ⟨by decide +kernel, by decide +kernel, by decide +kernel⟩
theorem lvX6_126 : LV RX6 126 yX6_signValueHere cX6_signValueHere 1 (some .int) 0 := ⟨by decide +kernel, by decide +kernel, by decide +kernel⟩
theorem lvX6_129 : LV RX6 129 yX6_readValue cX6_readValue 2 (some .boolean) 1 := ⟨by decide +kernel, by decide +kernel, by decide +kernel⟩
theorem lvX6_132 : LV RX6 132 yX8_isNumber cX8_isNumber 3 (some .boolean) 2 := ⟨by decide +kernel, by decide +kernel, by decide +kernel⟩
theorem lvX7_52 : LV RX7 52 yX2_printerOf cX2_printerOf 2 (some .int) 1 := ⟨by decide +kernel, by decide +kernel, by decide +kernel⟩
theorem lvX7_58 : LV RX7 58 yX2_faceOf cX2_faceOf 2 (some .int) 1 := ⟨by decide +kernel, by decide +kernel, by decide +kernel⟩
theorem lvX7_61 : LV RX7 61 yX2_otherOf cX2_otherOf 2 (some .int) 1 := ⟨by decide +kernel, by decide +kernel, by decide +kernel⟩
theorem lvX7_64 : LV RX7 64 yX2_shareOf cX2_shareOf 2 (some .int) 1 := ⟨by decide +kernel, by decide +kernel, by decide +kernel⟩
theorem lvX7_67 : LV RX7 67 yX0_developInto cX0_developInto 9 none 5 := ⟨by decide +kernel, by decide +kernel, by decide +kernel⟩
theorem lvX7_73 : LV RX7 73 yX0_develop cX0_develop 5 (some (.array .int) 4 := ⟨by decide +kernel, by decide +kernel, by decide +kernel⟩
theorem lvX7_77 : LV RX7 77 yX9_apart cX9_apart 5 (some .int) 2 := ⟨by decide +kernel, by decide +kernel, by decide +kernel⟩
theorem lvX7_86 : LV RX7 86 yX7_compareMixes cX7_compareMixes 5 none 2 := ⟨by decide +kernel, by decide +kernel, by decide +kernel⟩
theorem lvX7_90 : LV RX7 90 yX7_foundFar cX7_foundFar 1 (some .int) 0 := ⟨by decide +kernel, by decide +kernel, by decide +kernel⟩
theorem lvX7_94 : LV RX7 94 yX9_has cX9_has 2 (some .boolean) 1 := ⟨by decide +kernel, by decide +kernel, by decide +kernel⟩
theorem lvX7_101 : LV RX7 101 yX7_countShowing cX7_countShowing 5 none 1 := ⟨by decide +kernel, by decide +kernel, by decide +kernel⟩
theorem lvX7_105 : LV RX7 105 yX7_showingOf cX7_showingOf 4 (some .int) 1 := ⟨by decide +kernel, by decide +kernel, by decide +kernel⟩
theorem lvX7_108 : LV RX7 108 yX7_costOf cX7_costOf 4 (some .int) 1 := ⟨by decide +kernel, by decide +kernel, by decide +kernel⟩
theorem lvX7_114 : LV RX7 114 yX2_counts cX2_counts 3 (some .boolean) 2 := ⟨by decide +kernel, by decide +kernel, by decide +kernel⟩
theorem lvX7_118 : LV RX7 118 yX2_isMixed cX2_isMixed 3 (some .boolean) 1 := ⟨by decide +kernel, by decide +kernel, by decide +kernel⟩
theorem lvX7_121 : LV RX7 121 yX0_shown cX0_shown 5 (some .int) 4 := ⟨by decide +kernel, by decide +kernel, by decide +kernel⟩
theorem lvX7_125 : LV RX7 125 yX9_costOf cX9_costOf 2 (some .int) 1 := ⟨by decide +kernel, by decide +kernel, by decide +kernel⟩
theorem lvX8_83 : LV RX8 83 yX8_readToken cX8_readToken 2 (some .boolean) 0 := ⟨by decide +kernel, by decide +kernel, by decide +kernel⟩
theorem lvX8_87 : LV RX8 87 yX8_step cX8_step 1 none 0 := ⟨by decide +kernel, by decide +kernel, by decide +kernel⟩
theorem lvX8_90 : LV RX8 90 yX8_byteAt cX8_byteAt 2 (some .int) 1 := ⟨by decide +kernel, by decide +kernel, by decide +kernel⟩
theorem lvX8_98 : LV RX8 98 yX8_readKind cX8_readKind 2 (some .int) 1 := ⟨by decide +kernel, by decide +kernel, by decide +kernel⟩
theorem lvX8_104 : LV RX8 104 yX8_readWord cX8_readWord 5 (some .int) 0 := ⟨by decide +kernel, by decide +kernel, by decide +kernel⟩
theorem lvX8_110 : LV RX8 110 yX8_readNumber cX8_readNumber 4 (some .int) 0 := ⟨by decide +kernel, by decide +kernel, by decide +kernel⟩
theorem lvX8_113 : LV RX8 113 yX8_isSign cX8_isSign 2 (some .boolean) 1 := ⟨by decide +kernel, by decide +kernel, by decide +kernel⟩
theorem lvX8_118 : LV RX8 118 yX8_refuse cX8_refuse 2 (some .boolean) 1 := ⟨by decide +kernel, by decide +kernel, by decide +kernel⟩
theorem lvX9_49 : LV RX9 49 yX9_setPrinter cX9_setPrinter 4 none 3 := ⟨by decide +kernel, by decide +kernel, by decide +kernel⟩
theorem lvX9_59 : LV RX9 59 yX9_has cX9_has 2 (some .boolean) 1 := ⟨by decide +kernel, by decide +kernel, by decide +kernel⟩
theorem lvX9_63 : LV RX9 63 yX9_kindOf cX9_kindOf 2 (some .int) 1 := ⟨by decide +kernel, by decide +kernel, by decide +kernel⟩
theorem lvX9_79 : LV RX9 79 yX9_withFriends cX9_withFriends 4 (some .int) 1 := ⟨by decide +kernel, by decide +kernel, by decide +kernel⟩
theorem lvX9_82 : LV RX9 82 yX9_apart cX9_apart 5 (some .int) 2 := ⟨by decide +kernel, by decide +kernel, by decide +kernel⟩
theorem lvX10_30 : LV RX10 30 yX9_clear cX9_clear 2 none 0 := ⟨by decide +kernel, by decide +kernel, by decide +kernel⟩
theorem lvX10_40 : LV RX10 40 yX10_readLine cX10_readLine 1 (some .boolean) 0 := ⟨by decide +kernel, by decide +kernel, by decide +kernel⟩
theorem lvX10_44 : LV RX10 44 yX10_readPoints cX10_readPoints 1 (some .boolean) 0 := ⟨by decide +kernel, by decide +kernel, by decide +kernel⟩
theorem lvX10_47 : LV RX10 47 yX10_readFace cX10_readFace 5 (some .boolean) 0 := ⟨by decide +kernel, by decide +kernel, by decide +kernel⟩
theorem lvX10_50 : LV RX10 50 yX10_readKnows cX10_readKnows 3 (some .boolean) 0 := ⟨by decide +kernel, by decide +kernel, by decide +kernel⟩
theorem lvX10_53 : LV RX10 53 yX10_readPrinter cX10_readPrinter 3 (some .boolean) 0 := ⟨by decide +kernel, by decide +kernel, by decide +kernel⟩
theorem lvX10_56 : LV RX10 56 yX10_readNear cX10_readNear 1 (some .boolean) 0 := ⟨by decide +kernel, by decide +kernel, by decide +kernel⟩
theorem lvX10_59 : LV RX10 59 yX8_refuse cX8_refuse 2 (some .boolean) 1 := ⟨by decide +kernel, by decide +kernel, by decide +kernel⟩
theorem lvX10_66 : LV RX10 66 yX8_step cX8_step 1 none 0 := ⟨by decide +kernel, by decide +kernel, by decide +kernel⟩
theorem lvX10_69 : LV RX10 69 yX8_isNumber cX8_isNumber 3 (some .boolean) 2 := ⟨by decide +kernel, by decide +kernel, by decide +kernel⟩
theorem lvX10_79 : LV RX10 79 yX8_take cX8_take 2 (some .boolean) 1 := ⟨by decide +kernel, by decide +kernel, by decide +kernel⟩
theorem lvX10_89 : LV RX10 89 yX9_named cX9_named 4 (some .int) 1 := ⟨by decide +kernel, by decide +kernel, by decide +kernel⟩
theorem lvX10_93 : LV RX10 93 yX10_readRow cX10_readRow 2 (some .boolean) 0 := ⟨by decide +kernel, by decide +kernel, by decide +kernel⟩
theorem lvX10_96 : LV RX10 96 yX9_add cX9_add 5 none 3 := ⟨by decide +kernel, by decide +kernel, by decide +kernel⟩
theorem lvX10_100 : LV RX10 100 yX9_setNextMeasure cX9_setNextMeasure 3 none 2 := ⟨by decide +kernel, by decide +kernel, by decide +kernel⟩
theorem lvX10_107 : LV RX10 107 yX10_faceHere cX10_faceHere 2 (some .int) 0 := ⟨by decide +kernel, by decide +kernel, by decide +kernel⟩
theorem lvX10_111 : LV RX10 111 yX9_knowEachOther cX9_knowEachOther 3 (some .boolean) 2 := ⟨by decide +kernel, by decide +kernel, by decide +kernel⟩
theorem lvX10_114 : LV RX10 114 yX9_addKnows cX9_addKnows 3 none 2 := ⟨by decide +kernel, by decide +kernel, by decide +kernel⟩
theorem lvX10_117 : LV RX10 117 yX9_setPrinter cX9_setPrinter 4 none 3 := ⟨by decide +kernel, by decide +kernel, by decide +kernel⟩
theorem lvX11_106 : LV RX11 106 yX11_putOnTape cX11_putOnTape 3 none 1 := ⟨by decide +kernel, by decide +kernel, by decide +kernel⟩
theorem lvX11_110 : LV RX11 110 yX8_open cX8_open 5 none 2 := ⟨by decide +kernel, by decide +kernel, by decide +kernel⟩
theorem lvX11_119 : LV RX11 119 yX10_read cX10_read 2 (some .boolean) 0 := ⟨by decide +kernel, by decide +kernel, by decide +kernel⟩
theorem lvX11_123 : LV RX11 123 yX11_keepFault cX11_keepFault 1 none 0 := ⟨by decide +kernel, by decide +kernel, by decide +kernel⟩
theorem lvX11_126 : LV RX11 126 yX9_copyFrom cX9_copyFrom 3 none 1 := ⟨by decide +kernel, by decide +kernel, by decide +kernel⟩
theorem lvX11_130 : LV RX11 130 yX5_clear cX5_clear 1 none 0 := ⟨by decide +kernel, by decide +kernel, by decide +kernel⟩
theorem lvX11_133 : LV RX11 133 yX2_empty cX2_empty 1 none 0 := ⟨by decide +kernel, by decide +kernel, by decide +kernel⟩
theorem lvX11_136 : LV RX11 136 yX11_emptyBoxes cX11_emptyBoxes 3 none 0 := ⟨by decide +kernel, by decide +kernel, by decide +kernel⟩
theorem lvX11_150 : LV RX11 150 yX6_read cX6_read 2 (some .boolean) 0 := ⟨by decide +kernel, by decide +kernel, by decide +kernel⟩
theorem lvX11_151 : LV RX11 151 yX5_copyFrom cX5_copyFrom 3 none 1 := ⟨by decide +kernel, by decide +kernel, by decide +kernel⟩
theorem lvX11_154 : LV RX11 154 yX5_lines cX5_lines 1 (some .int) 0 := ⟨by decide +kernel, by decide +kernel, by decide +kernel⟩
theorem lvX11_160 : LV RX11 160 yX9_has cX9_has 2 (some .boolean) 1 := ⟨by decide +kernel, by decide +kernel, by decide +kernel⟩
theorem lvX11_167 : LV RX11 167 yX9_measureIn cX9_measureIn 6 (some .int) 3 := ⟨by decide +kernel, by decide +kernel, by decide +kernel⟩
theorem lvX11_181 : LV RX11 181 yX1_open cX1_open 5 none 2 := ⟨by decide +kernel, by decide +kernel, by decide +kernel⟩
theorem lvX11_184 : LV RX11 184 yX1_letsInWith cX1_letsInWith 3 (some .boolean) 2 := ⟨by decide +kernel, by decide +kernel, by decide +kernel⟩
theorem lvX11_187 : LV RX11 187 yX11_isMix cX11_isMix 4 (some .boolean) 3 := ⟨by decide +kernel, by decide +kernel, by decide +kernel⟩
theorem lvX11_194 : LV RX11 194 yX0_develop cX0_develop 5 (some (.array .int) 4 := ⟨by decide +kernel, by decide +kernel, by decide +kernel⟩
theorem lvX11_198 : LV RX11 198 yX1_whoPasses cX1_whoPasses 6 (some .int) 3 := ⟨by decide +kernel, by decide +kernel, by decide +kernel⟩
theorem lvX11_201 : LV RX11 201 yX1_bestShare cX1_bestShare 9 (some .int) 2 := ⟨by decide +kernel, by decide +kernel, by decide +kernel⟩
theorem lvX11_205 : LV RX11 205 yX1_countAble cX1_countAble 4 (some .int) 0 := ⟨by decide +kernel, by decide +kernel, by decide +kernel⟩
theorem lvX11_208 : LV RX11 208 yX1_ableAt cX1_ableAt 5 (some .int) 1 := ⟨by decide +kernel, by decide +kernel, by decide +kernel⟩
theorem lvX11_211 : LV RX11 211 yX1_countFalse cX1_countFalse 5 (some .int) 1 := ⟨by decide +kernel, by decide +kernel, by decide +kernel⟩
theorem lvX11_214 : LV RX11 214 yX1_countHeld cX1_countHeld 4 (some .int) 1 := ⟨by decide +kernel, by decide +kernel, by decide +kernel⟩
theorem lvX11_217 : LV RX11 217 yX1_countTwins cX1_countTwins 4 (some .int) 0 := ⟨by decide +kernel, by decide +kernel, by decide +kernel⟩
theorem lvX11_223 : LV RX11 223 yX0_shown cX0_shown 5 (some .int) 4 := ⟨by decide +kernel, by decide +kernel, by decide +kernel⟩
theorem lvX11_227 : LV RX11 227 yX0_caughtPart cX0_caughtPart 7 (some .int) 2 := ⟨by decide +kernel, by decide +kernel, by decide +kernel⟩
theorem lvX11_236 : LV RX11 236 yX2_tell cX2_tell 5 (some .int) 4 := ⟨by decide +kernel, by decide +kernel, by decide +kernel⟩
theorem lvX11_239 : LV RX11 239 yX2_takeBack cX2_takeBack 2 (some .boolean) 1 := ⟨by decide +kernel, by decide +kernel, by decide +kernel⟩
theorem lvX11_246 : LV RX11 246 yX2_counts cX2_counts 3 (some .boolean) 2 := ⟨by decide +kernel, by decide +kernel, by decide +kernel⟩
theorem lvX11_249 : LV RX11 249 yX7_seek cX7_seek 4 none 1 := ⟨by decide +kernel, by decide +kernel, by decide +kernel⟩
theorem lvX11_255 : LV RX11 255 yX7_foundShare cX7_foundShare 1 (some .int) 0 := ⟨by decide +kernel, by decide +kernel, by decide +kernel⟩
theorem lvX11_258 : LV RX11 258 yX7_foundFar cX7_foundFar 1 (some .int) 0 := ⟨by decide +kernel, by decide +kernel, by decide +kernel⟩
theorem lvX11_261 : LV RX11 261 yX7_isSure cX7_isSure 3 (some .boolean) 0 := ⟨by decide +kernel, by decide +kernel, by decide +kernel⟩
theorem lvX11_264 : LV RX11 264 yX4_part cX4_part 3 none 1 := ⟨by decide +kernel, by decide +kernel, by decide +kernel⟩
theorem lvX11_270 : LV RX11 270 yX4_greatestSize cX4_greatestSize 1 (some .int) 0 := ⟨by decide +kernel, by decide +kernel, by decide +kernel⟩
theorem lvX11_276 : LV RX11 276 yX4_sizeOfPartOf cX4_sizeOfPartOf 3 (some .int) 1 := ⟨by decide +kernel, by decide +kernel, by decide +kernel⟩
theorem lvX11_279 : LV RX11 279 yX9_steps cX9_steps 5 (some .int) 2 := ⟨by decide +kernel, by decide +kernel, by decide +kernel⟩
theorem lvX11_282 : LV RX11 282 yX7_look cX7_look 5 none 2 := ⟨by decide +kernel, by decide +kernel, by decide +kernel⟩
theorem lvX11_294 : LV RX11 294 yX3_costOf cX3_costOf 5 (some .int) 3 := ⟨by decide +kernel, by decide +kernel, by decide +kernel⟩
theorem lvX11_297 : LV RX11 297 yX3_cheapest cX3_cheapest 9 (some .int) 2 := ⟨by decide +kernel, by decide +kernel, by decide +kernel⟩
theorem lvX11_300 : LV RX11 300 yX3_ownBar cX3_ownBar 7 (some .int) 2 := ⟨by decide +kernel, by decide +kernel, by decide +kernel⟩
theorem lvX11_303 : LV RX11 303 yX3_falseByOwnBars cX3_falseByOwnBars 3 (some .int) 1 := ⟨by decide +kernel, by decide +kernel, by decide +kernel⟩
theorem lvX11_306 : LV RX11 306 yX9_leastBetween cX9_leastBetween 7 (some .int) 2 := ⟨by decide +kernel, by decide +kernel, by decide +kernel⟩
theorem lvX11_309 : LV RX11 309 yX11_boxAt cX11_boxAt 2 (some (.object "TwoFaces$Papers") 1 := ⟨by decide +kernel, by decide +kernel, by decide +kernel⟩
theorem lvX11_313 : LV RX11 313 yX2_copyFrom cX2_copyFrom 3 none 1 := ⟨by decide +kernel, by decide +kernel, by decide +kernel⟩
theorem lvX12_140 : LV RX12 140 yX12_clearBank cX12_clearBank 2 none 0 := ⟨by decide +kernel, by decide +kernel, by decide +kernel⟩
theorem lvX12_207 : LV RX12 207 yX12_sign cX12_sign 2 (some .int) 1 := ⟨by decide +kernel, by decide +kernel, by decide +kernel⟩
theorem lvX12_232 : LV RX12 232 yX12_isSign cX12_isSign 2 (some .boolean) 1 := ⟨by decide +kernel, by decide +kernel, by decide +kernel⟩
theorem lvX12_235 : LV RX12 235 yX12_fails cX12_fails 3 none 2 := ⟨by decide +kernel, by decide +kernel, by decide +kernel⟩
theorem lvX12_239 : LV RX12 239 yX12_isGood cX12_isGood 1 (some .boolean) 0 := ⟨by decide +kernel, by decide +kernel, by decide +kernel⟩
theorem lvX12_243 : LV RX12 243 yX12_goOn cX12_goOn 3 none 0 := ⟨by decide +kernel, by decide +kernel, by decide +kernel⟩
theorem lvX12_246 : LV RX12 246 yX12_misplaced cX12_misplaced 1 none 0 := ⟨by decide +kernel, by decide +kernel, by decide +kernel⟩
theorem lvX12_249 : LV RX12 249 yX12_isWord cX12_isWord 3 (some .boolean) 1 := ⟨by decide +kernel, by decide +kernel, by decide +kernel⟩
theorem lvX12_252 : LV RX12 252 yX12_must cX12_must 2 none 1 := ⟨by decide +kernel, by decide +kernel, by decide +kernel⟩
theorem lvX12_256 : LV RX12 256 yX12_numeral cX12_numeral 4 (some .int) 2 := ⟨by decide +kernel, by decide +kernel, by decide +kernel⟩
theorem lvX12_266 : LV RX12 266 yX12_takeTape cX12_takeTape 3 none 1 := ⟨by decide +kernel, by decide +kernel, by decide +kernel⟩
theorem lvX12_272 : LV RX12 272 yX12_readLine cX12_readLine 3 none 0 := ⟨by decide +kernel, by decide +kernel, by decide +kernel⟩
theorem lvX12_290 : LV RX12 290 yX12_isFull cX12_isFull 1 (some .boolean) 0 := ⟨by decide +kernel, by decide +kernel, by decide +kernel⟩
theorem lvX12_293 : LV RX12 293 yX12_readFace cX12_readFace 3 none 0 := ⟨by decide +kernel, by decide +kernel, by decide +kernel⟩
theorem lvX12_296 : LV RX12 296 yX12_readKnows cX12_readKnows 3 none 0 := ⟨by decide +kernel, by decide +kernel, by decide +kernel⟩
theorem lvX12_299 : LV RX12 299 yX12_readPrinter cX12_readPrinter 2 none 0 := ⟨by decide +kernel, by decide +kernel, by decide +kernel⟩
theorem lvX12_302 : LV RX12 302 yX12_is cX12_is 2 (some .boolean) 1 := ⟨by decide +kernel, by decide +kernel, by decide +kernel⟩
theorem lvX12_305 : LV RX12 305 yX12_faceHere cX12_faceHere 2 (some .int) 0 := ⟨by decide +kernel, by decide +kernel, by decide +kernel⟩
theorem lvX12_309 : LV RX12 309 yX12_after cX12_after 5 (some .int) 3 := ⟨by decide +kernel, by decide +kernel, by decide +kernel⟩
theorem lvX12_313 : LV RX12 313 yX12_aFace cX12_aFace 3 (some .int) 1 := ⟨by decide +kernel, by decide +kernel, by decide +kernel⟩
theorem lvX12_331 : LV RX12 331 yX12_readRule cX12_readRule 3 none 0 := ⟨by decide +kernel, by decide +kernel, by decide +kernel⟩
theorem lvX12_334 : LV RX12 334 yX12_readSignName cX12_readSignName 2 none 0 := ⟨by decide +kernel, by decide +kernel, by decide +kernel⟩
theorem lvX12_340 : LV RX12 340 yX12_e cX12_e 2 none 0 := ⟨by decide +kernel, by decide +kernel, by decide +kernel⟩
theorem lvX12_349 : LV RX12 349 yX12_pushE cX12_pushE 3 none 2 := ⟨by decide +kernel, by decide +kernel, by decide +kernel⟩
theorem lvX12_352 : LV RX12 352 yX12_unit cX12_unit 6 (some .boolean) 0 := ⟨by decide +kernel, by decide +kernel, by decide +kernel⟩
theorem lvX12_355 : LV RX12 355 yX12_behindUnit cX12_behindUnit 2 (some .boolean) 0 := ⟨by decide +kernel, by decide +kernel, by decide +kernel⟩
theorem lvX12_358 : LV RX12 358 yX12_wordHere cX12_wordHere 1 (some .int) 0 := ⟨by decide +kernel, by decide +kernel, by decide +kernel⟩
theorem lvX12_361 : LV RX12 361 yX12_emit cX12_emit 3 none 2 := ⟨by decide +kernel, by decide +kernel, by decide +kernel⟩
theorem lvX12_364 : LV RX12 364 yX12_rankHere cX12_rankHere 1 (some .int) 0 := ⟨by decide +kernel, by decide +kernel, by decide +kernel⟩
theorem lvX12_367 : LV RX12 367 yX12_isCompared cX12_isCompared 2 (some .boolean) 0 := ⟨by decide +kernel, by decide +kernel, by decide +kernel⟩
theorem lvX12_382 : LV RX12 382 yX12_sumOf cX12_sumOf 3 (some .int) 0 := ⟨by decide +kernel, by decide +kernel, by decide +kernel⟩
theorem lvX12_385 : LV RX12 385 yX12_edgeOf cX12_edgeOf 3 (some .int) 0 := ⟨by decide +kernel, by decide +kernel, by decide +kernel⟩
theorem lvX12_388 : LV RX12 388 yX12_endOf cX12_endOf 4 (some .int) 1 := ⟨by decide +kernel, by decide +kernel, by decide +kernel⟩
theorem lvX12_392 : LV RX12 392 yX12_worth cX12_worth 3 (some .int) 2 := ⟨by decide +kernel, by decide +kernel, by decide +kernel⟩
theorem lvX12_399 : LV RX12 399 yX12_many cX12_many 1 (some .int) 0 := ⟨by decide +kernel, by decide +kernel, by decide +kernel⟩
theorem lvX12_406 : LV RX12 406 yX12_pointMany cX12_pointMany 1 (some .int) 0 := ⟨by decide +kernel, by decide +kernel, by decide +kernel⟩
theorem lvX12_409 : LV RX12 409 yX12_measureOf cX12_measureOf 6 (some .int) 3 := ⟨by decide +kernel, by decide +kernel, by decide +kernel⟩
theorem lvX12_418 : LV RX12 418 yX12_farLive cX12_farLive 6 (some .int) 3 := ⟨by decide +kernel, by decide +kernel, by decide +kernel⟩
theorem lvX12_421 : LV RX12 421 yX12_holds cX12_holds 5 (some .boolean) 1 := ⟨by decide +kernel, by decide +kernel, by decide +kernel⟩
theorem lvX12_424 : LV RX12 424 yX12_isFace cX12_isFace 2 (some .boolean) 1 := ⟨by decide +kernel, by decide +kernel, by decide +kernel⟩
theorem lvX12_427 : LV RX12 427 yX12_layMix cX12_layMix 7 none 4 := ⟨by decide +kernel, by decide +kernel, by decide +kernel⟩
theorem lvX12_431 : LV RX12 431 yX12_isPass cX12_isPass 4 (some .boolean) 3 := ⟨by decide +kernel, by decide +kernel, by decide +kernel⟩
theorem lvX12_438 : LV RX12 438 yX12_isPassOf cX12_isPassOf 5 (some .boolean) 4 := ⟨by decide +kernel, by decide +kernel, by decide +kernel⟩
theorem lvX12_442 : LV RX12 442 yX12_isMix cX12_isMix 4 (some .boolean) 3 := ⟨by decide +kernel, by decide +kernel, by decide +kernel⟩
theorem lvX12_448 : LV RX12 448 yX12_bestShare cX12_bestShare 11 (some .int) 4 := ⟨by decide +kernel, by decide +kernel, by decide +kernel⟩
theorem lvX12_452 : LV RX12 452 yX12_signsOf cX12_signsOf 3 (some .int) 0 := ⟨by decide +kernel, by decide +kernel, by decide +kernel⟩
theorem lvX12_462 : LV RX12 462 yX12_printerOf cX12_printerOf 2 (some .int) 1 := ⟨by decide +kernel, by decide +kernel, by decide +kernel⟩
theorem lvX12_465 : LV RX12 465 yX12_farBeside cX12_farBeside 3 (some .int) 0 := ⟨by decide +kernel, by decide +kernel, by decide +kernel⟩
theorem lvX12_471 : LV RX12 471 yX12_layPaper cX12_layPaper 2 none 1 := ⟨by decide +kernel, by decide +kernel, by decide +kernel⟩
theorem lvX12_475 : LV RX12 475 yX12_putBeside cX12_putBeside 2 none 0 := ⟨by decide +kernel, by decide +kernel, by decide +kernel⟩
theorem lvX12_484 : LV RX12 484 yX12_leastBy cX12_leastBy 6 (some .int) 2 := ⟨by decide +kernel, by decide +kernel, by decide +kernel⟩
theorem lvX12_487 : LV RX12 487 yX12_counts cX12_counts 3 (some .boolean) 2 := ⟨by decide +kernel, by decide +kernel, by decide +kernel⟩
theorem lvX12_490 : LV RX12 490 yX12_findBehind cX12_findBehind 4 (some .boolean) 1 := ⟨by decide +kernel, by decide +kernel, by decide +kernel⟩
theorem lvX12_493 : LV RX12 493 yX12_isTold cX12_isTold 4 (some .boolean) 1 := ⟨by decide +kernel, by decide +kernel, by decide +kernel⟩
theorem lvX12_496 : LV RX12 496 yX12_hangs cX12_hangs 4 (some .boolean) 2 := ⟨by decide +kernel, by decide +kernel, by decide +kernel⟩
theorem lvX12_499 : LV RX12 499 yX12_layRing cX12_layRing 7 (some .int) 2 := ⟨by decide +kernel, by decide +kernel, by decide +kernel⟩
theorem lvX12_502 : LV RX12 502 yX12_isFirst cX12_isFirst 4 (some .boolean) 2 := ⟨by decide +kernel, by decide +kernel, by decide +kernel⟩
theorem lvX12_505 : LV RX12 505 yX12_isShown cX12_isShown 3 (some .boolean) 2 := ⟨by decide +kernel, by decide +kernel, by decide +kernel⟩
theorem lvX12_508 : LV RX12 508 yX12_falseOf cX12_falseOf 7 (some .int) 4 := ⟨by decide +kernel, by decide +kernel, by decide +kernel⟩
theorem lvX12_511 : LV RX12 511 yX12_isHeld cX12_isHeld 5 (some .boolean) 4 := ⟨by decide +kernel, by decide +kernel, by decide +kernel⟩
theorem lvX12_517 : LV RX12 517 yX12_costOf cX12_costOf 8 (some .int) 5 := ⟨by decide +kernel, by decide +kernel, by decide +kernel⟩
theorem lvX12_521 : LV RX12 521 yX12_kindBar cX12_kindBar 9 (some .int) 4 := ⟨by decide +kernel, by decide +kernel, by decide +kernel⟩
theorem lvX12_524 : LV RX12 524 yX12_far cX12_far 7 (some .int) 4 := ⟨by decide +kernel, by decide +kernel, by decide +kernel⟩
theorem lsX0_60 : LS RX0 60 yX0_commonDivisor cX0_commonDivisor 6 (some .int) 2 := ⟨by decide +kernel, rfl, by decide +kernel, by decide +kernel⟩
theorem lsX5_77 : LS RX5 77 yX5_joined cX5_joined 3 (some .int) 3 := ⟨by decide +kernel, rfl, by decide +kernel, by decide +kernel⟩
theorem lsX8_73 : LS RX8 73 yX8_withLetter cX8_withLetter 3 (some .long) 2 := ⟨by decide +kernel, rfl, by decide +kernel, by decide +kernel⟩
theorem lsX8_94 : LS RX8 94 yX8_isBlank cX8_isBlank 1 (some .boolean) 1 := ⟨by decide +kernel, rfl, by decide +kernel, by decide +kernel⟩
theorem lsX8_101 : LS RX8 101 yX8_isLetter cX8_isLetter 1 (some .boolean) 1 := ⟨by decide +kernel, rfl, by decide +kernel, by decide +kernel⟩
theorem lsX8_107 : LS RX8 107 yX8_isDigit cX8_isDigit 1 (some .boolean) 1 := ⟨by decide +kernel, rfl, by decide +kernel, by decide +kernel⟩
theorem lsX11_164 : LS RX11 164 yX11_isYear cX11_isYear 1 (some .boolean) 1 := ⟨by decide +kernel, rfl, by decide +kernel, by decide +kernel⟩
theorem lsX11_177 : LS RX11 177 yX11_isWhen cX11_isWhen 2 (some .boolean) 2 := ⟨by decide +kernel, rfl, by decide +kernel, by decide +kernel⟩
theorem lsX11_191 : LS RX11 191 yX11_isPrinterOrNot cX11_isPrinterOrNot 1 (some .boolean) 1 := ⟨by decide +kernel, rfl, by decide +kernel, by decide +kernel⟩
theorem lsX11_220 : LS RX11 220 yX11_isLight cX11_isLight 1 (some .boolean) 1 := ⟨by decide +kernel, rfl, by decide +kernel, by decide +kernel⟩
theorem lsX11_230 : LS RX11 230 yX11_isShare cX11_isShare 1 (some .boolean) 1 := ⟨by decide +kernel, rfl, by decide +kernel, by decide +kernel⟩
theorem lsX11_233 : LS RX11 233 yX11_isPlace cX11_isPlace 1 (some .boolean) 1 := ⟨by decide +kernel, rfl, by decide +kernel, by decide +kernel⟩
theorem lsX11_291 : LS RX11 291 yX11_isPrice cX11_isPrice 1 (some .boolean) 1 := ⟨by decide +kernel, rfl, by decide +kernel, by decide +kernel⟩
theorem lsX12_214 : LS RX12 214 yX12_isLetter cX12_isLetter 1 (some .boolean) 1 := ⟨by decide +kernel, rfl, by decide +kernel, by decide +kernel⟩
theorem lsX12_222 : LS RX12 222 yX12_isKept cX12_isKept 3 (some .boolean) 1 := ⟨by decide +kernel, rfl, by decide +kernel, by decide +kernel⟩
theorem lsX12_226 : LS RX12 226 yX12_isDigit cX12_isDigit 1 (some .boolean) 1 := ⟨by decide +kernel, rfl, by decide +kernel, by decide +kernel⟩
theorem lsX12_395 : LS RX12 395 yX12_two cX12_two 3 (some .int) 3 := ⟨by decide +kernel, rfl, by decide +kernel, by decide +kernel⟩
theorem lsX12_402 : LS RX12 402 yX12_isIn cX12_isIn 3 (some .boolean) 3 := ⟨by decide +kernel, rfl, by decide +kernel, by decide +kernel⟩
theorem lsX12_412 : LS RX12 412 yX12_sizeOf cX12_sizeOf 1 (some .int) 1 := ⟨by decide +kernel, rfl, by decide +kernel, by decide +kernel⟩
theorem lsX12_415 : LS RX12 415 yX12_lit cX12_lit 2 (some .int) 2 := ⟨by decide +kernel, rfl, by decide +kernel, by decide +kernel⟩
theorem lsX12_434 : LS RX12 434 yX12_isWhen cX12_isWhen 2 (some .boolean) 2 := ⟨by decide +kernel, rfl, by decide +kernel, by decide +kernel⟩
theorem lsX12_445 : LS RX12 445 yX12_isPrinterNo cX12_isPrinterNo 1 (some .boolean) 1 := ⟨by decide +kernel, rfl, by decide +kernel, by decide +kernel⟩
theorem lsX12_455 : LS RX12 455 yX12_common cX12_common 5 (some .int) 2 := ⟨by decide +kernel, rfl, by decide +kernel, by decide +kernel⟩
theorem lsX12_514 : LS RX12 514 yX12_isCost cX12_isCost 2 (some .boolean) 2 := ⟨by decide +kernel, rfl, by decide +kernel, by decide +kernel⟩
theorem lcX8_116 : LC RX8 116 (32) := by decide +kernel
theorem lcX12_149 : LC RX12 149 (123623812527219) := by decide +kernel
theorem lcX12_151 : LC RX12 151 (1717658469) := by decide +kernel
theorem lcX12_153 : LC RX12 153 (1802071652) := by decide +kernel
theorem lcX12_155 : LC RX12 155 (431416239732) := by decide +kernel
theorem lcX12_157 : LC RX12 157 (7499639) := by decide +kernel
theorem lcX12_159 : LC RX12 159 (461414299507) := by decide +kernel
theorem lcX12_161 : LC RX12 161 (31650994541847922) := by decide +kernel
theorem lcX12_163 : LC RX12 163 (422726431347) := by decide +kernel
theorem lcX12_165 : LC RX12 165 (427071599731) := by decide +kernel
theorem lcX12_167 : LC RX12 167 (1852137842) := by decide +kernel
theorem lcX12_169 : LC RX12 169 (6447474) := by decide +kernel
theorem lcX12_171 : LC RX12 171 (1936287598) := by decide +kernel
theorem lcX12_173 : LC RX12 173 (2003330414) := by decide +kernel
theorem lcX12_175 : LC RX12 175 (6709618) := by decide +kernel
theorem lcX12_177 : LC RX12 177 (521391927923) := by decide +kernel
theorem lcX12_179 : LC RX12 179 (465624852596) := by decide +kernel
theorem lcX12_181 : LC RX12 181 (7566701) := by decide +kernel
theorem lcX12_183 : LC RX12 183 (1701078885) := by decide +kernel
theorem lcX12_185 : LC RX12 185 (1836020596) := by decide +kernel
theorem lcX12_187 : LC RX12 187 (465557353332) := by decide +kernel
theorem lcX12_189 : LC RX12 189 (24948) := by decide +kernel
theorem lcX12_191 : LC RX12 191 (6385252) := by decide +kernel
theorem lcX12_193 : LC RX12 193 (28530) := by decide +kernel
theorem lcX12_195 : LC RX12 195 (7237492) := by decide +kernel
theorem lkX11_245 : LK RX11 245 (100000) := by decide +kernel
theorem lkX12_461 : LK RX12 461 (100000) := by decide +kernel
