/-! the methods do what the functions say, by program -/
set_option maxHeartbeats 4000000 in
set_option maxRecDepth 100000 in
theorem imp_f_X12_looks_L47 {κ : Kx (Int32 × CH)} (C : Cx κ cX12_looks RX12 10 7 (40 * 7) []) (x1 : Int32) (x2 : Int32) (x3 : Int32) (x4 : Int32) (x5 : Int32) (x6 : Int32) (x8 : Int32) (h : CH)  (k93 : Int32 → Option (Int32 × CH)) (hk93 : ∀ (x7_6 : Int32), Imp κ 93 [(0, .ref (kad κ 151)), (1, .int (x1)), (2, .int (x2)), (3, .int (x3)), (4, .int (x4)), (5, .int (x5)), (6, .int (x6)), (7, .int (x7_6)), (8, .int (x8))] [] h (k93 x7_6)) (Rr : Rt κ (some .int) (fun (q : Int32 × CH) (_ : Nat → Nat) => some (Value.int q.1)) (fun (q : (Int32 × CH)) => q.2)) : ∀ (n : Nat) (x7 : Int32) (x9 : Int32), Imp κ 47 [(0, .ref (kad κ 151)), (1, .int (x1)), (2, .int (x2)), (3, .int (x3)), (4, .int (x4)), (5, .int (x5)), (6, .int (x6)), (7, .int (x7)), (8, .int (x8)), (9, .int (x9))] [] h (f_X12_looks_L47 x1 x2 x3 x4 x5 x6 x8 h k93 n x7 x9) := by
  intro n
  induction n with
  | zero => intros; exact imp_none
  | succ n ih =>
    intro x7 x9
    rw [f_X12_looks_L47]
    refine r_iload C 49 9 rfl dX12_looks_47 rfl ?_
    refine r_iconst C 50 (nI 4) (by decide) dX12_looks_49 rfl ?_
    refine r_icmp_ge C 53 93 dX12_looks_50 (by decide) rfl (fun c_7 => ?_) (fun c_7 => ?_)
    · refine r_iload C 55 7 rfl dX12_looks_53 rfl ?_
      refine r_iload C 57 6 rfl dX12_looks_55 rfl ?_
      refine r_iload C 59 9 rfl dX12_looks_57 rfl ?_
      refine r_ishr C 60 dX12_looks_59 rfl ?_
      refine r_iconst C 61 (nI 1) (by decide) dX12_looks_60 rfl ?_
      refine r_iand C 62 dX12_looks_61 rfl ?_
      refine r_iconst C 63 (nI 1) (by decide) dX12_looks_62 rfl ?_
      refine imp_jn (fun (j_10 : Int32 → Int32 → Option (Int32 × CH)) => ∀ (s_8 : Int32) (s_9 : Int32), Imp κ 84 [(0, .ref (kad κ 151)), (1, .int (x1)), (2, .int (x2)), (3, .int (x3)), (4, .int (x4)), (5, .int (x5)), (6, .int (x6)), (8, .int (x8)), (9, .int (x9))] [.int (s_8), .int (s_9)] h (j_10 s_8 s_9)) ?_ ?_
      · intro s_8 s_9
        refine r_iadd C 85 dX12_looks_84 rfl ?_
        refine r_istore C 87 [(7, .int ((s_9) + (s_8))), (0, .ref (kad κ 151)), (1, .int (x1)), (2, .int (x2)), (3, .int (x3)), (4, .int (x4)), (5, .int (x5)), (6, .int (x6)), (8, .int (x8)), (9, .int (x9))] dX12_looks_85 (by decide) rfl rfl ?_
        refine r_iinc C 90 9 (nI 1) [(9, .int (x9 + (nI 1))), (7, .int ((s_9) + (s_8))), (0, .ref (kad κ 151)), (1, .int (x1)), (2, .int (x2)), (3, .int (x3)), (4, .int (x4)), (5, .int (x5)), (6, .int (x6)), (8, .int (x8))] dX12_looks_87 rfl (by decide) (by decide) rfl rfl ?_
        refine r_goto C 47 dX12_looks_90 (by decide) ?_
        exact imp_sub [(0, .ref (kad κ 151)), (1, .int (x1)), (2, .int (x2)), (3, .int (x3)), (4, .int (x4)), (5, .int (x5)), (6, .int (x6)), (7, .int ((s_9) + (s_8))), (8, .int (x8)), (9, .int (x9 + (nI 1)))] [2, 3, 4, 5, 6, 7, 8, 1, 9, 0] rfl (ih ((s_9) + (s_8)) (x9 + (nI 1)))
      · intro j_10 hj_10
        refine r_icmp_ne C 66 83 dX12_looks_63 (by decide) rfl (fun c_11 => ?_) (fun c_11 => ?_)
        · refine r_aload_n C 67 0 rfl dX12_looks_66 rfl ?_
          refine r_getR C 70 dX12_looks_67 flX12_48 kt_151 rfl rf_151_21 rfl ?_
          refine r_iconst C 71 (nI 4) (by decide) dX12_looks_70 rfl ?_
          refine r_aload_n C 72 0 rfl dX12_looks_71 rfl ?_
          refine r_getI C 75 dX12_looks_72 flX12_269 kt_151 rfl rfl ?_
          refine r_imul C 76 dX12_looks_75 rfl ?_
          refine r_iload C 78 9 rfl dX12_looks_76 rfl ?_
          refine r_iadd C 79 dX12_looks_78 rfl ?_
          refine r_iald C 80 dX12_looks_79 kt_163 rfl rfl (fun v_12 => ?_)
          refine r_goto C 84 dX12_looks_80 (by decide) ?_
          exact imp_sub [(0, .ref (kad κ 151)), (1, .int (x1)), (2, .int (x2)), (3, .int (x3)), (4, .int (x4)), (5, .int (x5)), (6, .int (x6)), (8, .int (x8)), (9, .int (x9))] [0, 1, 2, 3, 4, 5, 6, 8, 9] rfl (hj_10 (v_12) (x7))
        · refine r_iconst C 84 (nI 0) (by decide) dX12_looks_83 rfl ?_
          exact imp_sub [(0, .ref (kad κ 151)), (1, .int (x1)), (2, .int (x2)), (3, .int (x3)), (4, .int (x4)), (5, .int (x5)), (6, .int (x6)), (8, .int (x8)), (9, .int (x9))] [0, 1, 2, 3, 4, 5, 6, 8, 9] rfl (hj_10 ((nI 0)) (x7))
    · exact imp_sub [(0, .ref (kad κ 151)), (1, .int (x1)), (2, .int (x2)), (3, .int (x3)), (4, .int (x4)), (5, .int (x5)), (6, .int (x6)), (7, .int (x7)), (8, .int (x8))] [0, 1, 2, 3, 4, 5, 6, 7, 8] rfl (hk93 (x7))
set_option maxHeartbeats 4000000 in
set_option maxRecDepth 100000 in
theorem imp_f_X12_looks_L96 {κ : Kx (Int32 × CH)} (C : Cx κ cX12_looks RX12 10 7 (40 * 7) []) (x1 : Int32) (x2 : Int32) (x3 : Int32) (x4 : Int32) (x5 : Int32) (x6 : Int32) (x7 : Int32)  (k152 : Int32 → CH → Option (Int32 × CH)) (hk152 : ∀ (x8_13 : Int32) (h_14 : CH), Imp κ 152 [(0, .ref (kad κ 151)), (1, .int (x1)), (2, .int (x2)), (3, .int (x3)), (4, .int (x4)), (5, .int (x5)), (6, .int (x6)), (7, .int (x7)), (8, .int (x8_13))] [] h_14 (k152 x8_13 h_14)) (Rr : Rt κ (some .int) (fun (q : Int32 × CH) (_ : Nat → Nat) => some (Value.int q.1)) (fun (q : (Int32 × CH)) => q.2)) : ∀ (n : Nat) (x8 : Int32) (x9 : Int32) (h : CH), Imp κ 96 [(0, .ref (kad κ 151)), (1, .int (x1)), (2, .int (x2)), (3, .int (x3)), (4, .int (x4)), (5, .int (x5)), (6, .int (x6)), (7, .int (x7)), (8, .int (x8)), (9, .int (x9))] [] h (f_X12_looks_L96 x1 x2 x3 x4 x5 x6 x7 k152 n x8 x9 h) := by
  intro n
  induction n with
  | zero => intros; exact imp_none
  | succ n ih =>
    intro x8 x9 h
    rw [f_X12_looks_L96]
    refine r_iload C 98 9 rfl dX12_looks_96 rfl ?_
    refine r_aload_n C 99 0 rfl dX12_looks_98 rfl ?_
    refine r_getI C 102 dX12_looks_99 flX12_275 kt_151 rfl rfl ?_
    refine r_icmp_ge C 105 152 dX12_looks_102 (by decide) rfl (fun c_15 => ?_) (fun c_15 => ?_)
    · refine r_iload C 107 7 rfl dX12_looks_105 rfl ?_
      refine r_iload_n C 108 1 rfl dX12_looks_107 rfl ?_
      refine r_icmp_gt C 111 152 dX12_looks_108 (by decide) rfl (fun c_16 => ?_) (fun c_16 => ?_)
      · exact imp_sub [(0, .ref (kad κ 151)), (1, .int (x1)), (2, .int (x2)), (3, .int (x3)), (4, .int (x4)), (5, .int (x5)), (6, .int (x6)), (7, .int (x7)), (8, .int (x8))] [0, 1, 2, 3, 4, 5, 6, 7, 8] rfl (hk152 (x8) h)
      · refine r_iload C 113 8 rfl dX12_looks_111 rfl ?_
        refine r_iload C 115 6 rfl dX12_looks_113 rfl ?_
        refine r_aload_n C 116 0 rfl dX12_looks_115 rfl ?_
        refine r_iload C 118 9 rfl dX12_looks_116 rfl ?_
        refine r_cVpI C 121 [.int (x6), .int (x8)] (ok_f_X12_printerOf x9 h) dX12_looks_118 lvX12_462 kt_151 rfl rfl rfl (by decide) (Nat.le_of_ble_eq_true rfl) rfl rfl (Nat.le_of_ble_eq_true rfl) rfl rfl (fun v_17 => ?_)
        refine r_ishr C 122 dX12_looks_121 rfl ?_
        refine r_iconst C 123 (nI 1) (by decide) dX12_looks_122 rfl ?_
        refine r_iand C 124 dX12_looks_123 rfl ?_
        refine r_iconst C 125 (nI 1) (by decide) dX12_looks_124 rfl ?_
        refine imp_jn (fun (j_21 : Int32 → Int32 → CH → Option (Int32 × CH)) => ∀ (s_18 : Int32) (s_19 : Int32) (h_20 : CH), Imp κ 143 [(0, .ref (kad κ 151)), (1, .int (x1)), (2, .int (x2)), (3, .int (x3)), (4, .int (x4)), (5, .int (x5)), (6, .int (x6)), (7, .int (x7)), (9, .int (x9))] [.int (s_18), .int (s_19)] h_20 (j_21 s_18 s_19 h_20)) ?_ ?_
        · intro s_18 s_19 h_20
          refine r_iadd C 144 dX12_looks_143 rfl ?_
          refine r_istore C 146 [(8, .int ((s_19) + (s_18))), (0, .ref (kad κ 151)), (1, .int (x1)), (2, .int (x2)), (3, .int (x3)), (4, .int (x4)), (5, .int (x5)), (6, .int (x6)), (7, .int (x7)), (9, .int (x9))] dX12_looks_144 (by decide) rfl rfl ?_
          refine r_iinc C 149 9 (nI 1) [(9, .int (x9 + (nI 1))), (8, .int ((s_19) + (s_18))), (0, .ref (kad κ 151)), (1, .int (x1)), (2, .int (x2)), (3, .int (x3)), (4, .int (x4)), (5, .int (x5)), (6, .int (x6)), (7, .int (x7))] dX12_looks_146 rfl (by decide) (by decide) rfl rfl ?_
          refine r_goto C 96 dX12_looks_149 (by decide) ?_
          exact imp_sub [(0, .ref (kad κ 151)), (1, .int (x1)), (2, .int (x2)), (3, .int (x3)), (4, .int (x4)), (5, .int (x5)), (6, .int (x6)), (7, .int (x7)), (8, .int ((s_19) + (s_18))), (9, .int (x9 + (nI 1)))] [2, 3, 4, 5, 6, 7, 8, 9, 1, 0] rfl (ih ((s_19) + (s_18)) (x9 + (nI 1)) h_20)
        · intro j_21 hj_21
          refine imp_jn (fun (j_24 : Int32 → CH → Option (Int32 × CH)) => ∀ (s_22 : Int32) (h_23 : CH), Imp κ 142 [(0, .ref (kad κ 151)), (1, .int (x1)), (2, .int (x2)), (3, .int (x3)), (4, .int (x4)), (5, .int (x5)), (6, .int (x6)), (7, .int (x7)), (9, .int (x9))] [.int (s_22)] h_23 (j_24 s_22 h_23)) ?_ ?_
          · intro s_22 h_23
            refine r_iconst C 143 (nI 0) (by decide) dX12_looks_142 rfl ?_
            exact imp_sub [(0, .ref (kad κ 151)), (1, .int (x1)), (2, .int (x2)), (3, .int (x3)), (4, .int (x4)), (5, .int (x5)), (6, .int (x6)), (7, .int (x7)), (9, .int (x9))] [0, 1, 2, 3, 4, 5, 6, 7, 8] rfl (hj_21 ((nI 0)) (s_22) h_23)
          · intro j_24 hj_24
            refine r_icmp_ne C 128 142 dX12_looks_125 (by decide) rfl (fun c_25 => ?_) (fun c_25 => ?_)
            · refine r_aload_n C 129 0 rfl dX12_looks_128 rfl ?_
              refine r_iload C 131 9 rfl dX12_looks_129 rfl ?_
              refine r_iload_n C 132 3 rfl dX12_looks_131 rfl ?_
              refine r_cViI C 135 [.int (x8)] (ok_f_X12_isShown x9 x3 h) dX12_looks_132 lvX12_505 kt_151 rfl rfl rfl (by decide) (Nat.le_of_ble_eq_true rfl) rfl rfl (Nat.le_of_ble_eq_true rfl) rfl rfl (fun v_26 h_27 => ?_)
              refine r_if_eq C 138 142 dX12_looks_135 (by decide) rfl (fun c_28 => ?_) (fun c_28 => ?_)
              · exact imp_sub [(0, .ref (kad κ 151)), (1, .int (x1)), (2, .int (x2)), (3, .int (x3)), (4, .int (x4)), (5, .int (x5)), (6, .int (x6)), (7, .int (x7)), (9, .int (x9))] [0, 1, 2, 3, 4, 5, 6, 7, 9] rfl (hj_24 (x8) h_27)
              · refine r_iconst C 139 (nI 1) (by decide) dX12_looks_138 rfl ?_
                refine r_goto C 143 dX12_looks_139 (by decide) ?_
                exact imp_sub [(0, .ref (kad κ 151)), (1, .int (x1)), (2, .int (x2)), (3, .int (x3)), (4, .int (x4)), (5, .int (x5)), (6, .int (x6)), (7, .int (x7)), (9, .int (x9))] [0, 1, 2, 3, 4, 5, 6, 7, 9] rfl (hj_21 ((nI 1)) (x8) h_27)
            · exact imp_sub [(0, .ref (kad κ 151)), (1, .int (x1)), (2, .int (x2)), (3, .int (x3)), (4, .int (x4)), (5, .int (x5)), (6, .int (x6)), (7, .int (x7)), (9, .int (x9))] [0, 1, 2, 3, 4, 5, 6, 7, 9] rfl (hj_24 (x8) h)
    · exact imp_sub [(0, .ref (kad κ 151)), (1, .int (x1)), (2, .int (x2)), (3, .int (x3)), (4, .int (x4)), (5, .int (x5)), (6, .int (x6)), (7, .int (x7)), (8, .int (x8))] [0, 1, 2, 3, 4, 5, 6, 7, 8] rfl (hk152 (x8) h)
set_option maxHeartbeats 4000000 in
set_option maxRecDepth 100000 in
theorem imp_f_X12_looks_L31 {κ : Kx (Int32 × CH)} (C : Cx κ cX12_looks RX12 10 7 (40 * 7) []) (x1 : Int32) (x2 : Int32) (x3 : Int32)    (Rr : Rt κ (some .int) (fun (q : Int32 × CH) (_ : Nat → Nat) => some (Value.int q.1)) (fun (q : (Int32 × CH)) => q.2)) : ∀ (n : Nat) (x4 : Int32) (x5 : Int32) (x6 : Int32) (h : CH), Imp κ 31 [(0, .ref (kad κ 151)), (1, .int (x1)), (2, .int (x2)), (3, .int (x3)), (4, .int (x4)), (5, .int (x5)), (6, .int (x6))] [] h (f_X12_looks_L31 x1 x2 x3 n x4 x5 x6 h) := by
  intro n
  induction n with
  | zero => intros; exact imp_none
  | succ n ih =>
    intro x4 x5 x6 h
    rw [f_X12_looks_L31]
    refine r_iload C 33 6 rfl dX12_looks_31 rfl ?_
    refine r_bipush C 35 (nI 16) (by decide) dX12_looks_33 rfl ?_
    refine r_icmp_ge C 38 182 dX12_looks_35 (by decide) rfl (fun c_5 => ?_) (fun c_5 => ?_)
    · refine r_iconst C 39 (nI 0) (by decide) dX12_looks_38 rfl ?_
      refine r_istore C 41 [(7, .int ((nI 0))), (0, .ref (kad κ 151)), (1, .int (x1)), (2, .int (x2)), (3, .int (x3)), (4, .int (x4)), (5, .int (x5)), (6, .int (x6))] dX12_looks_39 (by decide) rfl rfl ?_
      refine r_iconst C 42 (nI 0) (by decide) dX12_looks_41 rfl ?_
      refine r_istore C 44 [(8, .int ((nI 0))), (7, .int ((nI 0))), (0, .ref (kad κ 151)), (1, .int (x1)), (2, .int (x2)), (3, .int (x3)), (4, .int (x4)), (5, .int (x5)), (6, .int (x6))] dX12_looks_42 (by decide) rfl rfl ?_
      refine r_iconst C 45 (nI 0) (by decide) dX12_looks_44 rfl ?_
      refine r_istore C 47 [(9, .int ((nI 0))), (8, .int ((nI 0))), (7, .int ((nI 0))), (0, .ref (kad κ 151)), (1, .int (x1)), (2, .int (x2)), (3, .int (x3)), (4, .int (x4)), (5, .int (x5)), (6, .int (x6))] dX12_looks_45 (by decide) rfl rfl ?_
      refine imp_sub [(0, .ref (kad κ 151)), (1, .int (x1)), (2, .int (x2)), (3, .int (x3)), (4, .int (x4)), (5, .int (x5)), (6, .int (x6)), (7, .int ((nI 0))), (8, .int ((nI 0))), (9, .int ((nI 0)))] [3, 4, 5, 6, 7, 8, 9, 2, 1, 0] rfl ?_
      refine imp_f_X12_looks_L47 C (x1) (x2) (x3) (x4) (x5) (x6) ((nI 0)) h _ ?_ Rr FU ((nI 0)) ((nI 0))
      · intro x7_6
        refine r_iconst C 94 (nI 0) (by decide) dX12_looks_93 rfl ?_
        refine r_istore C 96 [(9, .int ((nI 0))), (0, .ref (kad κ 151)), (1, .int (x1)), (2, .int (x2)), (3, .int (x3)), (4, .int (x4)), (5, .int (x5)), (6, .int (x6)), (7, .int (x7_6)), (8, .int ((nI 0)))] dX12_looks_94 (by decide) rfl rfl ?_
        refine imp_sub [(0, .ref (kad κ 151)), (1, .int (x1)), (2, .int (x2)), (3, .int (x3)), (4, .int (x4)), (5, .int (x5)), (6, .int (x6)), (7, .int (x7_6)), (8, .int ((nI 0))), (9, .int ((nI 0)))] [1, 2, 3, 4, 5, 6, 7, 8, 9, 0] rfl ?_
        refine imp_f_X12_looks_L96 C (x1) (x2) (x3) (x4) (x5) (x6) (x7_6) _ ?_ Rr FU ((nI 0)) ((nI 0)) h
        · intro x8_13 h_14
          refine r_iload C 154 7 rfl dX12_looks_152 rfl ?_
          refine r_iload_n C 155 1 rfl dX12_looks_154 rfl ?_
          refine imp_jn (fun (j_31 : Int32 → Int32 → Option (Int32 × CH)) => ∀ (x4_29 : Int32) (x5_30 : Int32), Imp κ 176 [(0, .ref (kad κ 151)), (1, .int (x1)), (2, .int (x2)), (3, .int (x3)), (4, .int (x4_29)), (5, .int (x5_30)), (6, .int (x6))] [] h_14 (j_31 x4_29 x5_30)) ?_ ?_
          · intro x4_29 x5_30
            refine r_iinc C 179 6 (nI 1) [(6, .int (x6 + (nI 1))), (0, .ref (kad κ 151)), (1, .int (x1)), (2, .int (x2)), (3, .int (x3)), (4, .int (x4_29)), (5, .int (x5_30))] dX12_looks_176 rfl (by decide) (by decide) rfl rfl ?_
            refine r_goto C 31 dX12_looks_179 (by decide) ?_
            exact imp_sub [(0, .ref (kad κ 151)), (1, .int (x1)), (2, .int (x2)), (3, .int (x3)), (4, .int (x4_29)), (5, .int (x5_30)), (6, .int (x6 + (nI 1)))] [1, 2, 3, 4, 5, 6, 0] rfl (ih (x4_29) (x5_30) (x6 + (nI 1)) h_14)
          · intro j_31 hj_31
            refine r_icmp_gt C 158 176 dX12_looks_155 (by decide) rfl (fun c_32 => ?_) (fun c_32 => ?_)
            · exact imp_sub [(0, .ref (kad κ 151)), (1, .int (x1)), (2, .int (x2)), (3, .int (x3)), (4, .int (x4)), (5, .int (x5)), (6, .int (x6))] [0, 1, 2, 3, 4, 5, 6] rfl (hj_31 (x4) (x5))
            · refine r_iload C 160 8 rfl dX12_looks_158 rfl ?_
              refine r_iload C 162 5 rfl dX12_looks_160 rfl ?_
              refine r_icmp_gt C 165 168 dX12_looks_162 (by decide) rfl (fun c_33 => ?_) (fun c_33 => ?_)
              · refine r_iload C 170 6 rfl dX12_looks_168 rfl ?_
                refine r_istore C 172 [(4, .int (x6)), (0, .ref (kad κ 151)), (1, .int (x1)), (2, .int (x2)), (3, .int (x3)), (5, .int (x5)), (6, .int (x6)), (7, .int (x7_6)), (8, .int (x8_13))] dX12_looks_170 (by decide) rfl rfl ?_
                refine r_iload C 174 8 rfl dX12_looks_172 rfl ?_
                refine r_istore C 176 [(5, .int (x8_13)), (4, .int (x6)), (0, .ref (kad κ 151)), (1, .int (x1)), (2, .int (x2)), (3, .int (x3)), (6, .int (x6)), (7, .int (x7_6)), (8, .int (x8_13))] dX12_looks_174 (by decide) rfl rfl ?_
                exact imp_sub [(0, .ref (kad κ 151)), (1, .int (x1)), (2, .int (x2)), (3, .int (x3)), (4, .int (x6)), (5, .int (x8_13)), (6, .int (x6))] [2, 3, 4, 5, 1, 0, 6] rfl (hj_31 (x6) (x8_13))
              · refine r_goto C 176 dX12_looks_165 (by decide) ?_
                exact imp_sub [(0, .ref (kad κ 151)), (1, .int (x1)), (2, .int (x2)), (3, .int (x3)), (4, .int (x4)), (5, .int (x5)), (6, .int (x6))] [0, 1, 2, 3, 4, 5, 6] rfl (hj_31 (x4) (x5))
    · refine r_iload_n C 183 2 rfl dX12_looks_182 rfl ?_
      refine r_if_ne C 186 191 dX12_looks_183 (by decide) rfl (fun c_34 => ?_) (fun c_34 => ?_)
      · refine r_iload C 188 4 rfl dX12_looks_186 rfl ?_
        refine r_goto C 193 dX12_looks_188 (by decide) ?_
        exact r_iret C Rr dX12_looks_193 (fun _ => rfl) rfl
      · refine r_iload C 193 5 rfl dX12_looks_191 rfl ?_
        exact r_iret C Rr dX12_looks_193 (fun _ => rfl) rfl
set_option maxHeartbeats 4000000 in
set_option maxRecDepth 100000 in
theorem imp_f_X12_looks {κ : Kx (Int32 × CH)} (C : Cx κ cX12_looks RX12 10 7 (40 * 7) []) (x1 : Int32) (x2 : Int32) (x3 : Int32)  (h : CH) (Rr : Rt κ (some .int) (fun (q : Int32 × CH) (_ : Nat → Nat) => some (Value.int q.1)) (fun (q : (Int32 × CH)) => q.2)) : Imp κ 0 [(0, .ref (kad κ 151)), (1, .int (x1)), (2, .int (x2)), (3, .int (x3))] [] h (f_X12_looks x1 x2 x3 h) := by
  unfold f_X12_looks
  refine r_iload_n C 1 1 rfl dX12_looks_0 rfl ?_
  refine r_iconst C 2 (nI 0) (by decide) dX12_looks_1 rfl ?_
  refine r_sipush C 5 (nI 999) (by decide) dX12_looks_2 rfl ?_
  refine r_cSpI C 8 [] (ok_f_X12_isIn x1 ((nI 0)) ((nI 999)) h) dX12_looks_5 lsX12_402 rfl (by decide) (Nat.le_of_ble_eq_true rfl) rfl rfl (Nat.le_of_ble_eq_true rfl) rfl rfl (fun v_1 => ?_)
  refine r_if_eq C 11 20 dX12_looks_8 (by decide) rfl (fun c_2 => ?_) (fun c_2 => ?_)
  · refine r_iconst C 21 (-1) (by decide) dX12_looks_20 rfl ?_
    exact r_iret C Rr dX12_looks_21 (fun _ => rfl) rfl
  · refine r_iload_n C 12 2 rfl dX12_looks_11 rfl ?_
    refine r_iconst C 13 (nI 0) (by decide) dX12_looks_12 rfl ?_
    refine r_iconst C 14 (nI 1) (by decide) dX12_looks_13 rfl ?_
    refine r_cSpI C 17 [] (ok_f_X12_isIn x2 ((nI 0)) ((nI 1)) h) dX12_looks_14 lsX12_402 rfl (by decide) (Nat.le_of_ble_eq_true rfl) rfl rfl (Nat.le_of_ble_eq_true rfl) rfl rfl (fun v_3 => ?_)
    refine r_if_ne C 20 22 dX12_looks_17 (by decide) rfl (fun c_4 => ?_) (fun c_4 => ?_)
    · refine r_iconst C 21 (-1) (by decide) dX12_looks_20 rfl ?_
      exact r_iret C Rr dX12_looks_21 (fun _ => rfl) rfl
    · refine r_iconst C 23 (nI 0) (by decide) dX12_looks_22 rfl ?_
      refine r_istore C 25 [(4, .int ((nI 0))), (0, .ref (kad κ 151)), (1, .int (x1)), (2, .int (x2)), (3, .int (x3))] dX12_looks_23 (by decide) rfl rfl ?_
      refine r_iconst C 26 (-1) (by decide) dX12_looks_25 rfl ?_
      refine r_istore C 28 [(5, .int ((-1))), (4, .int ((nI 0))), (0, .ref (kad κ 151)), (1, .int (x1)), (2, .int (x2)), (3, .int (x3))] dX12_looks_26 (by decide) rfl rfl ?_
      refine r_iconst C 29 (nI 0) (by decide) dX12_looks_28 rfl ?_
      refine r_istore C 31 [(6, .int ((nI 0))), (5, .int ((-1))), (4, .int ((nI 0))), (0, .ref (kad κ 151)), (1, .int (x1)), (2, .int (x2)), (3, .int (x3))] dX12_looks_29 (by decide) rfl rfl ?_
      refine imp_sub [(0, .ref (kad κ 151)), (1, .int (x1)), (2, .int (x2)), (3, .int (x3)), (4, .int ((nI 0))), (5, .int ((-1))), (6, .int ((nI 0)))] [3, 4, 5, 6, 2, 1, 0] rfl ?_
      refine imp_f_X12_looks_L31 C (x1) (x2) (x3) Rr FU ((nI 0)) ((-1)) ((nI 0)) h
set_option maxHeartbeats 4000000 in
theorem ok_f_X12_looks (x1 : Int32) (x2 : Int32) (x3 : Int32)  (h : CH) : ∀ q, f_X12_looks x1 x2 x3 h = some q → MG yX12_looks cX12_looks 10 (some .int) [] 7 (fun ad => [.ref (ad 151), .int x1, .int x2, .int x3]) h ((fun (q : Int32 × CH) (_ : Nat → Nat) => some (Value.int q.1)) q) ((fun (q : (Int32 × CH)) => q.2) q) := mg_of RX12 (by decide) rfl (fun _ => Nat.le_of_ble_eq_true rfl) (fun κ C Rr => imp_f_X12_looks C x1 x2 x3 h Rr)
set_option maxHeartbeats 4000000 in
set_option maxRecDepth 100000 in
theorem imp_f_X12_isCost {κ : Kx Int32} (C : Cx κ cX12_isCost RX12 2 2 (40 * 2) []) (x0 : Int32) (x1 : Int32)  (h : CH) (Rr : Rt κ (some .boolean) (fun (x : Int32) (_ : Nat → Nat) => some (Value.int x)) (fun (_ : Int32) => h)) : Imp κ 0 [(0, .int (x0)), (1, .int (x1))] [] h (f_X12_isCost x0 x1 h) := by
  unfold f_X12_isCost
  refine r_iload_n C 1 0 rfl dX12_isCost_0 rfl ?_
  refine r_iconst C 2 (nI 0) (by decide) dX12_isCost_1 rfl ?_
  refine r_bipush C 4 (nI 99) (by decide) dX12_isCost_2 rfl ?_
  refine r_cSpI C 7 [] (ok_f_X12_isIn x0 ((nI 0)) ((nI 99)) h) dX12_isCost_4 lsX12_402 rfl (by decide) (Nat.le_of_ble_eq_true rfl) rfl rfl (Nat.le_of_ble_eq_true rfl) rfl rfl (fun v_1 => ?_)
  refine r_if_eq C 10 24 dX12_isCost_7 (by decide) rfl (fun c_2 => ?_) (fun c_2 => ?_)
  · refine r_iconst C 25 (nI 0) (by decide) dX12_isCost_24 rfl ?_
    exact r_zret C Rr (by decide) dX12_isCost_25 (fun _ => rfl) rfl
  · refine r_iload_n C 11 1 rfl dX12_isCost_10 rfl ?_
    refine r_iconst C 12 (nI 0) (by decide) dX12_isCost_11 rfl ?_
    refine r_bipush C 14 (nI 99) (by decide) dX12_isCost_12 rfl ?_
    refine r_cSpI C 17 [] (ok_f_X12_isIn x1 ((nI 0)) ((nI 99)) h) dX12_isCost_14 lsX12_402 rfl (by decide) (Nat.le_of_ble_eq_true rfl) rfl rfl (Nat.le_of_ble_eq_true rfl) rfl rfl (fun v_3 => ?_)
    refine r_if_eq C 20 24 dX12_isCost_17 (by decide) rfl (fun c_4 => ?_) (fun c_4 => ?_)
    · refine r_iconst C 25 (nI 0) (by decide) dX12_isCost_24 rfl ?_
      exact r_zret C Rr (by decide) dX12_isCost_25 (fun _ => rfl) rfl
    · refine r_iconst C 21 (nI 1) (by decide) dX12_isCost_20 rfl ?_
      refine r_goto C 25 dX12_isCost_21 (by decide) ?_
      exact r_zret C Rr (by decide) dX12_isCost_25 (fun _ => rfl) rfl
set_option maxHeartbeats 4000000 in
theorem ok_f_X12_isCost (x0 : Int32) (x1 : Int32)  (h : CH) : ∀ q, f_X12_isCost x0 x1 h = some q → MG yX12_isCost cX12_isCost 2 (some .boolean) [] 2 (fun ad => [.int x0, .int x1]) h ((fun (x : Int32) (_ : Nat → Nat) => some (Value.int x)) q) ((fun (_ : Int32) => h) q) := mg_of RX12 (by decide) rfl (fun _ => Nat.le_of_ble_eq_true rfl) (fun κ C Rr => imp_f_X12_isCost C x0 x1 h Rr)
set_option maxHeartbeats 4000000 in
set_option maxRecDepth 100000 in
theorem imp_f_X12_falseOf_L6 {κ : Kx (Int32 × CH)} (C : Cx κ cX12_falseOf RX12 7 3 (40 * 3) []) (x1 : Int32) (x2 : Int32) (x3 : Int32) (x4 : Int32)    (Rr : Rt κ (some .int) (fun (q : Int32 × CH) (_ : Nat → Nat) => some (Value.int q.1)) (fun (q : (Int32 × CH)) => q.2)) : ∀ (n : Nat) (x5 : Int32) (x6 : Int32) (h : CH), Imp κ 6 [(0, .ref (kad κ 151)), (1, .int (x1)), (2, .int (x2)), (3, .int (x3)), (4, .int (x4)), (5, .int (x5)), (6, .int (x6))] [] h (f_X12_falseOf_L6 x1 x2 x3 x4 n x5 x6 h) := by
  intro n
  induction n with
  | zero => intros; exact imp_none
  | succ n ih =>
    intro x5 x6 h
    rw [f_X12_falseOf_L6]
    refine r_iload C 8 6 rfl dX12_falseOf_6 rfl ?_
    refine r_aload_n C 9 0 rfl dX12_falseOf_8 rfl ?_
    refine r_cVpI C 12 [.int (x6)] (ok_f_X12_many h) dX12_falseOf_9 lvX12_399 kt_151 rfl rfl rfl (by decide) (Nat.le_of_ble_eq_true rfl) rfl rfl (Nat.le_of_ble_eq_true rfl) rfl rfl (fun v_1 => ?_)
    refine r_icmp_ge C 15 63 dX12_falseOf_12 (by decide) rfl (fun c_2 => ?_) (fun c_2 => ?_)
    · refine r_iload C 17 6 rfl dX12_falseOf_15 rfl ?_
      refine r_iload_n C 18 1 rfl dX12_falseOf_17 rfl ?_
      refine imp_jn (fun (j_5 : Int32 → CH → Option (Int32 × CH)) => ∀ (x5_3 : Int32) (h_4 : CH), Imp κ 57 [(0, .ref (kad κ 151)), (1, .int (x1)), (2, .int (x2)), (3, .int (x3)), (4, .int (x4)), (5, .int (x5_3)), (6, .int (x6))] [] h_4 (j_5 x5_3 h_4)) ?_ ?_
      · intro x5_3 h_4
        refine r_iinc C 60 6 (nI 1) [(6, .int (x6 + (nI 1))), (0, .ref (kad κ 151)), (1, .int (x1)), (2, .int (x2)), (3, .int (x3)), (4, .int (x4)), (5, .int (x5_3))] dX12_falseOf_57 rfl (by decide) (by decide) rfl rfl ?_
        refine r_goto C 6 dX12_falseOf_60 (by decide) ?_
        exact imp_sub [(0, .ref (kad κ 151)), (1, .int (x1)), (2, .int (x2)), (3, .int (x3)), (4, .int (x4)), (5, .int (x5_3)), (6, .int (x6 + (nI 1)))] [1, 2, 3, 4, 5, 6, 0] rfl (ih (x5_3) (x6 + (nI 1)) h_4)
      · intro j_5 hj_5
        refine r_icmp_ne C 21 24 dX12_falseOf_18 (by decide) rfl (fun c_6 => ?_) (fun c_6 => ?_)
        · refine r_goto C 57 dX12_falseOf_21 (by decide) ?_
          exact imp_sub [(0, .ref (kad κ 151)), (1, .int (x1)), (2, .int (x2)), (3, .int (x3)), (4, .int (x4)), (5, .int (x5)), (6, .int (x6))] [0, 1, 2, 3, 4, 5, 6] rfl (hj_5 (x5) h)
        · refine r_aload_n C 25 0 rfl dX12_falseOf_24 rfl ?_
          refine r_iload C 27 6 rfl dX12_falseOf_25 rfl ?_
          refine r_iload C 29 6 rfl dX12_falseOf_27 rfl ?_
          refine r_bipush C 31 (nI 10) (by decide) dX12_falseOf_29 rfl ?_
          refine r_iconst C 32 (-1) (by decide) dX12_falseOf_31 rfl ?_
          refine r_cViV C 35 [] (ok_f_X12_layMix x6 x6 ((nI 10)) ((-1)) h) dX12_falseOf_32 lvX12_427 kt_151 rfl rfl rfl (by decide) (Nat.le_of_ble_eq_true rfl) rfl rfl (Nat.le_of_ble_eq_true rfl) rfl rfl (fun _ h_7 => ?_)
          refine r_iload C 37 5 rfl dX12_falseOf_35 rfl ?_
          refine r_aload_n C 38 0 rfl dX12_falseOf_37 rfl ?_
          refine r_iload_n C 39 1 rfl dX12_falseOf_38 rfl ?_
          refine r_iload_n C 40 3 rfl dX12_falseOf_39 rfl ?_
          refine r_iload C 42 4 rfl dX12_falseOf_40 rfl ?_
          refine r_cVpI C 45 [.int (x5)] (ok_f_X12_farLive x1 x3 x4 h_7) dX12_falseOf_42 lvX12_418 kt_151 rfl rfl rfl (by decide) (Nat.le_of_ble_eq_true rfl) rfl rfl (Nat.le_of_ble_eq_true rfl) rfl rfl (fun v_8 => ?_)
          refine r_iload_n C 46 2 rfl dX12_falseOf_45 rfl ?_
          refine imp_jn (fun (j_11 : Int32 → Int32 → Option (Int32 × CH)) => ∀ (s_9 : Int32) (s_10 : Int32), Imp κ 54 [(0, .ref (kad κ 151)), (1, .int (x1)), (2, .int (x2)), (3, .int (x3)), (4, .int (x4)), (6, .int (x6))] [.int (s_9), .int (s_10)] h_7 (j_11 s_9 s_10)) ?_ ?_
          · intro s_9 s_10
            refine r_iadd C 55 dX12_falseOf_54 rfl ?_
            refine r_istore C 57 [(5, .int ((s_10) + (s_9))), (0, .ref (kad κ 151)), (1, .int (x1)), (2, .int (x2)), (3, .int (x3)), (4, .int (x4)), (6, .int (x6))] dX12_falseOf_55 (by decide) rfl rfl ?_
            exact imp_sub [(0, .ref (kad κ 151)), (1, .int (x1)), (2, .int (x2)), (3, .int (x3)), (4, .int (x4)), (5, .int ((s_10) + (s_9))), (6, .int (x6))] [1, 2, 3, 4, 5, 0, 6] rfl (hj_5 ((s_10) + (s_9)) h_7)
          · intro j_11 hj_11
            refine r_icmp_gt C 49 53 dX12_falseOf_46 (by decide) rfl (fun c_12 => ?_) (fun c_12 => ?_)
            · refine r_iconst C 54 (nI 0) (by decide) dX12_falseOf_53 rfl ?_
              exact imp_sub [(0, .ref (kad κ 151)), (1, .int (x1)), (2, .int (x2)), (3, .int (x3)), (4, .int (x4)), (6, .int (x6))] [0, 1, 2, 3, 4, 6] rfl (hj_11 ((nI 0)) (x5))
            · refine r_iconst C 50 (nI 1) (by decide) dX12_falseOf_49 rfl ?_
              refine r_goto C 54 dX12_falseOf_50 (by decide) ?_
              exact imp_sub [(0, .ref (kad κ 151)), (1, .int (x1)), (2, .int (x2)), (3, .int (x3)), (4, .int (x4)), (6, .int (x6))] [0, 1, 2, 3, 4, 6] rfl (hj_11 ((nI 1)) (x5))
    · refine r_iload C 65 5 rfl dX12_falseOf_63 rfl ?_
      exact r_iret C Rr dX12_falseOf_65 (fun _ => rfl) rfl
set_option maxHeartbeats 4000000 in
set_option maxRecDepth 100000 in
theorem imp_f_X12_falseOf {κ : Kx (Int32 × CH)} (C : Cx κ cX12_falseOf RX12 7 3 (40 * 3) []) (x1 : Int32) (x2 : Int32) (x3 : Int32) (x4 : Int32)  (h : CH) (Rr : Rt κ (some .int) (fun (q : Int32 × CH) (_ : Nat → Nat) => some (Value.int q.1)) (fun (q : (Int32 × CH)) => q.2)) : Imp κ 0 [(0, .ref (kad κ 151)), (1, .int (x1)), (2, .int (x2)), (3, .int (x3)), (4, .int (x4))] [] h (f_X12_falseOf x1 x2 x3 x4 h) := by
  unfold f_X12_falseOf
  refine r_iconst C 1 (nI 0) (by decide) dX12_falseOf_0 rfl ?_
  refine r_istore C 3 [(5, .int ((nI 0))), (0, .ref (kad κ 151)), (1, .int (x1)), (2, .int (x2)), (3, .int (x3)), (4, .int (x4))] dX12_falseOf_1 (by decide) rfl rfl ?_
  refine r_iconst C 4 (nI 0) (by decide) dX12_falseOf_3 rfl ?_
  refine r_istore C 6 [(6, .int ((nI 0))), (5, .int ((nI 0))), (0, .ref (kad κ 151)), (1, .int (x1)), (2, .int (x2)), (3, .int (x3)), (4, .int (x4))] dX12_falseOf_4 (by decide) rfl rfl ?_
  refine imp_sub [(0, .ref (kad κ 151)), (1, .int (x1)), (2, .int (x2)), (3, .int (x3)), (4, .int (x4)), (5, .int ((nI 0))), (6, .int ((nI 0)))] [2, 3, 4, 5, 6, 1, 0] rfl ?_
  refine imp_f_X12_falseOf_L6 C (x1) (x2) (x3) (x4) Rr FU ((nI 0)) ((nI 0)) h
set_option maxHeartbeats 4000000 in
theorem ok_f_X12_falseOf (x1 : Int32) (x2 : Int32) (x3 : Int32) (x4 : Int32)  (h : CH) : ∀ q, f_X12_falseOf x1 x2 x3 x4 h = some q → MG yX12_falseOf cX12_falseOf 7 (some .int) [] 3 (fun ad => [.ref (ad 151), .int x1, .int x2, .int x3, .int x4]) h ((fun (q : Int32 × CH) (_ : Nat → Nat) => some (Value.int q.1)) q) ((fun (q : (Int32 × CH)) => q.2) q) := mg_of RX12 (by decide) rfl (fun _ => Nat.le_of_ble_eq_true rfl) (fun κ C Rr => imp_f_X12_falseOf C x1 x2 x3 x4 h Rr)
set_option maxHeartbeats 4000000 in
set_option maxRecDepth 100000 in
theorem imp_f_X12_isHeld {κ : Kx (Int32 × CH)} (C : Cx κ cX12_isHeld RX12 5 3 (40 * 3) []) (x1 : Int32) (x2 : Int32) (x3 : Int32) (x4 : Int32)  (h : CH) (Rr : Rt κ (some .boolean) (fun (q : Int32 × CH) (_ : Nat → Nat) => some (Value.int q.1)) (fun (q : (Int32 × CH)) => q.2)) : Imp κ 0 [(0, .ref (kad κ 151)), (1, .int (x1)), (2, .int (x2)), (3, .int (x3)), (4, .int (x4))] [] h (f_X12_isHeld x1 x2 x3 x4 h) := by
  unfold f_X12_isHeld
  refine r_aload_n C 1 0 rfl dX12_isHeld_0 rfl ?_
  refine r_iload_n C 2 1 rfl dX12_isHeld_1 rfl ?_
  refine r_iload_n C 3 1 rfl dX12_isHeld_2 rfl ?_
  refine r_bipush C 5 (nI 10) (by decide) dX12_isHeld_3 rfl ?_
  refine r_iconst C 6 (-1) (by decide) dX12_isHeld_5 rfl ?_
  refine r_cViV C 9 [] (ok_f_X12_layMix x1 x1 ((nI 10)) ((-1)) h) dX12_isHeld_6 lvX12_427 kt_151 rfl rfl rfl (by decide) (Nat.le_of_ble_eq_true rfl) rfl rfl (Nat.le_of_ble_eq_true rfl) rfl rfl (fun _ h_1 => ?_)
  refine r_aload_n C 10 0 rfl dX12_isHeld_9 rfl ?_
  refine r_iload_n C 11 1 rfl dX12_isHeld_10 rfl ?_
  refine r_iload_n C 12 3 rfl dX12_isHeld_11 rfl ?_
  refine r_iload C 14 4 rfl dX12_isHeld_12 rfl ?_
  refine r_cVpI C 17 [] (ok_f_X12_farLive x1 x3 x4 h_1) dX12_isHeld_14 lvX12_418 kt_151 rfl rfl rfl (by decide) (Nat.le_of_ble_eq_true rfl) rfl rfl (Nat.le_of_ble_eq_true rfl) rfl rfl (fun v_2 => ?_)
  refine r_iload_n C 18 2 rfl dX12_isHeld_17 rfl ?_
  refine r_icmp_le C 21 25 dX12_isHeld_18 (by decide) rfl (fun c_3 => ?_) (fun c_3 => ?_)
  · refine r_iconst C 22 (nI 1) (by decide) dX12_isHeld_21 rfl ?_
    refine r_goto C 26 dX12_isHeld_22 (by decide) ?_
    exact r_zret C Rr (by decide) dX12_isHeld_26 (fun _ => rfl) rfl
  · refine r_iconst C 26 (nI 0) (by decide) dX12_isHeld_25 rfl ?_
    exact r_zret C Rr (by decide) dX12_isHeld_26 (fun _ => rfl) rfl
set_option maxHeartbeats 4000000 in
theorem ok_f_X12_isHeld (x1 : Int32) (x2 : Int32) (x3 : Int32) (x4 : Int32)  (h : CH) : ∀ q, f_X12_isHeld x1 x2 x3 x4 h = some q → MG yX12_isHeld cX12_isHeld 5 (some .boolean) [] 3 (fun ad => [.ref (ad 151), .int x1, .int x2, .int x3, .int x4]) h ((fun (q : Int32 × CH) (_ : Nat → Nat) => some (Value.int q.1)) q) ((fun (q : (Int32 × CH)) => q.2) q) := mg_of RX12 (by decide) rfl (fun _ => Nat.le_of_ble_eq_true rfl) (fun κ C Rr => imp_f_X12_isHeld C x1 x2 x3 x4 h Rr)
set_option maxHeartbeats 4000000 in
set_option maxRecDepth 100000 in
theorem imp_f_X12_costOf_L6 {κ : Kx (Int32 × CH)} (C : Cx κ cX12_costOf RX12 8 4 (40 * 4) []) (x1 : Int32) (x2 : Int32) (x3 : Int32) (x4 : Int32) (x5 : Int32)    (Rr : Rt κ (some .int) (fun (q : Int32 × CH) (_ : Nat → Nat) => some (Value.int q.1)) (fun (q : (Int32 × CH)) => q.2)) : ∀ (n : Nat) (x6 : Int32) (x7 : Int32) (h : CH), Imp κ 6 [(0, .ref (kad κ 151)), (1, .int (x1)), (2, .int (x2)), (3, .int (x3)), (4, .int (x4)), (5, .int (x5)), (6, .int (x6)), (7, .int (x7))] [] h (f_X12_costOf_L6 x1 x2 x3 x4 x5 n x6 x7 h) := by
  intro n
  induction n with
  | zero => intros; exact imp_none
  | succ n ih =>
    intro x6 x7 h
    rw [f_X12_costOf_L6]
    refine r_iload C 8 7 rfl dX12_costOf_6 rfl ?_
    refine r_aload_n C 9 0 rfl dX12_costOf_8 rfl ?_
    refine r_cVpI C 12 [.int (x7)] (ok_f_X12_many h) dX12_costOf_9 lvX12_399 kt_151 rfl rfl rfl (by decide) (Nat.le_of_ble_eq_true rfl) rfl rfl (Nat.le_of_ble_eq_true rfl) rfl rfl (fun v_1 => ?_)
    refine r_icmp_ge C 15 59 dX12_costOf_12 (by decide) rfl (fun c_2 => ?_) (fun c_2 => ?_)
    · refine r_iload C 17 6 rfl dX12_costOf_15 rfl ?_
      refine r_iload_n C 18 2 rfl dX12_costOf_17 rfl ?_
      refine r_aload_n C 19 0 rfl dX12_costOf_18 rfl ?_
      refine r_iload C 21 7 rfl dX12_costOf_19 rfl ?_
      refine r_iload_n C 22 1 rfl dX12_costOf_21 rfl ?_
      refine r_iload C 24 4 rfl dX12_costOf_22 rfl ?_
      refine r_iload C 26 5 rfl dX12_costOf_24 rfl ?_
      refine r_cViI C 29 [.int (x2), .int (x6)] (ok_f_X12_falseOf x7 x1 x4 x5 h) dX12_costOf_26 lvX12_508 kt_151 rfl rfl rfl (by decide) (Nat.le_of_ble_eq_true rfl) rfl rfl (Nat.le_of_ble_eq_true rfl) rfl rfl (fun v_3 h_4 => ?_)
      refine r_imul C 30 dX12_costOf_29 rfl ?_
      refine r_aload_n C 31 0 rfl dX12_costOf_30 rfl ?_
      refine r_iload C 33 7 rfl dX12_costOf_31 rfl ?_
      refine r_iload_n C 34 1 rfl dX12_costOf_33 rfl ?_
      refine r_iload C 36 4 rfl dX12_costOf_34 rfl ?_
      refine r_iload C 38 5 rfl dX12_costOf_36 rfl ?_
      refine r_cViI C 41 [.int ((x2) * (v_3)), .int (x6)] (ok_f_X12_isHeld x7 x1 x4 x5 h_4) dX12_costOf_38 lvX12_511 kt_151 rfl rfl rfl (by decide) (Nat.le_of_ble_eq_true rfl) rfl rfl (Nat.le_of_ble_eq_true rfl) rfl rfl (fun v_5 h_6 => ?_)
      refine imp_jn (fun (j_10 : Int32 → Int32 → Int32 → Option (Int32 × CH)) => ∀ (s_7 : Int32) (s_8 : Int32) (s_9 : Int32), Imp κ 49 [(0, .ref (kad κ 151)), (1, .int (x1)), (2, .int (x2)), (3, .int (x3)), (4, .int (x4)), (5, .int (x5)), (7, .int (x7))] [.int (s_7), .int (s_8), .int (s_9)] h_6 (j_10 s_7 s_8 s_9)) ?_ ?_
      · intro s_7 s_8 s_9
        refine r_iadd C 50 dX12_costOf_49 rfl ?_
        refine r_iadd C 51 dX12_costOf_50 rfl ?_
        refine r_istore C 53 [(6, .int ((s_9) + ((s_8) + (s_7)))), (0, .ref (kad κ 151)), (1, .int (x1)), (2, .int (x2)), (3, .int (x3)), (4, .int (x4)), (5, .int (x5)), (7, .int (x7))] dX12_costOf_51 (by decide) rfl rfl ?_
        refine r_iinc C 56 7 (nI 1) [(7, .int (x7 + (nI 1))), (6, .int ((s_9) + ((s_8) + (s_7)))), (0, .ref (kad κ 151)), (1, .int (x1)), (2, .int (x2)), (3, .int (x3)), (4, .int (x4)), (5, .int (x5))] dX12_costOf_53 rfl (by decide) (by decide) rfl rfl ?_
        refine r_goto C 6 dX12_costOf_56 (by decide) ?_
        exact imp_sub [(0, .ref (kad κ 151)), (1, .int (x1)), (2, .int (x2)), (3, .int (x3)), (4, .int (x4)), (5, .int (x5)), (6, .int ((s_9) + ((s_8) + (s_7)))), (7, .int (x7 + (nI 1)))] [2, 3, 4, 5, 6, 7, 1, 0] rfl (ih ((s_9) + ((s_8) + (s_7))) (x7 + (nI 1)) h_6)
      · intro j_10 hj_10
        refine r_if_eq C 44 48 dX12_costOf_41 (by decide) rfl (fun c_11 => ?_) (fun c_11 => ?_)
        · refine r_iconst C 49 (nI 0) (by decide) dX12_costOf_48 rfl ?_
          exact imp_sub [(0, .ref (kad κ 151)), (1, .int (x1)), (2, .int (x2)), (3, .int (x3)), (4, .int (x4)), (5, .int (x5)), (7, .int (x7))] [0, 1, 2, 3, 4, 5, 7] rfl (hj_10 ((nI 0)) ((x2) * (v_3)) (x6))
        · refine r_iload_n C 45 3 rfl dX12_costOf_44 rfl ?_
          refine r_goto C 49 dX12_costOf_45 (by decide) ?_
          exact imp_sub [(0, .ref (kad κ 151)), (1, .int (x1)), (2, .int (x2)), (3, .int (x3)), (4, .int (x4)), (5, .int (x5)), (7, .int (x7))] [0, 1, 2, 3, 4, 5, 7] rfl (hj_10 (x3) ((x2) * (v_3)) (x6))
    · refine r_iload C 61 6 rfl dX12_costOf_59 rfl ?_
      exact r_iret C Rr dX12_costOf_61 (fun _ => rfl) rfl
set_option maxHeartbeats 4000000 in
set_option maxRecDepth 100000 in
theorem imp_f_X12_costOf {κ : Kx (Int32 × CH)} (C : Cx κ cX12_costOf RX12 8 4 (40 * 4) []) (x1 : Int32) (x2 : Int32) (x3 : Int32) (x4 : Int32) (x5 : Int32)  (h : CH) (Rr : Rt κ (some .int) (fun (q : Int32 × CH) (_ : Nat → Nat) => some (Value.int q.1)) (fun (q : (Int32 × CH)) => q.2)) : Imp κ 0 [(0, .ref (kad κ 151)), (1, .int (x1)), (2, .int (x2)), (3, .int (x3)), (4, .int (x4)), (5, .int (x5))] [] h (f_X12_costOf x1 x2 x3 x4 x5 h) := by
  unfold f_X12_costOf
  refine r_iconst C 1 (nI 0) (by decide) dX12_costOf_0 rfl ?_
  refine r_istore C 3 [(6, .int ((nI 0))), (0, .ref (kad κ 151)), (1, .int (x1)), (2, .int (x2)), (3, .int (x3)), (4, .int (x4)), (5, .int (x5))] dX12_costOf_1 (by decide) rfl rfl ?_
  refine r_iconst C 4 (nI 0) (by decide) dX12_costOf_3 rfl ?_
  refine r_istore C 6 [(7, .int ((nI 0))), (6, .int ((nI 0))), (0, .ref (kad κ 151)), (1, .int (x1)), (2, .int (x2)), (3, .int (x3)), (4, .int (x4)), (5, .int (x5))] dX12_costOf_4 (by decide) rfl rfl ?_
  refine imp_sub [(0, .ref (kad κ 151)), (1, .int (x1)), (2, .int (x2)), (3, .int (x3)), (4, .int (x4)), (5, .int (x5)), (6, .int ((nI 0))), (7, .int ((nI 0)))] [2, 3, 4, 5, 6, 7, 1, 0] rfl ?_
  refine imp_f_X12_costOf_L6 C (x1) (x2) (x3) (x4) (x5) Rr FU ((nI 0)) ((nI 0)) h
set_option maxHeartbeats 4000000 in
theorem ok_f_X12_costOf (x1 : Int32) (x2 : Int32) (x3 : Int32) (x4 : Int32) (x5 : Int32)  (h : CH) : ∀ q, f_X12_costOf x1 x2 x3 x4 x5 h = some q → MG yX12_costOf cX12_costOf 8 (some .int) [] 4 (fun ad => [.ref (ad 151), .int x1, .int x2, .int x3, .int x4, .int x5]) h ((fun (q : Int32 × CH) (_ : Nat → Nat) => some (Value.int q.1)) q) ((fun (q : (Int32 × CH)) => q.2) q) := mg_of RX12 (by decide) rfl (fun _ => Nat.le_of_ble_eq_true rfl) (fun κ C Rr => imp_f_X12_costOf C x1 x2 x3 x4 x5 h Rr)
set_option maxHeartbeats 4000000 in
set_option maxRecDepth 100000 in
theorem imp_f_X12_cost {κ : Kx (Int32 × CH)} (C : Cx κ cX12_cost RX12 6 5 (40 * 5) []) (x1 : Int32) (x2 : Int32) (x3 : Int32) (x4 : Int32) (x5 : Int32)  (h : CH) (Rr : Rt κ (some .int) (fun (q : Int32 × CH) (_ : Nat → Nat) => some (Value.int q.1)) (fun (q : (Int32 × CH)) => q.2)) : Imp κ 0 [(0, .ref (kad κ 151)), (1, .int (x1)), (2, .int (x2)), (3, .int (x3)), (4, .int (x4)), (5, .int (x5))] [] h (f_X12_cost x1 x2 x3 x4 x5 h) := by
  unfold f_X12_cost
  refine r_iload_n C 1 1 rfl dX12_cost_0 rfl ?_
  refine r_iconst C 2 (nI 0) (by decide) dX12_cost_1 rfl ?_
  refine r_sipush C 5 (nI 800) (by decide) dX12_cost_2 rfl ?_
  refine r_cSpI C 8 [] (ok_f_X12_isIn x1 ((nI 0)) ((nI 800)) h) dX12_cost_5 lsX12_402 rfl (by decide) (Nat.le_of_ble_eq_true rfl) rfl rfl (Nat.le_of_ble_eq_true rfl) rfl rfl (fun v_1 => ?_)
  refine r_if_eq C 11 43 dX12_cost_8 (by decide) rfl (fun c_2 => ?_) (fun c_2 => ?_)
  · refine r_iconst C 44 (-1) (by decide) dX12_cost_43 rfl ?_
    exact r_iret C Rr dX12_cost_44 (fun _ => rfl) rfl
  · refine r_iload_n C 12 2 rfl dX12_cost_11 rfl ?_
    refine r_iload_n C 13 3 rfl dX12_cost_12 rfl ?_
    refine r_cSpI C 16 [] (ok_f_X12_isCost x2 x3 h) dX12_cost_13 lsX12_514 rfl (by decide) (Nat.le_of_ble_eq_true rfl) rfl rfl (Nat.le_of_ble_eq_true rfl) rfl rfl (fun v_3 => ?_)
    refine r_if_eq C 19 43 dX12_cost_16 (by decide) rfl (fun c_4 => ?_) (fun c_4 => ?_)
    · refine r_iconst C 44 (-1) (by decide) dX12_cost_43 rfl ?_
      exact r_iret C Rr dX12_cost_44 (fun _ => rfl) rfl
    · refine r_iload C 21 4 rfl dX12_cost_19 rfl ?_
      refine r_iload C 23 5 rfl dX12_cost_21 rfl ?_
      refine r_cSpI C 26 [] (ok_f_X12_isWhen x4 x5 h) dX12_cost_23 lsX12_434 rfl (by decide) (Nat.le_of_ble_eq_true rfl) rfl rfl (Nat.le_of_ble_eq_true rfl) rfl rfl (fun v_5 => ?_)
      refine r_if_eq C 29 43 dX12_cost_26 (by decide) rfl (fun c_6 => ?_) (fun c_6 => ?_)
      · refine r_iconst C 44 (-1) (by decide) dX12_cost_43 rfl ?_
        exact r_iret C Rr dX12_cost_44 (fun _ => rfl) rfl
      · refine r_aload_n C 30 0 rfl dX12_cost_29 rfl ?_
        refine r_iload_n C 31 1 rfl dX12_cost_30 rfl ?_
        refine r_iload_n C 32 2 rfl dX12_cost_31 rfl ?_
        refine r_iload_n C 33 3 rfl dX12_cost_32 rfl ?_
        refine r_iload C 35 4 rfl dX12_cost_33 rfl ?_
        refine r_iload C 37 5 rfl dX12_cost_35 rfl ?_
        refine r_cViI C 40 [] (ok_f_X12_costOf x1 x2 x3 x4 x5 h) dX12_cost_37 lvX12_517 kt_151 rfl rfl rfl (by decide) (Nat.le_of_ble_eq_true rfl) rfl rfl (Nat.le_of_ble_eq_true rfl) rfl rfl (fun v_7 h_8 => ?_)
        refine r_goto C 44 dX12_cost_40 (by decide) ?_
        exact r_iret C Rr dX12_cost_44 (fun _ => rfl) rfl
set_option maxHeartbeats 4000000 in
theorem ok_f_X12_cost (x1 : Int32) (x2 : Int32) (x3 : Int32) (x4 : Int32) (x5 : Int32)  (h : CH) : ∀ q, f_X12_cost x1 x2 x3 x4 x5 h = some q → MG yX12_cost cX12_cost 6 (some .int) [] 5 (fun ad => [.ref (ad 151), .int x1, .int x2, .int x3, .int x4, .int x5]) h ((fun (q : Int32 × CH) (_ : Nat → Nat) => some (Value.int q.1)) q) ((fun (q : (Int32 × CH)) => q.2) q) := mg_of RX12 (by decide) rfl (fun _ => Nat.le_of_ble_eq_true rfl) (fun κ C Rr => imp_f_X12_cost C x1 x2 x3 x4 x5 h Rr)
set_option maxHeartbeats 4000000 in
set_option maxRecDepth 100000 in
theorem imp_f_X12_bestBar_L37 {κ : Kx (Int32 × CH)} (C : Cx κ cX12_bestBar RX12 9 5 (40 * 5) []) (x1 : Int32) (x2 : Int32) (x3 : Int32) (x4 : Int32)    (Rr : Rt κ (some .int) (fun (q : Int32 × CH) (_ : Nat → Nat) => some (Value.int q.1)) (fun (q : (Int32 × CH)) => q.2)) : ∀ (n : Nat) (x5 : Int32) (x6 : Int32) (x7 : Int32) (h : CH), Imp κ 37 [(0, .ref (kad κ 151)), (1, .int (x1)), (2, .int (x2)), (3, .int (x3)), (4, .int (x4)), (5, .int (x5)), (6, .int (x6)), (7, .int (x7))] [] h (f_X12_bestBar_L37 x1 x2 x3 x4 n x5 x6 x7 h) := by
  intro n
  induction n with
  | zero => intros; exact imp_none
  | succ n ih =>
    intro x5 x6 x7 h
    rw [f_X12_bestBar_L37]
    refine r_iload C 39 7 rfl dX12_bestBar_37 rfl ?_
    refine r_sipush C 42 (nI 800) (by decide) dX12_bestBar_39 rfl ?_
    refine r_icmp_gt C 45 82 dX12_bestBar_42 (by decide) rfl (fun c_7 => ?_) (fun c_7 => ?_)
    · refine r_iload C 84 5 rfl dX12_bestBar_82 rfl ?_
      exact r_iret C Rr dX12_bestBar_84 (fun _ => rfl) rfl
    · refine r_aload_n C 46 0 rfl dX12_bestBar_45 rfl ?_
      refine r_iload C 48 7 rfl dX12_bestBar_46 rfl ?_
      refine r_iload_n C 49 1 rfl dX12_bestBar_48 rfl ?_
      refine r_iload_n C 50 2 rfl dX12_bestBar_49 rfl ?_
      refine r_iload_n C 51 3 rfl dX12_bestBar_50 rfl ?_
      refine r_iload C 53 4 rfl dX12_bestBar_51 rfl ?_
      refine r_cViI C 56 [] (ok_f_X12_costOf x7 x1 x2 x3 x4 h) dX12_bestBar_53 lvX12_517 kt_151 rfl rfl rfl (by decide) (Nat.le_of_ble_eq_true rfl) rfl rfl (Nat.le_of_ble_eq_true rfl) rfl rfl (fun v_8 h_9 => ?_)
      refine r_istore C 58 [(8, .int (v_8)), (0, .ref (kad κ 151)), (1, .int (x1)), (2, .int (x2)), (3, .int (x3)), (4, .int (x4)), (5, .int (x5)), (6, .int (x6)), (7, .int (x7))] dX12_bestBar_56 (by decide) rfl rfl ?_
      refine r_iload C 60 0 rfl dX12_bestBar_58 rfl ?_
      refine r_iload C 62 7 rfl dX12_bestBar_60 rfl ?_
      refine imp_jn (fun (j_12 : Int32 → Int32 → Option (Int32 × CH)) => ∀ (x5_10 : Int32) (x6_11 : Int32), Imp κ 76 [(0, .ref (kad κ 151)), (1, .int (x1)), (2, .int (x2)), (3, .int (x3)), (4, .int (x4)), (5, .int (x5_10)), (6, .int (x6_11)), (7, .int (x7))] [] h_9 (j_12 x5_10 x6_11)) ?_ ?_
      · intro x5_10 x6_11
        refine r_iinc C 79 7 (nI 1) [(7, .int (x7 + (nI 1))), (0, .ref (kad κ 151)), (1, .int (x1)), (2, .int (x2)), (3, .int (x3)), (4, .int (x4)), (5, .int (x5_10)), (6, .int (x6_11))] dX12_bestBar_76 rfl (by decide) (by decide) rfl rfl ?_
        refine r_goto C 37 dX12_bestBar_79 (by decide) ?_
        exact imp_sub [(0, .ref (kad κ 151)), (1, .int (x1)), (2, .int (x2)), (3, .int (x3)), (4, .int (x4)), (5, .int (x5_10)), (6, .int (x6_11)), (7, .int (x7 + (nI 1)))] [1, 2, 3, 4, 5, 6, 7, 0] rfl (ih (x5_10) (x6_11) (x7 + (nI 1)) h_9)
      · intro j_12 hj_12
        refine r_icmp_lt C 65 68 dX12_bestBar_62 (by decide) rfl (fun c_13 => ?_) (fun c_13 => ?_)
        · refine r_iload C 70 8 rfl dX12_bestBar_68 rfl ?_
          refine r_istore C 72 [(5, .int (x7)), (8, .int (v_8)), (0, .ref (kad κ 151)), (1, .int (x1)), (2, .int (x2)), (3, .int (x3)), (4, .int (x4)), (6, .int (x6)), (7, .int (x7))] dX12_bestBar_70 (by decide) rfl rfl ?_
          refine r_iload C 74 1 rfl dX12_bestBar_72 rfl ?_
          refine r_istore C 76 [(6, .int (v_8)), (5, .int (x7)), (8, .int (v_8)), (0, .ref (kad κ 151)), (1, .int (x1)), (2, .int (x2)), (3, .int (x3)), (4, .int (x4)), (7, .int (x7))] dX12_bestBar_74 (by decide) rfl rfl ?_
          exact imp_sub [(0, .ref (kad κ 151)), (1, .int (x1)), (2, .int (x2)), (3, .int (x3)), (4, .int (x4)), (5, .int (x7)), (6, .int (v_8)), (7, .int (x7))] [3, 4, 5, 6, 7, 1, 0, 8] rfl (hj_12 (x7) (v_8))
        · refine r_goto C 76 dX12_bestBar_65 (by decide) ?_
          exact imp_sub [(0, .ref (kad κ 151)), (1, .int (x1)), (2, .int (x2)), (3, .int (x3)), (4, .int (x4)), (5, .int (x5)), (6, .int (x6)), (7, .int (x7))] [1, 2, 3, 4, 5, 6, 7, 8] rfl (hj_12 (x5) (x6))
set_option maxHeartbeats 4000000 in
set_option maxRecDepth 100000 in
theorem imp_f_X12_bestBar {κ : Kx (Int32 × CH)} (C : Cx κ cX12_bestBar RX12 9 5 (40 * 5) []) (x1 : Int32) (x2 : Int32) (x3 : Int32) (x4 : Int32)  (h : CH) (Rr : Rt κ (some .int) (fun (q : Int32 × CH) (_ : Nat → Nat) => some (Value.int q.1)) (fun (q : (Int32 × CH)) => q.2)) : Imp κ 0 [(0, .ref (kad κ 151)), (1, .int (x1)), (2, .int (x2)), (3, .int (x3)), (4, .int (x4))] [] h (f_X12_bestBar x1 x2 x3 x4 h) := by
  unfold f_X12_bestBar
  refine r_iload_n C 1 1 rfl dX12_bestBar_0 rfl ?_
  refine r_iload_n C 2 2 rfl dX12_bestBar_1 rfl ?_
  refine r_cSpI C 5 [] (ok_f_X12_isCost x1 x2 h) dX12_bestBar_2 lsX12_514 rfl (by decide) (Nat.le_of_ble_eq_true rfl) rfl rfl (Nat.le_of_ble_eq_true rfl) rfl rfl (fun v_1 => ?_)
  refine r_if_eq C 8 17 dX12_bestBar_5 (by decide) rfl (fun c_2 => ?_) (fun c_2 => ?_)
  · refine r_iconst C 18 (-1) (by decide) dX12_bestBar_17 rfl ?_
    exact r_iret C Rr dX12_bestBar_18 (fun _ => rfl) rfl
  · refine r_iload_n C 9 3 rfl dX12_bestBar_8 rfl ?_
    refine r_iload C 11 4 rfl dX12_bestBar_9 rfl ?_
    refine r_cSpI C 14 [] (ok_f_X12_isWhen x3 x4 h) dX12_bestBar_11 lsX12_434 rfl (by decide) (Nat.le_of_ble_eq_true rfl) rfl rfl (Nat.le_of_ble_eq_true rfl) rfl rfl (fun v_3 => ?_)
    refine r_if_ne C 17 19 dX12_bestBar_14 (by decide) rfl (fun c_4 => ?_) (fun c_4 => ?_)
    · refine r_iconst C 18 (-1) (by decide) dX12_bestBar_17 rfl ?_
      exact r_iret C Rr dX12_bestBar_18 (fun _ => rfl) rfl
    · refine r_iconst C 20 (nI 0) (by decide) dX12_bestBar_19 rfl ?_
      refine r_istore C 22 [(5, .int ((nI 0))), (0, .ref (kad κ 151)), (1, .int (x1)), (2, .int (x2)), (3, .int (x3)), (4, .int (x4))] dX12_bestBar_20 (by decide) rfl rfl ?_
      refine r_aload_n C 23 1 rfl dX12_bestBar_22 rfl ?_
      refine r_iconst C 24 (nI 0) (by decide) dX12_bestBar_23 rfl ?_
      refine r_iload_n C 25 2 rfl dX12_bestBar_24 rfl ?_
      refine r_iload_n C 26 3 rfl dX12_bestBar_25 rfl ?_
      refine r_iload_n C 27 4 rfl dX12_bestBar_26 rfl ?_
      refine r_iload C 29 5 rfl dX12_bestBar_27 rfl ?_
      refine r_cViI C 32 [] (ok_f_X12_costOf ((nI 0)) x1 x2 x3 x4 h) dX12_bestBar_29 lvX12_517 kt_151 rfl rfl rfl (by decide) (Nat.le_of_ble_eq_true rfl) rfl rfl (Nat.le_of_ble_eq_true rfl) rfl rfl (fun v_5 h_6 => ?_)
      refine r_istore C 34 [(6, .int (v_5)), (5, .int ((nI 0))), (0, .ref (kad κ 151)), (1, .int (x1)), (2, .int (x2)), (3, .int (x3)), (4, .int (x4))] dX12_bestBar_32 (by decide) rfl rfl ?_
      refine r_iconst C 35 (nI 1) (by decide) dX12_bestBar_34 rfl ?_
      refine r_istore C 37 [(7, .int ((nI 1))), (6, .int (v_5)), (5, .int ((nI 0))), (0, .ref (kad κ 151)), (1, .int (x1)), (2, .int (x2)), (3, .int (x3)), (4, .int (x4))] dX12_bestBar_35 (by decide) rfl rfl ?_
      refine imp_sub [(0, .ref (kad κ 151)), (1, .int (x1)), (2, .int (x2)), (3, .int (x3)), (4, .int (x4)), (5, .int ((nI 0))), (6, .int (v_5)), (7, .int ((nI 1)))] [3, 4, 5, 6, 7, 2, 1, 0] rfl ?_
      refine imp_f_X12_bestBar_L37 C (x1) (x2) (x3) (x4) Rr FU ((nI 0)) (v_5) ((nI 1)) h_6
set_option maxHeartbeats 4000000 in
theorem ok_f_X12_bestBar (x1 : Int32) (x2 : Int32) (x3 : Int32) (x4 : Int32)  (h : CH) : ∀ q, f_X12_bestBar x1 x2 x3 x4 h = some q → MG yX12_bestBar cX12_bestBar 9 (some .int) [] 5 (fun ad => [.ref (ad 151), .int x1, .int x2, .int x3, .int x4]) h ((fun (q : Int32 × CH) (_ : Nat → Nat) => some (Value.int q.1)) q) ((fun (q : (Int32 × CH)) => q.2) q) := mg_of RX12 (by decide) rfl (fun _ => Nat.le_of_ble_eq_true rfl) (fun κ C Rr => imp_f_X12_bestBar C x1 x2 x3 x4 h Rr)
set_option maxHeartbeats 4000000 in
set_option maxRecDepth 100000 in
theorem imp_f_X12_kindBar_L20 {κ : Kx (Int32 × CH)} (C : Cx κ cX12_kindBar RX12 9 4 (40 * 4) []) (x1 : Int32) (x2 : Int32) (x3 : Int32) (x4 : Int32) (x5 : Int32)  (k84 : Int32 → Int32 → CH → Option (Int32 × CH)) (hk84 : ∀ (x6_2 : Int32) (x7_3 : Int32) (h_4 : CH), Imp κ 84 [(0, .ref (kad κ 151)), (1, .int (x1)), (2, .int (x2)), (3, .int (x3)), (4, .int (x4)), (5, .int (x5)), (6, .int (x6_2)), (7, .int (x7_3))] [] h_4 (k84 x6_2 x7_3 h_4)) (Rr : Rt κ (some .int) (fun (q : Int32 × CH) (_ : Nat → Nat) => some (Value.int q.1)) (fun (q : (Int32 × CH)) => q.2)) : ∀ (n : Nat) (x6 : Int32) (x7 : Int32) (x8 : Int32) (h : CH), Imp κ 20 [(0, .ref (kad κ 151)), (1, .int (x1)), (2, .int (x2)), (3, .int (x3)), (4, .int (x4)), (5, .int (x5)), (6, .int (x6)), (7, .int (x7)), (8, .int (x8))] [] h (f_X12_kindBar_L20 x1 x2 x3 x4 x5 k84 n x6 x7 x8 h) := by
  intro n
  induction n with
  | zero => intros; exact imp_none
  | succ n ih =>
    intro x6 x7 x8 h
    rw [f_X12_kindBar_L20]
    refine r_iload C 22 8 rfl dX12_kindBar_20 rfl ?_
    refine r_aload_n C 23 0 rfl dX12_kindBar_22 rfl ?_
    refine r_cVpI C 26 [.int (x8)] (ok_f_X12_many h) dX12_kindBar_23 lvX12_399 kt_151 rfl rfl rfl (by decide) (Nat.le_of_ble_eq_true rfl) rfl rfl (Nat.le_of_ble_eq_true rfl) rfl rfl (fun v_5 => ?_)
    refine r_icmp_ge C 29 84 dX12_kindBar_26 (by decide) rfl (fun c_6 => ?_) (fun c_6 => ?_)
    · refine r_aload_n C 30 0 rfl dX12_kindBar_29 rfl ?_
      refine r_getR C 33 dX12_kindBar_30 flX12_33 kt_151 rfl rf_151_16 rfl ?_
      refine r_bipush C 35 (nI 16) (by decide) dX12_kindBar_33 rfl ?_
      refine r_aload_n C 36 0 rfl dX12_kindBar_35 rfl ?_
      refine r_getI C 39 dX12_kindBar_36 flX12_269 kt_151 rfl rfl ?_
      refine r_imul C 40 dX12_kindBar_39 rfl ?_
      refine r_iload C 42 8 rfl dX12_kindBar_40 rfl ?_
      refine r_iadd C 43 dX12_kindBar_42 rfl ?_
      refine r_iald C 44 dX12_kindBar_43 kt_158 rfl rfl (fun v_7 => ?_)
      refine r_iload_n C 45 1 rfl dX12_kindBar_44 rfl ?_
      refine imp_jn (fun (j_11 : Int32 → Int32 → CH → Option (Int32 × CH)) => ∀ (x6_8 : Int32) (x7_9 : Int32) (h_10 : CH), Imp κ 78 [(0, .ref (kad κ 151)), (1, .int (x1)), (2, .int (x2)), (3, .int (x3)), (4, .int (x4)), (5, .int (x5)), (6, .int (x6_8)), (7, .int (x7_9)), (8, .int (x8))] [] h_10 (j_11 x6_8 x7_9 h_10)) ?_ ?_
      · intro x6_8 x7_9 h_10
        refine r_iinc C 81 8 (nI 1) [(8, .int (x8 + (nI 1))), (0, .ref (kad κ 151)), (1, .int (x1)), (2, .int (x2)), (3, .int (x3)), (4, .int (x4)), (5, .int (x5)), (6, .int (x6_8)), (7, .int (x7_9))] dX12_kindBar_78 rfl (by decide) (by decide) rfl rfl ?_
        refine r_goto C 20 dX12_kindBar_81 (by decide) ?_
        exact imp_sub [(0, .ref (kad κ 151)), (1, .int (x1)), (2, .int (x2)), (3, .int (x3)), (4, .int (x4)), (5, .int (x5)), (6, .int (x6_8)), (7, .int (x7_9)), (8, .int (x8 + (nI 1)))] [1, 2, 3, 4, 5, 6, 7, 8, 0] rfl (ih (x6_8) (x7_9) (x8 + (nI 1)) h_10)
      · intro j_11 hj_11
        refine r_icmp_eq C 48 51 dX12_kindBar_45 (by decide) rfl (fun c_12 => ?_) (fun c_12 => ?_)
        · refine r_iinc C 54 6 (nI 1) [(6, .int (x6 + (nI 1))), (0, .ref (kad κ 151)), (1, .int (x1)), (2, .int (x2)), (3, .int (x3)), (4, .int (x4)), (5, .int (x5)), (7, .int (x7)), (8, .int (x8))] dX12_kindBar_51 rfl (by decide) (by decide) rfl rfl ?_
          refine r_iload C 56 7 rfl dX12_kindBar_54 rfl ?_
          refine r_aload_n C 57 1 rfl dX12_kindBar_56 rfl ?_
          refine r_iload C 59 8 rfl dX12_kindBar_57 rfl ?_
          refine r_iload C 61 6 rfl dX12_kindBar_59 rfl ?_
          refine r_iload_n C 62 4 rfl dX12_kindBar_61 rfl ?_
          refine r_iload C 64 5 rfl dX12_kindBar_62 rfl ?_
          refine r_cViI C 67 [.int (x7)] (ok_f_X12_isHeld x8 x5 x3 x4 h) dX12_kindBar_64 lvX12_511 kt_151 rfl rfl rfl (by decide) (Nat.le_of_ble_eq_true rfl) rfl rfl (Nat.le_of_ble_eq_true rfl) rfl rfl (fun v_13 h_14 => ?_)
          refine imp_jn (fun (j_17 : Int32 → Int32 → Option (Int32 × CH)) => ∀ (s_15 : Int32) (s_16 : Int32), Imp κ 75 [(0, .ref (kad κ 151)), (1, .int (x1)), (2, .int (x2)), (3, .int (x3)), (4, .int (x4)), (5, .int (x5)), (6, .int (x6 + (nI 1))), (8, .int (x8))] [.int (s_15), .int (s_16)] h_14 (j_17 s_15 s_16)) ?_ ?_
          · intro s_15 s_16
            refine r_iadd C 76 dX12_kindBar_75 rfl ?_
            refine r_istore C 78 [(7, .int ((s_16) + (s_15))), (0, .ref (kad κ 151)), (1, .int (x1)), (2, .int (x2)), (3, .int (x3)), (4, .int (x4)), (5, .int (x5)), (6, .int (x6 + (nI 1))), (8, .int (x8))] dX12_kindBar_76 (by decide) rfl rfl ?_
            exact imp_sub [(0, .ref (kad κ 151)), (1, .int (x1)), (2, .int (x2)), (3, .int (x3)), (4, .int (x4)), (5, .int (x5)), (6, .int (x6 + (nI 1))), (7, .int ((s_16) + (s_15))), (8, .int (x8))] [1, 2, 3, 4, 5, 6, 7, 0, 8] rfl (hj_11 (x6 + (nI 1)) ((s_16) + (s_15)) h_14)
          · intro j_17 hj_17
            refine r_if_eq C 70 74 dX12_kindBar_67 (by decide) rfl (fun c_18 => ?_) (fun c_18 => ?_)
            · refine r_iconst C 75 (nI 0) (by decide) dX12_kindBar_74 rfl ?_
              exact imp_sub [(0, .ref (kad κ 151)), (1, .int (x1)), (2, .int (x2)), (3, .int (x3)), (4, .int (x4)), (5, .int (x5)), (6, .int (x6 + (nI 1))), (8, .int (x8))] [1, 2, 3, 4, 5, 6, 0, 8] rfl (hj_17 ((nI 0)) (x7))
            · refine r_iconst C 71 (nI 1) (by decide) dX12_kindBar_70 rfl ?_
              refine r_goto C 75 dX12_kindBar_71 (by decide) ?_
              exact imp_sub [(0, .ref (kad κ 151)), (1, .int (x1)), (2, .int (x2)), (3, .int (x3)), (4, .int (x4)), (5, .int (x5)), (6, .int (x6 + (nI 1))), (8, .int (x8))] [1, 2, 3, 4, 5, 6, 0, 8] rfl (hj_17 ((nI 1)) (x7))
        · refine r_goto C 78 dX12_kindBar_48 (by decide) ?_
          exact imp_sub [(0, .ref (kad κ 151)), (1, .int (x1)), (2, .int (x2)), (3, .int (x3)), (4, .int (x4)), (5, .int (x5)), (6, .int (x6)), (7, .int (x7)), (8, .int (x8))] [0, 1, 2, 3, 4, 5, 6, 7, 8] rfl (hj_11 (x6) (x7) h)
    · exact imp_sub [(0, .ref (kad κ 151)), (1, .int (x1)), (2, .int (x2)), (3, .int (x3)), (4, .int (x4)), (5, .int (x5)), (6, .int (x6)), (7, .int (x7))] [0, 1, 2, 3, 4, 5, 6, 7] rfl (hk84 (x6) (x7) h)
set_option maxHeartbeats 4000000 in
set_option maxRecDepth 100000 in
theorem imp_f_X12_kindBar_L3 {κ : Kx (Int32 × CH)} (C : Cx κ cX12_kindBar RX12 9 4 (40 * 4) []) (x1 : Int32) (x2 : Int32) (x3 : Int32) (x4 : Int32)    (Rr : Rt κ (some .int) (fun (q : Int32 × CH) (_ : Nat → Nat) => some (Value.int q.1)) (fun (q : (Int32 × CH)) => q.2)) : ∀ (n : Nat) (x5 : Int32) (h : CH), Imp κ 3 [(0, .ref (kad κ 151)), (1, .int (x1)), (2, .int (x2)), (3, .int (x3)), (4, .int (x4)), (5, .int (x5))] [] h (f_X12_kindBar_L3 x1 x2 x3 x4 n x5 h) := by
  intro n
  induction n with
  | zero => intros; exact imp_none
  | succ n ih =>
    intro x5 h
    rw [f_X12_kindBar_L3]
    refine r_iload C 5 5 rfl dX12_kindBar_3 rfl ?_
    refine r_sipush C 8 (nI 800) (by decide) dX12_kindBar_5 rfl ?_
    refine r_icmp_gt C 11 112 dX12_kindBar_8 (by decide) rfl (fun c_1 => ?_) (fun c_1 => ?_)
    · refine r_iconst C 113 (-1) (by decide) dX12_kindBar_112 rfl ?_
      exact r_iret C Rr dX12_kindBar_113 (fun _ => rfl) rfl
    · refine r_iconst C 12 (nI 0) (by decide) dX12_kindBar_11 rfl ?_
      refine r_istore C 14 [(6, .int ((nI 0))), (0, .ref (kad κ 151)), (1, .int (x1)), (2, .int (x2)), (3, .int (x3)), (4, .int (x4)), (5, .int (x5))] dX12_kindBar_12 (by decide) rfl rfl ?_
      refine r_iconst C 15 (nI 0) (by decide) dX12_kindBar_14 rfl ?_
      refine r_istore C 17 [(7, .int ((nI 0))), (6, .int ((nI 0))), (0, .ref (kad κ 151)), (1, .int (x1)), (2, .int (x2)), (3, .int (x3)), (4, .int (x4)), (5, .int (x5))] dX12_kindBar_15 (by decide) rfl rfl ?_
      refine r_iconst C 18 (nI 0) (by decide) dX12_kindBar_17 rfl ?_
      refine r_istore C 20 [(8, .int ((nI 0))), (7, .int ((nI 0))), (6, .int ((nI 0))), (0, .ref (kad κ 151)), (1, .int (x1)), (2, .int (x2)), (3, .int (x3)), (4, .int (x4)), (5, .int (x5))] dX12_kindBar_18 (by decide) rfl rfl ?_
      refine imp_sub [(0, .ref (kad κ 151)), (1, .int (x1)), (2, .int (x2)), (3, .int (x3)), (4, .int (x4)), (5, .int (x5)), (6, .int ((nI 0))), (7, .int ((nI 0))), (8, .int ((nI 0)))] [3, 4, 5, 6, 7, 8, 2, 1, 0] rfl ?_
      refine imp_f_X12_kindBar_L20 C (x1) (x2) (x3) (x4) (x5) _ ?_ Rr FU ((nI 0)) ((nI 0)) ((nI 0)) h
      · intro x6_2 x7_3 h_4
        refine r_iload C 86 6 rfl dX12_kindBar_84 rfl ?_
        refine r_if_ne C 89 91 dX12_kindBar_86 (by decide) rfl (fun c_19 => ?_) (fun c_19 => ?_)
        · refine r_iconst C 90 (-1) (by decide) dX12_kindBar_89 rfl ?_
          exact r_iret C Rr dX12_kindBar_90 (fun _ => rfl) rfl
        · refine r_iload C 93 7 rfl dX12_kindBar_91 rfl ?_
          refine r_bipush C 95 (nI 100) (by decide) dX12_kindBar_93 rfl ?_
          refine r_imul C 96 dX12_kindBar_95 rfl ?_
          refine r_iload_n C 97 2 rfl dX12_kindBar_96 rfl ?_
          refine r_iload C 99 6 rfl dX12_kindBar_97 rfl ?_
          refine r_imul C 100 dX12_kindBar_99 rfl ?_
          refine r_icmp_gt C 103 106 dX12_kindBar_100 (by decide) rfl (fun c_20 => ?_) (fun c_20 => ?_)
          · refine r_iinc C 109 5 (nI 1) [(5, .int (x5 + (nI 1))), (0, .ref (kad κ 151)), (1, .int (x1)), (2, .int (x2)), (3, .int (x3)), (4, .int (x4)), (6, .int (x6_2)), (7, .int (x7_3))] dX12_kindBar_106 rfl (by decide) (by decide) rfl rfl ?_
            refine r_goto C 3 dX12_kindBar_109 (by decide) ?_
            exact imp_sub [(0, .ref (kad κ 151)), (1, .int (x1)), (2, .int (x2)), (3, .int (x3)), (4, .int (x4)), (5, .int (x5 + (nI 1)))] [1, 2, 3, 4, 5, 0] rfl (ih (x5 + (nI 1)) h_4)
          · refine r_iload C 105 5 rfl dX12_kindBar_103 rfl ?_
            exact r_iret C Rr dX12_kindBar_105 (fun _ => rfl) rfl
set_option maxHeartbeats 4000000 in
set_option maxRecDepth 100000 in
theorem imp_f_X12_kindBar {κ : Kx (Int32 × CH)} (C : Cx κ cX12_kindBar RX12 9 4 (40 * 4) []) (x1 : Int32) (x2 : Int32) (x3 : Int32) (x4 : Int32)  (h : CH) (Rr : Rt κ (some .int) (fun (q : Int32 × CH) (_ : Nat → Nat) => some (Value.int q.1)) (fun (q : (Int32 × CH)) => q.2)) : Imp κ 0 [(0, .ref (kad κ 151)), (1, .int (x1)), (2, .int (x2)), (3, .int (x3)), (4, .int (x4))] [] h (f_X12_kindBar x1 x2 x3 x4 h) := by
  unfold f_X12_kindBar
  refine r_iconst C 1 (nI 0) (by decide) dX12_kindBar_0 rfl ?_
  refine r_istore C 3 [(5, .int ((nI 0))), (0, .ref (kad κ 151)), (1, .int (x1)), (2, .int (x2)), (3, .int (x3)), (4, .int (x4))] dX12_kindBar_1 (by decide) rfl rfl ?_
  refine imp_sub [(0, .ref (kad κ 151)), (1, .int (x1)), (2, .int (x2)), (3, .int (x3)), (4, .int (x4)), (5, .int ((nI 0)))] [1, 2, 3, 4, 5, 0] rfl ?_
  refine imp_f_X12_kindBar_L3 C (x1) (x2) (x3) (x4) Rr FU ((nI 0)) h
set_option maxHeartbeats 4000000 in
theorem ok_f_X12_kindBar (x1 : Int32) (x2 : Int32) (x3 : Int32) (x4 : Int32)  (h : CH) : ∀ q, f_X12_kindBar x1 x2 x3 x4 h = some q → MG yX12_kindBar cX12_kindBar 9 (some .int) [] 4 (fun ad => [.ref (ad 151), .int x1, .int x2, .int x3, .int x4]) h ((fun (q : Int32 × CH) (_ : Nat → Nat) => some (Value.int q.1)) q) ((fun (q : (Int32 × CH)) => q.2) q) := mg_of RX12 (by decide) rfl (fun _ => Nat.le_of_ble_eq_true rfl) (fun κ C Rr => imp_f_X12_kindBar C x1 x2 x3 x4 h Rr)
set_option maxHeartbeats 4000000 in
set_option maxRecDepth 100000 in
theorem imp_f_X12_fair_L72 {κ : Kx (Int32 × CH)} (C : Cx κ cX12_fair RX12 9 5 (40 * 5) []) (x1 : Int32) (x2 : Int32) (x3 : Int32) (x6 : Int32) (x7 : Int32)  (k126 : Int32 → CH → Option (Int32 × CH)) (hk126 : ∀ (x5_13 : Int32) (h_14 : CH), Imp κ 126 [(0, .ref (kad κ 151)), (1, .int (x1)), (2, .int (x2)), (3, .int (x3)), (5, .int (x5_13)), (6, .int (x6))] [] h_14 (k126 x5_13 h_14)) (Rr : Rt κ (some .int) (fun (q : Int32 × CH) (_ : Nat → Nat) => some (Value.int q.1)) (fun (q : (Int32 × CH)) => q.2)) : ∀ (n : Nat) (x5 : Int32) (x8 : Int32) (h : CH), Imp κ 72 [(0, .ref (kad κ 151)), (1, .int (x1)), (2, .int (x2)), (3, .int (x3)), (5, .int (x5)), (6, .int (x6)), (7, .int (x7)), (8, .int (x8))] [] h (f_X12_fair_L72 x1 x2 x3 x6 x7 k126 n x5 x8 h) := by
  intro n
  induction n with
  | zero => intros; exact imp_none
  | succ n ih =>
    intro x5 x8 h
    rw [f_X12_fair_L72]
    refine r_iload C 74 7 rfl dX12_fair_72 rfl ?_
    refine r_aload_n C 75 0 rfl dX12_fair_74 rfl ?_
    refine r_cVpI C 78 [.int (x8)] (ok_f_X12_many h) dX12_fair_75 lvX12_399 kt_151 rfl rfl rfl (by decide) (Nat.le_of_ble_eq_true rfl) rfl rfl (Nat.le_of_ble_eq_true rfl) rfl rfl (fun v_15 => ?_)
    refine r_icmp_ge C 81 126 dX12_fair_78 (by decide) rfl (fun c_16 => ?_) (fun c_16 => ?_)
    · refine r_iload C 83 4 rfl dX12_fair_81 rfl ?_
      refine r_aload_n C 84 0 rfl dX12_fair_83 rfl ?_
      refine r_getR C 87 dX12_fair_84 flX12_33 kt_151 rfl rf_151_16 rfl ?_
      refine r_bipush C 89 (nI 16) (by decide) dX12_fair_87 rfl ?_
      refine r_aload_n C 90 0 rfl dX12_fair_89 rfl ?_
      refine r_getI C 93 dX12_fair_90 flX12_269 kt_151 rfl rfl ?_
      refine r_imul C 94 dX12_fair_93 rfl ?_
      refine r_iload C 96 7 rfl dX12_fair_94 rfl ?_
      refine r_iadd C 97 dX12_fair_96 rfl ?_
      refine r_iald C 98 dX12_fair_97 kt_158 rfl rfl (fun v_17 => ?_)
      refine r_iload C 100 5 rfl dX12_fair_98 rfl ?_
      refine imp_jn (fun (j_21 : Int32 → Int32 → CH → Option (Int32 × CH)) => ∀ (s_18 : Int32) (s_19 : Int32) (h_20 : CH), Imp κ 117 [(0, .ref (kad κ 151)), (1, .int (x1)), (2, .int (x2)), (3, .int (x3)), (6, .int (x6)), (7, .int (x7)), (8, .int (x8))] [.int (s_18), .int (s_19)] h_20 (j_21 s_18 s_19 h_20)) ?_ ?_
      · intro s_18 s_19 h_20
        refine r_iadd C 118 dX12_fair_117 rfl ?_
        refine r_istore C 120 [(5, .int ((s_19) + (s_18))), (0, .ref (kad κ 151)), (1, .int (x1)), (2, .int (x2)), (3, .int (x3)), (6, .int (x6)), (7, .int (x7)), (8, .int (x8))] dX12_fair_118 (by decide) rfl rfl ?_
        refine r_iinc C 123 7 (nI 1) [(8, .int (x8 + (nI 1))), (5, .int ((s_19) + (s_18))), (0, .ref (kad κ 151)), (1, .int (x1)), (2, .int (x2)), (3, .int (x3)), (6, .int (x6)), (7, .int (x7))] dX12_fair_120 rfl (by decide) (by decide) rfl rfl ?_
        refine r_goto C 72 dX12_fair_123 (by decide) ?_
        exact imp_sub [(0, .ref (kad κ 151)), (1, .int (x1)), (2, .int (x2)), (3, .int (x3)), (5, .int ((s_19) + (s_18))), (6, .int (x6)), (7, .int (x7)), (8, .int (x8 + (nI 1)))] [2, 3, 4, 5, 1, 6, 7, 0] rfl (ih ((s_19) + (s_18)) (x8 + (nI 1)) h_20)
      · intro j_21 hj_21
        refine r_icmp_ne C 103 116 dX12_fair_100 (by decide) rfl (fun c_22 => ?_) (fun c_22 => ?_)
        · refine r_aload_n C 104 0 rfl dX12_fair_103 rfl ?_
          refine r_iload C 106 7 rfl dX12_fair_104 rfl ?_
          refine r_iload C 108 6 rfl dX12_fair_106 rfl ?_
          refine r_iload_n C 109 2 rfl dX12_fair_108 rfl ?_
          refine r_iload_n C 110 3 rfl dX12_fair_109 rfl ?_
          refine r_cViI C 113 [.int (x5)] (ok_f_X12_falseOf x8 x7 x2 x3 h) dX12_fair_110 lvX12_508 kt_151 rfl rfl rfl (by decide) (Nat.le_of_ble_eq_true rfl) rfl rfl (Nat.le_of_ble_eq_true rfl) rfl rfl (fun v_23 h_24 => ?_)
          refine r_goto C 117 dX12_fair_113 (by decide) ?_
          exact imp_sub [(0, .ref (kad κ 151)), (1, .int (x1)), (2, .int (x2)), (3, .int (x3)), (6, .int (x6)), (7, .int (x7)), (8, .int (x8))] [0, 1, 2, 3, 5, 6, 7] rfl (hj_21 (v_23) (x5) h_24)
        · refine r_iconst C 117 (nI 0) (by decide) dX12_fair_116 rfl ?_
          exact imp_sub [(0, .ref (kad κ 151)), (1, .int (x1)), (2, .int (x2)), (3, .int (x3)), (6, .int (x6)), (7, .int (x7)), (8, .int (x8))] [0, 1, 2, 3, 5, 6, 7] rfl (hj_21 ((nI 0)) (x5) h)
    · exact imp_sub [(0, .ref (kad κ 151)), (1, .int (x1)), (2, .int (x2)), (3, .int (x3)), (5, .int (x5)), (6, .int (x6))] [0, 1, 2, 3, 4, 5] rfl (hk126 (x5) h)
set_option maxHeartbeats 4000000 in
set_option maxRecDepth 100000 in
theorem imp_f_X12_fair_L52 {κ : Kx (Int32 × CH)} (C : Cx κ cX12_fair RX12 9 5 (40 * 5) []) (x1 : Int32) (x2 : Int32) (x3 : Int32)    (Rr : Rt κ (some .int) (fun (q : Int32 × CH) (_ : Nat → Nat) => some (Value.int q.1)) (fun (q : (Int32 × CH)) => q.2)) : ∀ (n : Nat) (x5 : Int32) (x6 : Int32) (h : CH), Imp κ 52 [(0, .ref (kad κ 151)), (1, .int (x1)), (2, .int (x2)), (3, .int (x3)), (5, .int (x5)), (6, .int (x6))] [] h (f_X12_fair_L52 x1 x2 x3 n x5 x6 h) := by
  intro n
  induction n with
  | zero => intros; exact imp_none
  | succ n ih =>
    intro x5 x6 h
    rw [f_X12_fair_L52]
    refine r_iload C 54 5 rfl dX12_fair_52 rfl ?_
    refine r_iconst C 55 (nI 4) (by decide) dX12_fair_54 rfl ?_
    refine r_icmp_ge C 58 132 dX12_fair_55 (by decide) rfl (fun c_10 => ?_) (fun c_10 => ?_)
    · refine r_aload_n C 59 0 rfl dX12_fair_58 rfl ?_
      refine r_iload C 61 5 rfl dX12_fair_59 rfl ?_
      refine r_iload_n C 62 1 rfl dX12_fair_61 rfl ?_
      refine r_iload_n C 63 2 rfl dX12_fair_62 rfl ?_
      refine r_iload_n C 64 3 rfl dX12_fair_63 rfl ?_
      refine r_cViI C 67 [] (ok_f_X12_kindBar x6 x1 x2 x3 h) dX12_fair_64 lvX12_521 kt_151 rfl rfl rfl (by decide) (Nat.le_of_ble_eq_true rfl) rfl rfl (Nat.le_of_ble_eq_true rfl) rfl rfl (fun v_11 h_12 => ?_)
      refine r_istore C 69 [(7, .int (v_11)), (0, .ref (kad κ 151)), (1, .int (x1)), (2, .int (x2)), (3, .int (x3)), (5, .int (x5)), (6, .int (x6))] dX12_fair_67 (by decide) rfl rfl ?_
      refine r_iconst C 70 (nI 0) (by decide) dX12_fair_69 rfl ?_
      refine r_istore C 72 [(8, .int ((nI 0))), (7, .int (v_11)), (0, .ref (kad κ 151)), (1, .int (x1)), (2, .int (x2)), (3, .int (x3)), (5, .int (x5)), (6, .int (x6))] dX12_fair_70 (by decide) rfl rfl ?_
      refine imp_sub [(0, .ref (kad κ 151)), (1, .int (x1)), (2, .int (x2)), (3, .int (x3)), (5, .int (x5)), (6, .int (x6)), (7, .int (v_11)), (8, .int ((nI 0)))] [2, 3, 4, 5, 6, 7, 1, 0] rfl ?_
      refine imp_f_X12_fair_L72 C (x1) (x2) (x3) (x6) (v_11) _ ?_ Rr FU (x5) ((nI 0)) h_12
      · intro x5_13 h_14
        refine r_iinc C 129 5 (nI 1) [(6, .int (x6 + (nI 1))), (0, .ref (kad κ 151)), (1, .int (x1)), (2, .int (x2)), (3, .int (x3)), (5, .int (x5_13))] dX12_fair_126 rfl (by decide) (by decide) rfl rfl ?_
        refine r_goto C 52 dX12_fair_129 (by decide) ?_
        exact imp_sub [(0, .ref (kad κ 151)), (1, .int (x1)), (2, .int (x2)), (3, .int (x3)), (5, .int (x5_13)), (6, .int (x6 + (nI 1)))] [1, 2, 3, 4, 5, 0] rfl (ih (x5_13) (x6 + (nI 1)) h_14)
    · refine r_iload C 134 4 rfl dX12_fair_132 rfl ?_
      exact r_iret C Rr dX12_fair_134 (fun _ => rfl) rfl
set_option maxHeartbeats 4000000 in
set_option maxRecDepth 100000 in
theorem imp_f_X12_fair {κ : Kx (Int32 × CH)} (C : Cx κ cX12_fair RX12 9 5 (40 * 5) []) (x1 : Int32) (x2 : Int32) (x3 : Int32) (x4 : Int32)  (h : CH) (Rr : Rt κ (some .int) (fun (q : Int32 × CH) (_ : Nat → Nat) => some (Value.int q.1)) (fun (q : (Int32 × CH)) => q.2)) : Imp κ 0 [(0, .ref (kad κ 151)), (1, .int (x1)), (2, .int (x2)), (3, .int (x3)), (4, .int (x4))] [] h (f_X12_fair x1 x2 x3 x4 h) := by
  unfold f_X12_fair
  refine r_iload_n C 1 1 rfl dX12_fair_0 rfl ?_
  refine r_iconst C 2 (nI 0) (by decide) dX12_fair_1 rfl ?_
  refine r_bipush C 4 (nI 100) (by decide) dX12_fair_2 rfl ?_
  refine r_cSpI C 7 [] (ok_f_X12_isIn x1 ((nI 0)) ((nI 100)) h) dX12_fair_4 lsX12_402 rfl (by decide) (Nat.le_of_ble_eq_true rfl) rfl rfl (Nat.le_of_ble_eq_true rfl) rfl rfl (fun v_1 => ?_)
  refine r_if_eq C 10 28 dX12_fair_7 (by decide) rfl (fun c_2 => ?_) (fun c_2 => ?_)
  · refine r_iconst C 29 (-1) (by decide) dX12_fair_28 rfl ?_
    exact r_iret C Rr dX12_fair_29 (fun _ => rfl) rfl
  · refine r_iload_n C 11 2 rfl dX12_fair_10 rfl ?_
    refine r_iload_n C 12 3 rfl dX12_fair_11 rfl ?_
    refine r_cSpI C 15 [] (ok_f_X12_isWhen x2 x3 h) dX12_fair_12 lsX12_434 rfl (by decide) (Nat.le_of_ble_eq_true rfl) rfl rfl (Nat.le_of_ble_eq_true rfl) rfl rfl (fun v_3 => ?_)
    refine r_if_eq C 18 28 dX12_fair_15 (by decide) rfl (fun c_4 => ?_) (fun c_4 => ?_)
    · refine r_iconst C 29 (-1) (by decide) dX12_fair_28 rfl ?_
      exact r_iret C Rr dX12_fair_29 (fun _ => rfl) rfl
    · refine r_iload C 20 4 rfl dX12_fair_18 rfl ?_
      refine r_iconst C 21 (nI 0) (by decide) dX12_fair_20 rfl ?_
      refine r_iconst C 22 (nI 4) (by decide) dX12_fair_21 rfl ?_
      refine r_cSpI C 25 [] (ok_f_X12_isIn x4 ((nI 0)) ((nI 4)) h) dX12_fair_22 lsX12_402 rfl (by decide) (Nat.le_of_ble_eq_true rfl) rfl rfl (Nat.le_of_ble_eq_true rfl) rfl rfl (fun v_5 => ?_)
      refine r_if_ne C 28 30 dX12_fair_25 (by decide) rfl (fun c_6 => ?_) (fun c_6 => ?_)
      · refine r_iconst C 29 (-1) (by decide) dX12_fair_28 rfl ?_
        exact r_iret C Rr dX12_fair_29 (fun _ => rfl) rfl
      · refine r_iload C 32 4 rfl dX12_fair_30 rfl ?_
        refine r_iconst C 33 (nI 4) (by decide) dX12_fair_32 rfl ?_
        refine r_icmp_ge C 36 46 dX12_fair_33 (by decide) rfl (fun c_7 => ?_) (fun c_7 => ?_)
        · refine r_aload_n C 37 0 rfl dX12_fair_36 rfl ?_
          refine r_iload C 39 4 rfl dX12_fair_37 rfl ?_
          refine r_iload_n C 40 1 rfl dX12_fair_39 rfl ?_
          refine r_iload_n C 41 2 rfl dX12_fair_40 rfl ?_
          refine r_iload_n C 42 3 rfl dX12_fair_41 rfl ?_
          refine r_cViI C 45 [] (ok_f_X12_kindBar x4 x1 x2 x3 h) dX12_fair_42 lvX12_521 kt_151 rfl rfl rfl (by decide) (Nat.le_of_ble_eq_true rfl) rfl rfl (Nat.le_of_ble_eq_true rfl) rfl rfl (fun v_8 h_9 => ?_)
          exact r_iret C Rr dX12_fair_45 (fun _ => rfl) rfl
        · refine r_iconst C 47 (nI 0) (by decide) dX12_fair_46 rfl ?_
          refine r_istore C 49 [(5, .int ((nI 0))), (0, .ref (kad κ 151)), (1, .int (x1)), (2, .int (x2)), (3, .int (x3)), (4, .int (x4))] dX12_fair_47 (by decide) rfl rfl ?_
          refine r_iconst C 50 (nI 0) (by decide) dX12_fair_49 rfl ?_
          refine r_istore C 52 [(6, .int ((nI 0))), (5, .int ((nI 0))), (0, .ref (kad κ 151)), (1, .int (x1)), (2, .int (x2)), (3, .int (x3)), (4, .int (x4))] dX12_fair_50 (by decide) rfl rfl ?_
          refine imp_sub [(0, .ref (kad κ 151)), (1, .int (x1)), (2, .int (x2)), (3, .int (x3)), (5, .int ((nI 0))), (6, .int ((nI 0)))] [2, 3, 4, 5, 1, 0] rfl ?_
          refine imp_f_X12_fair_L52 C (x1) (x2) (x3) Rr FU ((nI 0)) ((nI 0)) h
set_option maxHeartbeats 4000000 in
theorem ok_f_X12_fair (x1 : Int32) (x2 : Int32) (x3 : Int32) (x4 : Int32)  (h : CH) : ∀ q, f_X12_fair x1 x2 x3 x4 h = some q → MG yX12_fair cX12_fair 9 (some .int) [] 5 (fun ad => [.ref (ad 151), .int x1, .int x2, .int x3, .int x4]) h ((fun (q : Int32 × CH) (_ : Nat → Nat) => some (Value.int q.1)) q) ((fun (q : (Int32 × CH)) => q.2) q) := mg_of RX12 (by decide) rfl (fun _ => Nat.le_of_ble_eq_true rfl) (fun κ C Rr => imp_f_X12_fair C x1 x2 x3 x4 h Rr)
set_option maxHeartbeats 4000000 in
set_option maxRecDepth 100000 in
theorem imp_f_X12_measure_L17 {κ : Kx Int32} (C : Cx κ cX12_measure RX12 7 4 (40 * 4) []) (x1 : Int32) (x2 : Int32) (x4 : Int32) (h : CH)  (k109 : Int32 → Option Int32) (hk109 : ∀ (x3_3 : Int32), Imp κ 109 [(0, .ref (kad κ 151)), (1, .int (x1)), (2, .int (x2)), (3, .int (x3_3)), (4, .int (x4))] [] h (k109 x3_3)) (Rr : Rt κ (some .int) (fun (x : Int32) (_ : Nat → Nat) => some (Value.int x)) (fun (_ : Int32) => h)) : ∀ (n : Nat) (x3 : Int32) (x5 : Int32), Imp κ 17 [(0, .ref (kad κ 151)), (1, .int (x1)), (2, .int (x2)), (3, .int (x3)), (4, .int (x4)), (5, .int (x5))] [] h (f_X12_measure_L17 x1 x2 x4 h k109 n x3 x5) := by
  intro n
  induction n with
  | zero => intros; exact imp_none
  | succ n ih =>
    intro x3 x5
    rw [f_X12_measure_L17]
    refine r_iload C 19 5 rfl dX12_measure_17 rfl ?_
    refine r_aload_n C 20 0 rfl dX12_measure_19 rfl ?_
    refine r_cVpI C 23 [.int (x5)] (ok_f_X12_many h) dX12_measure_20 lvX12_399 kt_151 rfl rfl rfl (by decide) (Nat.le_of_ble_eq_true rfl) rfl rfl (Nat.le_of_ble_eq_true rfl) rfl rfl (fun v_4 => ?_)
    refine r_icmp_ge C 26 109 dX12_measure_23 (by decide) rfl (fun c_5 => ?_) (fun c_5 => ?_)
    · refine r_iload C 28 4 rfl dX12_measure_26 rfl ?_
      refine r_iload C 30 5 rfl dX12_measure_28 rfl ?_
      refine imp_jn (fun (j_7 : Int32 → Option Int32) => ∀ (x3_6 : Int32), Imp κ 103 [(0, .ref (kad κ 151)), (1, .int (x1)), (2, .int (x2)), (3, .int (x3_6)), (4, .int (x4)), (5, .int (x5))] [] h (j_7 x3_6)) ?_ ?_
      · intro x3_6
        refine r_iinc C 106 5 (nI 1) [(5, .int (x5 + (nI 1))), (0, .ref (kad κ 151)), (1, .int (x1)), (2, .int (x2)), (3, .int (x3_6)), (4, .int (x4))] dX12_measure_103 rfl (by decide) (by decide) rfl rfl ?_
        refine r_goto C 17 dX12_measure_106 (by decide) ?_
        exact imp_sub [(0, .ref (kad κ 151)), (1, .int (x1)), (2, .int (x2)), (3, .int (x3_6)), (4, .int (x4)), (5, .int (x5 + (nI 1)))] [1, 2, 3, 4, 5, 0] rfl (ih (x3_6) (x5 + (nI 1)))
      · intro j_7 hj_7
        refine r_icmp_eq C 33 103 dX12_measure_30 (by decide) rfl (fun c_8 => ?_) (fun c_8 => ?_)
        · exact imp_sub [(0, .ref (kad κ 151)), (1, .int (x1)), (2, .int (x2)), (3, .int (x3)), (4, .int (x4)), (5, .int (x5))] [0, 1, 2, 3, 4, 5] rfl (hj_7 (x3))
        · refine r_aload_n C 34 0 rfl dX12_measure_33 rfl ?_
          refine r_getR C 37 dX12_measure_34 flX12_33 kt_151 rfl rf_151_16 rfl ?_
          refine r_bipush C 39 (nI 16) (by decide) dX12_measure_37 rfl ?_
          refine r_aload_n C 40 0 rfl dX12_measure_39 rfl ?_
          refine r_getI C 43 dX12_measure_40 flX12_269 kt_151 rfl rfl ?_
          refine r_imul C 44 dX12_measure_43 rfl ?_
          refine r_iload C 46 4 rfl dX12_measure_44 rfl ?_
          refine r_iadd C 47 dX12_measure_46 rfl ?_
          refine r_iald C 48 dX12_measure_47 kt_158 rfl rfl (fun v_9 => ?_)
          refine r_iload_n C 49 1 rfl dX12_measure_48 rfl ?_
          refine r_icmp_ne C 52 103 dX12_measure_49 (by decide) rfl (fun c_10 => ?_) (fun c_10 => ?_)
          · refine r_aload_n C 53 0 rfl dX12_measure_52 rfl ?_
            refine r_getR C 56 dX12_measure_53 flX12_33 kt_151 rfl rf_151_16 rfl ?_
            refine r_bipush C 58 (nI 16) (by decide) dX12_measure_56 rfl ?_
            refine r_aload_n C 59 0 rfl dX12_measure_58 rfl ?_
            refine r_getI C 62 dX12_measure_59 flX12_269 kt_151 rfl rfl ?_
            refine r_imul C 63 dX12_measure_62 rfl ?_
            refine r_iload C 65 5 rfl dX12_measure_63 rfl ?_
            refine r_iadd C 66 dX12_measure_65 rfl ?_
            refine r_iald C 67 dX12_measure_66 kt_158 rfl rfl (fun v_11 => ?_)
            refine r_iload_n C 68 2 rfl dX12_measure_67 rfl ?_
            refine r_icmp_eq C 71 74 dX12_measure_68 (by decide) rfl (fun c_12 => ?_) (fun c_12 => ?_)
            · refine r_aload_n C 75 0 rfl dX12_measure_74 rfl ?_
              refine r_iload C 77 4 rfl dX12_measure_75 rfl ?_
              refine r_iconst C 78 (nI 0) (by decide) dX12_measure_77 rfl ?_
              refine r_iload C 80 5 rfl dX12_measure_78 rfl ?_
              refine r_iconst C 81 (nI 0) (by decide) dX12_measure_80 rfl ?_
              refine r_cVpI C 84 [] (ok_f_X12_far x4 ((nI 0)) x5 ((nI 0)) h) dX12_measure_81 lvX12_524 kt_151 rfl rfl rfl (by decide) (Nat.le_of_ble_eq_true rfl) rfl rfl (Nat.le_of_ble_eq_true rfl) rfl rfl (fun v_13 => ?_)
              refine r_istore C 86 [(6, .int (v_13)), (0, .ref (kad κ 151)), (1, .int (x1)), (2, .int (x2)), (3, .int (x3)), (4, .int (x4)), (5, .int (x5))] dX12_measure_84 (by decide) rfl rfl ?_
              refine r_iload_n C 87 4 rfl dX12_measure_86 rfl ?_
              refine imp_jn (fun (j_15 : Int32 → Option Int32) => ∀ (s_14 : Int32), Imp κ 102 [(0, .ref (kad κ 151)), (1, .int (x1)), (2, .int (x2)), (4, .int (x4)), (5, .int (x5))] [.int (s_14)] h (j_15 s_14)) ?_ ?_
              · intro s_14
                refine r_istore_n C 103 3 [(3, .int (s_14)), (0, .ref (kad κ 151)), (1, .int (x1)), (2, .int (x2)), (4, .int (x4)), (5, .int (x5))] dX12_measure_102 rfl (by decide) rfl rfl ?_
                exact imp_sub [(0, .ref (kad κ 151)), (1, .int (x1)), (2, .int (x2)), (3, .int (s_14)), (4, .int (x4)), (5, .int (x5))] [1, 2, 3, 0, 4, 5] rfl (hj_7 (s_14))
              · intro j_15 hj_15
                refine imp_jn (fun (j_16 : Option Int32) =>  Imp κ 96 [(0, .ref (kad κ 151)), (1, .int (x1)), (2, .int (x2)), (4, .int (x4)), (5, .int (x5)), (6, .int (v_13))] [] h (j_16)) ?_ ?_
                · refine r_iload C 98 5 rfl dX12_measure_96 rfl ?_
                  refine r_goto C 102 dX12_measure_98 (by decide) ?_
                  exact imp_sub [(0, .ref (kad κ 151)), (1, .int (x1)), (2, .int (x2)), (4, .int (x4)), (5, .int (x5))] [0, 1, 2, 3, 4] rfl (hj_15 (v_13))
                · intro j_16 hj_16
                  refine r_if_lt C 90 96 dX12_measure_87 (by decide) rfl (fun c_17 => ?_) (fun c_17 => ?_)
                  · exact imp_sub [(0, .ref (kad κ 151)), (1, .int (x1)), (2, .int (x2)), (4, .int (x4)), (5, .int (x5)), (6, .int (v_13))] [1, 2, 3, 5, 6, 0] rfl (hj_16)
                  · refine r_iload C 92 0 rfl dX12_measure_90 rfl ?_
                    refine r_iload_n C 93 4 rfl dX12_measure_92 rfl ?_
                    refine r_icmp_ge C 96 101 dX12_measure_93 (by decide) rfl (fun c_18 => ?_) (fun c_18 => ?_)
                    · exact imp_sub [(0, .ref (kad κ 151)), (1, .int (x1)), (2, .int (x2)), (4, .int (x4)), (5, .int (x5)), (6, .int (v_13))] [1, 2, 3, 5, 6, 0] rfl (hj_16)
                    · refine r_iload_n C 102 4 rfl dX12_measure_101 rfl ?_
                      exact imp_sub [(0, .ref (kad κ 151)), (1, .int (x1)), (2, .int (x2)), (4, .int (x4)), (5, .int (x5))] [1, 2, 3, 5, 6] rfl (hj_15 (x3))
            · refine r_goto C 103 dX12_measure_71 (by decide) ?_
              exact imp_sub [(0, .ref (kad κ 151)), (1, .int (x1)), (2, .int (x2)), (3, .int (x3)), (4, .int (x4)), (5, .int (x5))] [0, 1, 2, 3, 4, 5] rfl (hj_7 (x3))
          · exact imp_sub [(0, .ref (kad κ 151)), (1, .int (x1)), (2, .int (x2)), (3, .int (x3)), (4, .int (x4)), (5, .int (x5))] [0, 1, 2, 3, 4, 5] rfl (hj_7 (x3))
    · exact imp_sub [(0, .ref (kad κ 151)), (1, .int (x1)), (2, .int (x2)), (3, .int (x3)), (4, .int (x4))] [0, 1, 2, 3, 4] rfl (hk109 (x3))
set_option maxHeartbeats 4000000 in
set_option maxRecDepth 100000 in
theorem imp_f_X12_measure_L5 {κ : Kx Int32} (C : Cx κ cX12_measure RX12 7 4 (40 * 4) []) (x1 : Int32) (x2 : Int32) (h : CH)    (Rr : Rt κ (some .int) (fun (x : Int32) (_ : Nat → Nat) => some (Value.int x)) (fun (_ : Int32) => h)) : ∀ (n : Nat) (x3 : Int32) (x4 : Int32), Imp κ 5 [(0, .ref (kad κ 151)), (1, .int (x1)), (2, .int (x2)), (3, .int (x3)), (4, .int (x4))] [] h (f_X12_measure_L5 x1 x2 h n x3 x4) := by
  intro n
  induction n with
  | zero => intros; exact imp_none
  | succ n ih =>
    intro x3 x4
    rw [f_X12_measure_L5]
    refine r_iload C 7 4 rfl dX12_measure_5 rfl ?_
    refine r_aload_n C 8 0 rfl dX12_measure_7 rfl ?_
    refine r_cVpI C 11 [.int (x4)] (ok_f_X12_many h) dX12_measure_8 lvX12_399 kt_151 rfl rfl rfl (by decide) (Nat.le_of_ble_eq_true rfl) rfl rfl (Nat.le_of_ble_eq_true rfl) rfl rfl (fun v_1 => ?_)
    refine r_icmp_ge C 14 115 dX12_measure_11 (by decide) rfl (fun c_2 => ?_) (fun c_2 => ?_)
    · refine r_iconst C 15 (nI 0) (by decide) dX12_measure_14 rfl ?_
      refine r_istore C 17 [(5, .int ((nI 0))), (0, .ref (kad κ 151)), (1, .int (x1)), (2, .int (x2)), (3, .int (x3)), (4, .int (x4))] dX12_measure_15 (by decide) rfl rfl ?_
      refine imp_sub [(0, .ref (kad κ 151)), (1, .int (x1)), (2, .int (x2)), (3, .int (x3)), (4, .int (x4)), (5, .int ((nI 0)))] [1, 2, 3, 4, 5, 0] rfl ?_
      refine imp_f_X12_measure_L17 C (x1) (x2) (x4) h _ ?_ Rr FU (x3) ((nI 0))
      · intro x3_3
        refine r_iinc C 112 4 (nI 1) [(4, .int (x4 + (nI 1))), (0, .ref (kad κ 151)), (1, .int (x1)), (2, .int (x2)), (3, .int (x3_3))] dX12_measure_109 rfl (by decide) (by decide) rfl rfl ?_
        refine r_goto C 5 dX12_measure_112 (by decide) ?_
        exact imp_sub [(0, .ref (kad κ 151)), (1, .int (x1)), (2, .int (x2)), (3, .int (x3_3)), (4, .int (x4 + (nI 1)))] [1, 2, 3, 4, 0] rfl (ih (x3_3) (x4 + (nI 1)))
    · refine r_iload_n C 116 3 rfl dX12_measure_115 rfl ?_
      exact r_iret C Rr dX12_measure_116 (fun _ => rfl) rfl
set_option maxHeartbeats 4000000 in
set_option maxRecDepth 100000 in
theorem imp_f_X12_measure {κ : Kx Int32} (C : Cx κ cX12_measure RX12 7 4 (40 * 4) []) (x1 : Int32) (x2 : Int32)  (h : CH) (Rr : Rt κ (some .int) (fun (x : Int32) (_ : Nat → Nat) => some (Value.int x)) (fun (_ : Int32) => h)) : Imp κ 0 [(0, .ref (kad κ 151)), (1, .int (x1)), (2, .int (x2))] [] h (f_X12_measure x1 x2 h) := by
  unfold f_X12_measure
  refine r_iconst C 1 (-1) (by decide) dX12_measure_0 rfl ?_
  refine r_istore_n C 2 3 [(3, .int ((-1))), (0, .ref (kad κ 151)), (1, .int (x1)), (2, .int (x2))] dX12_measure_1 rfl (by decide) rfl rfl ?_
  refine r_iconst C 3 (nI 0) (by decide) dX12_measure_2 rfl ?_
  refine r_istore C 5 [(4, .int ((nI 0))), (3, .int ((-1))), (0, .ref (kad κ 151)), (1, .int (x1)), (2, .int (x2))] dX12_measure_3 (by decide) rfl rfl ?_
  refine imp_sub [(0, .ref (kad κ 151)), (1, .int (x1)), (2, .int (x2)), (3, .int ((-1))), (4, .int ((nI 0)))] [2, 3, 4, 1, 0] rfl ?_
  refine imp_f_X12_measure_L5 C (x1) (x2) h Rr FU ((-1)) ((nI 0))
set_option maxHeartbeats 4000000 in
theorem ok_f_X12_measure (x1 : Int32) (x2 : Int32)  (h : CH) : ∀ q, f_X12_measure x1 x2 h = some q → MG yX12_measure cX12_measure 7 (some .int) [] 4 (fun ad => [.ref (ad 151), .int x1, .int x2]) h ((fun (x : Int32) (_ : Nat → Nat) => some (Value.int x)) q) ((fun (_ : Int32) => h) q) := mg_of RX12 (by decide) rfl (fun _ => Nat.le_of_ble_eq_true rfl) (fun κ C Rr => imp_f_X12_measure C x1 x2 h Rr)
set_option maxHeartbeats 4000000 in
set_option maxRecDepth 100000 in
theorem imp_f_X12_image_L33 {κ : Kx (Int32 × CH)} (C : Cx κ cX12_image RX12 4 2 (40 * 2) []) (x1 : Int32)    (Rr : Rt κ (some .int) (fun (q : Int32 × CH) (_ : Nat → Nat) => some (Value.int q.1)) (fun (q : (Int32 × CH)) => q.2)) : ∀ (n : Nat) (x2 : Int32) (h : CH), Imp κ 33 [(0, .ref (kad κ 151)), (1, .int (x1)), (2, .int (x2))] [] h (f_X12_image_L33 x1 n x2 h) := by
  intro n
  induction n with
  | zero => intros; exact imp_none
  | succ n ih =>
    intro x2 h
    rw [f_X12_image_L33]
    refine r_iload_n C 34 2 rfl dX12_image_33 rfl ?_
    refine r_aload_n C 35 0 rfl dX12_image_34 rfl ?_
    refine r_getI C 38 dX12_image_35 flX12_275 kt_151 rfl rfl ?_
    refine r_icmp_ge C 41 126 dX12_image_38 (by decide) rfl (fun c_5 => ?_) (fun c_5 => ?_)
    · refine r_bipush C 43 (nI 40) (by decide) dX12_image_41 rfl ?_
      refine r_iload_n C 44 1 rfl dX12_image_43 rfl ?_
      refine r_imul C 45 dX12_image_44 rfl ?_
      refine r_iload_n C 46 2 rfl dX12_image_45 rfl ?_
      refine r_iadd C 47 dX12_image_46 rfl ?_
      refine r_istore_n C 48 3 [(3, .int ((((nI 40)) * (x1)) + (x2))), (0, .ref (kad κ 151)), (1, .int (x1)), (2, .int (x2))] dX12_image_47 rfl (by decide) rfl rfl ?_
      refine r_aload_n C 49 1 rfl dX12_image_48 rfl ?_
      refine r_getR C 52 dX12_image_49 flX12_122 kt_151 rfl rf_151_68 rfl ?_
      refine r_iload_n C 53 0 rfl dX12_image_52 rfl ?_
      refine r_aload_n C 54 1 rfl dX12_image_53 rfl ?_
      refine r_getR C 57 dX12_image_54 flX12_95 kt_151 rfl rf_151_54 rfl ?_
      refine r_iload_n C 58 3 rfl dX12_image_57 rfl ?_
      refine r_iald C 59 dX12_image_58 kt_178 rfl rfl (fun v_6 => ?_)
      refine r_iast C 60 dX12_image_59 kt_187 rfl rfl (fun h_7 => ?_)
      refine r_aload_n C 61 1 rfl dX12_image_60 rfl ?_
      refine r_getR C 64 dX12_image_61 flX12_125 kt_151 rfl rf_151_69 rfl ?_
      refine r_iload_n C 65 0 rfl dX12_image_64 rfl ?_
      refine r_aload_n C 66 1 rfl dX12_image_65 rfl ?_
      refine r_getR C 69 dX12_image_66 flX12_98 kt_151 rfl rf_151_55 rfl ?_
      refine r_iload_n C 70 3 rfl dX12_image_69 rfl ?_
      refine r_iald C 71 dX12_image_70 kt_179 rfl rfl (fun v_8 => ?_)
      refine r_iast C 72 dX12_image_71 kt_188 rfl rfl (fun h_9 => ?_)
      refine r_aload_n C 73 1 rfl dX12_image_72 rfl ?_
      refine r_getR C 76 dX12_image_73 flX12_128 kt_151 rfl rf_151_70 rfl ?_
      refine r_iload_n C 77 0 rfl dX12_image_76 rfl ?_
      refine r_aload_n C 78 1 rfl dX12_image_77 rfl ?_
      refine r_getR C 81 dX12_image_78 flX12_101 kt_151 rfl rf_151_56 rfl ?_
      refine r_iload_n C 82 3 rfl dX12_image_81 rfl ?_
      refine r_iald C 83 dX12_image_82 kt_180 rfl rfl (fun v_10 => ?_)
      refine r_iast C 84 dX12_image_83 kt_189 rfl rfl (fun h_11 => ?_)
      refine r_aload_n C 85 1 rfl dX12_image_84 rfl ?_
      refine r_getR C 88 dX12_image_85 flX12_131 kt_151 rfl rf_151_71 rfl ?_
      refine r_iload_n C 89 0 rfl dX12_image_88 rfl ?_
      refine r_aload_n C 90 1 rfl dX12_image_89 rfl ?_
      refine r_getR C 93 dX12_image_90 flX12_104 kt_151 rfl rf_151_57 rfl ?_
      refine r_iload_n C 94 3 rfl dX12_image_93 rfl ?_
      refine r_iald C 95 dX12_image_94 kt_181 rfl rfl (fun v_12 => ?_)
      refine r_iast C 96 dX12_image_95 kt_190 rfl rfl (fun h_13 => ?_)
      refine r_aload_n C 97 1 rfl dX12_image_96 rfl ?_
      refine r_getR C 100 dX12_image_97 flX12_134 kt_151 rfl rf_151_72 rfl ?_
      refine r_iload_n C 101 0 rfl dX12_image_100 rfl ?_
      refine r_aload_n C 102 1 rfl dX12_image_101 rfl ?_
      refine r_getR C 105 dX12_image_102 flX12_107 kt_151 rfl rf_151_58 rfl ?_
      refine r_iload_n C 106 3 rfl dX12_image_105 rfl ?_
      refine r_iald C 107 dX12_image_106 kt_182 rfl rfl (fun v_14 => ?_)
      refine r_iast C 108 dX12_image_107 kt_191 rfl rfl (fun h_15 => ?_)
      refine r_aload_n C 109 1 rfl dX12_image_108 rfl ?_
      refine r_getR C 112 dX12_image_109 flX12_137 kt_151 rfl rf_151_73 rfl ?_
      refine r_iload_n C 113 0 rfl dX12_image_112 rfl ?_
      refine r_aload_n C 114 1 rfl dX12_image_113 rfl ?_
      refine r_getR C 117 dX12_image_114 flX12_110 kt_151 rfl rf_151_59 rfl ?_
      refine r_iload_n C 118 3 rfl dX12_image_117 rfl ?_
      refine r_iald C 119 dX12_image_118 kt_183 rfl rfl (fun v_16 => ?_)
      refine r_iast C 120 dX12_image_119 kt_192 rfl rfl (fun h_17 => ?_)
      refine r_iinc C 123 3 (nI 1) [(2, .int (x2 + (nI 1))), (3, .int ((((nI 40)) * (x1)) + (x2))), (0, .ref (kad κ 151)), (1, .int (x1))] dX12_image_120 rfl (by decide) (by decide) rfl rfl ?_
      refine r_goto C 33 dX12_image_123 (by decide) ?_
      exact imp_sub [(0, .ref (kad κ 151)), (1, .int (x1)), (2, .int (x2 + (nI 1)))] [2, 3, 0] rfl (ih (x2 + (nI 1)) h_17)
    · refine r_aload_n C 127 0 rfl dX12_image_126 rfl ?_
      refine r_getI C 130 dX12_image_127 flX12_275 kt_151 rfl rfl ?_
      exact r_iret C Rr dX12_image_130 (fun _ => rfl) rfl
set_option maxHeartbeats 4000000 in
set_option maxRecDepth 100000 in
theorem imp_f_X12_image {κ : Kx (Int32 × CH)} (C : Cx κ cX12_image RX12 4 2 (40 * 2) []) (x1 : Int32)  (h : CH) (Rr : Rt κ (some .int) (fun (q : Int32 × CH) (_ : Nat → Nat) => some (Value.int q.1)) (fun (q : (Int32 × CH)) => q.2)) : Imp κ 0 [(0, .ref (kad κ 151)), (1, .int (x1))] [] h (f_X12_image x1 h) := by
  unfold f_X12_image
  refine r_iload_n C 1 1 rfl dX12_image_0 rfl ?_
  refine r_iconst C 2 (nI 0) (by decide) dX12_image_1 rfl ?_
  refine r_iconst C 3 (nI 2) (by decide) dX12_image_2 rfl ?_
  refine r_cSpI C 6 [] (ok_f_X12_isIn x1 ((nI 0)) ((nI 2)) h) dX12_image_3 lsX12_402 rfl (by decide) (Nat.le_of_ble_eq_true rfl) rfl rfl (Nat.le_of_ble_eq_true rfl) rfl rfl (fun v_1 => ?_)
  refine r_if_ne C 9 11 dX12_image_6 (by decide) rfl (fun c_2 => ?_) (fun c_2 => ?_)
  · refine r_iconst C 10 (-1) (by decide) dX12_image_9 rfl ?_
    exact r_iret C Rr dX12_image_10 (fun _ => rfl) rfl
  · refine r_aload_n C 12 0 rfl dX12_image_11 rfl ?_
    refine r_getR C 15 dX12_image_12 flX12_116 kt_151 rfl rf_151_66 rfl ?_
    refine r_iload_n C 16 1 rfl dX12_image_15 rfl ?_
    refine r_aload_n C 17 0 rfl dX12_image_16 rfl ?_
    refine r_getI C 20 dX12_image_17 flX12_275 kt_151 rfl rfl ?_
    refine r_iast C 21 dX12_image_20 kt_185 rfl rfl (fun h_3 => ?_)
    refine r_aload_n C 22 0 rfl dX12_image_21 rfl ?_
    refine r_getR C 25 dX12_image_22 flX12_119 kt_151 rfl rf_151_67 rfl ?_
    refine r_iload_n C 26 1 rfl dX12_image_25 rfl ?_
    refine r_aload_n C 27 0 rfl dX12_image_26 rfl ?_
    refine r_getI C 30 dX12_image_27 flX12_458 kt_151 rfl rfl ?_
    refine r_iast C 31 dX12_image_30 kt_186 rfl rfl (fun h_4 => ?_)
    refine r_iconst C 32 (nI 0) (by decide) dX12_image_31 rfl ?_
    refine r_istore_n C 33 2 [(2, .int ((nI 0))), (0, .ref (kad κ 151)), (1, .int (x1))] dX12_image_32 rfl (by decide) rfl rfl ?_
    refine imp_sub [(0, .ref (kad κ 151)), (1, .int (x1)), (2, .int ((nI 0)))] [1, 2, 0] rfl ?_
    refine imp_f_X12_image_L33 C (x1) Rr FU ((nI 0)) h_4
set_option maxHeartbeats 4000000 in
theorem ok_f_X12_image (x1 : Int32)  (h : CH) : ∀ q, f_X12_image x1 h = some q → MG yX12_image cX12_image 4 (some .int) [] 2 (fun ad => [.ref (ad 151), .int x1]) h ((fun (q : Int32 × CH) (_ : Nat → Nat) => some (Value.int q.1)) q) ((fun (q : (Int32 × CH)) => q.2) q) := mg_of RX12 (by decide) rfl (fun _ => Nat.le_of_ble_eq_true rfl) (fun κ C Rr => imp_f_X12_image C x1 h Rr)
set_option maxHeartbeats 4000000 in
set_option maxRecDepth 100000 in
theorem imp_f_X12_back_L42 {κ : Kx (Int32 × CH)} (C : Cx κ cX12_back RX12 4 2 (40 * 2) []) (x1 : Int32)    (Rr : Rt κ (some .int) (fun (q : Int32 × CH) (_ : Nat → Nat) => some (Value.int q.1)) (fun (q : (Int32 × CH)) => q.2)) : ∀ (n : Nat) (x2 : Int32) (h : CH), Imp κ 42 [(0, .ref (kad κ 151)), (1, .int (x1)), (2, .int (x2))] [] h (f_X12_back_L42 x1 n x2 h) := by
  intro n
  induction n with
  | zero => intros; exact imp_none
  | succ n ih =>
    intro x2 h
    rw [f_X12_back_L42]
    refine r_iload_n C 43 2 rfl dX12_back_42 rfl ?_
    refine r_aload_n C 44 0 rfl dX12_back_43 rfl ?_
    refine r_getI C 47 dX12_back_44 flX12_275 kt_151 rfl rfl ?_
    refine r_icmp_ge C 50 135 dX12_back_47 (by decide) rfl (fun c_9 => ?_) (fun c_9 => ?_)
    · refine r_bipush C 52 (nI 40) (by decide) dX12_back_50 rfl ?_
      refine r_iload_n C 53 1 rfl dX12_back_52 rfl ?_
      refine r_imul C 54 dX12_back_53 rfl ?_
      refine r_iload_n C 55 2 rfl dX12_back_54 rfl ?_
      refine r_iadd C 56 dX12_back_55 rfl ?_
      refine r_istore_n C 57 3 [(3, .int ((((nI 40)) * (x1)) + (x2))), (0, .ref (kad κ 151)), (1, .int (x1)), (2, .int (x2))] dX12_back_56 rfl (by decide) rfl rfl ?_
      refine r_aload_n C 58 1 rfl dX12_back_57 rfl ?_
      refine r_getR C 61 dX12_back_58 flX12_95 kt_151 rfl rf_151_54 rfl ?_
      refine r_iload_n C 62 3 rfl dX12_back_61 rfl ?_
      refine r_aload_n C 63 1 rfl dX12_back_62 rfl ?_
      refine r_getR C 66 dX12_back_63 flX12_122 kt_151 rfl rf_151_68 rfl ?_
      refine r_iload_n C 67 0 rfl dX12_back_66 rfl ?_
      refine r_iald C 68 dX12_back_67 kt_187 rfl rfl (fun v_10 => ?_)
      refine r_iast C 69 dX12_back_68 kt_178 rfl rfl (fun h_11 => ?_)
      refine r_aload_n C 70 1 rfl dX12_back_69 rfl ?_
      refine r_getR C 73 dX12_back_70 flX12_98 kt_151 rfl rf_151_55 rfl ?_
      refine r_iload_n C 74 3 rfl dX12_back_73 rfl ?_
      refine r_aload_n C 75 1 rfl dX12_back_74 rfl ?_
      refine r_getR C 78 dX12_back_75 flX12_125 kt_151 rfl rf_151_69 rfl ?_
      refine r_iload_n C 79 0 rfl dX12_back_78 rfl ?_
      refine r_iald C 80 dX12_back_79 kt_188 rfl rfl (fun v_12 => ?_)
      refine r_iast C 81 dX12_back_80 kt_179 rfl rfl (fun h_13 => ?_)
      refine r_aload_n C 82 1 rfl dX12_back_81 rfl ?_
      refine r_getR C 85 dX12_back_82 flX12_101 kt_151 rfl rf_151_56 rfl ?_
      refine r_iload_n C 86 3 rfl dX12_back_85 rfl ?_
      refine r_aload_n C 87 1 rfl dX12_back_86 rfl ?_
      refine r_getR C 90 dX12_back_87 flX12_128 kt_151 rfl rf_151_70 rfl ?_
      refine r_iload_n C 91 0 rfl dX12_back_90 rfl ?_
      refine r_iald C 92 dX12_back_91 kt_189 rfl rfl (fun v_14 => ?_)
      refine r_iast C 93 dX12_back_92 kt_180 rfl rfl (fun h_15 => ?_)
      refine r_aload_n C 94 1 rfl dX12_back_93 rfl ?_
      refine r_getR C 97 dX12_back_94 flX12_104 kt_151 rfl rf_151_57 rfl ?_
      refine r_iload_n C 98 3 rfl dX12_back_97 rfl ?_
      refine r_aload_n C 99 1 rfl dX12_back_98 rfl ?_
      refine r_getR C 102 dX12_back_99 flX12_131 kt_151 rfl rf_151_71 rfl ?_
      refine r_iload_n C 103 0 rfl dX12_back_102 rfl ?_
      refine r_iald C 104 dX12_back_103 kt_190 rfl rfl (fun v_16 => ?_)
      refine r_iast C 105 dX12_back_104 kt_181 rfl rfl (fun h_17 => ?_)
      refine r_aload_n C 106 1 rfl dX12_back_105 rfl ?_
      refine r_getR C 109 dX12_back_106 flX12_107 kt_151 rfl rf_151_58 rfl ?_
      refine r_iload_n C 110 3 rfl dX12_back_109 rfl ?_
      refine r_aload_n C 111 1 rfl dX12_back_110 rfl ?_
      refine r_getR C 114 dX12_back_111 flX12_134 kt_151 rfl rf_151_72 rfl ?_
      refine r_iload_n C 115 0 rfl dX12_back_114 rfl ?_
      refine r_iald C 116 dX12_back_115 kt_191 rfl rfl (fun v_18 => ?_)
      refine r_iast C 117 dX12_back_116 kt_182 rfl rfl (fun h_19 => ?_)
      refine r_aload_n C 118 1 rfl dX12_back_117 rfl ?_
      refine r_getR C 121 dX12_back_118 flX12_110 kt_151 rfl rf_151_59 rfl ?_
      refine r_iload_n C 122 3 rfl dX12_back_121 rfl ?_
      refine r_aload_n C 123 1 rfl dX12_back_122 rfl ?_
      refine r_getR C 126 dX12_back_123 flX12_137 kt_151 rfl rf_151_73 rfl ?_
      refine r_iload_n C 127 0 rfl dX12_back_126 rfl ?_
      refine r_iald C 128 dX12_back_127 kt_192 rfl rfl (fun v_20 => ?_)
      refine r_iast C 129 dX12_back_128 kt_183 rfl rfl (fun h_21 => ?_)
      refine r_iinc C 132 3 (nI 1) [(2, .int (x2 + (nI 1))), (3, .int ((((nI 40)) * (x1)) + (x2))), (0, .ref (kad κ 151)), (1, .int (x1))] dX12_back_129 rfl (by decide) (by decide) rfl rfl ?_
      refine r_goto C 42 dX12_back_132 (by decide) ?_
      exact imp_sub [(0, .ref (kad κ 151)), (1, .int (x1)), (2, .int (x2 + (nI 1)))] [2, 3, 0] rfl (ih (x2 + (nI 1)) h_21)
    · refine r_aload_n C 136 0 rfl dX12_back_135 rfl ?_
      refine r_getI C 139 dX12_back_136 flX12_275 kt_151 rfl rfl ?_
      exact r_iret C Rr dX12_back_139 (fun _ => rfl) rfl
set_option maxHeartbeats 4000000 in
set_option maxRecDepth 100000 in
theorem imp_f_X12_back {κ : Kx (Int32 × CH)} (C : Cx κ cX12_back RX12 4 2 (40 * 2) []) (x1 : Int32)  (h : CH) (Rr : Rt κ (some .int) (fun (q : Int32 × CH) (_ : Nat → Nat) => some (Value.int q.1)) (fun (q : (Int32 × CH)) => q.2)) : Imp κ 0 [(0, .ref (kad κ 151)), (1, .int (x1))] [] h (f_X12_back x1 h) := by
  unfold f_X12_back
  refine r_iload_n C 1 1 rfl dX12_back_0 rfl ?_
  refine r_iconst C 2 (nI 0) (by decide) dX12_back_1 rfl ?_
  refine r_iconst C 3 (nI 2) (by decide) dX12_back_2 rfl ?_
  refine r_cSpI C 6 [] (ok_f_X12_isIn x1 ((nI 0)) ((nI 2)) h) dX12_back_3 lsX12_402 rfl (by decide) (Nat.le_of_ble_eq_true rfl) rfl rfl (Nat.le_of_ble_eq_true rfl) rfl rfl (fun v_1 => ?_)
  refine r_if_eq C 9 18 dX12_back_6 (by decide) rfl (fun c_2 => ?_) (fun c_2 => ?_)
  · refine r_iconst C 19 (-1) (by decide) dX12_back_18 rfl ?_
    exact r_iret C Rr dX12_back_19 (fun _ => rfl) rfl
  · refine r_aload_n C 10 0 rfl dX12_back_9 rfl ?_
    refine r_getR C 13 dX12_back_10 flX12_116 kt_151 rfl rf_151_66 rfl ?_
    refine r_iload_n C 14 1 rfl dX12_back_13 rfl ?_
    refine r_iald C 15 dX12_back_14 kt_185 rfl rfl (fun v_3 => ?_)
    refine r_if_ge C 18 20 dX12_back_15 (by decide) rfl (fun c_4 => ?_) (fun c_4 => ?_)
    · refine r_iconst C 19 (-1) (by decide) dX12_back_18 rfl ?_
      exact r_iret C Rr dX12_back_19 (fun _ => rfl) rfl
    · refine r_aload_n C 21 0 rfl dX12_back_20 rfl ?_
      refine r_aload_n C 22 0 rfl dX12_back_21 rfl ?_
      refine r_getR C 25 dX12_back_22 flX12_116 kt_151 rfl rf_151_66 rfl ?_
      refine r_iload_n C 26 1 rfl dX12_back_25 rfl ?_
      refine r_iald C 27 dX12_back_26 kt_185 rfl rfl (fun v_5 => ?_)
      refine r_putI C 30 dX12_back_27 flX12_275 kt_151 rfl rfl (fun h_6 => ?_)
      refine r_aload_n C 31 0 rfl dX12_back_30 rfl ?_
      refine r_aload_n C 32 0 rfl dX12_back_31 rfl ?_
      refine r_getR C 35 dX12_back_32 flX12_119 kt_151 rfl rf_151_67 rfl ?_
      refine r_iload_n C 36 1 rfl dX12_back_35 rfl ?_
      refine r_iald C 37 dX12_back_36 kt_186 rfl rfl (fun v_7 => ?_)
      refine r_putI C 40 dX12_back_37 flX12_458 kt_151 rfl rfl (fun h_8 => ?_)
      refine r_iconst C 41 (nI 0) (by decide) dX12_back_40 rfl ?_
      refine r_istore_n C 42 2 [(2, .int ((nI 0))), (0, .ref (kad κ 151)), (1, .int (x1))] dX12_back_41 rfl (by decide) rfl rfl ?_
      refine imp_sub [(0, .ref (kad κ 151)), (1, .int (x1)), (2, .int ((nI 0)))] [1, 2, 0] rfl ?_
      refine imp_f_X12_back_L42 C (x1) Rr FU ((nI 0)) h_8
set_option maxHeartbeats 4000000 in
theorem ok_f_X12_back (x1 : Int32)  (h : CH) : ∀ q, f_X12_back x1 h = some q → MG yX12_back cX12_back 4 (some .int) [] 2 (fun ad => [.ref (ad 151), .int x1]) h ((fun (q : Int32 × CH) (_ : Nat → Nat) => some (Value.int q.1)) q) ((fun (q : (Int32 × CH)) => q.2) q) := mg_of RX12 (by decide) rfl (fun _ => Nat.le_of_ble_eq_true rfl) (fun κ C Rr => imp_f_X12_back C x1 h Rr)
