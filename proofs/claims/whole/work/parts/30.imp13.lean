/-! the methods do what the functions say, by program -/
set_option maxHeartbeats 4000000 in
set_option maxRecDepth 100000 in
theorem imp_f_X10_readRow_L15 {κ : Kx (Int32 × CH)} (C : Cx κ cX10_readRow RX10 2 3 (40 * 3) [193])     (Rr : Rt κ (some .boolean) (fun (q : Int32 × CH) (_ : Nat → Nat) => some (Value.int q.1)) (fun (q : (Int32 × CH)) => q.2)) : ∀ (n : Nat) (x1 : Int32) (h : CH), Imp κ 15 [(0, .ref (kad κ 193)), (1, .int (x1))] [] h (f_X10_readRow_L15 n x1 h) := by
  intro n
  induction n with
  | zero => intros; exact imp_none
  | succ n ih =>
    intro x1 h
    rw [f_X10_readRow_L15]
    refine r_iload_n C 16 1 rfl dX10_readRow_15 rfl ?_
    refine r_aload_n C 17 0 rfl dX10_readRow_16 rfl ?_
    refine r_getR C 20 dX10_readRow_17 flX10_26 kt_193 rfl rf_193_1 rfl ?_
    refine r_getI C 23 dX10_readRow_20 flX10_76 kt_31 rfl rfl ?_
    refine r_icmp_ge C 26 69 dX10_readRow_23 (by decide) rfl (fun c_4 => ?_) (fun c_4 => ?_)
    · refine r_aload_n C 27 0 rfl dX10_readRow_26 rfl ?_
      refine r_getR C 30 dX10_readRow_27 flX10_22 kt_193 rfl rf_193_0 rfl ?_
      refine r_iconst C 31 (nI 0) (by decide) dX10_readRow_30 rfl ?_
      refine r_bipush C 33 (nI 99) (by decide) dX10_readRow_31 rfl ?_
      refine r_cViI C 36 [] (ok_f_X8_isNumber ((nI 0)) ((nI 99)) h) dX10_readRow_33 lvX10_69 kt_2 rfl rfl rfl (by decide) (Nat.le_of_ble_eq_true rfl) rfl rfl (Nat.le_of_ble_eq_true rfl) rfl rfl (fun v_5 h_6 => ?_)
      refine r_if_ne C 39 41 dX10_readRow_36 (by decide) rfl (fun c_7 => ?_) (fun c_7 => ?_)
      · refine r_iconst C 40 (nI 0) (by decide) dX10_readRow_39 rfl ?_
        exact r_zret C Rr (by decide) dX10_readRow_40 (fun _ => rfl) rfl
      · refine r_aload_n C 42 0 rfl dX10_readRow_41 rfl ?_
        refine r_getR C 45 dX10_readRow_42 flX10_26 kt_193 rfl rf_193_1 rfl ?_
        refine r_iload_n C 46 1 rfl dX10_readRow_45 rfl ?_
        refine r_aload_n C 47 0 rfl dX10_readRow_46 rfl ?_
        refine r_getR C 50 dX10_readRow_47 flX10_22 kt_193 rfl rf_193_0 rfl ?_
        refine r_getI C 53 dX10_readRow_50 flX10_73 kt_2 rfl rfl ?_
        refine r_cViV C 56 [] (ok_f_X9_setNextMeasure_31 x1 (h_6.1 2 11) h_6) dX10_readRow_53 lvX10_100 kt_31 rfl rfl rfl (by decide) (Nat.le_of_ble_eq_true rfl) rfl rfl (Nat.le_of_ble_eq_true rfl) rfl rfl (fun _ h_8 => ?_)
        refine r_aload_n C 57 0 rfl dX10_readRow_56 rfl ?_
        refine r_getR C 60 dX10_readRow_57 flX10_22 kt_193 rfl rf_193_0 rfl ?_
        refine r_cViV C 63 [] (ok_f_X8_step h_8) dX10_readRow_60 lvX10_66 kt_2 rfl rfl rfl (by decide) (Nat.le_of_ble_eq_true rfl) rfl rfl (Nat.le_of_ble_eq_true rfl) rfl rfl (fun _ h_9 => ?_)
        refine r_iinc C 66 1 (nI 1) [(1, .int (x1 + (nI 1))), (0, .ref (kad κ 193))] dX10_readRow_63 rfl (by decide) (by decide) rfl rfl ?_
        refine r_goto C 15 dX10_readRow_66 (by decide) ?_
        exact imp_sub [(0, .ref (kad κ 193)), (1, .int (x1 + (nI 1)))] [1, 0] rfl (ih (x1 + (nI 1)) h_9)
    · refine r_iconst C 70 (nI 1) (by decide) dX10_readRow_69 rfl ?_
      exact r_zret C Rr (by decide) dX10_readRow_70 (fun _ => rfl) rfl
set_option maxHeartbeats 4000000 in
set_option maxRecDepth 100000 in
theorem imp_f_X10_readRow {κ : Kx (Int32 × CH)} (C : Cx κ cX10_readRow RX10 2 3 (40 * 3) [193])   (h : CH) (Rr : Rt κ (some .boolean) (fun (q : Int32 × CH) (_ : Nat → Nat) => some (Value.int q.1)) (fun (q : (Int32 × CH)) => q.2)) : Imp κ 0 [(0, .ref (kad κ 193))] [] h (f_X10_readRow h) := by
  unfold f_X10_readRow
  refine r_aload_n C 1 0 rfl dX10_readRow_0 rfl ?_
  refine r_getR C 4 dX10_readRow_1 flX10_22 kt_193 rfl rf_193_0 rfl ?_
  refine r_iconst C 5 (nI 4) (by decide) dX10_readRow_4 rfl ?_
  refine r_cViI C 8 [] (ok_f_X8_take ((nI 4)) h) dX10_readRow_5 lvX10_79 kt_2 rfl rfl rfl (by decide) (Nat.le_of_ble_eq_true rfl) rfl rfl (Nat.le_of_ble_eq_true rfl) rfl rfl (fun v_1 h_2 => ?_)
  refine r_if_ne C 11 13 dX10_readRow_8 (by decide) rfl (fun c_3 => ?_) (fun c_3 => ?_)
  · refine r_iconst C 12 (nI 0) (by decide) dX10_readRow_11 rfl ?_
    exact r_zret C Rr (by decide) dX10_readRow_12 (fun _ => rfl) rfl
  · refine r_iconst C 14 (nI 0) (by decide) dX10_readRow_13 rfl ?_
    refine r_istore_n C 15 1 [(1, .int ((nI 0))), (0, .ref (kad κ 193))] dX10_readRow_14 rfl (by decide) rfl rfl ?_
    refine imp_sub [(0, .ref (kad κ 193)), (1, .int ((nI 0)))] [1, 0] rfl ?_
    refine imp_f_X10_readRow_L15 C Rr FU ((nI 0)) h_2
set_option maxHeartbeats 4000000 in
theorem ok_f_X10_readRow   (h : CH) : ∀ q, f_X10_readRow h = some q → MG yX10_readRow cX10_readRow 2 (some .boolean) [193] 3 (fun ad => [.ref (ad 193)]) h ((fun (q : Int32 × CH) (_ : Nat → Nat) => some (Value.int q.1)) q) ((fun (q : (Int32 × CH)) => q.2) q) := mg_of RX10 (by decide) rfl (fun _ => Nat.le_of_ble_eq_true rfl) (fun κ C Rr => imp_f_X10_readRow C  h Rr)
set_option maxHeartbeats 4000000 in
set_option maxRecDepth 100000 in
theorem imp_f_X9_add_31 {κ : Kx (Unit × CH)} (C : Cx κ cX9_add RX9 5 1 (40 * 1) []) (x1 : Int64) (x3 : Int32) (x4 : Int32)  (h : CH) (Rr : Rt κ none (fun (_ : Unit × CH) (_ : Nat → Nat) => (none : Option Value)) (fun (q : (Unit × CH)) => q.2)) : Imp κ 0 [(0, .ref (kad κ 31)), (1, .long (x1)), (3, .int (x3)), (4, .int (x4))] [] h (f_X9_add_31 x1 x3 x4 h) := by
  unfold f_X9_add_31
  refine r_aload_n C 1 0 rfl dX9_add_0 rfl ?_
  refine r_getI C 4 dX9_add_1 flX9_18 kt_31 rfl rfl ?_
  refine r_bipush C 6 (nI 16) (by decide) dX9_add_4 rfl ?_
  refine r_icmp_ge C 9 50 dX9_add_6 (by decide) rfl (fun c_1 => ?_) (fun c_1 => ?_)
  · refine r_aload_n C 10 0 rfl dX9_add_9 rfl ?_
    refine r_getR C 13 dX9_add_10 flX9_24 kt_31 rfl rf_31_4 rfl ?_
    refine r_aload_n C 14 0 rfl dX9_add_13 rfl ?_
    refine r_getI C 17 dX9_add_14 flX9_18 kt_31 rfl rfl ?_
    refine r_lload_n C 18 1 rfl dX9_add_17 rfl ?_
    refine r_last C 19 dX9_add_18 kt_32 rfl rfl (fun h_2 => ?_)
    refine r_aload_n C 20 0 rfl dX9_add_19 rfl ?_
    refine r_getR C 23 dX9_add_20 flX9_28 kt_31 rfl rf_31_5 rfl ?_
    refine r_aload_n C 24 0 rfl dX9_add_23 rfl ?_
    refine r_getI C 27 dX9_add_24 flX9_18 kt_31 rfl rfl ?_
    refine r_iload_n C 28 2 rfl dX9_add_27 rfl ?_
    refine r_iast C 29 dX9_add_28 kt_33 rfl rfl (fun h_3 => ?_)
    refine r_aload_n C 30 0 rfl dX9_add_29 rfl ?_
    refine r_getR C 33 dX9_add_30 flX9_32 kt_31 rfl rf_31_6 rfl ?_
    refine r_aload_n C 34 0 rfl dX9_add_33 rfl ?_
    refine r_getI C 37 dX9_add_34 flX9_18 kt_31 rfl rfl ?_
    refine r_iload C 39 3 rfl dX9_add_37 rfl ?_
    refine r_iast C 40 dX9_add_39 kt_34 rfl rfl (fun h_4 => ?_)
    refine r_aload_n C 41 0 rfl dX9_add_40 rfl ?_
    refine r_dup C 42 rfl dX9_add_41 rfl ?_
    refine r_getI C 45 dX9_add_42 flX9_18 kt_31 rfl rfl ?_
    refine r_iconst C 46 (nI 1) (by decide) dX9_add_45 rfl ?_
    refine r_iadd C 47 dX9_add_46 rfl ?_
    refine r_putI C 50 dX9_add_47 flX9_18 kt_31 rfl rfl (fun h_5 => ?_)
    exact r_vret C Rr dX9_add_50 (fun _ => rfl) rfl
  · exact r_vret C Rr dX9_add_50 (fun _ => rfl) rfl
set_option maxHeartbeats 4000000 in
theorem ok_f_X9_add_31 (x1 : Int64) (x3 : Int32) (x4 : Int32)  (h : CH) : ∀ q, f_X9_add_31 x1 x3 x4 h = some q → MG yX9_add cX9_add 5 none [] 1 (fun ad => [.ref (ad 31), .long x1, .int x3, .int x4]) h ((fun (_ : Unit × CH) (_ : Nat → Nat) => (none : Option Value)) q) ((fun (q : (Unit × CH)) => q.2) q) := mg_of RX9 (by decide) rfl (fun _ => Nat.le_of_ble_eq_true rfl) (fun κ C Rr => imp_f_X9_add_31 C x1 x3 x4 h Rr)
set_option maxHeartbeats 4000000 in
set_option maxRecDepth 100000 in
theorem imp_f_X10_readFace {κ : Kx (Int32 × CH)} (C : Cx κ cX10_readFace RX10 5 4 (40 * 4) [193])   (h : CH) (Rr : Rt κ (some .boolean) (fun (q : Int32 × CH) (_ : Nat → Nat) => some (Value.int q.1)) (fun (q : (Int32 × CH)) => q.2)) : Imp κ 0 [(0, .ref (kad κ 193))] [] h (f_X10_readFace h) := by
  unfold f_X10_readFace
  refine r_aload_n C 1 0 rfl dX10_readFace_0 rfl ?_
  refine r_getR C 4 dX10_readFace_1 flX10_26 kt_193 rfl rf_193_1 rfl ?_
  refine r_getI C 7 dX10_readFace_4 flX10_63 kt_31 rfl rfl ?_
  refine r_bipush C 9 (nI 16) (by decide) dX10_readFace_7 rfl ?_
  refine r_icmp_lt C 12 21 dX10_readFace_9 (by decide) rfl (fun c_1 => ?_) (fun c_1 => ?_)
  · refine r_aload_n C 22 0 rfl dX10_readFace_21 rfl ?_
    refine r_getR C 25 dX10_readFace_22 flX10_22 kt_193 rfl rf_193_0 rfl ?_
    refine r_cViV C 28 [] (ok_f_X8_step h) dX10_readFace_25 lvX10_66 kt_2 rfl rfl rfl (by decide) (Nat.le_of_ble_eq_true rfl) rfl rfl (Nat.le_of_ble_eq_true rfl) rfl rfl (fun _ h_2 => ?_)
    refine r_aload_n C 29 0 rfl dX10_readFace_28 rfl ?_
    refine r_getR C 32 dX10_readFace_29 flX10_22 kt_193 rfl rf_193_0 rfl ?_
    refine r_getI C 35 dX10_readFace_32 flX10_35 kt_2 rfl rfl ?_
    refine r_bipush C 37 (nI 24) (by decide) dX10_readFace_35 rfl ?_
    refine r_icmp_eq C 40 49 dX10_readFace_37 (by decide) rfl (fun c_3 => ?_) (fun c_3 => ?_)
    · refine r_aload_n C 50 0 rfl dX10_readFace_49 rfl ?_
      refine r_getR C 53 dX10_readFace_50 flX10_22 kt_193 rfl rf_193_0 rfl ?_
      refine r_getL C 56 dX10_readFace_53 flX10_85 kt_2 rfl rfl ?_
      refine r_lstore_n C 57 1 [(1, .long (h_2.2 2 12)), (0, .ref (kad κ 193))] dX10_readFace_56 rfl (by decide) rfl rfl ?_
      refine r_aload_n C 58 1 rfl dX10_readFace_57 rfl ?_
      refine r_getR C 61 dX10_readFace_58 flX10_26 kt_193 rfl rf_193_1 rfl ?_
      refine r_lload_n C 62 0 rfl dX10_readFace_61 rfl ?_
      refine r_cVpI C 65 [] (ok_f_X9_named_31 (h_2.2 2 12) h_2) dX10_readFace_62 lvX10_89 kt_31 rfl rfl rfl (by decide) (Nat.le_of_ble_eq_true rfl) rfl rfl (Nat.le_of_ble_eq_true rfl) rfl rfl (fun v_4 => ?_)
      refine r_iconst C 66 (-1) (by decide) dX10_readFace_65 rfl ?_
      refine r_icmp_eq C 69 78 dX10_readFace_66 (by decide) rfl (fun c_5 => ?_) (fun c_5 => ?_)
      · refine r_aload_n C 79 1 rfl dX10_readFace_78 rfl ?_
        refine r_getR C 82 dX10_readFace_79 flX10_22 kt_193 rfl rf_193_0 rfl ?_
        refine r_cViV C 85 [] (ok_f_X8_step h_2) dX10_readFace_82 lvX10_66 kt_2 rfl rfl rfl (by decide) (Nat.le_of_ble_eq_true rfl) rfl rfl (Nat.le_of_ble_eq_true rfl) rfl rfl (fun _ h_6 => ?_)
        refine r_aload_n C 86 1 rfl dX10_readFace_85 rfl ?_
        refine r_getR C 89 dX10_readFace_86 flX10_22 kt_193 rfl rf_193_0 rfl ?_
        refine r_iconst C 90 (nI 2) (by decide) dX10_readFace_89 rfl ?_
        refine r_cViI C 93 [] (ok_f_X8_take ((nI 2)) h_6) dX10_readFace_90 lvX10_79 kt_2 rfl rfl rfl (by decide) (Nat.le_of_ble_eq_true rfl) rfl rfl (Nat.le_of_ble_eq_true rfl) rfl rfl (fun v_7 h_8 => ?_)
        refine r_if_eq C 96 108 dX10_readFace_93 (by decide) rfl (fun c_9 => ?_) (fun c_9 => ?_)
        · refine r_iconst C 109 (nI 0) (by decide) dX10_readFace_108 rfl ?_
          exact r_zret C Rr (by decide) dX10_readFace_109 (fun _ => rfl) rfl
        · refine r_aload_n C 97 1 rfl dX10_readFace_96 rfl ?_
          refine r_getR C 100 dX10_readFace_97 flX10_22 kt_193 rfl rf_193_0 rfl ?_
          refine r_iconst C 101 (nI 0) (by decide) dX10_readFace_100 rfl ?_
          refine r_iconst C 102 (nI 3) (by decide) dX10_readFace_101 rfl ?_
          refine r_cViI C 105 [] (ok_f_X8_isNumber ((nI 0)) ((nI 3)) h_8) dX10_readFace_102 lvX10_69 kt_2 rfl rfl rfl (by decide) (Nat.le_of_ble_eq_true rfl) rfl rfl (Nat.le_of_ble_eq_true rfl) rfl rfl (fun v_10 h_11 => ?_)
          refine r_if_ne C 108 110 dX10_readFace_105 (by decide) rfl (fun c_12 => ?_) (fun c_12 => ?_)
          · refine r_iconst C 109 (nI 0) (by decide) dX10_readFace_108 rfl ?_
            exact r_zret C Rr (by decide) dX10_readFace_109 (fun _ => rfl) rfl
          · refine r_aload_n C 111 1 rfl dX10_readFace_110 rfl ?_
            refine r_getR C 114 dX10_readFace_111 flX10_22 kt_193 rfl rf_193_0 rfl ?_
            refine r_getI C 117 dX10_readFace_114 flX10_73 kt_2 rfl rfl ?_
            refine r_istore_n C 118 3 [(3, .int (h_11.1 2 11)), (1, .long (h_2.2 2 12)), (0, .ref (kad κ 193))] dX10_readFace_117 rfl (by decide) rfl rfl ?_
            refine r_aload_n C 119 2 rfl dX10_readFace_118 rfl ?_
            refine r_getR C 122 dX10_readFace_119 flX10_22 kt_193 rfl rf_193_0 rfl ?_
            refine r_cViV C 125 [] (ok_f_X8_step h_11) dX10_readFace_122 lvX10_66 kt_2 rfl rfl rfl (by decide) (Nat.le_of_ble_eq_true rfl) rfl rfl (Nat.le_of_ble_eq_true rfl) rfl rfl (fun _ h_13 => ?_)
            refine r_aload_n C 126 2 rfl dX10_readFace_125 rfl ?_
            refine r_getR C 129 dX10_readFace_126 flX10_22 kt_193 rfl rf_193_0 rfl ?_
            refine r_iconst C 130 (nI 3) (by decide) dX10_readFace_129 rfl ?_
            refine r_cViI C 133 [] (ok_f_X8_take ((nI 3)) h_13) dX10_readFace_130 lvX10_79 kt_2 rfl rfl rfl (by decide) (Nat.le_of_ble_eq_true rfl) rfl rfl (Nat.le_of_ble_eq_true rfl) rfl rfl (fun v_14 h_15 => ?_)
            refine r_if_eq C 136 149 dX10_readFace_133 (by decide) rfl (fun c_16 => ?_) (fun c_16 => ?_)
            · refine r_iconst C 150 (nI 0) (by decide) dX10_readFace_149 rfl ?_
              exact r_zret C Rr (by decide) dX10_readFace_150 (fun _ => rfl) rfl
            · refine r_aload_n C 137 2 rfl dX10_readFace_136 rfl ?_
              refine r_getR C 140 dX10_readFace_137 flX10_22 kt_193 rfl rf_193_0 rfl ?_
              refine r_iconst C 141 (nI 0) (by decide) dX10_readFace_140 rfl ?_
              refine r_bipush C 143 (nI 9) (by decide) dX10_readFace_141 rfl ?_
              refine r_cViI C 146 [] (ok_f_X8_isNumber ((nI 0)) ((nI 9)) h_15) dX10_readFace_143 lvX10_69 kt_2 rfl rfl rfl (by decide) (Nat.le_of_ble_eq_true rfl) rfl rfl (Nat.le_of_ble_eq_true rfl) rfl rfl (fun v_17 h_18 => ?_)
              refine r_if_ne C 149 151 dX10_readFace_146 (by decide) rfl (fun c_19 => ?_) (fun c_19 => ?_)
              · refine r_iconst C 150 (nI 0) (by decide) dX10_readFace_149 rfl ?_
                exact r_zret C Rr (by decide) dX10_readFace_150 (fun _ => rfl) rfl
              · refine r_aload_n C 152 2 rfl dX10_readFace_151 rfl ?_
                refine r_getR C 155 dX10_readFace_152 flX10_22 kt_193 rfl rf_193_0 rfl ?_
                refine r_getI C 158 dX10_readFace_155 flX10_73 kt_2 rfl rfl ?_
                refine r_istore C 160 [(4, .int (h_18.1 2 11)), (3, .int (h_11.1 2 11)), (1, .long (h_2.2 2 12)), (0, .ref (kad κ 193))] dX10_readFace_158 (by decide) rfl rfl ?_
                refine r_aload_n C 161 3 rfl dX10_readFace_160 rfl ?_
                refine r_getR C 164 dX10_readFace_161 flX10_22 kt_193 rfl rf_193_0 rfl ?_
                refine r_cViV C 167 [] (ok_f_X8_step h_18) dX10_readFace_164 lvX10_66 kt_2 rfl rfl rfl (by decide) (Nat.le_of_ble_eq_true rfl) rfl rfl (Nat.le_of_ble_eq_true rfl) rfl rfl (fun _ h_20 => ?_)
                refine r_aload_n C 168 3 rfl dX10_readFace_167 rfl ?_
                refine r_cViI C 171 [] (ok_f_X10_readRow h_20) dX10_readFace_168 lvX10_93 kt_193 rfl rfl rfl (by decide) (Nat.le_of_ble_eq_true rfl) rfl rfl (Nat.le_of_ble_eq_true rfl) rfl rfl (fun v_21 h_22 => ?_)
                refine r_if_eq C 174 186 dX10_readFace_171 (by decide) rfl (fun c_23 => ?_) (fun c_23 => ?_)
                · refine r_iconst C 187 (nI 0) (by decide) dX10_readFace_186 rfl ?_
                  exact r_zret C Rr (by decide) dX10_readFace_187 (fun _ => rfl) rfl
                · refine r_aload_n C 175 3 rfl dX10_readFace_174 rfl ?_
                  refine r_getR C 178 dX10_readFace_175 flX10_22 kt_193 rfl rf_193_0 rfl ?_
                  refine r_bipush C 180 (nI 59) (by decide) dX10_readFace_178 rfl ?_
                  refine r_cViI C 183 [] (ok_f_X8_take ((nI 59)) h_22) dX10_readFace_180 lvX10_79 kt_2 rfl rfl rfl (by decide) (Nat.le_of_ble_eq_true rfl) rfl rfl (Nat.le_of_ble_eq_true rfl) rfl rfl (fun v_24 h_25 => ?_)
                  refine r_if_ne C 186 188 dX10_readFace_183 (by decide) rfl (fun c_26 => ?_) (fun c_26 => ?_)
                  · refine r_iconst C 187 (nI 0) (by decide) dX10_readFace_186 rfl ?_
                    exact r_zret C Rr (by decide) dX10_readFace_187 (fun _ => rfl) rfl
                  · refine r_aload_n C 189 3 rfl dX10_readFace_188 rfl ?_
                    refine r_getR C 192 dX10_readFace_189 flX10_26 kt_193 rfl rf_193_1 rfl ?_
                    refine r_lload_n C 193 2 rfl dX10_readFace_192 rfl ?_
                    refine r_iload_n C 194 1 rfl dX10_readFace_193 rfl ?_
                    refine r_iload C 196 0 rfl dX10_readFace_194 rfl ?_
                    refine r_cViV C 199 [] (ok_f_X9_add_31 (h_2.2 2 12) (h_11.1 2 11) (h_18.1 2 11) h_25) dX10_readFace_196 lvX10_96 kt_31 rfl rfl rfl (by decide) (Nat.le_of_ble_eq_true rfl) rfl rfl (Nat.le_of_ble_eq_true rfl) rfl rfl (fun _ h_27 => ?_)
                    refine r_iconst C 200 (nI 1) (by decide) dX10_readFace_199 rfl ?_
                    exact r_zret C Rr (by decide) dX10_readFace_200 (fun _ => rfl) rfl
      · refine r_aload_n C 70 1 rfl dX10_readFace_69 rfl ?_
        refine r_getR C 73 dX10_readFace_70 flX10_22 kt_193 rfl rf_193_0 rfl ?_
        refine r_iconst C 74 (nI 3) (by decide) dX10_readFace_73 rfl ?_
        refine r_cViI C 77 [] (ok_f_X8_refuse ((nI 3)) h_2) dX10_readFace_74 lvX10_59 kt_2 rfl rfl rfl (by decide) (Nat.le_of_ble_eq_true rfl) rfl rfl (Nat.le_of_ble_eq_true rfl) rfl rfl (fun v_28 h_29 => ?_)
        exact r_zretg C Rr dX10_readFace_77 (fun _ => rfl) rfl
    · refine r_aload_n C 41 0 rfl dX10_readFace_40 rfl ?_
      refine r_getR C 44 dX10_readFace_41 flX10_22 kt_193 rfl rf_193_0 rfl ?_
      refine r_iconst C 45 (nI 2) (by decide) dX10_readFace_44 rfl ?_
      refine r_cViI C 48 [] (ok_f_X8_refuse ((nI 2)) h_2) dX10_readFace_45 lvX10_59 kt_2 rfl rfl rfl (by decide) (Nat.le_of_ble_eq_true rfl) rfl rfl (Nat.le_of_ble_eq_true rfl) rfl rfl (fun v_30 h_31 => ?_)
      exact r_zretg C Rr dX10_readFace_48 (fun _ => rfl) rfl
  · refine r_aload_n C 13 0 rfl dX10_readFace_12 rfl ?_
    refine r_getR C 16 dX10_readFace_13 flX10_22 kt_193 rfl rf_193_0 rfl ?_
    refine r_iconst C 17 (nI 2) (by decide) dX10_readFace_16 rfl ?_
    refine r_cViI C 20 [] (ok_f_X8_refuse ((nI 2)) h) dX10_readFace_17 lvX10_59 kt_2 rfl rfl rfl (by decide) (Nat.le_of_ble_eq_true rfl) rfl rfl (Nat.le_of_ble_eq_true rfl) rfl rfl (fun v_32 h_33 => ?_)
    exact r_zretg C Rr dX10_readFace_20 (fun _ => rfl) rfl
set_option maxHeartbeats 4000000 in
theorem ok_f_X10_readFace   (h : CH) : ∀ q, f_X10_readFace h = some q → MG yX10_readFace cX10_readFace 5 (some .boolean) [193] 4 (fun ad => [.ref (ad 193)]) h ((fun (q : Int32 × CH) (_ : Nat → Nat) => some (Value.int q.1)) q) ((fun (q : (Int32 × CH)) => q.2) q) := mg_of RX10 (by decide) rfl (fun _ => Nat.le_of_ble_eq_true rfl) (fun κ C Rr => imp_f_X10_readFace C  h Rr)
set_option maxHeartbeats 4000000 in
set_option maxRecDepth 100000 in
theorem imp_f_X10_faceHere {κ : Kx (Int32 × CH)} (C : Cx κ cX10_faceHere RX10 2 2 (40 * 2) [193])   (h : CH) (Rr : Rt κ (some .int) (fun (q : Int32 × CH) (_ : Nat → Nat) => some (Value.int q.1)) (fun (q : (Int32 × CH)) => q.2)) : Imp κ 0 [(0, .ref (kad κ 193))] [] h (f_X10_faceHere h) := by
  unfold f_X10_faceHere
  refine r_aload_n C 1 0 rfl dX10_faceHere_0 rfl ?_
  refine r_getR C 4 dX10_faceHere_1 flX10_22 kt_193 rfl rf_193_0 rfl ?_
  refine r_getI C 7 dX10_faceHere_4 flX10_35 kt_2 rfl rfl ?_
  refine r_bipush C 9 (nI 24) (by decide) dX10_faceHere_7 rfl ?_
  refine imp_jn (fun (j_2 : Int32 → Option (Int32 × CH)) => ∀ (s_1 : Int32), Imp κ 30 [(0, .ref (kad κ 193))] [.int (s_1)] h (j_2 s_1)) ?_ ?_
  · intro s_1
    refine r_istore_n C 31 1 [(1, .int (s_1)), (0, .ref (kad κ 193))] dX10_faceHere_30 rfl (by decide) rfl rfl ?_
    refine r_iload_n C 32 0 rfl dX10_faceHere_31 rfl ?_
    refine r_iconst C 33 (-1) (by decide) dX10_faceHere_32 rfl ?_
    refine r_icmp_ne C 36 61 dX10_faceHere_33 (by decide) rfl (fun c_3 => ?_) (fun c_3 => ?_)
    · refine r_aload_n C 37 1 rfl dX10_faceHere_36 rfl ?_
      refine r_getR C 40 dX10_faceHere_37 flX10_22 kt_193 rfl rf_193_0 rfl ?_
      refine r_aload_n C 41 1 rfl dX10_faceHere_40 rfl ?_
      refine r_getR C 44 dX10_faceHere_41 flX10_22 kt_193 rfl rf_193_0 rfl ?_
      refine r_getI C 47 dX10_faceHere_44 flX10_35 kt_2 rfl rfl ?_
      refine r_bipush C 49 (nI 24) (by decide) dX10_faceHere_47 rfl ?_
      refine imp_jn (fun (j_5 : Int32 → Option (Int32 × CH)) => ∀ (s_4 : Int32), Imp κ 57 [(1, .int (s_1))] [.int (s_4), .ref (kad κ 2)] h (j_5 s_4)) ?_ ?_
      · intro s_4
        refine r_cViI C 60 [] (ok_f_X8_refuse s_4 h) dX10_faceHere_57 lvX10_59 kt_2 rfl rfl rfl (by decide) (Nat.le_of_ble_eq_true rfl) rfl rfl (Nat.le_of_ble_eq_true rfl) rfl rfl (fun v_6 h_7 => ?_)
        refine r_pop C 61 rfl dX10_faceHere_60 rfl ?_
        refine r_iload_n C 62 0 rfl dX10_faceHere_61 rfl ?_
        exact r_iret C Rr dX10_faceHere_62 (fun _ => rfl) rfl
      · intro j_5 hj_5
        refine r_icmp_ne C 52 56 dX10_faceHere_49 (by decide) rfl (fun c_8 => ?_) (fun c_8 => ?_)
        · refine r_iconst C 53 (nI 5) (by decide) dX10_faceHere_52 rfl ?_
          refine r_goto C 57 dX10_faceHere_53 (by decide) ?_
          exact imp_sub [(1, .int (s_1))] [0] rfl (hj_5 ((nI 5)))
        · refine r_iconst C 57 (nI 2) (by decide) dX10_faceHere_56 rfl ?_
          exact imp_sub [(1, .int (s_1))] [0] rfl (hj_5 ((nI 2)))
    · refine r_iload_n C 62 0 rfl dX10_faceHere_61 rfl ?_
      exact r_iret C Rr dX10_faceHere_62 (fun _ => rfl) rfl
  · intro j_2 hj_2
    refine r_icmp_ne C 12 29 dX10_faceHere_9 (by decide) rfl (fun c_9 => ?_) (fun c_9 => ?_)
    · refine r_aload_n C 13 0 rfl dX10_faceHere_12 rfl ?_
      refine r_getR C 16 dX10_faceHere_13 flX10_26 kt_193 rfl rf_193_1 rfl ?_
      refine r_aload_n C 17 0 rfl dX10_faceHere_16 rfl ?_
      refine r_getR C 20 dX10_faceHere_17 flX10_22 kt_193 rfl rf_193_0 rfl ?_
      refine r_getL C 23 dX10_faceHere_20 flX10_85 kt_2 rfl rfl ?_
      refine r_cVpI C 26 [] (ok_f_X9_named_31 (h.2 2 12) h) dX10_faceHere_23 lvX10_89 kt_31 rfl rfl rfl (by decide) (Nat.le_of_ble_eq_true rfl) rfl rfl (Nat.le_of_ble_eq_true rfl) rfl rfl (fun v_10 => ?_)
      refine r_goto C 30 dX10_faceHere_26 (by decide) ?_
      exact imp_sub [(0, .ref (kad κ 193))] [0] rfl (hj_2 (v_10))
    · refine r_iconst C 30 (-1) (by decide) dX10_faceHere_29 rfl ?_
      exact imp_sub [(0, .ref (kad κ 193))] [0] rfl (hj_2 ((-1)))
set_option maxHeartbeats 4000000 in
theorem ok_f_X10_faceHere   (h : CH) : ∀ q, f_X10_faceHere h = some q → MG yX10_faceHere cX10_faceHere 2 (some .int) [193] 2 (fun ad => [.ref (ad 193)]) h ((fun (q : Int32 × CH) (_ : Nat → Nat) => some (Value.int q.1)) q) ((fun (q : (Int32 × CH)) => q.2) q) := mg_of RX10 (by decide) rfl (fun _ => Nat.le_of_ble_eq_true rfl) (fun κ C Rr => imp_f_X10_faceHere C  h Rr)
set_option maxHeartbeats 4000000 in
set_option maxRecDepth 100000 in
theorem imp_f_X9_has_31 {κ : Kx Int32} (C : Cx κ cX9_has RX9 2 1 (40 * 1) []) (x1 : Int32)  (h : CH) (Rr : Rt κ (some .boolean) (fun (x : Int32) (_ : Nat → Nat) => some (Value.int x)) (fun (_ : Int32) => h)) : Imp κ 0 [(0, .ref (kad κ 31)), (1, .int (x1))] [] h (f_X9_has_31 x1 h) := by
  unfold f_X9_has_31
  refine r_iload_n C 1 1 rfl dX9_has_0 rfl ?_
  refine r_if_lt C 4 22 dX9_has_1 (by decide) rfl (fun c_1 => ?_) (fun c_1 => ?_)
  · refine r_iconst C 23 (nI 0) (by decide) dX9_has_22 rfl ?_
    exact r_zret C Rr (by decide) dX9_has_23 (fun _ => rfl) rfl
  · refine r_iload_n C 5 1 rfl dX9_has_4 rfl ?_
    refine r_aload_n C 6 0 rfl dX9_has_5 rfl ?_
    refine r_getI C 9 dX9_has_6 flX9_18 kt_31 rfl rfl ?_
    refine r_icmp_ge C 12 22 dX9_has_9 (by decide) rfl (fun c_2 => ?_) (fun c_2 => ?_)
    · refine r_iload_n C 13 1 rfl dX9_has_12 rfl ?_
      refine r_bipush C 15 (nI 16) (by decide) dX9_has_13 rfl ?_
      refine r_icmp_ge C 18 22 dX9_has_15 (by decide) rfl (fun c_3 => ?_) (fun c_3 => ?_)
      · refine r_iconst C 19 (nI 1) (by decide) dX9_has_18 rfl ?_
        refine r_goto C 23 dX9_has_19 (by decide) ?_
        exact r_zret C Rr (by decide) dX9_has_23 (fun _ => rfl) rfl
      · refine r_iconst C 23 (nI 0) (by decide) dX9_has_22 rfl ?_
        exact r_zret C Rr (by decide) dX9_has_23 (fun _ => rfl) rfl
    · refine r_iconst C 23 (nI 0) (by decide) dX9_has_22 rfl ?_
      exact r_zret C Rr (by decide) dX9_has_23 (fun _ => rfl) rfl
set_option maxHeartbeats 4000000 in
theorem ok_f_X9_has_31 (x1 : Int32)  (h : CH) : ∀ q, f_X9_has_31 x1 h = some q → MG yX9_has cX9_has 2 (some .boolean) [] 1 (fun ad => [.ref (ad 31), .int x1]) h ((fun (x : Int32) (_ : Nat → Nat) => some (Value.int x)) q) ((fun (_ : Int32) => h) q) := mg_of RX9 (by decide) rfl (fun _ => Nat.le_of_ble_eq_true rfl) (fun κ C Rr => imp_f_X9_has_31 C x1 h Rr)
set_option maxHeartbeats 4000000 in
set_option maxRecDepth 100000 in
theorem imp_f_X9_knowEachOther_31 {κ : Kx Int32} (C : Cx κ cX9_knowEachOther RX9 3 2 (40 * 2) []) (x1 : Int32) (x2 : Int32)  (h : CH) (Rr : Rt κ (some .boolean) (fun (x : Int32) (_ : Nat → Nat) => some (Value.int x)) (fun (_ : Int32) => h)) : Imp κ 0 [(0, .ref (kad κ 31)), (1, .int (x1)), (2, .int (x2))] [] h (f_X9_knowEachOther_31 x1 x2 h) := by
  unfold f_X9_knowEachOther_31
  refine r_aload_n C 1 0 rfl dX9_knowEachOther_0 rfl ?_
  refine r_iload_n C 2 1 rfl dX9_knowEachOther_1 rfl ?_
  refine r_cVpI C 5 [] (ok_f_X9_has_31 x1 h) dX9_knowEachOther_2 lvX9_59 kt_31 rfl rfl rfl (by decide) (Nat.le_of_ble_eq_true rfl) rfl rfl (Nat.le_of_ble_eq_true rfl) rfl rfl (fun v_1 => ?_)
  refine r_if_eq C 8 34 dX9_knowEachOther_5 (by decide) rfl (fun c_2 => ?_) (fun c_2 => ?_)
  · refine r_iconst C 35 (nI 0) (by decide) dX9_knowEachOther_34 rfl ?_
    exact r_zret C Rr (by decide) dX9_knowEachOther_35 (fun _ => rfl) rfl
  · refine r_aload_n C 9 0 rfl dX9_knowEachOther_8 rfl ?_
    refine r_iload_n C 10 2 rfl dX9_knowEachOther_9 rfl ?_
    refine r_cVpI C 13 [] (ok_f_X9_has_31 x2 h) dX9_knowEachOther_10 lvX9_59 kt_31 rfl rfl rfl (by decide) (Nat.le_of_ble_eq_true rfl) rfl rfl (Nat.le_of_ble_eq_true rfl) rfl rfl (fun v_3 => ?_)
    refine r_if_eq C 16 34 dX9_knowEachOther_13 (by decide) rfl (fun c_4 => ?_) (fun c_4 => ?_)
    · refine r_iconst C 35 (nI 0) (by decide) dX9_knowEachOther_34 rfl ?_
      exact r_zret C Rr (by decide) dX9_knowEachOther_35 (fun _ => rfl) rfl
    · refine r_aload_n C 17 0 rfl dX9_knowEachOther_16 rfl ?_
      refine r_getR C 20 dX9_knowEachOther_17 flX9_40 kt_31 rfl rf_31_8 rfl ?_
      refine r_iload_n C 21 1 rfl dX9_knowEachOther_20 rfl ?_
      refine r_iald C 22 dX9_knowEachOther_21 kt_52 rfl rfl (fun v_5 => ?_)
      refine r_iload_n C 23 2 rfl dX9_knowEachOther_22 rfl ?_
      refine r_ishr C 24 dX9_knowEachOther_23 rfl ?_
      refine r_iconst C 25 (nI 1) (by decide) dX9_knowEachOther_24 rfl ?_
      refine r_iand C 26 dX9_knowEachOther_25 rfl ?_
      refine r_iconst C 27 (nI 1) (by decide) dX9_knowEachOther_26 rfl ?_
      refine r_icmp_ne C 30 34 dX9_knowEachOther_27 (by decide) rfl (fun c_6 => ?_) (fun c_6 => ?_)
      · refine r_iconst C 31 (nI 1) (by decide) dX9_knowEachOther_30 rfl ?_
        refine r_goto C 35 dX9_knowEachOther_31 (by decide) ?_
        exact r_zret C Rr (by decide) dX9_knowEachOther_35 (fun _ => rfl) rfl
      · refine r_iconst C 35 (nI 0) (by decide) dX9_knowEachOther_34 rfl ?_
        exact r_zret C Rr (by decide) dX9_knowEachOther_35 (fun _ => rfl) rfl
set_option maxHeartbeats 4000000 in
theorem ok_f_X9_knowEachOther_31 (x1 : Int32) (x2 : Int32)  (h : CH) : ∀ q, f_X9_knowEachOther_31 x1 x2 h = some q → MG yX9_knowEachOther cX9_knowEachOther 3 (some .boolean) [] 2 (fun ad => [.ref (ad 31), .int x1, .int x2]) h ((fun (x : Int32) (_ : Nat → Nat) => some (Value.int x)) q) ((fun (_ : Int32) => h) q) := mg_of RX9 (by decide) rfl (fun _ => Nat.le_of_ble_eq_true rfl) (fun κ C Rr => imp_f_X9_knowEachOther_31 C x1 x2 h Rr)
set_option maxHeartbeats 4000000 in
set_option maxRecDepth 100000 in
theorem imp_f_X9_addKnows_31 {κ : Kx (Unit × CH)} (C : Cx κ cX9_addKnows RX9 3 2 (40 * 2) []) (x1 : Int32) (x2 : Int32)  (h : CH) (Rr : Rt κ none (fun (_ : Unit × CH) (_ : Nat → Nat) => (none : Option Value)) (fun (q : (Unit × CH)) => q.2)) : Imp κ 0 [(0, .ref (kad κ 31)), (1, .int (x1)), (2, .int (x2))] [] h (f_X9_addKnows_31 x1 x2 h) := by
  unfold f_X9_addKnows_31
  refine r_aload_n C 1 0 rfl dX9_addKnows_0 rfl ?_
  refine r_iload_n C 2 1 rfl dX9_addKnows_1 rfl ?_
  refine r_cVpI C 5 [] (ok_f_X9_has_31 x1 h) dX9_addKnows_2 lvX9_59 kt_31 rfl rfl rfl (by decide) (Nat.le_of_ble_eq_true rfl) rfl rfl (Nat.le_of_ble_eq_true rfl) rfl rfl (fun v_1 => ?_)
  refine r_if_eq C 8 50 dX9_addKnows_5 (by decide) rfl (fun c_2 => ?_) (fun c_2 => ?_)
  · exact r_vret C Rr dX9_addKnows_50 (fun _ => rfl) rfl
  · refine r_aload_n C 9 0 rfl dX9_addKnows_8 rfl ?_
    refine r_iload_n C 10 2 rfl dX9_addKnows_9 rfl ?_
    refine r_cVpI C 13 [] (ok_f_X9_has_31 x2 h) dX9_addKnows_10 lvX9_59 kt_31 rfl rfl rfl (by decide) (Nat.le_of_ble_eq_true rfl) rfl rfl (Nat.le_of_ble_eq_true rfl) rfl rfl (fun v_3 => ?_)
    refine r_if_eq C 16 50 dX9_addKnows_13 (by decide) rfl (fun c_4 => ?_) (fun c_4 => ?_)
    · exact r_vret C Rr dX9_addKnows_50 (fun _ => rfl) rfl
    · refine r_aload_n C 17 0 rfl dX9_addKnows_16 rfl ?_
      refine r_getR C 20 dX9_addKnows_17 flX9_40 kt_31 rfl rf_31_8 rfl ?_
      refine r_iload_n C 21 1 rfl dX9_addKnows_20 rfl ?_
      refine r_dup2 C 22 rfl rfl dX9_addKnows_21 rfl ?_
      refine r_iald C 23 dX9_addKnows_22 kt_52 rfl rfl (fun v_5 => ?_)
      refine r_iconst C 24 (nI 1) (by decide) dX9_addKnows_23 rfl ?_
      refine r_iload_n C 25 2 rfl dX9_addKnows_24 rfl ?_
      refine r_ishl C 26 dX9_addKnows_25 rfl ?_
      refine r_ior C 27 dX9_addKnows_26 rfl ?_
      refine r_iast C 28 dX9_addKnows_27 kt_52 rfl rfl (fun h_6 => ?_)
      refine r_aload_n C 29 0 rfl dX9_addKnows_28 rfl ?_
      refine r_getR C 32 dX9_addKnows_29 flX9_40 kt_31 rfl rf_31_8 rfl ?_
      refine r_iload_n C 33 2 rfl dX9_addKnows_32 rfl ?_
      refine r_dup2 C 34 rfl rfl dX9_addKnows_33 rfl ?_
      refine r_iald C 35 dX9_addKnows_34 kt_52 rfl rfl (fun v_7 => ?_)
      refine r_iconst C 36 (nI 1) (by decide) dX9_addKnows_35 rfl ?_
      refine r_iload_n C 37 1 rfl dX9_addKnows_36 rfl ?_
      refine r_ishl C 38 dX9_addKnows_37 rfl ?_
      refine r_ior C 39 dX9_addKnows_38 rfl ?_
      refine r_iast C 40 dX9_addKnows_39 kt_52 rfl rfl (fun h_8 => ?_)
      refine r_aload_n C 41 0 rfl dX9_addKnows_40 rfl ?_
      refine r_dup C 42 rfl dX9_addKnows_41 rfl ?_
      refine r_getI C 45 dX9_addKnows_42 flX9_21 kt_31 rfl rfl ?_
      refine r_iconst C 46 (nI 1) (by decide) dX9_addKnows_45 rfl ?_
      refine r_iadd C 47 dX9_addKnows_46 rfl ?_
      refine r_putI C 50 dX9_addKnows_47 flX9_21 kt_31 rfl rfl (fun h_9 => ?_)
      exact r_vret C Rr dX9_addKnows_50 (fun _ => rfl) rfl
set_option maxHeartbeats 4000000 in
theorem ok_f_X9_addKnows_31 (x1 : Int32) (x2 : Int32)  (h : CH) : ∀ q, f_X9_addKnows_31 x1 x2 h = some q → MG yX9_addKnows cX9_addKnows 3 none [] 2 (fun ad => [.ref (ad 31), .int x1, .int x2]) h ((fun (_ : Unit × CH) (_ : Nat → Nat) => (none : Option Value)) q) ((fun (q : (Unit × CH)) => q.2) q) := mg_of RX9 (by decide) rfl (fun _ => Nat.le_of_ble_eq_true rfl) (fun κ C Rr => imp_f_X9_addKnows_31 C x1 x2 h Rr)
set_option maxHeartbeats 4000000 in
set_option maxRecDepth 100000 in
theorem imp_f_X10_readKnows {κ : Kx (Int32 × CH)} (C : Cx κ cX10_readKnows RX10 3 3 (40 * 3) [193])   (h : CH) (Rr : Rt κ (some .boolean) (fun (q : Int32 × CH) (_ : Nat → Nat) => some (Value.int q.1)) (fun (q : (Int32 × CH)) => q.2)) : Imp κ 0 [(0, .ref (kad κ 193))] [] h (f_X10_readKnows h) := by
  unfold f_X10_readKnows
  refine r_aload_n C 1 0 rfl dX10_readKnows_0 rfl ?_
  refine r_getR C 4 dX10_readKnows_1 flX10_26 kt_193 rfl rf_193_1 rfl ?_
  refine r_getI C 7 dX10_readKnows_4 flX10_104 kt_31 rfl rfl ?_
  refine r_bipush C 9 (nI 20) (by decide) dX10_readKnows_7 rfl ?_
  refine r_icmp_lt C 12 21 dX10_readKnows_9 (by decide) rfl (fun c_1 => ?_) (fun c_1 => ?_)
  · refine r_aload_n C 22 0 rfl dX10_readKnows_21 rfl ?_
    refine r_getR C 25 dX10_readKnows_22 flX10_22 kt_193 rfl rf_193_0 rfl ?_
    refine r_cViV C 28 [] (ok_f_X8_step h) dX10_readKnows_25 lvX10_66 kt_2 rfl rfl rfl (by decide) (Nat.le_of_ble_eq_true rfl) rfl rfl (Nat.le_of_ble_eq_true rfl) rfl rfl (fun _ h_2 => ?_)
    refine r_aload_n C 29 0 rfl dX10_readKnows_28 rfl ?_
    refine r_cViI C 32 [] (ok_f_X10_faceHere h_2) dX10_readKnows_29 lvX10_107 kt_193 rfl rfl rfl (by decide) (Nat.le_of_ble_eq_true rfl) rfl rfl (Nat.le_of_ble_eq_true rfl) rfl rfl (fun v_3 h_4 => ?_)
    refine r_istore_n C 33 1 [(1, .int (v_3)), (0, .ref (kad κ 193))] dX10_readKnows_32 rfl (by decide) rfl rfl ?_
    refine r_iload_n C 34 0 rfl dX10_readKnows_33 rfl ?_
    refine r_iconst C 35 (-1) (by decide) dX10_readKnows_34 rfl ?_
    refine r_icmp_ne C 38 40 dX10_readKnows_35 (by decide) rfl (fun c_5 => ?_) (fun c_5 => ?_)
    · refine r_iconst C 39 (nI 0) (by decide) dX10_readKnows_38 rfl ?_
      exact r_zret C Rr (by decide) dX10_readKnows_39 (fun _ => rfl) rfl
    · refine r_aload_n C 41 1 rfl dX10_readKnows_40 rfl ?_
      refine r_getR C 44 dX10_readKnows_41 flX10_22 kt_193 rfl rf_193_0 rfl ?_
      refine r_cViV C 47 [] (ok_f_X8_step h_4) dX10_readKnows_44 lvX10_66 kt_2 rfl rfl rfl (by decide) (Nat.le_of_ble_eq_true rfl) rfl rfl (Nat.le_of_ble_eq_true rfl) rfl rfl (fun _ h_6 => ?_)
      refine r_aload_n C 48 1 rfl dX10_readKnows_47 rfl ?_
      refine r_cViI C 51 [] (ok_f_X10_faceHere h_6) dX10_readKnows_48 lvX10_107 kt_193 rfl rfl rfl (by decide) (Nat.le_of_ble_eq_true rfl) rfl rfl (Nat.le_of_ble_eq_true rfl) rfl rfl (fun v_7 h_8 => ?_)
      refine r_istore_n C 52 2 [(2, .int (v_7)), (1, .int (v_3)), (0, .ref (kad κ 193))] dX10_readKnows_51 rfl (by decide) rfl rfl ?_
      refine r_iload_n C 53 0 rfl dX10_readKnows_52 rfl ?_
      refine r_iconst C 54 (-1) (by decide) dX10_readKnows_53 rfl ?_
      refine r_icmp_ne C 57 59 dX10_readKnows_54 (by decide) rfl (fun c_9 => ?_) (fun c_9 => ?_)
      · refine r_iconst C 58 (nI 0) (by decide) dX10_readKnows_57 rfl ?_
        exact r_zret C Rr (by decide) dX10_readKnows_58 (fun _ => rfl) rfl
      · refine r_iload_n C 60 1 rfl dX10_readKnows_59 rfl ?_
        refine r_iload_n C 61 0 rfl dX10_readKnows_60 rfl ?_
        refine imp_jn (fun (j_10 : Option (Int32 × CH)) =>  Imp κ 76 [(0, .ref (kad κ 193))] [] h_8 (j_10)) ?_ ?_
        · refine r_aload_n C 77 0 rfl dX10_readKnows_76 rfl ?_
          refine r_getR C 80 dX10_readKnows_77 flX10_22 kt_193 rfl rf_193_0 rfl ?_
          refine r_iconst C 81 (nI 3) (by decide) dX10_readKnows_80 rfl ?_
          refine r_cViI C 84 [] (ok_f_X8_refuse ((nI 3)) h_8) dX10_readKnows_81 lvX10_59 kt_2 rfl rfl rfl (by decide) (Nat.le_of_ble_eq_true rfl) rfl rfl (Nat.le_of_ble_eq_true rfl) rfl rfl (fun v_11 h_12 => ?_)
          exact r_zretg C Rr dX10_readKnows_84 (fun _ => rfl) rfl
        · intro j_10 hj_10
          refine r_icmp_eq C 64 76 dX10_readKnows_61 (by decide) rfl (fun c_13 => ?_) (fun c_13 => ?_)
          · exact imp_sub [(0, .ref (kad κ 193))] [2] rfl (hj_10)
          · refine r_aload_n C 65 2 rfl dX10_readKnows_64 rfl ?_
            refine r_getR C 68 dX10_readKnows_65 flX10_26 kt_193 rfl rf_193_1 rfl ?_
            refine r_iload_n C 69 1 rfl dX10_readKnows_68 rfl ?_
            refine r_iload_n C 70 0 rfl dX10_readKnows_69 rfl ?_
            refine r_cVpI C 73 [] (ok_f_X9_knowEachOther_31 v_3 v_7 h_8) dX10_readKnows_70 lvX10_111 kt_31 rfl rfl rfl (by decide) (Nat.le_of_ble_eq_true rfl) rfl rfl (Nat.le_of_ble_eq_true rfl) rfl rfl (fun v_14 => ?_)
            refine r_if_eq C 76 85 dX10_readKnows_73 (by decide) rfl (fun c_15 => ?_) (fun c_15 => ?_)
            · refine r_aload_n C 86 2 rfl dX10_readKnows_85 rfl ?_
              refine r_getR C 89 dX10_readKnows_86 flX10_22 kt_193 rfl rf_193_0 rfl ?_
              refine r_cViV C 92 [] (ok_f_X8_step h_8) dX10_readKnows_89 lvX10_66 kt_2 rfl rfl rfl (by decide) (Nat.le_of_ble_eq_true rfl) rfl rfl (Nat.le_of_ble_eq_true rfl) rfl rfl (fun _ h_16 => ?_)
              refine r_aload_n C 93 2 rfl dX10_readKnows_92 rfl ?_
              refine r_getR C 96 dX10_readKnows_93 flX10_22 kt_193 rfl rf_193_0 rfl ?_
              refine r_bipush C 98 (nI 59) (by decide) dX10_readKnows_96 rfl ?_
              refine r_cViI C 101 [] (ok_f_X8_take ((nI 59)) h_16) dX10_readKnows_98 lvX10_79 kt_2 rfl rfl rfl (by decide) (Nat.le_of_ble_eq_true rfl) rfl rfl (Nat.le_of_ble_eq_true rfl) rfl rfl (fun v_17 h_18 => ?_)
              refine r_if_ne C 104 106 dX10_readKnows_101 (by decide) rfl (fun c_19 => ?_) (fun c_19 => ?_)
              · refine r_iconst C 105 (nI 0) (by decide) dX10_readKnows_104 rfl ?_
                exact r_zret C Rr (by decide) dX10_readKnows_105 (fun _ => rfl) rfl
              · refine r_aload_n C 107 2 rfl dX10_readKnows_106 rfl ?_
                refine r_getR C 110 dX10_readKnows_107 flX10_26 kt_193 rfl rf_193_1 rfl ?_
                refine r_iload_n C 111 1 rfl dX10_readKnows_110 rfl ?_
                refine r_iload_n C 112 0 rfl dX10_readKnows_111 rfl ?_
                refine r_cViV C 115 [] (ok_f_X9_addKnows_31 v_3 v_7 h_18) dX10_readKnows_112 lvX10_114 kt_31 rfl rfl rfl (by decide) (Nat.le_of_ble_eq_true rfl) rfl rfl (Nat.le_of_ble_eq_true rfl) rfl rfl (fun _ h_20 => ?_)
                refine r_iconst C 116 (nI 1) (by decide) dX10_readKnows_115 rfl ?_
                exact r_zret C Rr (by decide) dX10_readKnows_116 (fun _ => rfl) rfl
            · exact imp_sub [(0, .ref (kad κ 193))] [2] rfl (hj_10)
  · refine r_aload_n C 13 0 rfl dX10_readKnows_12 rfl ?_
    refine r_getR C 16 dX10_readKnows_13 flX10_22 kt_193 rfl rf_193_0 rfl ?_
    refine r_iconst C 17 (nI 2) (by decide) dX10_readKnows_16 rfl ?_
    refine r_cViI C 20 [] (ok_f_X8_refuse ((nI 2)) h) dX10_readKnows_17 lvX10_59 kt_2 rfl rfl rfl (by decide) (Nat.le_of_ble_eq_true rfl) rfl rfl (Nat.le_of_ble_eq_true rfl) rfl rfl (fun v_21 h_22 => ?_)
    exact r_zretg C Rr dX10_readKnows_20 (fun _ => rfl) rfl
set_option maxHeartbeats 4000000 in
theorem ok_f_X10_readKnows   (h : CH) : ∀ q, f_X10_readKnows h = some q → MG yX10_readKnows cX10_readKnows 3 (some .boolean) [193] 3 (fun ad => [.ref (ad 193)]) h ((fun (q : Int32 × CH) (_ : Nat → Nat) => some (Value.int q.1)) q) ((fun (q : (Int32 × CH)) => q.2) q) := mg_of RX10 (by decide) rfl (fun _ => Nat.le_of_ble_eq_true rfl) (fun κ C Rr => imp_f_X10_readKnows C  h Rr)
set_option maxHeartbeats 4000000 in
set_option maxRecDepth 100000 in
theorem imp_f_X10_readPrinter {κ : Kx (Int32 × CH)} (C : Cx κ cX10_readPrinter RX10 3 3 (40 * 3) [193])   (h : CH) (Rr : Rt κ (some .boolean) (fun (q : Int32 × CH) (_ : Nat → Nat) => some (Value.int q.1)) (fun (q : (Int32 × CH)) => q.2)) : Imp κ 0 [(0, .ref (kad κ 193))] [] h (f_X10_readPrinter h) := by
  unfold f_X10_readPrinter
  refine r_aload_n C 1 0 rfl dX10_readPrinter_0 rfl ?_
  refine r_getR C 4 dX10_readPrinter_1 flX10_22 kt_193 rfl rf_193_0 rfl ?_
  refine r_cViV C 7 [] (ok_f_X8_step h) dX10_readPrinter_4 lvX10_66 kt_2 rfl rfl rfl (by decide) (Nat.le_of_ble_eq_true rfl) rfl rfl (Nat.le_of_ble_eq_true rfl) rfl rfl (fun _ h_1 => ?_)
  refine r_aload_n C 8 0 rfl dX10_readPrinter_7 rfl ?_
  refine r_getR C 11 dX10_readPrinter_8 flX10_22 kt_193 rfl rf_193_0 rfl ?_
  refine r_iconst C 12 (nI 0) (by decide) dX10_readPrinter_11 rfl ?_
  refine r_iconst C 13 (nI 3) (by decide) dX10_readPrinter_12 rfl ?_
  refine r_cViI C 16 [] (ok_f_X8_isNumber ((nI 0)) ((nI 3)) h_1) dX10_readPrinter_13 lvX10_69 kt_2 rfl rfl rfl (by decide) (Nat.le_of_ble_eq_true rfl) rfl rfl (Nat.le_of_ble_eq_true rfl) rfl rfl (fun v_2 h_3 => ?_)
  refine r_if_ne C 19 21 dX10_readPrinter_16 (by decide) rfl (fun c_4 => ?_) (fun c_4 => ?_)
  · refine r_iconst C 20 (nI 0) (by decide) dX10_readPrinter_19 rfl ?_
    exact r_zret C Rr (by decide) dX10_readPrinter_20 (fun _ => rfl) rfl
  · refine r_aload_n C 22 0 rfl dX10_readPrinter_21 rfl ?_
    refine r_getR C 25 dX10_readPrinter_22 flX10_22 kt_193 rfl rf_193_0 rfl ?_
    refine r_getI C 28 dX10_readPrinter_25 flX10_73 kt_2 rfl rfl ?_
    refine r_istore_n C 29 1 [(1, .int (h_3.1 2 11)), (0, .ref (kad κ 193))] dX10_readPrinter_28 rfl (by decide) rfl rfl ?_
    refine r_aload_n C 30 1 rfl dX10_readPrinter_29 rfl ?_
    refine r_getI C 33 dX10_readPrinter_30 flX10_18 kt_193 rfl rfl ?_
    refine r_iload_n C 34 0 rfl dX10_readPrinter_33 rfl ?_
    refine r_ishr C 35 dX10_readPrinter_34 rfl ?_
    refine r_iconst C 36 (nI 1) (by decide) dX10_readPrinter_35 rfl ?_
    refine r_iand C 37 dX10_readPrinter_36 rfl ?_
    refine r_iconst C 38 (nI 1) (by decide) dX10_readPrinter_37 rfl ?_
    refine r_icmp_ne C 41 50 dX10_readPrinter_38 (by decide) rfl (fun c_5 => ?_) (fun c_5 => ?_)
    · refine r_aload_n C 42 1 rfl dX10_readPrinter_41 rfl ?_
      refine r_getR C 45 dX10_readPrinter_42 flX10_22 kt_193 rfl rf_193_0 rfl ?_
      refine r_iconst C 46 (nI 3) (by decide) dX10_readPrinter_45 rfl ?_
      refine r_cViI C 49 [] (ok_f_X8_refuse ((nI 3)) h_3) dX10_readPrinter_46 lvX10_59 kt_2 rfl rfl rfl (by decide) (Nat.le_of_ble_eq_true rfl) rfl rfl (Nat.le_of_ble_eq_true rfl) rfl rfl (fun v_6 h_7 => ?_)
      exact r_zretg C Rr dX10_readPrinter_49 (fun _ => rfl) rfl
    · refine r_aload_n C 51 1 rfl dX10_readPrinter_50 rfl ?_
      refine r_getR C 54 dX10_readPrinter_51 flX10_22 kt_193 rfl rf_193_0 rfl ?_
      refine r_cViV C 57 [] (ok_f_X8_step h_3) dX10_readPrinter_54 lvX10_66 kt_2 rfl rfl rfl (by decide) (Nat.le_of_ble_eq_true rfl) rfl rfl (Nat.le_of_ble_eq_true rfl) rfl rfl (fun _ h_8 => ?_)
      refine r_aload_n C 58 1 rfl dX10_readPrinter_57 rfl ?_
      refine r_getR C 61 dX10_readPrinter_58 flX10_22 kt_193 rfl rf_193_0 rfl ?_
      refine r_bipush C 63 (nI 7) (by decide) dX10_readPrinter_61 rfl ?_
      refine r_cViI C 66 [] (ok_f_X8_take ((nI 7)) h_8) dX10_readPrinter_63 lvX10_79 kt_2 rfl rfl rfl (by decide) (Nat.le_of_ble_eq_true rfl) rfl rfl (Nat.le_of_ble_eq_true rfl) rfl rfl (fun v_9 h_10 => ?_)
      refine r_if_eq C 69 82 dX10_readPrinter_66 (by decide) rfl (fun c_11 => ?_) (fun c_11 => ?_)
      · refine r_iconst C 83 (nI 0) (by decide) dX10_readPrinter_82 rfl ?_
        exact r_zret C Rr (by decide) dX10_readPrinter_83 (fun _ => rfl) rfl
      · refine r_aload_n C 70 1 rfl dX10_readPrinter_69 rfl ?_
        refine r_getR C 73 dX10_readPrinter_70 flX10_22 kt_193 rfl rf_193_0 rfl ?_
        refine r_iconst C 74 (nI 0) (by decide) dX10_readPrinter_73 rfl ?_
        refine r_bipush C 76 (nI 9) (by decide) dX10_readPrinter_74 rfl ?_
        refine r_cViI C 79 [] (ok_f_X8_isNumber ((nI 0)) ((nI 9)) h_10) dX10_readPrinter_76 lvX10_69 kt_2 rfl rfl rfl (by decide) (Nat.le_of_ble_eq_true rfl) rfl rfl (Nat.le_of_ble_eq_true rfl) rfl rfl (fun v_12 h_13 => ?_)
        refine r_if_ne C 82 84 dX10_readPrinter_79 (by decide) rfl (fun c_14 => ?_) (fun c_14 => ?_)
        · refine r_iconst C 83 (nI 0) (by decide) dX10_readPrinter_82 rfl ?_
          exact r_zret C Rr (by decide) dX10_readPrinter_83 (fun _ => rfl) rfl
        · refine r_aload_n C 85 1 rfl dX10_readPrinter_84 rfl ?_
          refine r_getR C 88 dX10_readPrinter_85 flX10_22 kt_193 rfl rf_193_0 rfl ?_
          refine r_getI C 91 dX10_readPrinter_88 flX10_73 kt_2 rfl rfl ?_
          refine r_istore_n C 92 2 [(2, .int (h_13.1 2 11)), (1, .int (h_3.1 2 11)), (0, .ref (kad κ 193))] dX10_readPrinter_91 rfl (by decide) rfl rfl ?_
          refine r_aload_n C 93 2 rfl dX10_readPrinter_92 rfl ?_
          refine r_getR C 96 dX10_readPrinter_93 flX10_22 kt_193 rfl rf_193_0 rfl ?_
          refine r_cViV C 99 [] (ok_f_X8_step h_13) dX10_readPrinter_96 lvX10_66 kt_2 rfl rfl rfl (by decide) (Nat.le_of_ble_eq_true rfl) rfl rfl (Nat.le_of_ble_eq_true rfl) rfl rfl (fun _ h_15 => ?_)
          refine r_aload_n C 100 2 rfl dX10_readPrinter_99 rfl ?_
          refine r_getR C 103 dX10_readPrinter_100 flX10_22 kt_193 rfl rf_193_0 rfl ?_
          refine r_bipush C 105 (nI 8) (by decide) dX10_readPrinter_103 rfl ?_
          refine r_cViI C 108 [] (ok_f_X8_take ((nI 8)) h_15) dX10_readPrinter_105 lvX10_79 kt_2 rfl rfl rfl (by decide) (Nat.le_of_ble_eq_true rfl) rfl rfl (Nat.le_of_ble_eq_true rfl) rfl rfl (fun v_16 h_17 => ?_)
          refine r_if_eq C 111 124 dX10_readPrinter_108 (by decide) rfl (fun c_18 => ?_) (fun c_18 => ?_)
          · refine r_iconst C 125 (nI 0) (by decide) dX10_readPrinter_124 rfl ?_
            exact r_zret C Rr (by decide) dX10_readPrinter_125 (fun _ => rfl) rfl
          · refine r_aload_n C 112 2 rfl dX10_readPrinter_111 rfl ?_
            refine r_getR C 115 dX10_readPrinter_112 flX10_22 kt_193 rfl rf_193_0 rfl ?_
            refine r_iconst C 116 (nI 0) (by decide) dX10_readPrinter_115 rfl ?_
            refine r_bipush C 118 (nI 99) (by decide) dX10_readPrinter_116 rfl ?_
            refine r_cViI C 121 [] (ok_f_X8_isNumber ((nI 0)) ((nI 99)) h_17) dX10_readPrinter_118 lvX10_69 kt_2 rfl rfl rfl (by decide) (Nat.le_of_ble_eq_true rfl) rfl rfl (Nat.le_of_ble_eq_true rfl) rfl rfl (fun v_19 h_20 => ?_)
            refine r_if_ne C 124 126 dX10_readPrinter_121 (by decide) rfl (fun c_21 => ?_) (fun c_21 => ?_)
            · refine r_iconst C 125 (nI 0) (by decide) dX10_readPrinter_124 rfl ?_
              exact r_zret C Rr (by decide) dX10_readPrinter_125 (fun _ => rfl) rfl
            · refine r_aload_n C 127 2 rfl dX10_readPrinter_126 rfl ?_
              refine r_getR C 130 dX10_readPrinter_127 flX10_26 kt_193 rfl rf_193_1 rfl ?_
              refine r_iload_n C 131 1 rfl dX10_readPrinter_130 rfl ?_
              refine r_iload_n C 132 0 rfl dX10_readPrinter_131 rfl ?_
              refine r_aload_n C 133 2 rfl dX10_readPrinter_132 rfl ?_
              refine r_getR C 136 dX10_readPrinter_133 flX10_22 kt_193 rfl rf_193_0 rfl ?_
              refine r_getI C 139 dX10_readPrinter_136 flX10_73 kt_2 rfl rfl ?_
              refine r_cViV C 142 [] (ok_f_X9_setPrinter_31 (h_3.1 2 11) (h_13.1 2 11) (h_20.1 2 11) h_20) dX10_readPrinter_139 lvX10_117 kt_31 rfl rfl rfl (by decide) (Nat.le_of_ble_eq_true rfl) rfl rfl (Nat.le_of_ble_eq_true rfl) rfl rfl (fun _ h_22 => ?_)
              refine r_aload_n C 143 2 rfl dX10_readPrinter_142 rfl ?_
              refine r_dup C 144 rfl dX10_readPrinter_143 rfl ?_
              refine r_getI C 147 dX10_readPrinter_144 flX10_18 kt_193 rfl rfl ?_
              refine r_iconst C 148 (nI 1) (by decide) dX10_readPrinter_147 rfl ?_
              refine r_iload_n C 149 1 rfl dX10_readPrinter_148 rfl ?_
              refine r_ishl C 150 dX10_readPrinter_149 rfl ?_
              refine r_ior C 151 dX10_readPrinter_150 rfl ?_
              refine r_putI C 154 dX10_readPrinter_151 flX10_18 kt_193 rfl rfl (fun h_23 => ?_)
              refine r_aload_n C 155 2 rfl dX10_readPrinter_154 rfl ?_
              refine r_getR C 158 dX10_readPrinter_155 flX10_22 kt_193 rfl rf_193_0 rfl ?_
              refine r_cViV C 161 [] (ok_f_X8_step h_23) dX10_readPrinter_158 lvX10_66 kt_2 rfl rfl rfl (by decide) (Nat.le_of_ble_eq_true rfl) rfl rfl (Nat.le_of_ble_eq_true rfl) rfl rfl (fun _ h_24 => ?_)
              refine r_aload_n C 162 2 rfl dX10_readPrinter_161 rfl ?_
              refine r_getR C 165 dX10_readPrinter_162 flX10_22 kt_193 rfl rf_193_0 rfl ?_
              refine r_bipush C 167 (nI 59) (by decide) dX10_readPrinter_165 rfl ?_
              refine r_cViI C 170 [] (ok_f_X8_take ((nI 59)) h_24) dX10_readPrinter_167 lvX10_79 kt_2 rfl rfl rfl (by decide) (Nat.le_of_ble_eq_true rfl) rfl rfl (Nat.le_of_ble_eq_true rfl) rfl rfl (fun v_25 h_26 => ?_)
              exact r_zretg C Rr dX10_readPrinter_170 (fun _ => rfl) rfl
set_option maxHeartbeats 4000000 in
theorem ok_f_X10_readPrinter   (h : CH) : ∀ q, f_X10_readPrinter h = some q → MG yX10_readPrinter cX10_readPrinter 3 (some .boolean) [193] 3 (fun ad => [.ref (ad 193)]) h ((fun (q : Int32 × CH) (_ : Nat → Nat) => some (Value.int q.1)) q) ((fun (q : (Int32 × CH)) => q.2) q) := mg_of RX10 (by decide) rfl (fun _ => Nat.le_of_ble_eq_true rfl) (fun κ C Rr => imp_f_X10_readPrinter C  h Rr)
set_option maxHeartbeats 4000000 in
set_option maxRecDepth 100000 in
theorem imp_f_X10_readNear {κ : Kx (Int32 × CH)} (C : Cx κ cX10_readNear RX10 1 3 (40 * 3) [193])   (h : CH) (Rr : Rt κ (some .boolean) (fun (q : Int32 × CH) (_ : Nat → Nat) => some (Value.int q.1)) (fun (q : (Int32 × CH)) => q.2)) : Imp κ 0 [(0, .ref (kad κ 193))] [] h (f_X10_readNear h) := by
  unfold f_X10_readNear
  refine r_aload_n C 1 0 rfl dX10_readNear_0 rfl ?_
  refine r_getI C 4 dX10_readNear_1 flX10_15 kt_193 rfl rfl ?_
  refine r_if_eq C 7 16 dX10_readNear_4 (by decide) rfl (fun c_1 => ?_) (fun c_1 => ?_)
  · refine r_aload_n C 17 0 rfl dX10_readNear_16 rfl ?_
    refine r_getR C 20 dX10_readNear_17 flX10_22 kt_193 rfl rf_193_0 rfl ?_
    refine r_cViV C 23 [] (ok_f_X8_step h) dX10_readNear_20 lvX10_66 kt_2 rfl rfl rfl (by decide) (Nat.le_of_ble_eq_true rfl) rfl rfl (Nat.le_of_ble_eq_true rfl) rfl rfl (fun _ h_2 => ?_)
    refine r_aload_n C 24 0 rfl dX10_readNear_23 rfl ?_
    refine r_getR C 27 dX10_readNear_24 flX10_22 kt_193 rfl rf_193_0 rfl ?_
    refine r_iconst C 28 (nI 0) (by decide) dX10_readNear_27 rfl ?_
    refine r_sipush C 31 (nI 800) (by decide) dX10_readNear_28 rfl ?_
    refine r_cViI C 34 [] (ok_f_X8_isNumber ((nI 0)) ((nI 800)) h_2) dX10_readNear_31 lvX10_69 kt_2 rfl rfl rfl (by decide) (Nat.le_of_ble_eq_true rfl) rfl rfl (Nat.le_of_ble_eq_true rfl) rfl rfl (fun v_3 h_4 => ?_)
    refine r_if_ne C 37 39 dX10_readNear_34 (by decide) rfl (fun c_5 => ?_) (fun c_5 => ?_)
    · refine r_iconst C 38 (nI 0) (by decide) dX10_readNear_37 rfl ?_
      exact r_zret C Rr (by decide) dX10_readNear_38 (fun _ => rfl) rfl
    · refine r_aload_n C 40 0 rfl dX10_readNear_39 rfl ?_
      refine r_getR C 43 dX10_readNear_40 flX10_26 kt_193 rfl rf_193_1 rfl ?_
      refine r_aload_n C 44 0 rfl dX10_readNear_43 rfl ?_
      refine r_getR C 47 dX10_readNear_44 flX10_22 kt_193 rfl rf_193_0 rfl ?_
      refine r_getI C 50 dX10_readNear_47 flX10_73 kt_2 rfl rfl ?_
      refine r_putI C 53 dX10_readNear_50 flX10_82 kt_31 rfl rfl (fun h_6 => ?_)
      refine r_aload_n C 54 0 rfl dX10_readNear_53 rfl ?_
      refine r_iconst C 55 (nI 1) (by decide) dX10_readNear_54 rfl ?_
      refine r_putZ C 58 dX10_readNear_55 flX10_15 kt_193 rfl rfl (fun h_7 => ?_)
      refine r_aload_n C 59 0 rfl dX10_readNear_58 rfl ?_
      refine r_getR C 62 dX10_readNear_59 flX10_22 kt_193 rfl rf_193_0 rfl ?_
      refine r_cViV C 65 [] (ok_f_X8_step h_7) dX10_readNear_62 lvX10_66 kt_2 rfl rfl rfl (by decide) (Nat.le_of_ble_eq_true rfl) rfl rfl (Nat.le_of_ble_eq_true rfl) rfl rfl (fun _ h_8 => ?_)
      refine r_aload_n C 66 0 rfl dX10_readNear_65 rfl ?_
      refine r_getR C 69 dX10_readNear_66 flX10_22 kt_193 rfl rf_193_0 rfl ?_
      refine r_bipush C 71 (nI 59) (by decide) dX10_readNear_69 rfl ?_
      refine r_cViI C 74 [] (ok_f_X8_take ((nI 59)) h_8) dX10_readNear_71 lvX10_79 kt_2 rfl rfl rfl (by decide) (Nat.le_of_ble_eq_true rfl) rfl rfl (Nat.le_of_ble_eq_true rfl) rfl rfl (fun v_9 h_10 => ?_)
      exact r_zretg C Rr dX10_readNear_74 (fun _ => rfl) rfl
  · refine r_aload_n C 8 0 rfl dX10_readNear_7 rfl ?_
    refine r_getR C 11 dX10_readNear_8 flX10_22 kt_193 rfl rf_193_0 rfl ?_
    refine r_iconst C 12 (nI 2) (by decide) dX10_readNear_11 rfl ?_
    refine r_cViI C 15 [] (ok_f_X8_refuse ((nI 2)) h) dX10_readNear_12 lvX10_59 kt_2 rfl rfl rfl (by decide) (Nat.le_of_ble_eq_true rfl) rfl rfl (Nat.le_of_ble_eq_true rfl) rfl rfl (fun v_11 h_12 => ?_)
    exact r_zretg C Rr dX10_readNear_15 (fun _ => rfl) rfl
set_option maxHeartbeats 4000000 in
theorem ok_f_X10_readNear   (h : CH) : ∀ q, f_X10_readNear h = some q → MG yX10_readNear cX10_readNear 1 (some .boolean) [193] 3 (fun ad => [.ref (ad 193)]) h ((fun (q : Int32 × CH) (_ : Nat → Nat) => some (Value.int q.1)) q) ((fun (q : (Int32 × CH)) => q.2) q) := mg_of RX10 (by decide) rfl (fun _ => Nat.le_of_ble_eq_true rfl) (fun κ C Rr => imp_f_X10_readNear C  h Rr)
set_option maxHeartbeats 4000000 in
set_option maxRecDepth 100000 in
theorem imp_f_X10_readLine {κ : Kx (Int32 × CH)} (C : Cx κ cX10_readLine RX10 1 5 (40 * 5) [193])   (h : CH) (Rr : Rt κ (some .boolean) (fun (q : Int32 × CH) (_ : Nat → Nat) => some (Value.int q.1)) (fun (q : (Int32 × CH)) => q.2)) : Imp κ 0 [(0, .ref (kad κ 193))] [] h (f_X10_readLine h) := by
  unfold f_X10_readLine
  refine r_aload_n C 1 0 rfl dX10_readLine_0 rfl ?_
  refine r_getR C 4 dX10_readLine_1 flX10_22 kt_193 rfl rf_193_0 rfl ?_
  refine r_getI C 7 dX10_readLine_4 flX10_35 kt_2 rfl rfl ?_
  refine imp_ite (fun g_1 => ?_) (fun g_1 => ?_)
  · refine r_tsIn C 60 (nI 0) g_1 dX10_readLine_7 (by decide) (by decide) rfl (by decide) ?_
    refine r_aload_n C 61 0 rfl dX10_readLine_60 rfl ?_
    refine r_cViI C 64 [] (ok_f_X10_readPoints h) dX10_readLine_61 lvX10_44 kt_193 rfl rfl rfl (by decide) (Nat.le_of_ble_eq_true rfl) rfl rfl (Nat.le_of_ble_eq_true rfl) rfl rfl (fun v_2 h_3 => ?_)
    exact r_zretg C Rr dX10_readLine_64 (fun _ => rfl) rfl
  · refine imp_ite (fun g_4 => ?_) (fun g_4 => ?_)
    · refine r_tsIn C 65 (nI 1) g_4 dX10_readLine_7 (by decide) (by decide) rfl (by decide) ?_
      refine r_aload_n C 66 0 rfl dX10_readLine_65 rfl ?_
      refine r_cViI C 69 [] (ok_f_X10_readFace h) dX10_readLine_66 lvX10_47 kt_193 rfl rfl rfl (by decide) (Nat.le_of_ble_eq_true rfl) rfl rfl (Nat.le_of_ble_eq_true rfl) rfl rfl (fun v_5 h_6 => ?_)
      exact r_zretg C Rr dX10_readLine_69 (fun _ => rfl) rfl
    · refine imp_ite (fun g_7 => ?_) (fun g_7 => ?_)
      · refine r_tsIn C 70 (nI 5) g_7 dX10_readLine_7 (by decide) (by decide) rfl (by decide) ?_
        refine r_aload_n C 71 0 rfl dX10_readLine_70 rfl ?_
        refine r_cViI C 74 [] (ok_f_X10_readKnows h) dX10_readLine_71 lvX10_50 kt_193 rfl rfl rfl (by decide) (Nat.le_of_ble_eq_true rfl) rfl rfl (Nat.le_of_ble_eq_true rfl) rfl rfl (fun v_8 h_9 => ?_)
        exact r_zretg C Rr dX10_readLine_74 (fun _ => rfl) rfl
      · refine imp_ite (fun g_10 => ?_) (fun g_10 => ?_)
        · refine r_tsIn C 75 (nI 6) g_10 dX10_readLine_7 (by decide) (by decide) rfl (by decide) ?_
          refine r_aload_n C 76 0 rfl dX10_readLine_75 rfl ?_
          refine r_cViI C 79 [] (ok_f_X10_readPrinter h) dX10_readLine_76 lvX10_53 kt_193 rfl rfl rfl (by decide) (Nat.le_of_ble_eq_true rfl) rfl rfl (Nat.le_of_ble_eq_true rfl) rfl rfl (fun v_11 h_12 => ?_)
          exact r_zretg C Rr dX10_readLine_79 (fun _ => rfl) rfl
        · refine imp_ite (fun g_13 => ?_) (fun g_13 => ?_)
          · refine r_tsIn C 80 (nI 9) g_13 dX10_readLine_7 (by decide) (by decide) rfl (by decide) ?_
            refine r_aload_n C 81 0 rfl dX10_readLine_80 rfl ?_
            refine r_cViI C 84 [] (ok_f_X10_readNear h) dX10_readLine_81 lvX10_56 kt_193 rfl rfl rfl (by decide) (Nat.le_of_ble_eq_true rfl) rfl rfl (Nat.le_of_ble_eq_true rfl) rfl rfl (fun v_14 h_15 => ?_)
            exact r_zretg C Rr dX10_readLine_84 (fun _ => rfl) rfl
          · by_cases g_18 : (h.1 2 10) = (nI 2)
            · refine r_tsIn C 85 (nI 2) g_18 dX10_readLine_7 (by decide) (by decide) rfl (by decide) ?_
              refine r_aload_n C 86 0 rfl dX10_readLine_85 rfl ?_
              refine r_getR C 89 dX10_readLine_86 flX10_22 kt_193 rfl rf_193_0 rfl ?_
              refine r_iconst C 90 (nI 2) (by decide) dX10_readLine_89 rfl ?_
              refine r_cViI C 93 [] (ok_f_X8_refuse ((nI 2)) h) dX10_readLine_90 lvX10_59 kt_2 rfl rfl rfl (by decide) (Nat.le_of_ble_eq_true rfl) rfl rfl (Nat.le_of_ble_eq_true rfl) rfl rfl (fun v_16 h_17 => ?_)
              exact r_zretg C Rr dX10_readLine_93 (fun _ => rfl) rfl
            · by_cases g_19 : (h.1 2 10) = (nI 3)
              · refine r_tsIn C 85 (nI 3) g_19 dX10_readLine_7 (by decide) (by decide) rfl (by decide) ?_
                refine r_aload_n C 86 0 rfl dX10_readLine_85 rfl ?_
                refine r_getR C 89 dX10_readLine_86 flX10_22 kt_193 rfl rf_193_0 rfl ?_
                refine r_iconst C 90 (nI 2) (by decide) dX10_readLine_89 rfl ?_
                refine r_cViI C 93 [] (ok_f_X8_refuse ((nI 2)) h) dX10_readLine_90 lvX10_59 kt_2 rfl rfl rfl (by decide) (Nat.le_of_ble_eq_true rfl) rfl rfl (Nat.le_of_ble_eq_true rfl) rfl rfl (fun v_16 h_17 => ?_)
                exact r_zretg C Rr dX10_readLine_93 (fun _ => rfl) rfl
              · by_cases g_20 : (h.1 2 10) = (nI 4)
                · refine r_tsIn C 85 (nI 4) g_20 dX10_readLine_7 (by decide) (by decide) rfl (by decide) ?_
                  refine r_aload_n C 86 0 rfl dX10_readLine_85 rfl ?_
                  refine r_getR C 89 dX10_readLine_86 flX10_22 kt_193 rfl rf_193_0 rfl ?_
                  refine r_iconst C 90 (nI 2) (by decide) dX10_readLine_89 rfl ?_
                  refine r_cViI C 93 [] (ok_f_X8_refuse ((nI 2)) h) dX10_readLine_90 lvX10_59 kt_2 rfl rfl rfl (by decide) (Nat.le_of_ble_eq_true rfl) rfl rfl (Nat.le_of_ble_eq_true rfl) rfl rfl (fun v_16 h_17 => ?_)
                  exact r_zretg C Rr dX10_readLine_93 (fun _ => rfl) rfl
                · by_cases g_21 : (h.1 2 10) = (nI 7)
                  · refine r_tsIn C 85 (nI 7) g_21 dX10_readLine_7 (by decide) (by decide) rfl (by decide) ?_
                    refine r_aload_n C 86 0 rfl dX10_readLine_85 rfl ?_
                    refine r_getR C 89 dX10_readLine_86 flX10_22 kt_193 rfl rf_193_0 rfl ?_
                    refine r_iconst C 90 (nI 2) (by decide) dX10_readLine_89 rfl ?_
                    refine r_cViI C 93 [] (ok_f_X8_refuse ((nI 2)) h) dX10_readLine_90 lvX10_59 kt_2 rfl rfl rfl (by decide) (Nat.le_of_ble_eq_true rfl) rfl rfl (Nat.le_of_ble_eq_true rfl) rfl rfl (fun v_16 h_17 => ?_)
                    exact r_zretg C Rr dX10_readLine_93 (fun _ => rfl) rfl
                  · by_cases g_22 : (h.1 2 10) = (nI 8)
                    · refine r_tsIn C 85 (nI 8) g_22 dX10_readLine_7 (by decide) (by decide) rfl (by decide) ?_
                      refine r_aload_n C 86 0 rfl dX10_readLine_85 rfl ?_
                      refine r_getR C 89 dX10_readLine_86 flX10_22 kt_193 rfl rf_193_0 rfl ?_
                      refine r_iconst C 90 (nI 2) (by decide) dX10_readLine_89 rfl ?_
                      refine r_cViI C 93 [] (ok_f_X8_refuse ((nI 2)) h) dX10_readLine_90 lvX10_59 kt_2 rfl rfl rfl (by decide) (Nat.le_of_ble_eq_true rfl) rfl rfl (Nat.le_of_ble_eq_true rfl) rfl rfl (fun v_16 h_17 => ?_)
                      exact r_zretg C Rr dX10_readLine_93 (fun _ => rfl) rfl
                    · refine r_tsOut C 85 dX10_readLine_7 (ts_out ?_) (by decide) ?_
                      · intro v h1 h2 e
                        have hv : v = 0 ∨ v = 1 ∨ v = 2 ∨ v = 3 ∨ v = 4 ∨ v = 5 ∨ v = 6 ∨ v = 7 ∨ v = 8 ∨ v = 9 := by omega
                        rcases hv with rfl | rfl | rfl | rfl | rfl | rfl | rfl | rfl | rfl | rfl
                        · exact g_1 (e.trans (by decide))
                        · exact g_4 (e.trans (by decide))
                        · exact g_18 (e.trans (by decide))
                        · exact g_19 (e.trans (by decide))
                        · exact g_20 (e.trans (by decide))
                        · exact g_7 (e.trans (by decide))
                        · exact g_10 (e.trans (by decide))
                        · exact g_21 (e.trans (by decide))
                        · exact g_22 (e.trans (by decide))
                        · exact g_13 (e.trans (by decide))
                      · refine r_aload_n C 86 0 rfl dX10_readLine_85 rfl ?_
                        refine r_getR C 89 dX10_readLine_86 flX10_22 kt_193 rfl rf_193_0 rfl ?_
                        refine r_iconst C 90 (nI 2) (by decide) dX10_readLine_89 rfl ?_
                        refine r_cViI C 93 [] (ok_f_X8_refuse ((nI 2)) h) dX10_readLine_90 lvX10_59 kt_2 rfl rfl rfl (by decide) (Nat.le_of_ble_eq_true rfl) rfl rfl (Nat.le_of_ble_eq_true rfl) rfl rfl (fun v_16 h_17 => ?_)
                        exact r_zretg C Rr dX10_readLine_93 (fun _ => rfl) rfl
set_option maxHeartbeats 4000000 in
theorem ok_f_X10_readLine   (h : CH) : ∀ q, f_X10_readLine h = some q → MG yX10_readLine cX10_readLine 1 (some .boolean) [193] 5 (fun ad => [.ref (ad 193)]) h ((fun (q : Int32 × CH) (_ : Nat → Nat) => some (Value.int q.1)) q) ((fun (q : (Int32 × CH)) => q.2) q) := mg_of RX10 (by decide) rfl (fun _ => Nat.le_of_ble_eq_true rfl) (fun κ C Rr => imp_f_X10_readLine C  h Rr)
set_option maxHeartbeats 4000000 in
set_option maxRecDepth 100000 in
theorem imp_f_X10_read_L9 {κ : Kx (Int32 × CH)} (C : Cx κ cX10_read RX10 2 6 (40 * 6) [193])     (Rr : Rt κ (some .boolean) (fun (q : Int32 × CH) (_ : Nat → Nat) => some (Value.int q.1)) (fun (q : (Int32 × CH)) => q.2)) : ∀ (n : Nat) (x1 : Int32) (h : CH), Imp κ 9 [(0, .ref (kad κ 193)), (1, .int (x1))] [] h (f_X10_read_L9 n x1 h) := by
  intro n
  induction n with
  | zero => intros; exact imp_none
  | succ n ih =>
    intro x1 h
    rw [f_X10_read_L9]
    refine r_iload_n C 10 1 rfl dX10_read_9 rfl ?_
    refine r_sipush C 13 (nI 1600) (by decide) dX10_read_10 rfl ?_
    refine r_icmp_ge C 16 43 dX10_read_13 (by decide) rfl (fun c_2 => ?_) (fun c_2 => ?_)
    · refine r_aload_n C 17 0 rfl dX10_read_16 rfl ?_
      refine r_getR C 20 dX10_read_17 flX10_22 kt_193 rfl rf_193_0 rfl ?_
      refine r_getI C 23 dX10_read_20 flX10_35 kt_2 rfl rfl ?_
      refine r_bipush C 25 (nI 26) (by decide) dX10_read_23 rfl ?_
      refine r_icmp_eq C 28 43 dX10_read_25 (by decide) rfl (fun c_3 => ?_) (fun c_3 => ?_)
      · refine r_iconst C 44 (nI 1) (by decide) dX10_read_43 rfl ?_
        exact r_zret C Rr (by decide) dX10_read_44 (fun _ => rfl) rfl
      · refine r_aload_n C 29 0 rfl dX10_read_28 rfl ?_
        refine r_cViI C 32 [] (ok_f_X10_readLine h) dX10_read_29 lvX10_40 kt_193 rfl rfl rfl (by decide) (Nat.le_of_ble_eq_true rfl) rfl rfl (Nat.le_of_ble_eq_true rfl) rfl rfl (fun v_4 h_5 => ?_)
        refine r_if_ne C 35 37 dX10_read_32 (by decide) rfl (fun c_6 => ?_) (fun c_6 => ?_)
        · refine r_iconst C 36 (nI 0) (by decide) dX10_read_35 rfl ?_
          exact r_zret C Rr (by decide) dX10_read_36 (fun _ => rfl) rfl
        · refine r_iinc C 40 1 (nI 1) [(1, .int (x1 + (nI 1))), (0, .ref (kad κ 193))] dX10_read_37 rfl (by decide) (by decide) rfl rfl ?_
          refine r_goto C 9 dX10_read_40 (by decide) ?_
          exact imp_sub [(0, .ref (kad κ 193)), (1, .int (x1 + (nI 1)))] [1, 0] rfl (ih (x1 + (nI 1)) h_5)
    · refine r_iconst C 44 (nI 1) (by decide) dX10_read_43 rfl ?_
      exact r_zret C Rr (by decide) dX10_read_44 (fun _ => rfl) rfl
set_option maxHeartbeats 4000000 in
set_option maxRecDepth 100000 in
theorem imp_f_X10_read {κ : Kx (Int32 × CH)} (C : Cx κ cX10_read RX10 2 6 (40 * 6) [193])   (h : CH) (Rr : Rt κ (some .boolean) (fun (q : Int32 × CH) (_ : Nat → Nat) => some (Value.int q.1)) (fun (q : (Int32 × CH)) => q.2)) : Imp κ 0 [(0, .ref (kad κ 193))] [] h (f_X10_read h) := by
  unfold f_X10_read
  refine r_aload_n C 1 0 rfl dX10_read_0 rfl ?_
  refine r_getR C 4 dX10_read_1 flX10_26 kt_193 rfl rf_193_1 rfl ?_
  refine r_cViV C 7 [] (ok_f_X9_clear_31 h) dX10_read_4 lvX10_30 kt_31 rfl rfl rfl (by decide) (Nat.le_of_ble_eq_true rfl) rfl rfl (Nat.le_of_ble_eq_true rfl) rfl rfl (fun _ h_1 => ?_)
  refine r_iconst C 8 (nI 0) (by decide) dX10_read_7 rfl ?_
  refine r_istore_n C 9 1 [(1, .int ((nI 0))), (0, .ref (kad κ 193))] dX10_read_8 rfl (by decide) rfl rfl ?_
  refine imp_sub [(0, .ref (kad κ 193)), (1, .int ((nI 0)))] [1, 0] rfl ?_
  refine imp_f_X10_read_L9 C Rr FU ((nI 0)) h_1
set_option maxHeartbeats 4000000 in
theorem ok_f_X10_read   (h : CH) : ∀ q, f_X10_read h = some q → MG yX10_read cX10_read 2 (some .boolean) [193] 6 (fun ad => [.ref (ad 193)]) h ((fun (q : Int32 × CH) (_ : Nat → Nat) => some (Value.int q.1)) q) ((fun (q : (Int32 × CH)) => q.2) q) := mg_of RX10 (by decide) rfl (fun _ => Nat.le_of_ble_eq_true rfl) (fun κ C Rr => imp_f_X10_read C  h Rr)
set_option maxHeartbeats 4000000 in
set_option maxRecDepth 100000 in
theorem imp_f_X11_keepFault {κ : Kx (Unit × CH)} (C : Cx κ cX11_keepFault RX11 1 1 (40 * 1) [])   (h : CH) (Rr : Rt κ none (fun (_ : Unit × CH) (_ : Nat → Nat) => (none : Option Value)) (fun (q : (Unit × CH)) => q.2)) : Imp κ 0 [(0, .ref (kad κ 0))] [] h (f_X11_keepFault h) := by
  unfold f_X11_keepFault
  refine r_aload_n C 1 0 rfl dX11_keepFault_0 rfl ?_
  refine r_aload_n C 2 0 rfl dX11_keepFault_1 rfl ?_
  refine r_getR C 5 dX11_keepFault_2 flX11_28 kt_0 rfl rf_0_4 rfl ?_
  refine r_getI C 8 dX11_keepFault_5 flX11_158 kt_2 rfl rfl ?_
  refine r_putI C 11 dX11_keepFault_8 flX11_17 kt_0 rfl rfl (fun h_1 => ?_)
  refine r_aload_n C 12 0 rfl dX11_keepFault_11 rfl ?_
  refine r_aload_n C 13 0 rfl dX11_keepFault_12 rfl ?_
  refine r_getR C 16 dX11_keepFault_13 flX11_28 kt_0 rfl rf_0_4 rfl ?_
  refine r_getI C 19 dX11_keepFault_16 flX11_159 kt_2 rfl rfl ?_
  refine r_putI C 22 dX11_keepFault_19 flX11_20 kt_0 rfl rfl (fun h_2 => ?_)
  exact r_vret C Rr dX11_keepFault_22 (fun _ => rfl) rfl
set_option maxHeartbeats 4000000 in
theorem ok_f_X11_keepFault   (h : CH) : ∀ q, f_X11_keepFault h = some q → MG yX11_keepFault cX11_keepFault 1 none [] 1 (fun ad => [.ref (ad 0)]) h ((fun (_ : Unit × CH) (_ : Nat → Nat) => (none : Option Value)) q) ((fun (q : (Unit × CH)) => q.2) q) := mg_of RX11 (by decide) rfl (fun _ => Nat.le_of_ble_eq_true rfl) (fun κ C Rr => imp_f_X11_keepFault C  h Rr)
set_option maxHeartbeats 4000000 in
set_option maxRecDepth 100000 in
theorem imp_f_X9_setPrinter_7 {κ : Kx (Unit × CH)} (C : Cx κ cX9_setPrinter RX9 4 1 (40 * 1) []) (x1 : Int32) (x2 : Int32) (x3 : Int32)  (h : CH) (Rr : Rt κ none (fun (_ : Unit × CH) (_ : Nat → Nat) => (none : Option Value)) (fun (q : (Unit × CH)) => q.2)) : Imp κ 0 [(0, .ref (kad κ 7)), (1, .int (x1)), (2, .int (x2)), (3, .int (x3))] [] h (f_X9_setPrinter_7 x1 x2 x3 h) := by
  unfold f_X9_setPrinter_7
  refine r_iload_n C 1 1 rfl dX9_setPrinter_0 rfl ?_
  refine r_if_lt C 4 23 dX9_setPrinter_1 (by decide) rfl (fun c_1 => ?_) (fun c_1 => ?_)
  · exact r_vret C Rr dX9_setPrinter_23 (fun _ => rfl) rfl
  · refine r_iload_n C 5 1 rfl dX9_setPrinter_4 rfl ?_
    refine r_iconst C 6 (nI 4) (by decide) dX9_setPrinter_5 rfl ?_
    refine r_icmp_ge C 9 23 dX9_setPrinter_6 (by decide) rfl (fun c_2 => ?_) (fun c_2 => ?_)
    · refine r_aload_n C 10 0 rfl dX9_setPrinter_9 rfl ?_
      refine r_getR C 13 dX9_setPrinter_10 flX9_43 kt_7 rfl rf_7_9 rfl ?_
      refine r_iload_n C 14 1 rfl dX9_setPrinter_13 rfl ?_
      refine r_iload_n C 15 2 rfl dX9_setPrinter_14 rfl ?_
      refine r_iast C 16 dX9_setPrinter_15 kt_29 rfl rfl (fun h_3 => ?_)
      refine r_aload_n C 17 0 rfl dX9_setPrinter_16 rfl ?_
      refine r_getR C 20 dX9_setPrinter_17 flX9_46 kt_7 rfl rf_7_10 rfl ?_
      refine r_iload_n C 21 1 rfl dX9_setPrinter_20 rfl ?_
      refine r_iload_n C 22 3 rfl dX9_setPrinter_21 rfl ?_
      refine r_iast C 23 dX9_setPrinter_22 kt_30 rfl rfl (fun h_4 => ?_)
      exact r_vret C Rr dX9_setPrinter_23 (fun _ => rfl) rfl
    · exact r_vret C Rr dX9_setPrinter_23 (fun _ => rfl) rfl
set_option maxHeartbeats 4000000 in
theorem ok_f_X9_setPrinter_7 (x1 : Int32) (x2 : Int32) (x3 : Int32)  (h : CH) : ∀ q, f_X9_setPrinter_7 x1 x2 x3 h = some q → MG yX9_setPrinter cX9_setPrinter 4 none [] 1 (fun ad => [.ref (ad 7), .int x1, .int x2, .int x3]) h ((fun (_ : Unit × CH) (_ : Nat → Nat) => (none : Option Value)) q) ((fun (q : (Unit × CH)) => q.2) q) := mg_of RX9 (by decide) rfl (fun _ => Nat.le_of_ble_eq_true rfl) (fun κ C Rr => imp_f_X9_setPrinter_7 C x1 x2 x3 h Rr)
set_option maxHeartbeats 4000000 in
set_option maxRecDepth 100000 in
theorem imp_f_X9_copyFrom_7_31_L115 {κ : Kx (Unit × CH)} (C : Cx κ cX9_copyFrom RX9 3 2 (40 * 2) [])     (Rr : Rt κ none (fun (_ : Unit × CH) (_ : Nat → Nat) => (none : Option Value)) (fun (q : (Unit × CH)) => q.2)) : ∀ (n : Nat) (x2 : Int32) (h : CH), Imp κ 115 [(0, .ref (kad κ 7)), (1, .ref (kad κ 31)), (2, .int (x2))] [] h (f_X9_copyFrom_7_31_L115 n x2 h) := by
  intro n
  induction n with
  | zero => intros; exact imp_none
  | succ n ih =>
    intro x2 h
    rw [f_X9_copyFrom_7_31_L115]
    refine r_iload_n C 116 2 rfl dX9_copyFrom_115 rfl ?_
    refine r_iconst C 117 (nI 4) (by decide) dX9_copyFrom_116 rfl ?_
    refine r_icmp_ge C 120 143 dX9_copyFrom_117 (by decide) rfl (fun c_17 => ?_) (fun c_17 => ?_)
    · refine r_aload_n C 121 0 rfl dX9_copyFrom_120 rfl ?_
      refine r_iload_n C 122 2 rfl dX9_copyFrom_121 rfl ?_
      refine r_aload_n C 123 1 rfl dX9_copyFrom_122 rfl ?_
      refine r_getR C 126 dX9_copyFrom_123 flX9_43 kt_31 rfl rf_31_9 rfl ?_
      refine r_iload_n C 127 2 rfl dX9_copyFrom_126 rfl ?_
      refine r_iald C 128 dX9_copyFrom_127 kt_53 rfl rfl (fun v_18 => ?_)
      refine r_aload_n C 129 1 rfl dX9_copyFrom_128 rfl ?_
      refine r_getR C 132 dX9_copyFrom_129 flX9_46 kt_31 rfl rf_31_10 rfl ?_
      refine r_iload_n C 133 2 rfl dX9_copyFrom_132 rfl ?_
      refine r_iald C 134 dX9_copyFrom_133 kt_54 rfl rfl (fun v_19 => ?_)
      refine r_cViV C 137 [] (ok_f_X9_setPrinter_7 x2 v_18 v_19 h) dX9_copyFrom_134 lvX9_49 kt_7 rfl rfl rfl (by decide) (Nat.le_of_ble_eq_true rfl) rfl rfl (Nat.le_of_ble_eq_true rfl) rfl rfl (fun _ h_20 => ?_)
      refine r_iinc C 140 2 (nI 1) [(2, .int (x2 + (nI 1))), (0, .ref (kad κ 7)), (1, .ref (kad κ 31))] dX9_copyFrom_137 rfl (by decide) (by decide) rfl rfl ?_
      refine r_goto C 115 dX9_copyFrom_140 (by decide) ?_
      exact imp_sub [(0, .ref (kad κ 7)), (1, .ref (kad κ 31)), (2, .int (x2 + (nI 1)))] [1, 2, 0] rfl (ih (x2 + (nI 1)) h_20)
    · exact r_vret C Rr dX9_copyFrom_143 (fun _ => rfl) rfl
set_option maxHeartbeats 4000000 in
set_option maxRecDepth 100000 in
theorem imp_f_X9_copyFrom_7_31_L34 {κ : Kx (Unit × CH)} (C : Cx κ cX9_copyFrom RX9 3 2 (40 * 2) [])     (Rr : Rt κ none (fun (_ : Unit × CH) (_ : Nat → Nat) => (none : Option Value)) (fun (q : (Unit × CH)) => q.2)) : ∀ (n : Nat) (x2 : Int32) (h : CH), Imp κ 34 [(0, .ref (kad κ 7)), (1, .ref (kad κ 31)), (2, .int (x2))] [] h (f_X9_copyFrom_7_31_L34 n x2 h) := by
  intro n
  induction n with
  | zero => intros; exact imp_none
  | succ n ih =>
    intro x2 h
    rw [f_X9_copyFrom_7_31_L34]
    refine r_iload_n C 35 2 rfl dX9_copyFrom_34 rfl ?_
    refine r_bipush C 37 (nI 16) (by decide) dX9_copyFrom_35 rfl ?_
    refine r_icmp_ge C 40 113 dX9_copyFrom_37 (by decide) rfl (fun c_5 => ?_) (fun c_5 => ?_)
    · refine r_aload_n C 41 0 rfl dX9_copyFrom_40 rfl ?_
      refine r_getR C 44 dX9_copyFrom_41 flX9_24 kt_7 rfl rf_7_4 rfl ?_
      refine r_iload_n C 45 2 rfl dX9_copyFrom_44 rfl ?_
      refine r_aload_n C 46 1 rfl dX9_copyFrom_45 rfl ?_
      refine r_getR C 49 dX9_copyFrom_46 flX9_24 kt_31 rfl rf_31_4 rfl ?_
      refine r_iload_n C 50 2 rfl dX9_copyFrom_49 rfl ?_
      refine r_lald C 51 dX9_copyFrom_50 kt_32 rfl rfl (fun v_6 => ?_)
      refine r_last C 52 dX9_copyFrom_51 kt_8 rfl rfl (fun h_7 => ?_)
      refine r_aload_n C 53 0 rfl dX9_copyFrom_52 rfl ?_
      refine r_getR C 56 dX9_copyFrom_53 flX9_28 kt_7 rfl rf_7_5 rfl ?_
      refine r_iload_n C 57 2 rfl dX9_copyFrom_56 rfl ?_
      refine r_aload_n C 58 1 rfl dX9_copyFrom_57 rfl ?_
      refine r_getR C 61 dX9_copyFrom_58 flX9_28 kt_31 rfl rf_31_5 rfl ?_
      refine r_iload_n C 62 2 rfl dX9_copyFrom_61 rfl ?_
      refine r_iald C 63 dX9_copyFrom_62 kt_33 rfl rfl (fun v_8 => ?_)
      refine r_iast C 64 dX9_copyFrom_63 kt_9 rfl rfl (fun h_9 => ?_)
      refine r_aload_n C 65 0 rfl dX9_copyFrom_64 rfl ?_
      refine r_getR C 68 dX9_copyFrom_65 flX9_32 kt_7 rfl rf_7_6 rfl ?_
      refine r_iload_n C 69 2 rfl dX9_copyFrom_68 rfl ?_
      refine r_aload_n C 70 1 rfl dX9_copyFrom_69 rfl ?_
      refine r_getR C 73 dX9_copyFrom_70 flX9_32 kt_31 rfl rf_31_6 rfl ?_
      refine r_iload_n C 74 2 rfl dX9_copyFrom_73 rfl ?_
      refine r_iald C 75 dX9_copyFrom_74 kt_34 rfl rfl (fun v_10 => ?_)
      refine r_iast C 76 dX9_copyFrom_75 kt_10 rfl rfl (fun h_11 => ?_)
      refine r_aload_n C 77 0 rfl dX9_copyFrom_76 rfl ?_
      refine r_getR C 80 dX9_copyFrom_77 flX9_40 kt_7 rfl rf_7_8 rfl ?_
      refine r_iload_n C 81 2 rfl dX9_copyFrom_80 rfl ?_
      refine r_aload_n C 82 1 rfl dX9_copyFrom_81 rfl ?_
      refine r_getR C 85 dX9_copyFrom_82 flX9_40 kt_31 rfl rf_31_8 rfl ?_
      refine r_iload_n C 86 2 rfl dX9_copyFrom_85 rfl ?_
      refine r_iald C 87 dX9_copyFrom_86 kt_52 rfl rfl (fun v_12 => ?_)
      refine r_iast C 88 dX9_copyFrom_87 kt_28 rfl rfl (fun h_13 => ?_)
      refine r_aload_n C 89 1 rfl dX9_copyFrom_88 rfl ?_
      refine r_getR C 92 dX9_copyFrom_89 flX9_37 kt_31 rfl rf_31_7 rfl ?_
      refine r_iload_n C 93 2 rfl dX9_copyFrom_92 rfl ?_
      refine r_aald C 94 dX9_copyFrom_93 kt_35 rfl rq_35 kq_35 rfl (fun q_14 hq_14 => ?_)
      refine r_iconst C 95 (nI 0) (by decide) dX9_copyFrom_94 rfl ?_
      refine r_aload_n C 96 0 rfl dX9_copyFrom_95 rfl ?_
      refine r_getR C 99 dX9_copyFrom_96 flX9_37 kt_7 rfl rf_7_7 rfl ?_
      refine r_iload_n C 100 2 rfl dX9_copyFrom_99 rfl ?_
      refine r_aald C 101 dX9_copyFrom_100 kt_11 rfl rq_11 kq_11 rfl (fun q_15 hq_15 => ?_)
      refine r_iconst C 102 (nI 0) (by decide) dX9_copyFrom_101 rfl ?_
      refine r_bipush C 104 (nI 8) (by decide) dX9_copyFrom_102 rfl ?_
      refine r_acopyN C 107 dX9_copyFrom_104 lacX9_53 hq_14.1 (okid_lt hq_14.2) hq_15.1 (okid_lt hq_15.2) (Nat.le_of_ble_eq_true rfl) (by decide) rfl (fun h_16 => ?_)
      refine r_iinc C 110 2 (nI 1) [(2, .int (x2 + (nI 1))), (0, .ref (kad κ 7)), (1, .ref (kad κ 31))] dX9_copyFrom_107 rfl (by decide) (by decide) rfl rfl ?_
      refine r_goto C 34 dX9_copyFrom_110 (by decide) ?_
      exact imp_sub [(0, .ref (kad κ 7)), (1, .ref (kad κ 31)), (2, .int (x2 + (nI 1)))] [1, 2, 0] rfl (ih (x2 + (nI 1)) h_16)
    · refine r_iconst C 114 (nI 0) (by decide) dX9_copyFrom_113 rfl ?_
      refine r_istore_n C 115 2 [(2, .int ((nI 0))), (0, .ref (kad κ 7)), (1, .ref (kad κ 31))] dX9_copyFrom_114 rfl (by decide) rfl rfl ?_
      refine imp_sub [(0, .ref (kad κ 7)), (1, .ref (kad κ 31)), (2, .int ((nI 0)))] [1, 2, 0] rfl ?_
      refine imp_f_X9_copyFrom_7_31_L115 C Rr FU ((nI 0)) h
set_option maxHeartbeats 4000000 in
set_option maxRecDepth 100000 in
theorem imp_f_X9_copyFrom_7_31 {κ : Kx (Unit × CH)} (C : Cx κ cX9_copyFrom RX9 3 2 (40 * 2) [])   (h : CH) (Rr : Rt κ none (fun (_ : Unit × CH) (_ : Nat → Nat) => (none : Option Value)) (fun (q : (Unit × CH)) => q.2)) : Imp κ 0 [(0, .ref (kad κ 7)), (1, .ref (kad κ 31))] [] h (f_X9_copyFrom_7_31 h) := by
  unfold f_X9_copyFrom_7_31
  refine r_aload_n C 1 0 rfl dX9_copyFrom_0 rfl ?_
  refine r_aload_n C 2 1 rfl dX9_copyFrom_1 rfl ?_
  refine r_getI C 5 dX9_copyFrom_2 flX9_9 kt_31 rfl rfl ?_
  refine r_putI C 8 dX9_copyFrom_5 flX9_9 kt_7 rfl rfl (fun h_1 => ?_)
  refine r_aload_n C 9 0 rfl dX9_copyFrom_8 rfl ?_
  refine r_aload_n C 10 1 rfl dX9_copyFrom_9 rfl ?_
  refine r_getI C 13 dX9_copyFrom_10 flX9_15 kt_31 rfl rfl ?_
  refine r_putI C 16 dX9_copyFrom_13 flX9_15 kt_7 rfl rfl (fun h_2 => ?_)
  refine r_aload_n C 17 0 rfl dX9_copyFrom_16 rfl ?_
  refine r_aload_n C 18 1 rfl dX9_copyFrom_17 rfl ?_
  refine r_getI C 21 dX9_copyFrom_18 flX9_18 kt_31 rfl rfl ?_
  refine r_putI C 24 dX9_copyFrom_21 flX9_18 kt_7 rfl rfl (fun h_3 => ?_)
  refine r_aload_n C 25 0 rfl dX9_copyFrom_24 rfl ?_
  refine r_aload_n C 26 1 rfl dX9_copyFrom_25 rfl ?_
  refine r_getI C 29 dX9_copyFrom_26 flX9_21 kt_31 rfl rfl ?_
  refine r_putI C 32 dX9_copyFrom_29 flX9_21 kt_7 rfl rfl (fun h_4 => ?_)
  refine r_iconst C 33 (nI 0) (by decide) dX9_copyFrom_32 rfl ?_
  refine r_istore_n C 34 2 [(2, .int ((nI 0))), (0, .ref (kad κ 7)), (1, .ref (kad κ 31))] dX9_copyFrom_33 rfl (by decide) rfl rfl ?_
  refine imp_sub [(0, .ref (kad κ 7)), (1, .ref (kad κ 31)), (2, .int ((nI 0)))] [1, 2, 0] rfl ?_
  refine imp_f_X9_copyFrom_7_31_L34 C Rr FU ((nI 0)) h_4
set_option maxHeartbeats 4000000 in
theorem ok_f_X9_copyFrom_7_31   (h : CH) : ∀ q, f_X9_copyFrom_7_31 h = some q → MG yX9_copyFrom cX9_copyFrom 3 none [] 2 (fun ad => [.ref (ad 7), .ref (ad 31)]) h ((fun (_ : Unit × CH) (_ : Nat → Nat) => (none : Option Value)) q) ((fun (q : (Unit × CH)) => q.2) q) := mg_of RX9 (by decide) rfl (fun _ => Nat.le_of_ble_eq_true rfl) (fun κ C Rr => imp_f_X9_copyFrom_7_31 C  h Rr)
set_option maxHeartbeats 4000000 in
set_option maxRecDepth 100000 in
theorem imp_f_X5_clear_55 {κ : Kx (Unit × CH)} (C : Cx κ cX5_clear RX5 1 1 (40 * 1) [])   (h : CH) (Rr : Rt κ none (fun (_ : Unit × CH) (_ : Nat → Nat) => (none : Option Value)) (fun (q : (Unit × CH)) => q.2)) : Imp κ 0 [(0, .ref (kad κ 55))] [] h (f_X5_clear_55 h) := by
  unfold f_X5_clear_55
  refine r_aload_n C 1 0 rfl dX5_clear_0 rfl ?_
  refine r_iconst C 2 (nI 0) (by decide) dX5_clear_1 rfl ?_
  refine r_putI C 5 dX5_clear_2 flX5_9 kt_55 rfl rfl (fun h_1 => ?_)
  refine r_aload_n C 6 0 rfl dX5_clear_5 rfl ?_
  refine r_iconst C 7 (nI 0) (by decide) dX5_clear_6 rfl ?_
  refine r_putI C 10 dX5_clear_7 flX5_15 kt_55 rfl rfl (fun h_2 => ?_)
  refine r_aload_n C 11 0 rfl dX5_clear_10 rfl ?_
  refine r_iconst C 12 (nI 0) (by decide) dX5_clear_11 rfl ?_
  refine r_putI C 15 dX5_clear_12 flX5_28 kt_55 rfl rfl (fun h_3 => ?_)
  refine r_aload_n C 16 0 rfl dX5_clear_15 rfl ?_
  refine r_iconst C 17 (nI 0) (by decide) dX5_clear_16 rfl ?_
  refine r_putZ C 20 dX5_clear_17 flX5_18 kt_55 rfl rfl (fun h_4 => ?_)
  exact r_vret C Rr dX5_clear_20 (fun _ => rfl) rfl
set_option maxHeartbeats 4000000 in
theorem ok_f_X5_clear_55   (h : CH) : ∀ q, f_X5_clear_55 h = some q → MG yX5_clear cX5_clear 1 none [] 1 (fun ad => [.ref (ad 55)]) h ((fun (_ : Unit × CH) (_ : Nat → Nat) => (none : Option Value)) q) ((fun (q : (Unit × CH)) => q.2) q) := mg_of RX5 (by decide) rfl (fun _ => Nat.le_of_ble_eq_true rfl) (fun κ C Rr => imp_f_X5_clear_55 C  h Rr)
set_option maxHeartbeats 4000000 in
set_option maxRecDepth 100000 in
theorem imp_f_X2_empty_71 {κ : Kx (Unit × CH)} (C : Cx κ cX2_empty RX2 1 1 (40 * 1) [])   (h : CH) (Rr : Rt κ none (fun (_ : Unit × CH) (_ : Nat → Nat) => (none : Option Value)) (fun (q : (Unit × CH)) => q.2)) : Imp κ 0 [(0, .ref (kad κ 71))] [] h (f_X2_empty_71 h) := by
  unfold f_X2_empty_71
  refine r_aload_n C 1 0 rfl dX2_empty_0 rfl ?_
  refine r_iconst C 2 (nI 0) (by decide) dX2_empty_1 rfl ?_
  refine r_putI C 5 dX2_empty_2 flX2_9 kt_71 rfl rfl (fun h_1 => ?_)
  exact r_vret C Rr dX2_empty_5 (fun _ => rfl) rfl
set_option maxHeartbeats 4000000 in
theorem ok_f_X2_empty_71   (h : CH) : ∀ q, f_X2_empty_71 h = some q → MG yX2_empty cX2_empty 1 none [] 1 (fun ad => [.ref (ad 71)]) h ((fun (_ : Unit × CH) (_ : Nat → Nat) => (none : Option Value)) q) ((fun (q : (Unit × CH)) => q.2) q) := mg_of RX2 (by decide) rfl (fun _ => Nat.le_of_ble_eq_true rfl) (fun κ C Rr => imp_f_X2_empty_71 C  h Rr)
set_option maxHeartbeats 4000000 in
set_option maxRecDepth 100000 in
theorem imp_f_X11_emptyBoxes_L2 {κ : Kx (Unit × CH)} (C : Cx κ cX11_emptyBoxes RX11 3 2 (40 * 2) [])     (Rr : Rt κ none (fun (_ : Unit × CH) (_ : Nat → Nat) => (none : Option Value)) (fun (q : (Unit × CH)) => q.2)) : ∀ (n : Nat) (x1 : Int32) (h : CH), Imp κ 2 [(0, .ref (kad κ 0)), (1, .int (x1))] [] h (f_X11_emptyBoxes_L2 n x1 h) := by
  intro n
  induction n with
  | zero => intros; exact imp_none
  | succ n ih =>
    intro x1 h
    rw [f_X11_emptyBoxes_L2]
    refine r_iload_n C 3 1 rfl dX11_emptyBoxes_2 rfl ?_
    refine r_iconst C 4 (nI 3) (by decide) dX11_emptyBoxes_3 rfl ?_
    refine r_icmp_ge C 7 28 dX11_emptyBoxes_4 (by decide) rfl (fun c_1 => ?_) (fun c_1 => ?_)
    · refine r_aload_n C 8 0 rfl dX11_emptyBoxes_7 rfl ?_
      refine r_iload_n C 9 1 rfl dX11_emptyBoxes_8 rfl ?_
      refine r_cVpO C 12 [] (ok_f_X11_boxAt x1 h) dX11_emptyBoxes_9 lvX11_309 kt_0 rfl rfl rfl (by decide) (Nat.le_of_ble_eq_true rfl) rfl rfl (Nat.le_of_ble_eq_true rfl) rfl rfl (fun v_2 => ?_)
      refine r_astore_nO C 13 2 [(2, va_rf (Option.map (kad κ) v_2)), (0, .ref (kad κ 0)), (1, .int (x1))] dX11_emptyBoxes_12 rfl (by decide) rfl rfl ?_
      refine r_aload_nO C 14 0 rfl dX11_emptyBoxes_13 rfl ?_
      refine imp_jn (fun (j_4 : CH → Option (Unit × CH)) => ∀ (h_3 : CH), Imp κ 22 [(0, .ref (kad κ 0)), (1, .int (x1))] [] h_3 (j_4 h_3)) ?_ ?_
      · intro h_3
        refine r_iinc C 25 1 (nI 1) [(1, .int (x1 + (nI 1))), (0, .ref (kad κ 0))] dX11_emptyBoxes_22 rfl (by decide) (by decide) rfl rfl ?_
        refine r_goto C 2 dX11_emptyBoxes_25 (by decide) ?_
        exact imp_sub [(0, .ref (kad κ 0)), (1, .int (x1 + (nI 1)))] [1, 0] rfl (ih (x1 + (nI 1)) h_3)
      · intro j_4 hj_4
        refine imp_ite (fun e_5 => ?_) (fun e_5 => ?_)
        · rw [e_5]
          refine r_ifnullN C 22 dX11_emptyBoxes_14 (by decide) ?_
          exact imp_sub [(0, .ref (kad κ 0)), (1, .int (x1))] [1, 2] rfl (hj_4 h)
        · refine imp_ite (fun e_7 => ?_) (fun e_7 => ?_)
          · rw [e_7]
            refine r_ifnull C 17 dX11_emptyBoxes_14 rfl ?_
            refine r_aload_n C 18 0 rfl dX11_emptyBoxes_17 rfl ?_
            refine r_iconst C 19 (nI 0) (by decide) dX11_emptyBoxes_18 rfl ?_
            refine r_putZ C 22 dX11_emptyBoxes_19 flX11_316 kt_130 rfl rfl (fun h_6 => ?_)
            exact imp_sub [(0, .ref (kad κ 0)), (1, .int (x1))] [1, 2] rfl (hj_4 h_6)
          · refine imp_ite (fun e_9 => ?_) (fun e_9 => ?_)
            · rw [e_9]
              refine r_ifnull C 17 dX11_emptyBoxes_14 rfl ?_
              refine r_aload_n C 18 0 rfl dX11_emptyBoxes_17 rfl ?_
              refine r_iconst C 19 (nI 0) (by decide) dX11_emptyBoxes_18 rfl ?_
              refine r_putZ C 22 dX11_emptyBoxes_19 flX11_316 kt_137 rfl rfl (fun h_8 => ?_)
              exact imp_sub [(0, .ref (kad κ 0)), (1, .int (x1))] [1, 2] rfl (hj_4 h_8)
            · refine imp_ite (fun e_11 => ?_) (fun e_11 => ?_)
              · rw [e_11]
                refine r_ifnull C 17 dX11_emptyBoxes_14 rfl ?_
                refine r_aload_n C 18 0 rfl dX11_emptyBoxes_17 rfl ?_
                refine r_iconst C 19 (nI 0) (by decide) dX11_emptyBoxes_18 rfl ?_
                refine r_putZ C 22 dX11_emptyBoxes_19 flX11_316 kt_144 rfl rfl (fun h_10 => ?_)
                exact imp_sub [(0, .ref (kad κ 0)), (1, .int (x1))] [1, 2] rfl (hj_4 h_10)
              · exact imp_none
    · exact r_vret C Rr dX11_emptyBoxes_28 (fun _ => rfl) rfl
set_option maxHeartbeats 4000000 in
set_option maxRecDepth 100000 in
theorem imp_f_X11_emptyBoxes {κ : Kx (Unit × CH)} (C : Cx κ cX11_emptyBoxes RX11 3 2 (40 * 2) [])   (h : CH) (Rr : Rt κ none (fun (_ : Unit × CH) (_ : Nat → Nat) => (none : Option Value)) (fun (q : (Unit × CH)) => q.2)) : Imp κ 0 [(0, .ref (kad κ 0))] [] h (f_X11_emptyBoxes h) := by
  unfold f_X11_emptyBoxes
  refine r_iconst C 1 (nI 0) (by decide) dX11_emptyBoxes_0 rfl ?_
  refine r_istore_n C 2 1 [(1, .int ((nI 0))), (0, .ref (kad κ 0))] dX11_emptyBoxes_1 rfl (by decide) rfl rfl ?_
  refine imp_sub [(0, .ref (kad κ 0)), (1, .int ((nI 0)))] [1, 0] rfl ?_
  refine imp_f_X11_emptyBoxes_L2 C Rr FU ((nI 0)) h
set_option maxHeartbeats 4000000 in
theorem ok_f_X11_emptyBoxes   (h : CH) : ∀ q, f_X11_emptyBoxes h = some q → MG yX11_emptyBoxes cX11_emptyBoxes 3 none [] 2 (fun ad => [.ref (ad 0)]) h ((fun (_ : Unit × CH) (_ : Nat → Nat) => (none : Option Value)) q) ((fun (q : (Unit × CH)) => q.2) q) := mg_of RX11 (by decide) rfl (fun _ => Nat.le_of_ble_eq_true rfl) (fun κ C Rr => imp_f_X11_emptyBoxes C  h Rr)
set_option maxHeartbeats 4000000 in
set_option maxRecDepth 100000 in
theorem imp_f_X5_clear_63 {κ : Kx (Unit × CH)} (C : Cx κ cX5_clear RX5 1 1 (40 * 1) [])   (h : CH) (Rr : Rt κ none (fun (_ : Unit × CH) (_ : Nat → Nat) => (none : Option Value)) (fun (q : (Unit × CH)) => q.2)) : Imp κ 0 [(0, .ref (kad κ 63))] [] h (f_X5_clear_63 h) := by
  unfold f_X5_clear_63
  refine r_aload_n C 1 0 rfl dX5_clear_0 rfl ?_
  refine r_iconst C 2 (nI 0) (by decide) dX5_clear_1 rfl ?_
  refine r_putI C 5 dX5_clear_2 flX5_9 kt_63 rfl rfl (fun h_1 => ?_)
  refine r_aload_n C 6 0 rfl dX5_clear_5 rfl ?_
  refine r_iconst C 7 (nI 0) (by decide) dX5_clear_6 rfl ?_
  refine r_putI C 10 dX5_clear_7 flX5_15 kt_63 rfl rfl (fun h_2 => ?_)
  refine r_aload_n C 11 0 rfl dX5_clear_10 rfl ?_
  refine r_iconst C 12 (nI 0) (by decide) dX5_clear_11 rfl ?_
  refine r_putI C 15 dX5_clear_12 flX5_28 kt_63 rfl rfl (fun h_3 => ?_)
  refine r_aload_n C 16 0 rfl dX5_clear_15 rfl ?_
  refine r_iconst C 17 (nI 0) (by decide) dX5_clear_16 rfl ?_
  refine r_putZ C 20 dX5_clear_17 flX5_18 kt_63 rfl rfl (fun h_4 => ?_)
  exact r_vret C Rr dX5_clear_20 (fun _ => rfl) rfl
set_option maxHeartbeats 4000000 in
theorem ok_f_X5_clear_63   (h : CH) : ∀ q, f_X5_clear_63 h = some q → MG yX5_clear cX5_clear 1 none [] 1 (fun ad => [.ref (ad 63)]) h ((fun (_ : Unit × CH) (_ : Nat → Nat) => (none : Option Value)) q) ((fun (q : (Unit × CH)) => q.2) q) := mg_of RX5 (by decide) rfl (fun _ => Nat.le_of_ble_eq_true rfl) (fun κ C Rr => imp_f_X5_clear_63 C  h Rr)
set_option maxHeartbeats 4000000 in
set_option maxRecDepth 100000 in
theorem imp_f_X5_stepsSoFar_63 {κ : Kx Int32} (C : Cx κ cX5_stepsSoFar RX5 1 1 (40 * 1) [])   (h : CH) (Rr : Rt κ (some .int) (fun (x : Int32) (_ : Nat → Nat) => some (Value.int x)) (fun (_ : Int32) => h)) : Imp κ 0 [(0, .ref (kad κ 63))] [] h (f_X5_stepsSoFar_63 h) := by
  unfold f_X5_stepsSoFar_63
  refine r_aload_n C 1 0 rfl dX5_stepsSoFar_0 rfl ?_
  refine r_getI C 4 dX5_stepsSoFar_1 flX5_28 kt_63 rfl rfl ?_
  exact r_iret C Rr dX5_stepsSoFar_4 (fun _ => rfl) rfl
set_option maxHeartbeats 4000000 in
theorem ok_f_X5_stepsSoFar_63   (h : CH) : ∀ q, f_X5_stepsSoFar_63 h = some q → MG yX5_stepsSoFar cX5_stepsSoFar 1 (some .int) [] 1 (fun ad => [.ref (ad 63)]) h ((fun (x : Int32) (_ : Nat → Nat) => some (Value.int x)) q) ((fun (_ : Int32) => h) q) := mg_of RX5 (by decide) rfl (fun _ => Nat.le_of_ble_eq_true rfl) (fun κ C Rr => imp_f_X5_stepsSoFar_63 C  h Rr)
set_option maxHeartbeats 4000000 in
set_option maxRecDepth 100000 in
theorem imp_f_X5_put_63 {κ : Kx (Unit × CH)} (C : Cx κ cX5_put RX5 3 1 (40 * 1) []) (x1 : Int32) (x2 : Int32)  (h : CH) (Rr : Rt κ none (fun (_ : Unit × CH) (_ : Nat → Nat) => (none : Option Value)) (fun (q : (Unit × CH)) => q.2)) : Imp κ 0 [(0, .ref (kad κ 63)), (1, .int (x1)), (2, .int (x2))] [] h (f_X5_put_63 x1 x2 h) := by
  unfold f_X5_put_63
  refine r_aload_n C 1 0 rfl dX5_put_0 rfl ?_
  refine r_getI C 4 dX5_put_1 flX5_28 kt_63 rfl rfl ?_
  refine r_sipush C 7 (nI 800) (by decide) dX5_put_4 rfl ?_
  refine r_icmp_ge C 10 40 dX5_put_7 (by decide) rfl (fun c_1 => ?_) (fun c_1 => ?_)
  · refine r_aload_n C 11 0 rfl dX5_put_10 rfl ?_
    refine r_getR C 14 dX5_put_11 flX5_42 kt_63 rfl rf_63_9 rfl ?_
    refine r_aload_n C 15 0 rfl dX5_put_14 rfl ?_
    refine r_getI C 18 dX5_put_15 flX5_28 kt_63 rfl rfl ?_
    refine r_iload_n C 19 1 rfl dX5_put_18 rfl ?_
    refine r_iast C 20 dX5_put_19 kt_67 rfl rfl (fun h_2 => ?_)
    refine r_aload_n C 21 0 rfl dX5_put_20 rfl ?_
    refine r_getR C 24 dX5_put_21 flX5_45 kt_63 rfl rf_63_10 rfl ?_
    refine r_aload_n C 25 0 rfl dX5_put_24 rfl ?_
    refine r_getI C 28 dX5_put_25 flX5_28 kt_63 rfl rfl ?_
    refine r_iload_n C 29 2 rfl dX5_put_28 rfl ?_
    refine r_iast C 30 dX5_put_29 kt_68 rfl rfl (fun h_3 => ?_)
    refine r_aload_n C 31 0 rfl dX5_put_30 rfl ?_
    refine r_dup C 32 rfl dX5_put_31 rfl ?_
    refine r_getI C 35 dX5_put_32 flX5_28 kt_63 rfl rfl ?_
    refine r_iconst C 36 (nI 1) (by decide) dX5_put_35 rfl ?_
    refine r_iadd C 37 dX5_put_36 rfl ?_
    refine r_putI C 40 dX5_put_37 flX5_28 kt_63 rfl rfl (fun h_4 => ?_)
    exact r_vret C Rr dX5_put_40 (fun _ => rfl) rfl
  · exact r_vret C Rr dX5_put_40 (fun _ => rfl) rfl
set_option maxHeartbeats 4000000 in
theorem ok_f_X5_put_63 (x1 : Int32) (x2 : Int32)  (h : CH) : ∀ q, f_X5_put_63 x1 x2 h = some q → MG yX5_put cX5_put 3 none [] 1 (fun ad => [.ref (ad 63), .int x1, .int x2]) h ((fun (_ : Unit × CH) (_ : Nat → Nat) => (none : Option Value)) q) ((fun (q : (Unit × CH)) => q.2) q) := mg_of RX5 (by decide) rfl (fun _ => Nat.le_of_ble_eq_true rfl) (fun κ C Rr => imp_f_X5_put_63 C x1 x2 h Rr)
set_option maxHeartbeats 4000000 in
set_option maxRecDepth 100000 in
theorem imp_f_X6_readValue {κ : Kx (Int32 × CH)} (C : Cx κ cX6_readValue RX6 2 2 (40 * 2) [194]) (x1 : Int32)  (h : CH) (Rr : Rt κ (some .boolean) (fun (q : Int32 × CH) (_ : Nat → Nat) => some (Value.int q.1)) (fun (q : (Int32 × CH)) => q.2)) : Imp κ 0 [(0, .ref (kad κ 194)), (1, .int (x1))] [] h (f_X6_readValue x1 h) := by
  unfold f_X6_readValue
  refine r_iload_n C 1 1 rfl dX6_readValue_0 rfl ?_
  refine r_iconst C 2 (-1) (by decide) dX6_readValue_1 rfl ?_
  refine r_icmp_ne C 5 14 dX6_readValue_2 (by decide) rfl (fun c_1 => ?_) (fun c_1 => ?_)
  · refine r_aload_n C 6 0 rfl dX6_readValue_5 rfl ?_
    refine r_getR C 9 dX6_readValue_6 flX6_15 kt_194 rfl rf_194_0 rfl ?_
    refine r_iconst C 10 (nI 2) (by decide) dX6_readValue_9 rfl ?_
    refine r_cViI C 13 [] (ok_f_X8_refuse ((nI 2)) h) dX6_readValue_10 lvX6_47 kt_2 rfl rfl rfl (by decide) (Nat.le_of_ble_eq_true rfl) rfl rfl (Nat.le_of_ble_eq_true rfl) rfl rfl (fun v_2 h_3 => ?_)
    exact r_zretg C Rr dX6_readValue_13 (fun _ => rfl) rfl
  · refine r_aload_n C 15 0 rfl dX6_readValue_14 rfl ?_
    refine r_getR C 18 dX6_readValue_15 flX6_19 kt_194 rfl rf_194_1 rfl ?_
    refine r_iconst C 19 (nI 1) (by decide) dX6_readValue_18 rfl ?_
    refine r_iload_n C 20 1 rfl dX6_readValue_19 rfl ?_
    refine r_cViV C 23 [] (ok_f_X5_put_63 ((nI 1)) x1 h) dX6_readValue_20 lvX6_89 kt_63 rfl rfl rfl (by decide) (Nat.le_of_ble_eq_true rfl) rfl rfl (Nat.le_of_ble_eq_true rfl) rfl rfl (fun _ h_4 => ?_)
    refine r_aload_n C 24 0 rfl dX6_readValue_23 rfl ?_
    refine r_getR C 27 dX6_readValue_24 flX6_15 kt_194 rfl rf_194_0 rfl ?_
    refine r_cViV C 30 [] (ok_f_X8_step h_4) dX6_readValue_27 lvX6_54 kt_2 rfl rfl rfl (by decide) (Nat.le_of_ble_eq_true rfl) rfl rfl (Nat.le_of_ble_eq_true rfl) rfl rfl (fun _ h_5 => ?_)
    refine r_iconst C 31 (nI 1) (by decide) dX6_readValue_30 rfl ?_
    exact r_zret C Rr (by decide) dX6_readValue_31 (fun _ => rfl) rfl
set_option maxHeartbeats 4000000 in
theorem ok_f_X6_readValue (x1 : Int32)  (h : CH) : ∀ q, f_X6_readValue x1 h = some q → MG yX6_readValue cX6_readValue 2 (some .boolean) [194] 2 (fun ad => [.ref (ad 194), .int x1]) h ((fun (q : Int32 × CH) (_ : Nat → Nat) => some (Value.int q.1)) q) ((fun (q : (Int32 × CH)) => q.2) q) := mg_of RX6 (by decide) rfl (fun _ => Nat.le_of_ble_eq_true rfl) (fun κ C Rr => imp_f_X6_readValue C x1 h Rr)
set_option maxHeartbeats 4000000 in
set_option maxRecDepth 100000 in
theorem imp_f_X6_readAt {κ : Kx (Int32 × CH)} (C : Cx κ cX6_readAt RX6 1 3 (40 * 3) [194])   (h : CH) (Rr : Rt κ (some .boolean) (fun (q : Int32 × CH) (_ : Nat → Nat) => some (Value.int q.1)) (fun (q : (Int32 × CH)) => q.2)) : Imp κ 0 [(0, .ref (kad κ 194))] [] h (f_X6_readAt h) := by
  unfold f_X6_readAt
  refine r_aload_n C 1 0 rfl dX6_readAt_0 rfl ?_
  refine r_getI C 4 dX6_readAt_1 flX6_9 kt_194 rfl rfl ?_
  refine r_if_eq C 7 16 dX6_readAt_4 (by decide) rfl (fun c_1 => ?_) (fun c_1 => ?_)
  · refine r_aload_n C 17 0 rfl dX6_readAt_16 rfl ?_
    refine r_getR C 20 dX6_readAt_17 flX6_15 kt_194 rfl rf_194_0 rfl ?_
    refine r_cViV C 23 [] (ok_f_X8_step h) dX6_readAt_20 lvX6_54 kt_2 rfl rfl rfl (by decide) (Nat.le_of_ble_eq_true rfl) rfl rfl (Nat.le_of_ble_eq_true rfl) rfl rfl (fun _ h_2 => ?_)
    refine r_aload_n C 24 0 rfl dX6_readAt_23 rfl ?_
    refine r_getR C 27 dX6_readAt_24 flX6_15 kt_194 rfl rf_194_0 rfl ?_
    refine r_iconst C 28 (nI 0) (by decide) dX6_readAt_27 rfl ?_
    refine r_aload_n C 29 0 rfl dX6_readAt_28 rfl ?_
    refine r_getI C 32 dX6_readAt_29 flX6_23 kt_194 rfl rfl ?_
    refine r_iconst C 33 (nI 1) (by decide) dX6_readAt_32 rfl ?_
    refine r_isub C 34 dX6_readAt_33 rfl ?_
    refine r_cViI C 37 [] (ok_f_X8_isNumber ((nI 0)) ((h_2.1 194 2) - ((nI 1))) h_2) dX6_readAt_34 lvX6_132 kt_2 rfl rfl rfl (by decide) (Nat.le_of_ble_eq_true rfl) rfl rfl (Nat.le_of_ble_eq_true rfl) rfl rfl (fun v_3 h_4 => ?_)
    refine r_if_eq C 40 60 dX6_readAt_37 (by decide) rfl (fun c_5 => ?_) (fun c_5 => ?_)
    · refine r_iconst C 61 (nI 0) (by decide) dX6_readAt_60 rfl ?_
      exact r_zret C Rr (by decide) dX6_readAt_61 (fun _ => rfl) rfl
    · refine r_aload_n C 41 0 rfl dX6_readAt_40 rfl ?_
      refine r_iconst C 42 (nI 4) (by decide) dX6_readAt_41 rfl ?_
      refine r_aload_n C 43 0 rfl dX6_readAt_42 rfl ?_
      refine r_getR C 46 dX6_readAt_43 flX6_15 kt_194 rfl rf_194_0 rfl ?_
      refine r_getI C 49 dX6_readAt_46 flX6_120 kt_2 rfl rfl ?_
      refine r_iadd C 50 dX6_readAt_49 rfl ?_
      refine r_cViI C 53 [] (ok_f_X6_readValue (((nI 4)) + (h_4.1 2 11)) h_4) dX6_readAt_50 lvX6_129 kt_194 rfl rfl rfl (by decide) (Nat.le_of_ble_eq_true rfl) rfl rfl (Nat.le_of_ble_eq_true rfl) rfl rfl (fun v_6 h_7 => ?_)
      refine r_if_eq C 56 60 dX6_readAt_53 (by decide) rfl (fun c_8 => ?_) (fun c_8 => ?_)
      · refine r_iconst C 61 (nI 0) (by decide) dX6_readAt_60 rfl ?_
        exact r_zret C Rr (by decide) dX6_readAt_61 (fun _ => rfl) rfl
      · refine r_iconst C 57 (nI 1) (by decide) dX6_readAt_56 rfl ?_
        refine r_goto C 61 dX6_readAt_57 (by decide) ?_
        exact r_zret C Rr (by decide) dX6_readAt_61 (fun _ => rfl) rfl
  · refine r_aload_n C 8 0 rfl dX6_readAt_7 rfl ?_
    refine r_getR C 11 dX6_readAt_8 flX6_15 kt_194 rfl rf_194_0 rfl ?_
    refine r_iconst C 12 (nI 2) (by decide) dX6_readAt_11 rfl ?_
    refine r_cViI C 15 [] (ok_f_X8_refuse ((nI 2)) h) dX6_readAt_12 lvX6_47 kt_2 rfl rfl rfl (by decide) (Nat.le_of_ble_eq_true rfl) rfl rfl (Nat.le_of_ble_eq_true rfl) rfl rfl (fun v_9 h_10 => ?_)
    exact r_zretg C Rr dX6_readAt_15 (fun _ => rfl) rfl
set_option maxHeartbeats 4000000 in
theorem ok_f_X6_readAt   (h : CH) : ∀ q, f_X6_readAt h = some q → MG yX6_readAt cX6_readAt 1 (some .boolean) [194] 3 (fun ad => [.ref (ad 194)]) h ((fun (q : Int32 × CH) (_ : Nat → Nat) => some (Value.int q.1)) q) ((fun (q : (Int32 × CH)) => q.2) q) := mg_of RX6 (by decide) rfl (fun _ => Nat.le_of_ble_eq_true rfl) (fun κ C Rr => imp_f_X6_readAt C  h Rr)
set_option maxHeartbeats 4000000 in
set_option maxRecDepth 100000 in
theorem imp_f_X6_signValueHere {κ : Kx Int32} (C : Cx κ cX6_signValueHere RX6 1 1 (40 * 1) [194])   (h : CH) (Rr : Rt κ (some .int) (fun (x : Int32) (_ : Nat → Nat) => some (Value.int x)) (fun (_ : Int32) => h)) : Imp κ 0 [(0, .ref (kad κ 194))] [] h (f_X6_signValueHere h) := by
  unfold f_X6_signValueHere
  refine r_aload_n C 1 0 rfl dX6_signValueHere_0 rfl ?_
  refine r_getR C 4 dX6_signValueHere_1 flX6_15 kt_194 rfl rf_194_0 rfl ?_
  refine r_getI C 7 dX6_signValueHere_4 flX6_32 kt_2 rfl rfl ?_
  refine imp_ite (fun g_1 => ?_) (fun g_1 => ?_)
  · refine r_tsIn C 36 (nI 16) g_1 dX6_signValueHere_7 (by decide) (by decide) rfl (by decide) ?_
    refine r_iconst C 37 (nI 0) (by decide) dX6_signValueHere_36 rfl ?_
    exact r_iret C Rr dX6_signValueHere_37 (fun _ => rfl) rfl
  · refine imp_ite (fun g_2 => ?_) (fun g_2 => ?_)
    · refine r_tsIn C 38 (nI 17) g_2 dX6_signValueHere_7 (by decide) (by decide) rfl (by decide) ?_
      refine r_iconst C 39 (nI 1) (by decide) dX6_signValueHere_38 rfl ?_
      exact r_iret C Rr dX6_signValueHere_39 (fun _ => rfl) rfl
    · refine imp_ite (fun g_3 => ?_) (fun g_3 => ?_)
      · refine r_tsIn C 40 (nI 18) g_3 dX6_signValueHere_7 (by decide) (by decide) rfl (by decide) ?_
        refine r_iconst C 41 (nI 2) (by decide) dX6_signValueHere_40 rfl ?_
        exact r_iret C Rr dX6_signValueHere_41 (fun _ => rfl) rfl
      · refine imp_ite (fun g_4 => ?_) (fun g_4 => ?_)
        · refine r_tsIn C 42 (nI 19) g_4 dX6_signValueHere_7 (by decide) (by decide) rfl (by decide) ?_
          refine r_iconst C 43 (nI 3) (by decide) dX6_signValueHere_42 rfl ?_
          exact r_iret C Rr dX6_signValueHere_43 (fun _ => rfl) rfl
        · refine r_tsOut C 44 dX6_signValueHere_7 (ts_out ?_) (by decide) ?_
          · intro v h1 h2 e
            have hv : v = 16 ∨ v = 17 ∨ v = 18 ∨ v = 19 := by omega
            rcases hv with rfl | rfl | rfl | rfl
            · exact g_1 (e.trans (by decide))
            · exact g_2 (e.trans (by decide))
            · exact g_3 (e.trans (by decide))
            · exact g_4 (e.trans (by decide))
          · refine r_iconst C 45 (-1) (by decide) dX6_signValueHere_44 rfl ?_
            exact r_iret C Rr dX6_signValueHere_45 (fun _ => rfl) rfl
set_option maxHeartbeats 4000000 in
theorem ok_f_X6_signValueHere   (h : CH) : ∀ q, f_X6_signValueHere h = some q → MG yX6_signValueHere cX6_signValueHere 1 (some .int) [194] 1 (fun ad => [.ref (ad 194)]) h ((fun (x : Int32) (_ : Nat → Nat) => some (Value.int x)) q) ((fun (_ : Int32) => h) q) := mg_of RX6 (by decide) rfl (fun _ => Nat.le_of_ble_eq_true rfl) (fun κ C Rr => imp_f_X6_signValueHere C  h Rr)
set_option maxHeartbeats 4000000 in
set_option maxRecDepth 100000 in
theorem imp_f_X6_barValueHere {κ : Kx Int32} (C : Cx κ cX6_barValueHere RX6 1 1 (40 * 1) [194])   (h : CH) (Rr : Rt κ (some .int) (fun (x : Int32) (_ : Nat → Nat) => some (Value.int x)) (fun (_ : Int32) => h)) : Imp κ 0 [(0, .ref (kad κ 194))] [] h (f_X6_barValueHere h) := by
  unfold f_X6_barValueHere
  refine r_aload_n C 1 0 rfl dX6_barValueHere_0 rfl ?_
  refine r_getR C 4 dX6_barValueHere_1 flX6_15 kt_194 rfl rf_194_0 rfl ?_
  refine r_getI C 7 dX6_barValueHere_4 flX6_32 kt_2 rfl rfl ?_
  refine imp_ite (fun g_1 => ?_) (fun g_1 => ?_)
  · refine r_lookup C 50 dX6_barValueHere_7 rfl (by rw [g_1]) (by decide) ?_
    refine r_iconst C 51 (nI 1) (by decide) dX6_barValueHere_50 rfl ?_
    exact r_iret C Rr dX6_barValueHere_51 (fun _ => rfl) rfl
  · refine imp_ite (fun g_2 => ?_) (fun g_2 => ?_)
    · refine r_lookup C 48 dX6_barValueHere_7 rfl (by rw [g_2]) (by decide) ?_
      refine r_iconst C 49 (nI 0) (by decide) dX6_barValueHere_48 rfl ?_
      exact r_iret C Rr dX6_barValueHere_49 (fun _ => rfl) rfl
    · refine imp_ite (fun g_3 => ?_) (fun g_3 => ?_)
      · refine r_lookup C 52 dX6_barValueHere_7 rfl (by rw [g_3]) (by decide) ?_
        refine r_iconst C 53 (nI 2) (by decide) dX6_barValueHere_52 rfl ?_
        exact r_iret C Rr dX6_barValueHere_53 (fun _ => rfl) rfl
      · refine imp_ite (fun g_4 => ?_) (fun g_4 => ?_)
        · refine r_lookup C 54 dX6_barValueHere_7 rfl (by rw [g_4]) (by decide) ?_
          refine r_iconst C 55 (nI 3) (by decide) dX6_barValueHere_54 rfl ?_
          exact r_iret C Rr dX6_barValueHere_55 (fun _ => rfl) rfl
        · refine r_lookup C 56 dX6_barValueHere_7 rfl (lk_none (by intro q hq e; simp only [List.mem_cons, List.not_mem_nil, or_false] at hq; rcases hq with rfl | rfl | rfl | rfl; (exact g_1 (i32_of e (by decide))); (exact g_2 (i32_of e (by decide))); (exact g_3 (i32_of e (by decide))); (exact g_4 (i32_of e (by decide))))) (by decide) ?_
          refine r_iconst C 57 (-1) (by decide) dX6_barValueHere_56 rfl ?_
          exact r_iret C Rr dX6_barValueHere_57 (fun _ => rfl) rfl
set_option maxHeartbeats 4000000 in
theorem ok_f_X6_barValueHere   (h : CH) : ∀ q, f_X6_barValueHere h = some q → MG yX6_barValueHere cX6_barValueHere 1 (some .int) [194] 1 (fun ad => [.ref (ad 194)]) h ((fun (x : Int32) (_ : Nat → Nat) => some (Value.int x)) q) ((fun (_ : Int32) => h) q) := mg_of RX6 (by decide) rfl (fun _ => Nat.le_of_ble_eq_true rfl) (fun κ C Rr => imp_f_X6_barValueHere C  h Rr)
