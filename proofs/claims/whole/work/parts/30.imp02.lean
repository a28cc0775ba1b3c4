/-! the methods do what the functions say, by program -/
set_option maxHeartbeats 4000000 in
set_option maxRecDepth 100000 in
theorem imp_f_X5_lookAt_55_L31 {κ : Kx (Unit × CH)} (C : Cx κ cX5_lookAt RX5 5 2 (40 * 2) []) (q1 : Nat) (x2 : Int32) (hq1 : KT.getD q1 (9, 0) = (1, 8) ∧ q1 < NP)   (Rr : Rt κ none (fun (_ : Unit × CH) (_ : Nat → Nat) => (none : Option Value)) (fun (q : (Unit × CH)) => q.2)) : ∀ (n : Nat) (x3 : Int32) (h : CH), Imp κ 31 [(0, .ref (kad κ 55)), (1, .ref (kad κ q1)), (2, .int (x2)), (3, .int (x3))] [] h (f_X5_lookAt_55_L31 q1 x2 n x3 h) := by
  intro n
  induction n with
  | zero => intros; exact imp_none
  | succ n ih =>
    intro x3 h
    rw [f_X5_lookAt_55_L31]
    refine r_iload_n C 32 3 rfl dX5_lookAt_31 rfl ?_
    refine r_iload_n C 33 2 rfl dX5_lookAt_32 rfl ?_
    refine r_icmp_ge C 36 142 dX5_lookAt_33 (by decide) rfl (fun c_5 => ?_) (fun c_5 => ?_)
    · refine r_iload_n C 37 3 rfl dX5_lookAt_36 rfl ?_
      refine r_aload_n C 38 1 rfl dX5_lookAt_37 rfl ?_
      refine r_alenI C 39 (nI 8) dX5_lookAt_38 hq1.1 (okid_lt hq1.2) (by decide) rfl ?_
      refine r_icmp_ge C 42 142 dX5_lookAt_39 (by decide) rfl (fun c_6 => ?_) (fun c_6 => ?_)
      · refine r_iload_n C 43 3 rfl dX5_lookAt_42 rfl ?_
        refine r_bipush C 45 (nI 8) (by decide) dX5_lookAt_43 rfl ?_
        refine r_icmp_ge C 48 142 dX5_lookAt_45 (by decide) rfl (fun c_7 => ?_) (fun c_7 => ?_)
        · refine r_aload_n C 49 1 rfl dX5_lookAt_48 rfl ?_
          refine r_iload_n C 50 3 rfl dX5_lookAt_49 rfl ?_
          refine r_iald C 51 dX5_lookAt_50 hq1.1 (okid_lt hq1.2) rfl (fun v_8 => ?_)
          refine r_istore C 53 [(4, .int (v_8)), (0, .ref (kad κ 55)), (1, .ref (kad κ q1)), (2, .int (x2)), (3, .int (x3))] dX5_lookAt_51 (by decide) rfl rfl ?_
          refine r_aload_n C 54 1 rfl dX5_lookAt_53 rfl ?_
          refine r_getR C 57 dX5_lookAt_54 flX5_48 kt_55 rfl rf_55_11 rfl ?_
          refine r_iconst C 58 (nI 0) (by decide) dX5_lookAt_57 rfl ?_
          refine r_dup2 C 59 rfl rfl dX5_lookAt_58 rfl ?_
          refine r_iald C 60 dX5_lookAt_59 kt_61 rfl rfl (fun v_9 => ?_)
          refine r_iload C 62 0 rfl dX5_lookAt_60 rfl ?_
          refine r_iadd C 63 dX5_lookAt_62 rfl ?_
          refine r_iast C 64 dX5_lookAt_63 kt_61 rfl rfl (fun h_10 => ?_)
          refine r_aload_n C 65 1 rfl dX5_lookAt_64 rfl ?_
          refine r_getR C 68 dX5_lookAt_65 flX5_48 kt_55 rfl rf_55_11 rfl ?_
          refine r_iconst C 69 (nI 1) (by decide) dX5_lookAt_68 rfl ?_
          refine r_dup2 C 70 rfl rfl dX5_lookAt_69 rfl ?_
          refine r_iald C 71 dX5_lookAt_70 kt_61 rfl rfl (fun v_11 => ?_)
          refine r_iload_n C 72 4 rfl dX5_lookAt_71 rfl ?_
          refine imp_jn (fun (j_15 : Int32 → Int32 → Int32 → Option (Unit × CH)) => ∀ (s_12 : Int32) (s_13 : Int32) (s_14 : Int32), Imp κ 90 [(0, .ref (kad κ 55)), (1, .ref (kad κ q1)), (2, .int (x2)), (3, .int (x3)), (4, .int (v_8))] [.int (s_12), .int (s_13), .int (s_14), .ref (kad κ 61)] h_10 (j_15 s_12 s_13 s_14)) ?_ ?_
          · intro s_12 s_13 s_14
            refine r_iadd C 91 dX5_lookAt_90 rfl ?_
            refine r_iast C 92 dX5_lookAt_91 kt_61 rfl rfl (fun h_16 => ?_)
            refine r_aload_n C 93 0 rfl dX5_lookAt_92 rfl ?_
            refine r_getR C 96 dX5_lookAt_93 flX5_48 kt_55 rfl rf_55_11 rfl ?_
            refine r_iconst C 97 (nI 2) (by decide) dX5_lookAt_96 rfl ?_
            refine r_aload_n C 98 0 rfl dX5_lookAt_97 rfl ?_
            refine r_getR C 101 dX5_lookAt_98 flX5_48 kt_55 rfl rf_55_11 rfl ?_
            refine r_iconst C 102 (nI 2) (by decide) dX5_lookAt_101 rfl ?_
            refine r_iald C 103 dX5_lookAt_102 kt_61 rfl rfl (fun v_17 => ?_)
            refine r_iload C 105 4 rfl dX5_lookAt_103 rfl ?_
            refine r_mmax C 108 dX5_lookAt_105 lmX5_68 (Nat.le_of_ble_eq_true rfl) (by decide) rfl ?_
            refine r_iast C 109 dX5_lookAt_108 kt_61 rfl rfl (fun h_18 => ?_)
            refine r_aload_n C 110 0 rfl dX5_lookAt_109 rfl ?_
            refine r_getR C 113 dX5_lookAt_110 flX5_48 kt_55 rfl rf_55_11 rfl ?_
            refine r_iconst C 114 (nI 3) (by decide) dX5_lookAt_113 rfl ?_
            refine r_aload_n C 115 0 rfl dX5_lookAt_114 rfl ?_
            refine r_getR C 118 dX5_lookAt_115 flX5_48 kt_55 rfl rf_55_11 rfl ?_
            refine r_iconst C 119 (nI 3) (by decide) dX5_lookAt_118 rfl ?_
            refine r_iald C 120 dX5_lookAt_119 kt_61 rfl rfl (fun v_19 => ?_)
            refine r_iload C 122 4 rfl dX5_lookAt_120 rfl ?_
            refine r_mmin C 125 dX5_lookAt_122 lmX5_71 (Nat.le_of_ble_eq_true rfl) (by decide) rfl ?_
            refine r_iast C 126 dX5_lookAt_125 kt_61 rfl rfl (fun h_20 => ?_)
            refine r_aload_n C 127 0 rfl dX5_lookAt_126 rfl ?_
            refine r_getR C 130 dX5_lookAt_127 flX5_48 kt_55 rfl rf_55_11 rfl ?_
            refine r_iconst C 131 (nI 4) (by decide) dX5_lookAt_130 rfl ?_
            refine r_iload_n C 132 3 rfl dX5_lookAt_131 rfl ?_
            refine r_iadd C 133 dX5_lookAt_132 rfl ?_
            refine r_iload C 135 4 rfl dX5_lookAt_133 rfl ?_
            refine r_iast C 136 dX5_lookAt_135 kt_61 rfl rfl (fun h_21 => ?_)
            refine r_iinc C 139 3 (nI 1) [(3, .int (x3 + (nI 1))), (0, .ref (kad κ 55)), (1, .ref (kad κ q1)), (2, .int (x2)), (4, .int (v_8))] dX5_lookAt_136 rfl (by decide) (by decide) rfl rfl ?_
            refine r_goto C 31 dX5_lookAt_139 (by decide) ?_
            exact imp_sub [(0, .ref (kad κ 55)), (1, .ref (kad κ q1)), (2, .int (x2)), (3, .int (x3 + (nI 1)))] [1, 2, 3, 0] rfl (ih (x3 + (nI 1)) h_21)
          · intro j_15 hj_15
            refine r_if_ne C 75 79 dX5_lookAt_72 (by decide) rfl (fun c_22 => ?_) (fun c_22 => ?_)
            · refine r_iconst C 76 (nI 0) (by decide) dX5_lookAt_75 rfl ?_
              refine r_goto C 90 dX5_lookAt_76 (by decide) ?_
              exact imp_sub [(0, .ref (kad κ 55)), (1, .ref (kad κ q1)), (2, .int (x2)), (3, .int (x3)), (4, .int (v_8))] [1, 2, 3, 4, 0] rfl (hj_15 ((nI 0)) (v_11) ((nI 1)))
            · refine r_iload C 81 0 rfl dX5_lookAt_79 rfl ?_
              refine r_aload_n C 82 2 rfl dX5_lookAt_81 rfl ?_
              refine r_iload_n C 83 4 rfl dX5_lookAt_82 rfl ?_
              refine r_iconst C 84 (nI 1) (by decide) dX5_lookAt_83 rfl ?_
              refine r_isub C 85 dX5_lookAt_84 rfl ?_
              refine r_iald C 86 dX5_lookAt_85 hq1.1 (okid_lt hq1.2) rfl (fun v_23 => ?_)
              refine r_isub C 87 dX5_lookAt_86 rfl ?_
              refine r_mabs C 90 dX5_lookAt_87 lmX5_62 (Nat.le_of_ble_eq_true rfl) (by decide) rfl ?_
              exact imp_sub [(0, .ref (kad κ 55)), (1, .ref (kad κ q1)), (2, .int (x2)), (3, .int (x3)), (4, .int (v_8))] [1, 2, 3, 4, 0] rfl (hj_15 (ab ((v_8) - (v_23))) (v_11) ((nI 1)))
        · exact r_vret C Rr dX5_lookAt_142 (fun _ => rfl) rfl
      · exact r_vret C Rr dX5_lookAt_142 (fun _ => rfl) rfl
    · exact r_vret C Rr dX5_lookAt_142 (fun _ => rfl) rfl
set_option maxHeartbeats 4000000 in
set_option maxRecDepth 100000 in
theorem imp_f_X5_lookAt_55 {κ : Kx (Unit × CH)} (C : Cx κ cX5_lookAt RX5 5 2 (40 * 2) []) (ra : Nat) (x2 : Int32) (hra : KT.getD ra (9, 0) = (1, 8) ∧ ra < NP) (h : CH) (Rr : Rt κ none (fun (_ : Unit × CH) (_ : Nat → Nat) => (none : Option Value)) (fun (q : (Unit × CH)) => q.2)) : Imp κ 0 [(0, .ref (kad κ 55)), (1, .ref (kad κ ra)), (2, .int (x2))] [] h (f_X5_lookAt_55 ra x2 h) := by
  unfold f_X5_lookAt_55
  refine r_aload_n C 1 0 rfl dX5_lookAt_0 rfl ?_
  refine r_getR C 4 dX5_lookAt_1 flX5_48 kt_55 rfl rf_55_11 rfl ?_
  refine r_iconst C 5 (nI 0) (by decide) dX5_lookAt_4 rfl ?_
  refine r_iconst C 6 (nI 0) (by decide) dX5_lookAt_5 rfl ?_
  refine r_iast C 7 dX5_lookAt_6 kt_61 rfl rfl (fun h_1 => ?_)
  refine r_aload_n C 8 0 rfl dX5_lookAt_7 rfl ?_
  refine r_getR C 11 dX5_lookAt_8 flX5_48 kt_55 rfl rf_55_11 rfl ?_
  refine r_iconst C 12 (nI 1) (by decide) dX5_lookAt_11 rfl ?_
  refine r_iconst C 13 (nI 0) (by decide) dX5_lookAt_12 rfl ?_
  refine r_iast C 14 dX5_lookAt_13 kt_61 rfl rfl (fun h_2 => ?_)
  refine r_aload_n C 15 0 rfl dX5_lookAt_14 rfl ?_
  refine r_getR C 18 dX5_lookAt_15 flX5_48 kt_55 rfl rf_55_11 rfl ?_
  refine r_iconst C 19 (nI 2) (by decide) dX5_lookAt_18 rfl ?_
  refine r_iconst C 20 (nI 0) (by decide) dX5_lookAt_19 rfl ?_
  refine r_iast C 21 dX5_lookAt_20 kt_61 rfl rfl (fun h_3 => ?_)
  refine r_aload_n C 22 0 rfl dX5_lookAt_21 rfl ?_
  refine r_getR C 25 dX5_lookAt_22 flX5_48 kt_55 rfl rf_55_11 rfl ?_
  refine r_iconst C 26 (nI 3) (by decide) dX5_lookAt_25 rfl ?_
  refine r_bipush C 28 (nI 99) (by decide) dX5_lookAt_26 rfl ?_
  refine r_iast C 29 dX5_lookAt_28 kt_61 rfl rfl (fun h_4 => ?_)
  refine r_iconst C 30 (nI 0) (by decide) dX5_lookAt_29 rfl ?_
  refine r_istore_n C 31 3 [(3, .int ((nI 0))), (0, .ref (kad κ 55)), (1, .ref (kad κ ra)), (2, .int (x2))] dX5_lookAt_30 rfl (by decide) rfl rfl ?_
  refine imp_sub [(0, .ref (kad κ 55)), (1, .ref (kad κ ra)), (2, .int (x2)), (3, .int ((nI 0)))] [1, 2, 3, 0] rfl ?_
  refine imp_f_X5_lookAt_55_L31 C ra (x2) hra Rr FU ((nI 0)) h_4
set_option maxHeartbeats 4000000 in
theorem ok_f_X5_lookAt_55 (ra : Nat) (x2 : Int32) (hra : KT.getD ra (9, 0) = (1, 8) ∧ ra < NP) (h : CH) : ∀ q, f_X5_lookAt_55 ra x2 h = some q → MG yX5_lookAt cX5_lookAt 5 none [] 2 (fun ad => [.ref (ad 55), .ref (ad ra), .int x2]) h ((fun (_ : Unit × CH) (_ : Nat → Nat) => (none : Option Value)) q) ((fun (q : (Unit × CH)) => q.2) q) := mg_of RX5 (by decide) rfl (fun _ => Nat.le_of_ble_eq_true rfl) (fun κ C Rr => imp_f_X5_lookAt_55 C ra x2 hra h Rr)
set_option maxHeartbeats 4000000 in
set_option maxRecDepth 100000 in
theorem imp_f_X5_shownBy_55_L11 {κ : Kx (Int32 × CH)} (C : Cx κ cX5_shownBy RX5 5 3 (40 * 3) [])     (Rr : Rt κ (some .int) (fun (q : Int32 × CH) (_ : Nat → Nat) => some (Value.int q.1)) (fun (q : (Int32 × CH)) => q.2)) : ∀ (n : Nat) (x3 : Int32) (x4 : Int32) (h : CH), Imp κ 11 [(0, .ref (kad κ 55)), (3, .int (x3)), (4, .int (x4))] [] h (f_X5_shownBy_55_L11 n x3 x4 h) := by
  intro n
  induction n with
  | zero => intros; exact imp_none
  | succ n ih =>
    intro x3 x4 h
    rw [f_X5_shownBy_55_L11]
    refine r_iload C 13 2 rfl dX5_shownBy_11 rfl ?_
    refine r_aload_n C 14 0 rfl dX5_shownBy_13 rfl ?_
    refine r_getI C 17 dX5_shownBy_14 flX5_9 kt_55 rfl rfl ?_
    refine r_icmp_ge C 20 61 dX5_shownBy_17 (by decide) rfl (fun c_2 => ?_) (fun c_2 => ?_)
    · refine r_iload C 22 2 rfl dX5_shownBy_20 rfl ?_
      refine r_bipush C 24 (nI 6) (by decide) dX5_shownBy_22 rfl ?_
      refine r_icmp_ge C 27 61 dX5_shownBy_24 (by decide) rfl (fun c_3 => ?_) (fun c_3 => ?_)
      · refine r_aload_n C 28 0 rfl dX5_shownBy_27 rfl ?_
        refine r_aload_n C 29 0 rfl dX5_shownBy_28 rfl ?_
        refine r_getR C 32 dX5_shownBy_29 flX5_35 kt_55 rfl rf_55_7 rfl ?_
        refine r_iload C 34 2 rfl dX5_shownBy_32 rfl ?_
        refine r_iald C 35 dX5_shownBy_34 kt_57 rfl rfl (fun v_4 => ?_)
        refine r_aload_n C 36 0 rfl dX5_shownBy_35 rfl ?_
        refine r_getR C 39 dX5_shownBy_36 flX5_39 kt_55 rfl rf_55_8 rfl ?_
        refine r_iload C 41 2 rfl dX5_shownBy_39 rfl ?_
        refine r_iald C 42 dX5_shownBy_41 kt_58 rfl rfl (fun v_5 => ?_)
        refine r_cViI C 45 [] (ok_f_X5_result_55 v_4 v_5 h) dX5_shownBy_42 lvX5_54 kt_55 rfl rfl rfl (by decide) (Nat.le_of_ble_eq_true rfl) rfl rfl (Nat.le_of_ble_eq_true rfl) rfl rfl (fun v_6 h_7 => ?_)
        refine imp_jn (fun (j_9 : Int32 → Option (Int32 × CH)) => ∀ (x3_8 : Int32), Imp κ 55 [(0, .ref (kad κ 55)), (3, .int (x3_8)), (4, .int (x4))] [] h_7 (j_9 x3_8)) ?_ ?_
        · intro x3_8
          refine r_iinc C 58 2 (nI 1) [(4, .int (x4 + (nI 1))), (0, .ref (kad κ 55)), (3, .int (x3_8))] dX5_shownBy_55 rfl (by decide) (by decide) rfl rfl ?_
          refine r_goto C 11 dX5_shownBy_58 (by decide) ?_
          exact imp_sub [(0, .ref (kad κ 55)), (3, .int (x3_8)), (4, .int (x4 + (nI 1)))] [1, 2, 0] rfl (ih (x3_8) (x4 + (nI 1)) h_7)
        · intro j_9 hj_9
          refine r_if_eq C 48 55 dX5_shownBy_45 (by decide) rfl (fun c_10 => ?_) (fun c_10 => ?_)
          · exact imp_sub [(0, .ref (kad κ 55)), (3, .int (x3)), (4, .int (x4))] [0, 1, 2] rfl (hj_9 (x3))
          · refine r_iload_n C 49 1 rfl dX5_shownBy_48 rfl ?_
            refine r_iconst C 50 (nI 1) (by decide) dX5_shownBy_49 rfl ?_
            refine r_iload C 52 2 rfl dX5_shownBy_50 rfl ?_
            refine r_ishl C 53 dX5_shownBy_52 rfl ?_
            refine r_ior C 54 dX5_shownBy_53 rfl ?_
            refine r_istore_n C 55 3 [(3, .int ((x3) ||| (((nI 1)) <<< ((x4) &&& 31)))), (0, .ref (kad κ 55)), (4, .int (x4))] dX5_shownBy_54 rfl (by decide) rfl rfl ?_
            exact imp_sub [(0, .ref (kad κ 55)), (3, .int ((x3) ||| (((nI 1)) <<< ((x4) &&& 31)))), (4, .int (x4))] [1, 0, 2] rfl (hj_9 ((x3) ||| (((nI 1)) <<< ((x4) &&& 31))))
      · refine r_iload_n C 62 1 rfl dX5_shownBy_61 rfl ?_
        exact r_iret C Rr dX5_shownBy_62 (fun _ => rfl) rfl
    · refine r_iload_n C 62 1 rfl dX5_shownBy_61 rfl ?_
      exact r_iret C Rr dX5_shownBy_62 (fun _ => rfl) rfl
set_option maxHeartbeats 4000000 in
set_option maxRecDepth 100000 in
theorem imp_f_X5_shownBy_55 {κ : Kx (Int32 × CH)} (C : Cx κ cX5_shownBy RX5 5 3 (40 * 3) []) (ra : Nat) (x2 : Int32) (hra : KT.getD ra (9, 0) = (1, 8) ∧ ra < NP) (h : CH) (Rr : Rt κ (some .int) (fun (q : Int32 × CH) (_ : Nat → Nat) => some (Value.int q.1)) (fun (q : (Int32 × CH)) => q.2)) : Imp κ 0 [(0, .ref (kad κ 55)), (1, .ref (kad κ ra)), (2, .int (x2))] [] h (f_X5_shownBy_55 ra x2 h) := by
  unfold f_X5_shownBy_55
  refine r_aload_n C 1 0 rfl dX5_shownBy_0 rfl ?_
  refine r_aload_n C 2 1 rfl dX5_shownBy_1 rfl ?_
  refine r_iload_n C 3 2 rfl dX5_shownBy_2 rfl ?_
  refine r_cViV C 6 [] (ok_f_X5_lookAt_55 ra x2 hra h) dX5_shownBy_3 lvX5_58 kt_55 rfl rfl rfl (by decide) (Nat.le_of_ble_eq_true rfl) rfl rfl (Nat.le_of_ble_eq_true rfl) rfl rfl (fun _ h_1 => ?_)
  refine r_iconst C 7 (nI 0) (by decide) dX5_shownBy_6 rfl ?_
  refine r_istore_n C 8 3 [(3, .int ((nI 0))), (0, .ref (kad κ 55)), (1, .ref (kad κ ra)), (2, .int (x2))] dX5_shownBy_7 rfl (by decide) rfl rfl ?_
  refine r_iconst C 9 (nI 0) (by decide) dX5_shownBy_8 rfl ?_
  refine r_istore C 11 [(4, .int ((nI 0))), (3, .int ((nI 0))), (0, .ref (kad κ 55)), (1, .ref (kad κ ra)), (2, .int (x2))] dX5_shownBy_9 (by decide) rfl rfl ?_
  refine imp_sub [(0, .ref (kad κ 55)), (3, .int ((nI 0))), (4, .int ((nI 0)))] [2, 1, 0] rfl ?_
  refine imp_f_X5_shownBy_55_L11 C Rr FU ((nI 0)) ((nI 0)) h_1
set_option maxHeartbeats 4000000 in
theorem ok_f_X5_shownBy_55 (ra : Nat) (x2 : Int32) (hra : KT.getD ra (9, 0) = (1, 8) ∧ ra < NP) (h : CH) : ∀ q, f_X5_shownBy_55 ra x2 h = some q → MG yX5_shownBy cX5_shownBy 5 (some .int) [] 3 (fun ad => [.ref (ad 55), .ref (ad ra), .int x2]) h ((fun (q : Int32 × CH) (_ : Nat → Nat) => some (Value.int q.1)) q) ((fun (q : (Int32 × CH)) => q.2) q) := mg_of RX5 (by decide) rfl (fun _ => Nat.le_of_ble_eq_true rfl) (fun κ C Rr => imp_f_X5_shownBy_55 C ra x2 hra h Rr)
set_option maxHeartbeats 4000000 in
set_option maxRecDepth 100000 in
theorem imp_f_X0_shown {κ : Kx (Int32 × CH)} (C : Cx κ cX0_shown RX0 5 4 (40 * 4) []) (x1 : Int32) (x2 : Int32) (x3 : Int32) (x4 : Int32)  (h : CH) (Rr : Rt κ (some .int) (fun (q : Int32 × CH) (_ : Nat → Nat) => some (Value.int q.1)) (fun (q : (Int32 × CH)) => q.2)) : Imp κ 0 [(0, .ref (kad κ 79)), (1, .int (x1)), (2, .int (x2)), (3, .int (x3)), (4, .int (x4))] [] h (f_X0_shown x1 x2 x3 x4 h) := by
  unfold f_X0_shown
  refine r_aload_n C 1 0 rfl dX0_shown_0 rfl ?_
  refine r_aload_n C 2 0 rfl dX0_shown_1 rfl ?_
  refine r_getR C 5 dX0_shown_2 flX0_9 kt_79 rfl rf_79_2 rfl ?_
  refine r_iload_n C 6 1 rfl dX0_shown_5 rfl ?_
  refine r_iload_n C 7 2 rfl dX0_shown_6 rfl ?_
  refine r_iload_n C 8 3 rfl dX0_shown_7 rfl ?_
  refine r_iload C 10 4 rfl dX0_shown_8 rfl ?_
  refine r_cViV C 13 [] (ok_f_X0_developInto 80 x1 x2 x3 x4 ⟨kt_80, by decide⟩ h) dX0_shown_10 lvX0_23 kt_79 rfl rfl rfl (by decide) (Nat.le_of_ble_eq_true rfl) rfl rfl (Nat.le_of_ble_eq_true rfl) rfl rfl (fun _ h_1 => ?_)
  refine r_aload_n C 14 0 rfl dX0_shown_13 rfl ?_
  refine r_getR C 17 dX0_shown_14 flX0_19 kt_79 rfl rf_79_1 rfl ?_
  refine r_aload_n C 18 0 rfl dX0_shown_17 rfl ?_
  refine r_getR C 21 dX0_shown_18 flX0_9 kt_79 rfl rf_79_2 rfl ?_
  refine r_aload_n C 22 0 rfl dX0_shown_21 rfl ?_
  refine r_getR C 25 dX0_shown_22 flX0_15 kt_79 rfl rf_79_0 rfl ?_
  refine r_getI C 28 dX0_shown_25 flX0_39 kt_7 rfl rfl ?_
  refine r_cViI C 31 [] (ok_f_X5_shownBy_55 80 (h_1.1 7 0) ⟨kt_80, by decide⟩ h_1) dX0_shown_28 lvX0_47 kt_55 rfl rfl rfl (by decide) (Nat.le_of_ble_eq_true rfl) rfl rfl (Nat.le_of_ble_eq_true rfl) rfl rfl (fun v_2 h_3 => ?_)
  exact r_iret C Rr dX0_shown_31 (fun _ => rfl) rfl
set_option maxHeartbeats 4000000 in
theorem ok_f_X0_shown (x1 : Int32) (x2 : Int32) (x3 : Int32) (x4 : Int32)  (h : CH) : ∀ q, f_X0_shown x1 x2 x3 x4 h = some q → MG yX0_shown cX0_shown 5 (some .int) [] 4 (fun ad => [.ref (ad 79), .int x1, .int x2, .int x3, .int x4]) h ((fun (q : Int32 × CH) (_ : Nat → Nat) => some (Value.int q.1)) q) ((fun (q : (Int32 × CH)) => q.2) q) := mg_of RX0 (by decide) rfl (fun _ => Nat.le_of_ble_eq_true rfl) (fun κ C Rr => imp_f_X0_shown C x1 x2 x3 x4 h Rr)
set_option maxHeartbeats 4000000 in
set_option maxRecDepth 100000 in
theorem imp_f_X11_signs {κ : Kx (Int32 × CH)} (C : Cx κ cX11_signs RX11 5 5 (40 * 5) []) (x1 : Int32) (x2 : Int32) (x3 : Int32) (x4 : Int32)  (h : CH) (Rr : Rt κ (some .int) (fun (q : Int32 × CH) (_ : Nat → Nat) => some (Value.int q.1)) (fun (q : (Int32 × CH)) => q.2)) : Imp κ 0 [(0, .ref (kad κ 0)), (1, .int (x1)), (2, .int (x2)), (3, .int (x3)), (4, .int (x4))] [] h (f_X11_signs x1 x2 x3 x4 h) := by
  unfold f_X11_signs
  refine r_aload_n C 1 0 rfl dX11_signs_0 rfl ?_
  refine r_iload_n C 2 1 rfl dX11_signs_1 rfl ?_
  refine r_iload_n C 3 2 rfl dX11_signs_2 rfl ?_
  refine r_iload_n C 4 3 rfl dX11_signs_3 rfl ?_
  refine r_cVpI C 7 [] (ok_f_X11_isMix x1 x2 x3 h) dX11_signs_4 lvX11_187 kt_0 rfl rfl rfl (by decide) (Nat.le_of_ble_eq_true rfl) rfl rfl (Nat.le_of_ble_eq_true rfl) rfl rfl (fun v_1 => ?_)
  refine r_if_eq C 10 18 dX11_signs_7 (by decide) rfl (fun c_2 => ?_) (fun c_2 => ?_)
  · refine r_iconst C 19 (-1) (by decide) dX11_signs_18 rfl ?_
    exact r_iret C Rr dX11_signs_19 (fun _ => rfl) rfl
  · refine r_iload C 12 4 rfl dX11_signs_10 rfl ?_
    refine r_cSpI C 15 [] (ok_f_X11_isPrinterOrNot x4 h) dX11_signs_12 lsX11_191 rfl (by decide) (Nat.le_of_ble_eq_true rfl) rfl rfl (Nat.le_of_ble_eq_true rfl) rfl rfl (fun v_3 => ?_)
    refine r_if_ne C 18 20 dX11_signs_15 (by decide) rfl (fun c_4 => ?_) (fun c_4 => ?_)
    · refine r_iconst C 19 (-1) (by decide) dX11_signs_18 rfl ?_
      exact r_iret C Rr dX11_signs_19 (fun _ => rfl) rfl
    · refine r_aload_n C 21 0 rfl dX11_signs_20 rfl ?_
      refine r_getR C 24 dX11_signs_21 flX11_68 kt_0 rfl rf_0_11 rfl ?_
      refine r_iload_n C 25 1 rfl dX11_signs_24 rfl ?_
      refine r_iload_n C 26 2 rfl dX11_signs_25 rfl ?_
      refine r_iload_n C 27 3 rfl dX11_signs_26 rfl ?_
      refine r_iload C 29 4 rfl dX11_signs_27 rfl ?_
      refine r_cViI C 32 [] (ok_f_X0_shown x1 x2 x3 x4 h) dX11_signs_29 lvX11_223 kt_79 rfl rfl rfl (by decide) (Nat.le_of_ble_eq_true rfl) rfl rfl (Nat.le_of_ble_eq_true rfl) rfl rfl (fun v_5 h_6 => ?_)
      exact r_iret C Rr dX11_signs_32 (fun _ => rfl) rfl
set_option maxHeartbeats 4000000 in
theorem ok_f_X11_signs (x1 : Int32) (x2 : Int32) (x3 : Int32) (x4 : Int32)  (h : CH) : ∀ q, f_X11_signs x1 x2 x3 x4 h = some q → MG yX11_signs cX11_signs 5 (some .int) [] 5 (fun ad => [.ref (ad 0), .int x1, .int x2, .int x3, .int x4]) h ((fun (q : Int32 × CH) (_ : Nat → Nat) => some (Value.int q.1)) q) ((fun (q : (Int32 × CH)) => q.2) q) := mg_of RX11 (by decide) rfl (fun _ => Nat.le_of_ble_eq_true rfl) (fun κ C Rr => imp_f_X11_signs C x1 x2 x3 x4 h Rr)
set_option maxHeartbeats 4000000 in
set_option maxRecDepth 100000 in
theorem imp_f_X0_caughtOf_L6 {κ : Kx (Int32 × CH)} (C : Cx κ cX0_caughtOf RX0 6 5 (40 * 5) []) (x1 : Int32) (x2 : Int32) (x3 : Int32)    (Rr : Rt κ (some .int) (fun (q : Int32 × CH) (_ : Nat → Nat) => some (Value.int q.1)) (fun (q : (Int32 × CH)) => q.2)) : ∀ (n : Nat) (x4 : Int32) (x5 : Int32) (h : CH), Imp κ 6 [(0, .ref (kad κ 79)), (1, .int (x1)), (2, .int (x2)), (3, .int (x3)), (4, .int (x4)), (5, .int (x5))] [] h (f_X0_caughtOf_L6 x1 x2 x3 n x4 x5 h) := by
  intro n
  induction n with
  | zero => intros; exact imp_none
  | succ n ih =>
    intro x4 x5 h
    rw [f_X0_caughtOf_L6]
    refine r_iload C 8 5 rfl dX0_caughtOf_6 rfl ?_
    refine r_bipush C 10 (nI 10) (by decide) dX0_caughtOf_8 rfl ?_
    refine r_icmp_ge C 13 34 dX0_caughtOf_10 (by decide) rfl (fun c_1 => ?_) (fun c_1 => ?_)
    · refine r_aload_n C 14 0 rfl dX0_caughtOf_13 rfl ?_
      refine r_iload_n C 15 1 rfl dX0_caughtOf_14 rfl ?_
      refine r_iload_n C 16 2 rfl dX0_caughtOf_15 rfl ?_
      refine r_iload C 18 5 rfl dX0_caughtOf_16 rfl ?_
      refine r_iload_n C 19 3 rfl dX0_caughtOf_18 rfl ?_
      refine r_cViI C 22 [] (ok_f_X0_shown x1 x2 x5 x3 h) dX0_caughtOf_19 lvX0_63 kt_79 rfl rfl rfl (by decide) (Nat.le_of_ble_eq_true rfl) rfl rfl (Nat.le_of_ble_eq_true rfl) rfl rfl (fun v_2 h_3 => ?_)
      refine imp_jn (fun (j_5 : Int32 → Option (Int32 × CH)) => ∀ (x4_4 : Int32), Imp κ 28 [(0, .ref (kad κ 79)), (1, .int (x1)), (2, .int (x2)), (3, .int (x3)), (4, .int (x4_4)), (5, .int (x5))] [] h_3 (j_5 x4_4)) ?_ ?_
      · intro x4_4
        refine r_iinc C 31 5 (nI 1) [(5, .int (x5 + (nI 1))), (0, .ref (kad κ 79)), (1, .int (x1)), (2, .int (x2)), (3, .int (x3)), (4, .int (x4_4))] dX0_caughtOf_28 rfl (by decide) (by decide) rfl rfl ?_
        refine r_goto C 6 dX0_caughtOf_31 (by decide) ?_
        exact imp_sub [(0, .ref (kad κ 79)), (1, .int (x1)), (2, .int (x2)), (3, .int (x3)), (4, .int (x4_4)), (5, .int (x5 + (nI 1)))] [1, 2, 3, 4, 5, 0] rfl (ih (x4_4) (x5 + (nI 1)) h_3)
      · intro j_5 hj_5
        refine r_if_eq C 25 28 dX0_caughtOf_22 (by decide) rfl (fun c_6 => ?_) (fun c_6 => ?_)
        · exact imp_sub [(0, .ref (kad κ 79)), (1, .int (x1)), (2, .int (x2)), (3, .int (x3)), (4, .int (x4)), (5, .int (x5))] [0, 1, 2, 3, 4, 5] rfl (hj_5 (x4))
        · refine r_iinc C 28 4 (nI 1) [(4, .int (x4 + (nI 1))), (0, .ref (kad κ 79)), (1, .int (x1)), (2, .int (x2)), (3, .int (x3)), (5, .int (x5))] dX0_caughtOf_25 rfl (by decide) (by decide) rfl rfl ?_
          exact imp_sub [(0, .ref (kad κ 79)), (1, .int (x1)), (2, .int (x2)), (3, .int (x3)), (4, .int (x4 + (nI 1))), (5, .int (x5))] [1, 2, 3, 4, 0, 5] rfl (hj_5 (x4 + (nI 1)))
    · refine r_iload C 36 4 rfl dX0_caughtOf_34 rfl ?_
      exact r_iret C Rr dX0_caughtOf_36 (fun _ => rfl) rfl
set_option maxHeartbeats 4000000 in
set_option maxRecDepth 100000 in
theorem imp_f_X0_caughtOf {κ : Kx (Int32 × CH)} (C : Cx κ cX0_caughtOf RX0 6 5 (40 * 5) []) (x1 : Int32) (x2 : Int32) (x3 : Int32)  (h : CH) (Rr : Rt κ (some .int) (fun (q : Int32 × CH) (_ : Nat → Nat) => some (Value.int q.1)) (fun (q : (Int32 × CH)) => q.2)) : Imp κ 0 [(0, .ref (kad κ 79)), (1, .int (x1)), (2, .int (x2)), (3, .int (x3))] [] h (f_X0_caughtOf x1 x2 x3 h) := by
  unfold f_X0_caughtOf
  refine r_iconst C 1 (nI 0) (by decide) dX0_caughtOf_0 rfl ?_
  refine r_istore C 3 [(4, .int ((nI 0))), (0, .ref (kad κ 79)), (1, .int (x1)), (2, .int (x2)), (3, .int (x3))] dX0_caughtOf_1 (by decide) rfl rfl ?_
  refine r_iconst C 4 (nI 1) (by decide) dX0_caughtOf_3 rfl ?_
  refine r_istore C 6 [(5, .int ((nI 1))), (4, .int ((nI 0))), (0, .ref (kad κ 79)), (1, .int (x1)), (2, .int (x2)), (3, .int (x3))] dX0_caughtOf_4 (by decide) rfl rfl ?_
  refine imp_sub [(0, .ref (kad κ 79)), (1, .int (x1)), (2, .int (x2)), (3, .int (x3)), (4, .int ((nI 0))), (5, .int ((nI 1)))] [2, 3, 4, 5, 1, 0] rfl ?_
  refine imp_f_X0_caughtOf_L6 C (x1) (x2) (x3) Rr FU ((nI 0)) ((nI 1)) h
set_option maxHeartbeats 4000000 in
theorem ok_f_X0_caughtOf (x1 : Int32) (x2 : Int32) (x3 : Int32)  (h : CH) : ∀ q, f_X0_caughtOf x1 x2 x3 h = some q → MG yX0_caughtOf cX0_caughtOf 6 (some .int) [] 5 (fun ad => [.ref (ad 79), .int x1, .int x2, .int x3]) h ((fun (q : Int32 × CH) (_ : Nat → Nat) => some (Value.int q.1)) q) ((fun (q : (Int32 × CH)) => q.2) q) := mg_of RX0 (by decide) rfl (fun _ => Nat.le_of_ble_eq_true rfl) (fun κ C Rr => imp_f_X0_caughtOf C x1 x2 x3 h Rr)
set_option maxHeartbeats 4000000 in
set_option maxRecDepth 100000 in
theorem imp_f_X0_commonDivisor_L7 {κ : Kx Int32} (C : Cx κ cX0_commonDivisor RX0 6 1 (40 * 1) []) (h : CH)    (Rr : Rt κ (some .int) (fun (x : Int32) (_ : Nat → Nat) => some (Value.int x)) (fun (_ : Int32) => h)) : ∀ (n : Nat) (x2 : Int32) (x3 : Int32) (x4 : Int32), Imp κ 7 [(2, .int (x2)), (3, .int (x3)), (4, .int (x4))] [] h (f_X0_commonDivisor_L7 h n x2 x3 x4) := by
  intro n
  induction n with
  | zero => intros; exact imp_none
  | succ n ih =>
    intro x2 x3 x4
    rw [f_X0_commonDivisor_L7]
    refine r_iload C 9 2 rfl dX0_commonDivisor_7 rfl ?_
    refine r_sipush C 12 (nI 10000) (by decide) dX0_commonDivisor_9 rfl ?_
    refine r_icmp_ge C 15 35 dX0_commonDivisor_12 (by decide) rfl (fun c_1 => ?_) (fun c_1 => ?_)
    · refine r_iload_n C 16 1 rfl dX0_commonDivisor_15 rfl ?_
      refine r_if_eq C 19 35 dX0_commonDivisor_16 (by decide) rfl (fun c_2 => ?_) (fun c_2 => ?_)
      · refine r_iload_n C 36 0 rfl dX0_commonDivisor_35 rfl ?_
        exact r_iret C Rr dX0_commonDivisor_36 (fun _ => rfl) rfl
      · refine r_iload_n C 20 0 rfl dX0_commonDivisor_19 rfl ?_
        refine r_iload_n C 21 1 rfl dX0_commonDivisor_20 rfl ?_
        refine r_irem C 22 dX0_commonDivisor_21 rfl ?_
        refine r_istore C 24 [(5, .int ((x2) - (x2) / (x3) * (x3))), (2, .int (x2)), (3, .int (x3)), (4, .int (x4))] dX0_commonDivisor_22 (by decide) rfl rfl ?_
        refine r_iload_n C 25 2 rfl dX0_commonDivisor_24 rfl ?_
        refine r_istore_n C 26 2 [(2, .int (x3)), (5, .int ((x2) - (x2) / (x3) * (x3))), (3, .int (x3)), (4, .int (x4))] dX0_commonDivisor_25 rfl (by decide) rfl rfl ?_
        refine r_iload C 28 1 rfl dX0_commonDivisor_26 rfl ?_
        refine r_istore_n C 29 3 [(3, .int ((x2) - (x2) / (x3) * (x3))), (2, .int (x3)), (5, .int ((x2) - (x2) / (x3) * (x3))), (4, .int (x4))] dX0_commonDivisor_28 rfl (by decide) rfl rfl ?_
        refine r_iinc C 32 3 (nI 1) [(4, .int (x4 + (nI 1))), (3, .int ((x2) - (x2) / (x3) * (x3))), (2, .int (x3)), (5, .int ((x2) - (x2) / (x3) * (x3)))] dX0_commonDivisor_29 rfl (by decide) (by decide) rfl rfl ?_
        refine r_goto C 7 dX0_commonDivisor_32 (by decide) ?_
        exact imp_sub [(2, .int (x3)), (3, .int ((x2) - (x2) / (x3) * (x3))), (4, .int (x4 + (nI 1)))] [2, 1, 0] rfl (ih (x3) ((x2) - (x2) / (x3) * (x3)) (x4 + (nI 1)))
    · refine r_iload_n C 36 0 rfl dX0_commonDivisor_35 rfl ?_
      exact r_iret C Rr dX0_commonDivisor_36 (fun _ => rfl) rfl
set_option maxHeartbeats 4000000 in
set_option maxRecDepth 100000 in
theorem imp_f_X0_commonDivisor {κ : Kx Int32} (C : Cx κ cX0_commonDivisor RX0 6 1 (40 * 1) []) (x0 : Int32) (x1 : Int32)  (h : CH) (Rr : Rt κ (some .int) (fun (x : Int32) (_ : Nat → Nat) => some (Value.int x)) (fun (_ : Int32) => h)) : Imp κ 0 [(0, .int (x0)), (1, .int (x1))] [] h (f_X0_commonDivisor x0 x1 h) := by
  unfold f_X0_commonDivisor
  refine r_iload_n C 1 0 rfl dX0_commonDivisor_0 rfl ?_
  refine r_istore_n C 2 2 [(2, .int (x0)), (0, .int (x0)), (1, .int (x1))] dX0_commonDivisor_1 rfl (by decide) rfl rfl ?_
  refine r_iload_n C 3 2 rfl dX0_commonDivisor_2 rfl ?_
  refine r_istore_n C 4 3 [(3, .int (x1)), (2, .int (x0)), (0, .int (x0)), (1, .int (x1))] dX0_commonDivisor_3 rfl (by decide) rfl rfl ?_
  refine r_iconst C 5 (nI 0) (by decide) dX0_commonDivisor_4 rfl ?_
  refine r_istore C 7 [(4, .int ((nI 0))), (3, .int (x1)), (2, .int (x0)), (0, .int (x0)), (1, .int (x1))] dX0_commonDivisor_5 (by decide) rfl rfl ?_
  refine imp_sub [(2, .int (x0)), (3, .int (x1)), (4, .int ((nI 0)))] [2, 1, 0] rfl ?_
  refine imp_f_X0_commonDivisor_L7 C h Rr FU (x0) (x1) ((nI 0))
set_option maxHeartbeats 4000000 in
theorem ok_f_X0_commonDivisor (x0 : Int32) (x1 : Int32)  (h : CH) : ∀ q, f_X0_commonDivisor x0 x1 h = some q → MG yX0_commonDivisor cX0_commonDivisor 6 (some .int) [] 1 (fun ad => [.int x0, .int x1]) h ((fun (x : Int32) (_ : Nat → Nat) => some (Value.int x)) q) ((fun (_ : Int32) => h) q) := mg_of RX0 (by decide) rfl (fun _ => Nat.le_of_ble_eq_true rfl) (fun κ C Rr => imp_f_X0_commonDivisor C x0 x1 h Rr)
set_option maxHeartbeats 4000000 in
set_option maxRecDepth 100000 in
theorem imp_f_X0_caughtPart_L47 {κ : Kx (Int32 × CH)} (C : Cx κ cX0_caughtPart RX0 7 6 (40 * 6) []) (x1 : Int32) (x2 : Int32) (x3 : Int32) (x5 : Int32)  (k79 : Int32 → CH → Option (Int32 × CH)) (hk79 : ∀ (x4_2 : Int32) (h_3 : CH), Imp κ 79 [(0, .ref (kad κ 79)), (1, .int (x1)), (2, .int (x2)), (3, .int (x3)), (4, .int (x4_2)), (5, .int (x5))] [] h_3 (k79 x4_2 h_3)) (Rr : Rt κ (some .int) (fun (q : Int32 × CH) (_ : Nat → Nat) => some (Value.int q.1)) (fun (q : (Int32 × CH)) => q.2)) : ∀ (n : Nat) (x4 : Int32) (x6 : Int32) (h : CH), Imp κ 47 [(0, .ref (kad κ 79)), (1, .int (x1)), (2, .int (x2)), (3, .int (x3)), (4, .int (x4)), (5, .int (x5)), (6, .int (x6))] [] h (f_X0_caughtPart_L47 x1 x2 x3 x5 k79 n x4 x6 h) := by
  intro n
  induction n with
  | zero => intros; exact imp_none
  | succ n ih =>
    intro x4 x6 h
    rw [f_X0_caughtPart_L47]
    refine r_iload C 49 6 rfl dX0_caughtPart_47 rfl ?_
    refine r_aload_n C 50 0 rfl dX0_caughtPart_49 rfl ?_
    refine r_getR C 53 dX0_caughtPart_50 flX0_15 kt_79 rfl rf_79_0 rfl ?_
    refine r_getI C 56 dX0_caughtPart_53 flX0_53 kt_7 rfl rfl ?_
    refine r_icmp_ge C 59 79 dX0_caughtPart_56 (by decide) rfl (fun c_4 => ?_) (fun c_4 => ?_)
    · refine r_iload C 61 4 rfl dX0_caughtPart_59 rfl ?_
      refine r_aload_n C 62 0 rfl dX0_caughtPart_61 rfl ?_
      refine r_iload C 64 5 rfl dX0_caughtPart_62 rfl ?_
      refine r_iload C 66 6 rfl dX0_caughtPart_64 rfl ?_
      refine r_iload_n C 67 1 rfl dX0_caughtPart_66 rfl ?_
      refine r_cViI C 70 [.int (x4)] (ok_f_X0_caughtOf x5 x6 x1 h) dX0_caughtPart_67 lvX0_56 kt_79 rfl rfl rfl (by decide) (Nat.le_of_ble_eq_true rfl) rfl rfl (Nat.le_of_ble_eq_true rfl) rfl rfl (fun v_5 h_6 => ?_)
      refine r_iadd C 71 dX0_caughtPart_70 rfl ?_
      refine r_istore C 73 [(4, .int ((x4) + (v_5))), (0, .ref (kad κ 79)), (1, .int (x1)), (2, .int (x2)), (3, .int (x3)), (5, .int (x5)), (6, .int (x6))] dX0_caughtPart_71 (by decide) rfl rfl ?_
      refine r_iinc C 76 6 (nI 1) [(6, .int (x6 + (nI 1))), (4, .int ((x4) + (v_5))), (0, .ref (kad κ 79)), (1, .int (x1)), (2, .int (x2)), (3, .int (x3)), (5, .int (x5))] dX0_caughtPart_73 rfl (by decide) (by decide) rfl rfl ?_
      refine r_goto C 47 dX0_caughtPart_76 (by decide) ?_
      exact imp_sub [(0, .ref (kad κ 79)), (1, .int (x1)), (2, .int (x2)), (3, .int (x3)), (4, .int ((x4) + (v_5))), (5, .int (x5)), (6, .int (x6 + (nI 1)))] [2, 3, 4, 5, 1, 6, 0] rfl (ih ((x4) + (v_5)) (x6 + (nI 1)) h_6)
    · exact imp_sub [(0, .ref (kad κ 79)), (1, .int (x1)), (2, .int (x2)), (3, .int (x3)), (4, .int (x4)), (5, .int (x5))] [0, 1, 2, 3, 4, 5] rfl (hk79 (x4) h)
set_option maxHeartbeats 4000000 in
set_option maxRecDepth 100000 in
theorem imp_f_X0_caughtPart_L29 {κ : Kx (Int32 × CH)} (C : Cx κ cX0_caughtPart RX0 7 6 (40 * 6) []) (x1 : Int32) (x2 : Int32) (x3 : Int32)    (Rr : Rt κ (some .int) (fun (q : Int32 × CH) (_ : Nat → Nat) => some (Value.int q.1)) (fun (q : (Int32 × CH)) => q.2)) : ∀ (n : Nat) (x4 : Int32) (x5 : Int32) (h : CH), Imp κ 29 [(0, .ref (kad κ 79)), (1, .int (x1)), (2, .int (x2)), (3, .int (x3)), (4, .int (x4)), (5, .int (x5))] [] h (f_X0_caughtPart_L29 x1 x2 x3 n x4 x5 h) := by
  intro n
  induction n with
  | zero => intros; exact imp_none
  | succ n ih =>
    intro x4 x5 h
    rw [f_X0_caughtPart_L29]
    refine r_iload C 31 5 rfl dX0_caughtPart_29 rfl ?_
    refine r_aload_n C 32 0 rfl dX0_caughtPart_31 rfl ?_
    refine r_getR C 35 dX0_caughtPart_32 flX0_15 kt_79 rfl rf_79_0 rfl ?_
    refine r_getI C 38 dX0_caughtPart_35 flX0_53 kt_7 rfl rfl ?_
    refine r_icmp_ge C 41 85 dX0_caughtPart_38 (by decide) rfl (fun c_1 => ?_) (fun c_1 => ?_)
    · refine r_iload C 43 5 rfl dX0_caughtPart_41 rfl ?_
      refine r_iconst C 44 (nI 1) (by decide) dX0_caughtPart_43 rfl ?_
      refine r_iadd C 45 dX0_caughtPart_44 rfl ?_
      refine r_istore C 47 [(6, .int ((x5) + ((nI 1)))), (0, .ref (kad κ 79)), (1, .int (x1)), (2, .int (x2)), (3, .int (x3)), (4, .int (x4)), (5, .int (x5))] dX0_caughtPart_45 (by decide) rfl rfl ?_
      refine imp_sub [(0, .ref (kad κ 79)), (1, .int (x1)), (2, .int (x2)), (3, .int (x3)), (4, .int (x4)), (5, .int (x5)), (6, .int ((x5) + ((nI 1))))] [1, 2, 3, 4, 5, 6, 0] rfl ?_
      refine imp_f_X0_caughtPart_L47 C (x1) (x2) (x3) (x5) _ ?_ Rr FU (x4) ((x5) + ((nI 1))) h
      · intro x4_2 h_3
        refine r_iinc C 82 5 (nI 1) [(5, .int (x5 + (nI 1))), (0, .ref (kad κ 79)), (1, .int (x1)), (2, .int (x2)), (3, .int (x3)), (4, .int (x4_2))] dX0_caughtPart_79 rfl (by decide) (by decide) rfl rfl ?_
        refine r_goto C 29 dX0_caughtPart_82 (by decide) ?_
        exact imp_sub [(0, .ref (kad κ 79)), (1, .int (x1)), (2, .int (x2)), (3, .int (x3)), (4, .int (x4_2)), (5, .int (x5 + (nI 1)))] [1, 2, 3, 4, 5, 0] rfl (ih (x4_2) (x5 + (nI 1)) h_3)
    · refine r_iload_n C 86 3 rfl dX0_caughtPart_85 rfl ?_
      refine r_iload C 88 4 rfl dX0_caughtPart_86 rfl ?_
      refine r_cSpI C 91 [] (ok_f_X0_commonDivisor x3 x4 h) dX0_caughtPart_88 lsX0_60 rfl (by decide) (Nat.le_of_ble_eq_true rfl) rfl rfl (Nat.le_of_ble_eq_true rfl) rfl rfl (fun v_7 => ?_)
      refine r_istore C 93 [(5, .int (v_7)), (0, .ref (kad κ 79)), (1, .int (x1)), (2, .int (x2)), (3, .int (x3)), (4, .int (x4))] dX0_caughtPart_91 (by decide) rfl rfl ?_
      refine r_iload C 95 0 rfl dX0_caughtPart_93 rfl ?_
      refine r_if_ne C 98 100 dX0_caughtPart_95 (by decide) rfl (fun c_8 => ?_) (fun c_8 => ?_)
      · refine r_iconst C 99 (-1) (by decide) dX0_caughtPart_98 rfl ?_
        exact r_iret C Rr dX0_caughtPart_99 (fun _ => rfl) rfl
      · refine r_iload_n C 101 3 rfl dX0_caughtPart_100 rfl ?_
        refine imp_jn (fun (j_10 : Int32 → Option (Int32 × CH)) => ∀ (s_9 : Int32), Imp κ 110 [(5, .int (v_7))] [.int (s_9)] h (j_10 s_9)) ?_ ?_
        · intro s_9
          refine r_iload C 112 0 rfl dX0_caughtPart_110 rfl ?_
          refine r_idiv C 113 dX0_caughtPart_112 rfl ?_
          exact r_iret C Rr dX0_caughtPart_113 (fun _ => rfl) rfl
        · intro j_10 hj_10
          refine r_if_ne C 104 109 dX0_caughtPart_101 (by decide) rfl (fun c_11 => ?_) (fun c_11 => ?_)
          · refine r_iload C 106 5 rfl dX0_caughtPart_104 rfl ?_
            refine r_goto C 110 dX0_caughtPart_106 (by decide) ?_
            exact imp_sub [(5, .int (v_7))] [0] rfl (hj_10 (x4))
          · refine r_iload_n C 110 4 rfl dX0_caughtPart_109 rfl ?_
            exact imp_sub [(5, .int (v_7))] [0] rfl (hj_10 (x3))
set_option maxHeartbeats 4000000 in
set_option maxRecDepth 100000 in
theorem imp_f_X0_caughtPart {κ : Kx (Int32 × CH)} (C : Cx κ cX0_caughtPart RX0 7 6 (40 * 6) []) (x1 : Int32) (x2 : Int32)  (h : CH) (Rr : Rt κ (some .int) (fun (q : Int32 × CH) (_ : Nat → Nat) => some (Value.int q.1)) (fun (q : (Int32 × CH)) => q.2)) : Imp κ 0 [(0, .ref (kad κ 79)), (1, .int (x1)), (2, .int (x2))] [] h (f_X0_caughtPart x1 x2 h) := by
  unfold f_X0_caughtPart
  refine r_aload_n C 1 0 rfl dX0_caughtPart_0 rfl ?_
  refine r_getR C 4 dX0_caughtPart_1 flX0_15 kt_79 rfl rf_79_0 rfl ?_
  refine r_getI C 7 dX0_caughtPart_4 flX0_53 kt_7 rfl rfl ?_
  refine r_aload_n C 8 0 rfl dX0_caughtPart_7 rfl ?_
  refine r_getR C 11 dX0_caughtPart_8 flX0_15 kt_79 rfl rf_79_0 rfl ?_
  refine r_getI C 14 dX0_caughtPart_11 flX0_53 kt_7 rfl rfl ?_
  refine r_iconst C 15 (nI 1) (by decide) dX0_caughtPart_14 rfl ?_
  refine r_isub C 16 dX0_caughtPart_15 rfl ?_
  refine r_imul C 17 dX0_caughtPart_16 rfl ?_
  refine r_iconst C 18 (nI 2) (by decide) dX0_caughtPart_17 rfl ?_
  refine r_idivk C 19 (by decide) dX0_caughtPart_18 rfl ?_
  refine r_bipush C 21 (nI 9) (by decide) dX0_caughtPart_19 rfl ?_
  refine r_imul C 22 dX0_caughtPart_21 rfl ?_
  refine r_istore_n C 23 3 [(3, .int ((((h.1 7 2) * ((h.1 7 2) - ((nI 1)))) / ((nI 2))) * ((nI 9)))), (0, .ref (kad κ 79)), (1, .int (x1)), (2, .int (x2))] dX0_caughtPart_22 rfl (by decide) rfl rfl ?_
  refine r_iconst C 24 (nI 0) (by decide) dX0_caughtPart_23 rfl ?_
  refine r_istore C 26 [(4, .int ((nI 0))), (3, .int ((((h.1 7 2) * ((h.1 7 2) - ((nI 1)))) / ((nI 2))) * ((nI 9)))), (0, .ref (kad κ 79)), (1, .int (x1)), (2, .int (x2))] dX0_caughtPart_24 (by decide) rfl rfl ?_
  refine r_iconst C 27 (nI 0) (by decide) dX0_caughtPart_26 rfl ?_
  refine r_istore C 29 [(5, .int ((nI 0))), (4, .int ((nI 0))), (3, .int ((((h.1 7 2) * ((h.1 7 2) - ((nI 1)))) / ((nI 2))) * ((nI 9)))), (0, .ref (kad κ 79)), (1, .int (x1)), (2, .int (x2))] dX0_caughtPart_27 (by decide) rfl rfl ?_
  refine imp_sub [(0, .ref (kad κ 79)), (1, .int (x1)), (2, .int (x2)), (3, .int ((((h.1 7 2) * ((h.1 7 2) - ((nI 1)))) / ((nI 2))) * ((nI 9)))), (4, .int ((nI 0))), (5, .int ((nI 0)))] [3, 4, 5, 2, 1, 0] rfl ?_
  refine imp_f_X0_caughtPart_L29 C (x1) (x2) ((((h.1 7 2) * ((h.1 7 2) - ((nI 1)))) / ((nI 2))) * ((nI 9))) Rr FU ((nI 0)) ((nI 0)) h
set_option maxHeartbeats 4000000 in
theorem ok_f_X0_caughtPart (x1 : Int32) (x2 : Int32)  (h : CH) : ∀ q, f_X0_caughtPart x1 x2 h = some q → MG yX0_caughtPart cX0_caughtPart 7 (some .int) [] 6 (fun ad => [.ref (ad 79), .int x1, .int x2]) h ((fun (q : Int32 × CH) (_ : Nat → Nat) => some (Value.int q.1)) q) ((fun (q : (Int32 × CH)) => q.2) q) := mg_of RX0 (by decide) rfl (fun _ => Nat.le_of_ble_eq_true rfl) (fun κ C Rr => imp_f_X0_caughtPart C x1 x2 h Rr)
set_option maxHeartbeats 4000000 in
set_option maxRecDepth 100000 in
theorem imp_f_X11_caught {κ : Kx (Int32 × CH)} (C : Cx κ cX11_caught RX11 3 7 (40 * 7) []) (x1 : Int32) (x2 : Int32)  (h : CH) (Rr : Rt κ (some .int) (fun (q : Int32 × CH) (_ : Nat → Nat) => some (Value.int q.1)) (fun (q : (Int32 × CH)) => q.2)) : Imp κ 0 [(0, .ref (kad κ 0)), (1, .int (x1)), (2, .int (x2))] [] h (f_X11_caught x1 x2 h) := by
  unfold f_X11_caught
  refine r_iload_n C 1 1 rfl dX11_caught_0 rfl ?_
  refine r_cSpI C 4 [] (ok_f_X11_isPrinterOrNot x1 h) dX11_caught_1 lsX11_191 rfl (by decide) (Nat.le_of_ble_eq_true rfl) rfl rfl (Nat.le_of_ble_eq_true rfl) rfl rfl (fun v_1 => ?_)
  refine r_if_eq C 7 16 dX11_caught_4 (by decide) rfl (fun c_2 => ?_) (fun c_2 => ?_)
  · refine r_iconst C 17 (-1) (by decide) dX11_caught_16 rfl ?_
    exact r_iret C Rr dX11_caught_17 (fun _ => rfl) rfl
  · refine r_iload_n C 8 2 rfl dX11_caught_7 rfl ?_
    refine r_if_lt C 11 16 dX11_caught_8 (by decide) rfl (fun c_3 => ?_) (fun c_3 => ?_)
    · refine r_iconst C 17 (-1) (by decide) dX11_caught_16 rfl ?_
      exact r_iret C Rr dX11_caught_17 (fun _ => rfl) rfl
    · refine r_iload_n C 12 2 rfl dX11_caught_11 rfl ?_
      refine r_iconst C 13 (nI 1) (by decide) dX11_caught_12 rfl ?_
      refine r_icmp_le C 16 18 dX11_caught_13 (by decide) rfl (fun c_4 => ?_) (fun c_4 => ?_)
      · refine r_iconst C 17 (-1) (by decide) dX11_caught_16 rfl ?_
        exact r_iret C Rr dX11_caught_17 (fun _ => rfl) rfl
      · refine r_aload_n C 19 0 rfl dX11_caught_18 rfl ?_
        refine r_getR C 22 dX11_caught_19 flX11_68 kt_0 rfl rf_0_11 rfl ?_
        refine r_iload_n C 23 1 rfl dX11_caught_22 rfl ?_
        refine r_iload_n C 24 2 rfl dX11_caught_23 rfl ?_
        refine r_cViI C 27 [] (ok_f_X0_caughtPart x1 x2 h) dX11_caught_24 lvX11_227 kt_79 rfl rfl rfl (by decide) (Nat.le_of_ble_eq_true rfl) rfl rfl (Nat.le_of_ble_eq_true rfl) rfl rfl (fun v_5 h_6 => ?_)
        exact r_iret C Rr dX11_caught_27 (fun _ => rfl) rfl
set_option maxHeartbeats 4000000 in
theorem ok_f_X11_caught (x1 : Int32) (x2 : Int32)  (h : CH) : ∀ q, f_X11_caught x1 x2 h = some q → MG yX11_caught cX11_caught 3 (some .int) [] 7 (fun ad => [.ref (ad 0), .int x1, .int x2]) h ((fun (q : Int32 × CH) (_ : Nat → Nat) => some (Value.int q.1)) q) ((fun (q : (Int32 × CH)) => q.2) q) := mg_of RX11 (by decide) rfl (fun _ => Nat.le_of_ble_eq_true rfl) (fun κ C Rr => imp_f_X11_caught C x1 x2 h Rr)
set_option maxHeartbeats 4000000 in
set_option maxRecDepth 100000 in
theorem imp_f_X11_isPlace {κ : Kx Int32} (C : Cx κ cX11_isPlace RX11 1 2 (40 * 2) []) (x0 : Int32)  (h : CH) (Rr : Rt κ (some .boolean) (fun (x : Int32) (_ : Nat → Nat) => some (Value.int x)) (fun (_ : Int32) => h)) : Imp κ 0 [(0, .int (x0))] [] h (f_X11_isPlace x0 h) := by
  unfold f_X11_isPlace
  refine r_iload_n C 1 0 rfl dX11_isPlace_0 rfl ?_
  refine r_if_lt C 4 29 dX11_isPlace_1 (by decide) rfl (fun c_1 => ?_) (fun c_1 => ?_)
  · refine r_iconst C 30 (nI 0) (by decide) dX11_isPlace_29 rfl ?_
    exact r_zret C Rr (by decide) dX11_isPlace_30 (fun _ => rfl) rfl
  · refine r_iload_n C 5 0 rfl dX11_isPlace_4 rfl ?_
    refine r_bipush C 7 (nI 100) (by decide) dX11_isPlace_5 rfl ?_
    refine r_idivk C 8 (by decide) dX11_isPlace_7 rfl ?_
    refine r_cSpI C 11 [] (ok_f_X11_isYear ((x0) / ((nI 100))) h) dX11_isPlace_8 lsX11_164 rfl (by decide) (Nat.le_of_ble_eq_true rfl) rfl rfl (Nat.le_of_ble_eq_true rfl) rfl rfl (fun v_2 => ?_)
    refine r_if_eq C 14 29 dX11_isPlace_11 (by decide) rfl (fun c_3 => ?_) (fun c_3 => ?_)
    · refine r_iconst C 30 (nI 0) (by decide) dX11_isPlace_29 rfl ?_
      exact r_zret C Rr (by decide) dX11_isPlace_30 (fun _ => rfl) rfl
    · refine r_iload_n C 15 0 rfl dX11_isPlace_14 rfl ?_
      refine r_bipush C 17 (nI 10) (by decide) dX11_isPlace_15 rfl ?_
      refine r_idivk C 18 (by decide) dX11_isPlace_17 rfl ?_
      refine r_bipush C 20 (nI 10) (by decide) dX11_isPlace_18 rfl ?_
      refine r_iremk C 21 (by decide) dX11_isPlace_20 rfl ?_
      refine r_iconst C 22 (nI 4) (by decide) dX11_isPlace_21 rfl ?_
      refine r_icmp_ge C 25 29 dX11_isPlace_22 (by decide) rfl (fun c_4 => ?_) (fun c_4 => ?_)
      · refine r_iconst C 26 (nI 1) (by decide) dX11_isPlace_25 rfl ?_
        refine r_goto C 30 dX11_isPlace_26 (by decide) ?_
        exact r_zret C Rr (by decide) dX11_isPlace_30 (fun _ => rfl) rfl
      · refine r_iconst C 30 (nI 0) (by decide) dX11_isPlace_29 rfl ?_
        exact r_zret C Rr (by decide) dX11_isPlace_30 (fun _ => rfl) rfl
set_option maxHeartbeats 4000000 in
theorem ok_f_X11_isPlace (x0 : Int32)  (h : CH) : ∀ q, f_X11_isPlace x0 h = some q → MG yX11_isPlace cX11_isPlace 1 (some .boolean) [] 2 (fun ad => [.int x0]) h ((fun (x : Int32) (_ : Nat → Nat) => some (Value.int x)) q) ((fun (_ : Int32) => h) q) := mg_of RX11 (by decide) rfl (fun _ => Nat.le_of_ble_eq_true rfl) (fun κ C Rr => imp_f_X11_isPlace C x0 h Rr)
set_option maxHeartbeats 4000000 in
set_option maxRecDepth 100000 in
theorem imp_f_X2_tell_71 {κ : Kx (Int32 × CH)} (C : Cx κ cX2_tell RX2 5 1 (40 * 1) []) (x1 : Int32) (x2 : Int32) (x3 : Int32) (x4 : Int32)  (h : CH) (Rr : Rt κ (some .int) (fun (q : Int32 × CH) (_ : Nat → Nat) => some (Value.int q.1)) (fun (q : (Int32 × CH)) => q.2)) : Imp κ 0 [(0, .ref (kad κ 71)), (1, .int (x1)), (2, .int (x2)), (3, .int (x3)), (4, .int (x4))] [] h (f_X2_tell_71 x1 x2 x3 x4 h) := by
  unfold f_X2_tell_71
  refine r_aload_n C 1 0 rfl dX2_tell_0 rfl ?_
  refine r_getI C 4 dX2_tell_1 flX2_9 kt_71 rfl rfl ?_
  refine r_bipush C 6 (nI 40) (by decide) dX2_tell_4 rfl ?_
  refine r_icmp_lt C 9 11 dX2_tell_6 (by decide) rfl (fun c_1 => ?_) (fun c_1 => ?_)
  · refine r_aload_n C 12 0 rfl dX2_tell_11 rfl ?_
    refine r_getR C 15 dX2_tell_12 flX2_22 kt_71 rfl rf_71_3 rfl ?_
    refine r_aload_n C 16 0 rfl dX2_tell_15 rfl ?_
    refine r_getI C 19 dX2_tell_16 flX2_9 kt_71 rfl rfl ?_
    refine r_iload_n C 20 1 rfl dX2_tell_19 rfl ?_
    refine r_iast C 21 dX2_tell_20 kt_72 rfl rfl (fun h_2 => ?_)
    refine r_aload_n C 22 0 rfl dX2_tell_21 rfl ?_
    refine r_getR C 25 dX2_tell_22 flX2_26 kt_71 rfl rf_71_4 rfl ?_
    refine r_aload_n C 26 0 rfl dX2_tell_25 rfl ?_
    refine r_getI C 29 dX2_tell_26 flX2_9 kt_71 rfl rfl ?_
    refine r_iload_n C 30 2 rfl dX2_tell_29 rfl ?_
    refine r_iast C 31 dX2_tell_30 kt_73 rfl rfl (fun h_3 => ?_)
    refine r_aload_n C 32 0 rfl dX2_tell_31 rfl ?_
    refine r_getR C 35 dX2_tell_32 flX2_29 kt_71 rfl rf_71_5 rfl ?_
    refine r_aload_n C 36 0 rfl dX2_tell_35 rfl ?_
    refine r_getI C 39 dX2_tell_36 flX2_9 kt_71 rfl rfl ?_
    refine r_iload_n C 40 3 rfl dX2_tell_39 rfl ?_
    refine r_iast C 41 dX2_tell_40 kt_74 rfl rfl (fun h_4 => ?_)
    refine r_aload_n C 42 0 rfl dX2_tell_41 rfl ?_
    refine r_getR C 45 dX2_tell_42 flX2_32 kt_71 rfl rf_71_6 rfl ?_
    refine r_aload_n C 46 0 rfl dX2_tell_45 rfl ?_
    refine r_getI C 49 dX2_tell_46 flX2_9 kt_71 rfl rfl ?_
    refine r_iload C 51 4 rfl dX2_tell_49 rfl ?_
    refine r_iast C 52 dX2_tell_51 kt_75 rfl rfl (fun h_5 => ?_)
    refine r_aload_n C 53 0 rfl dX2_tell_52 rfl ?_
    refine r_getR C 56 dX2_tell_53 flX2_35 kt_71 rfl rf_71_7 rfl ?_
    refine r_aload_n C 57 0 rfl dX2_tell_56 rfl ?_
    refine r_getI C 60 dX2_tell_57 flX2_9 kt_71 rfl rfl ?_
    refine r_aload_n C 61 0 rfl dX2_tell_60 rfl ?_
    refine r_getI C 64 dX2_tell_61 flX2_15 kt_71 rfl rfl ?_
    refine r_iast C 65 dX2_tell_64 kt_76 rfl rfl (fun h_6 => ?_)
    refine r_aload_n C 66 0 rfl dX2_tell_65 rfl ?_
    refine r_getR C 69 dX2_tell_66 flX2_38 kt_71 rfl rf_71_8 rfl ?_
    refine r_aload_n C 70 0 rfl dX2_tell_69 rfl ?_
    refine r_getI C 73 dX2_tell_70 flX2_9 kt_71 rfl rfl ?_
    refine r_iconst C 74 (-1) (by decide) dX2_tell_73 rfl ?_
    refine r_iast C 75 dX2_tell_74 kt_77 rfl rfl (fun h_7 => ?_)
    refine r_aload_n C 76 0 rfl dX2_tell_75 rfl ?_
    refine r_dup C 77 rfl dX2_tell_76 rfl ?_
    refine r_getI C 80 dX2_tell_77 flX2_9 kt_71 rfl rfl ?_
    refine r_iconst C 81 (nI 1) (by decide) dX2_tell_80 rfl ?_
    refine r_iadd C 82 dX2_tell_81 rfl ?_
    refine r_putI C 85 dX2_tell_82 flX2_9 kt_71 rfl rfl (fun h_8 => ?_)
    refine r_aload_n C 86 0 rfl dX2_tell_85 rfl ?_
    refine r_getI C 89 dX2_tell_86 flX2_9 kt_71 rfl rfl ?_
    refine r_iconst C 90 (nI 1) (by decide) dX2_tell_89 rfl ?_
    refine r_isub C 91 dX2_tell_90 rfl ?_
    exact r_iret C Rr dX2_tell_91 (fun _ => rfl) rfl
  · refine r_iconst C 10 (-1) (by decide) dX2_tell_9 rfl ?_
    exact r_iret C Rr dX2_tell_10 (fun _ => rfl) rfl
set_option maxHeartbeats 4000000 in
theorem ok_f_X2_tell_71 (x1 : Int32) (x2 : Int32) (x3 : Int32) (x4 : Int32)  (h : CH) : ∀ q, f_X2_tell_71 x1 x2 x3 x4 h = some q → MG yX2_tell cX2_tell 5 (some .int) [] 1 (fun ad => [.ref (ad 71), .int x1, .int x2, .int x3, .int x4]) h ((fun (q : Int32 × CH) (_ : Nat → Nat) => some (Value.int q.1)) q) ((fun (q : (Int32 × CH)) => q.2) q) := mg_of RX2 (by decide) rfl (fun _ => Nat.le_of_ble_eq_true rfl) (fun κ C Rr => imp_f_X2_tell_71 C x1 x2 x3 x4 h Rr)
set_option maxHeartbeats 4000000 in
set_option maxRecDepth 100000 in
theorem imp_f_X11_paper {κ : Kx (Int32 × CH)} (C : Cx κ cX11_paper RX11 5 3 (40 * 3) []) (x1 : Int32) (x2 : Int32) (x3 : Int32) (x4 : Int32)  (h : CH) (Rr : Rt κ (some .int) (fun (q : Int32 × CH) (_ : Nat → Nat) => some (Value.int q.1)) (fun (q : (Int32 × CH)) => q.2)) : Imp κ 0 [(0, .ref (kad κ 0)), (1, .int (x1)), (2, .int (x2)), (3, .int (x3)), (4, .int (x4))] [] h (f_X11_paper x1 x2 x3 x4 h) := by
  unfold f_X11_paper
  refine r_aload_n C 1 0 rfl dX11_paper_0 rfl ?_
  refine r_getR C 4 dX11_paper_1 flX11_35 kt_0 rfl rf_0_5 rfl ?_
  refine r_iload_n C 5 1 rfl dX11_paper_4 rfl ?_
  refine r_cVpI C 8 [] (ok_f_X9_has_7 x1 h) dX11_paper_5 lvX11_160 kt_7 rfl rfl rfl (by decide) (Nat.le_of_ble_eq_true rfl) rfl rfl (Nat.le_of_ble_eq_true rfl) rfl rfl (fun v_1 => ?_)
  refine r_if_eq C 11 37 dX11_paper_8 (by decide) rfl (fun c_2 => ?_) (fun c_2 => ?_)
  · refine r_iconst C 38 (-1) (by decide) dX11_paper_37 rfl ?_
    exact r_iret C Rr dX11_paper_38 (fun _ => rfl) rfl
  · refine r_aload_n C 12 0 rfl dX11_paper_11 rfl ?_
    refine r_getR C 15 dX11_paper_12 flX11_35 kt_0 rfl rf_0_5 rfl ?_
    refine r_iload_n C 16 2 rfl dX11_paper_15 rfl ?_
    refine r_cVpI C 19 [] (ok_f_X9_has_7 x2 h) dX11_paper_16 lvX11_160 kt_7 rfl rfl rfl (by decide) (Nat.le_of_ble_eq_true rfl) rfl rfl (Nat.le_of_ble_eq_true rfl) rfl rfl (fun v_3 => ?_)
    refine r_if_eq C 22 37 dX11_paper_19 (by decide) rfl (fun c_4 => ?_) (fun c_4 => ?_)
    · refine r_iconst C 38 (-1) (by decide) dX11_paper_37 rfl ?_
      exact r_iret C Rr dX11_paper_38 (fun _ => rfl) rfl
    · refine r_iload_n C 23 3 rfl dX11_paper_22 rfl ?_
      refine r_cSpI C 26 [] (ok_f_X11_isShare x3 h) dX11_paper_23 lsX11_230 rfl (by decide) (Nat.le_of_ble_eq_true rfl) rfl rfl (Nat.le_of_ble_eq_true rfl) rfl rfl (fun v_5 => ?_)
      refine r_if_eq C 29 37 dX11_paper_26 (by decide) rfl (fun c_6 => ?_) (fun c_6 => ?_)
      · refine r_iconst C 38 (-1) (by decide) dX11_paper_37 rfl ?_
        exact r_iret C Rr dX11_paper_38 (fun _ => rfl) rfl
      · refine r_iload C 31 4 rfl dX11_paper_29 rfl ?_
        refine r_cSpI C 34 [] (ok_f_X11_isPlace x4 h) dX11_paper_31 lsX11_233 rfl (by decide) (Nat.le_of_ble_eq_true rfl) rfl rfl (Nat.le_of_ble_eq_true rfl) rfl rfl (fun v_7 => ?_)
        refine r_if_ne C 37 39 dX11_paper_34 (by decide) rfl (fun c_8 => ?_) (fun c_8 => ?_)
        · refine r_iconst C 38 (-1) (by decide) dX11_paper_37 rfl ?_
          exact r_iret C Rr dX11_paper_38 (fun _ => rfl) rfl
        · refine r_aload_n C 40 0 rfl dX11_paper_39 rfl ?_
          refine r_getR C 43 dX11_paper_40 flX11_55 kt_0 rfl rf_0_9 rfl ?_
          refine r_iload_n C 44 1 rfl dX11_paper_43 rfl ?_
          refine r_iload_n C 45 2 rfl dX11_paper_44 rfl ?_
          refine r_iload_n C 46 3 rfl dX11_paper_45 rfl ?_
          refine r_iload C 48 4 rfl dX11_paper_46 rfl ?_
          refine r_cViI C 51 [] (ok_f_X2_tell_71 x1 x2 x3 x4 h) dX11_paper_48 lvX11_236 kt_71 rfl rfl rfl (by decide) (Nat.le_of_ble_eq_true rfl) rfl rfl (Nat.le_of_ble_eq_true rfl) rfl rfl (fun v_9 h_10 => ?_)
          exact r_iret C Rr dX11_paper_51 (fun _ => rfl) rfl
set_option maxHeartbeats 4000000 in
theorem ok_f_X11_paper (x1 : Int32) (x2 : Int32) (x3 : Int32) (x4 : Int32)  (h : CH) : ∀ q, f_X11_paper x1 x2 x3 x4 h = some q → MG yX11_paper cX11_paper 5 (some .int) [] 3 (fun ad => [.ref (ad 0), .int x1, .int x2, .int x3, .int x4]) h ((fun (q : Int32 × CH) (_ : Nat → Nat) => some (Value.int q.1)) q) ((fun (q : (Int32 × CH)) => q.2) q) := mg_of RX11 (by decide) rfl (fun _ => Nat.le_of_ble_eq_true rfl) (fun κ C Rr => imp_f_X11_paper C x1 x2 x3 x4 h Rr)
set_option maxHeartbeats 4000000 in
set_option maxRecDepth 100000 in
theorem imp_f_X2_has_71 {κ : Kx Int32} (C : Cx κ cX2_has RX2 2 1 (40 * 1) []) (x1 : Int32)  (h : CH) (Rr : Rt κ (some .boolean) (fun (x : Int32) (_ : Nat → Nat) => some (Value.int x)) (fun (_ : Int32) => h)) : Imp κ 0 [(0, .ref (kad κ 71)), (1, .int (x1))] [] h (f_X2_has_71 x1 h) := by
  unfold f_X2_has_71
  refine r_iload_n C 1 1 rfl dX2_has_0 rfl ?_
  refine r_if_lt C 4 22 dX2_has_1 (by decide) rfl (fun c_1 => ?_) (fun c_1 => ?_)
  · refine r_iconst C 23 (nI 0) (by decide) dX2_has_22 rfl ?_
    exact r_zret C Rr (by decide) dX2_has_23 (fun _ => rfl) rfl
  · refine r_iload_n C 5 1 rfl dX2_has_4 rfl ?_
    refine r_aload_n C 6 0 rfl dX2_has_5 rfl ?_
    refine r_getI C 9 dX2_has_6 flX2_9 kt_71 rfl rfl ?_
    refine r_icmp_ge C 12 22 dX2_has_9 (by decide) rfl (fun c_2 => ?_) (fun c_2 => ?_)
    · refine r_iload_n C 13 1 rfl dX2_has_12 rfl ?_
      refine r_bipush C 15 (nI 40) (by decide) dX2_has_13 rfl ?_
      refine r_icmp_ge C 18 22 dX2_has_15 (by decide) rfl (fun c_3 => ?_) (fun c_3 => ?_)
      · refine r_iconst C 19 (nI 1) (by decide) dX2_has_18 rfl ?_
        refine r_goto C 23 dX2_has_19 (by decide) ?_
        exact r_zret C Rr (by decide) dX2_has_23 (fun _ => rfl) rfl
      · refine r_iconst C 23 (nI 0) (by decide) dX2_has_22 rfl ?_
        exact r_zret C Rr (by decide) dX2_has_23 (fun _ => rfl) rfl
    · refine r_iconst C 23 (nI 0) (by decide) dX2_has_22 rfl ?_
      exact r_zret C Rr (by decide) dX2_has_23 (fun _ => rfl) rfl
set_option maxHeartbeats 4000000 in
theorem ok_f_X2_has_71 (x1 : Int32)  (h : CH) : ∀ q, f_X2_has_71 x1 h = some q → MG yX2_has cX2_has 2 (some .boolean) [] 1 (fun ad => [.ref (ad 71), .int x1]) h ((fun (x : Int32) (_ : Nat → Nat) => some (Value.int x)) q) ((fun (_ : Int32) => h) q) := mg_of RX2 (by decide) rfl (fun _ => Nat.le_of_ble_eq_true rfl) (fun κ C Rr => imp_f_X2_has_71 C x1 h Rr)
set_option maxHeartbeats 4000000 in
set_option maxRecDepth 100000 in
theorem imp_f_X2_takeBack_71 {κ : Kx (Int32 × CH)} (C : Cx κ cX2_takeBack RX2 2 2 (40 * 2) []) (x1 : Int32)  (h : CH) (Rr : Rt κ (some .boolean) (fun (q : Int32 × CH) (_ : Nat → Nat) => some (Value.int q.1)) (fun (q : (Int32 × CH)) => q.2)) : Imp κ 0 [(0, .ref (kad κ 71)), (1, .int (x1))] [] h (f_X2_takeBack_71 x1 h) := by
  unfold f_X2_takeBack_71
  refine r_aload_n C 1 0 rfl dX2_takeBack_0 rfl ?_
  refine r_iload_n C 2 1 rfl dX2_takeBack_1 rfl ?_
  refine r_cVpI C 5 [] (ok_f_X2_has_71 x1 h) dX2_takeBack_2 lvX2_41 kt_71 rfl rfl rfl (by decide) (Nat.le_of_ble_eq_true rfl) rfl rfl (Nat.le_of_ble_eq_true rfl) rfl rfl (fun v_1 => ?_)
  refine r_if_eq C 8 18 dX2_takeBack_5 (by decide) rfl (fun c_2 => ?_) (fun c_2 => ?_)
  · refine r_iconst C 19 (nI 0) (by decide) dX2_takeBack_18 rfl ?_
    exact r_zret C Rr (by decide) dX2_takeBack_19 (fun _ => rfl) rfl
  · refine r_aload_n C 9 0 rfl dX2_takeBack_8 rfl ?_
    refine r_getR C 12 dX2_takeBack_9 flX2_38 kt_71 rfl rf_71_8 rfl ?_
    refine r_iload_n C 13 1 rfl dX2_takeBack_12 rfl ?_
    refine r_iald C 14 dX2_takeBack_13 kt_77 rfl rfl (fun v_3 => ?_)
    refine r_iconst C 15 (-1) (by decide) dX2_takeBack_14 rfl ?_
    refine r_icmp_eq C 18 20 dX2_takeBack_15 (by decide) rfl (fun c_4 => ?_) (fun c_4 => ?_)
    · refine r_aload_n C 21 0 rfl dX2_takeBack_20 rfl ?_
      refine r_getR C 24 dX2_takeBack_21 flX2_38 kt_71 rfl rf_71_8 rfl ?_
      refine r_iload_n C 25 1 rfl dX2_takeBack_24 rfl ?_
      refine r_aload_n C 26 0 rfl dX2_takeBack_25 rfl ?_
      refine r_getI C 29 dX2_takeBack_26 flX2_15 kt_71 rfl rfl ?_
      refine r_iast C 30 dX2_takeBack_29 kt_77 rfl rfl (fun h_5 => ?_)
      refine r_iconst C 31 (nI 1) (by decide) dX2_takeBack_30 rfl ?_
      exact r_zret C Rr (by decide) dX2_takeBack_31 (fun _ => rfl) rfl
    · refine r_iconst C 19 (nI 0) (by decide) dX2_takeBack_18 rfl ?_
      exact r_zret C Rr (by decide) dX2_takeBack_19 (fun _ => rfl) rfl
set_option maxHeartbeats 4000000 in
theorem ok_f_X2_takeBack_71 (x1 : Int32)  (h : CH) : ∀ q, f_X2_takeBack_71 x1 h = some q → MG yX2_takeBack cX2_takeBack 2 (some .boolean) [] 2 (fun ad => [.ref (ad 71), .int x1]) h ((fun (q : Int32 × CH) (_ : Nat → Nat) => some (Value.int q.1)) q) ((fun (q : (Int32 × CH)) => q.2) q) := mg_of RX2 (by decide) rfl (fun _ => Nat.le_of_ble_eq_true rfl) (fun κ C Rr => imp_f_X2_takeBack_71 C x1 h Rr)
set_option maxHeartbeats 4000000 in
set_option maxRecDepth 100000 in
theorem imp_f_X11_untell {κ : Kx (Int32 × CH)} (C : Cx κ cX11_untell RX11 2 3 (40 * 3) []) (x1 : Int32)  (h : CH) (Rr : Rt κ (some .boolean) (fun (q : Int32 × CH) (_ : Nat → Nat) => some (Value.int q.1)) (fun (q : (Int32 × CH)) => q.2)) : Imp κ 0 [(0, .ref (kad κ 0)), (1, .int (x1))] [] h (f_X11_untell x1 h) := by
  unfold f_X11_untell
  refine r_aload_n C 1 0 rfl dX11_untell_0 rfl ?_
  refine r_getR C 4 dX11_untell_1 flX11_55 kt_0 rfl rf_0_9 rfl ?_
  refine r_iload_n C 5 1 rfl dX11_untell_4 rfl ?_
  refine r_cViI C 8 [] (ok_f_X2_takeBack_71 x1 h) dX11_untell_5 lvX11_239 kt_71 rfl rfl rfl (by decide) (Nat.le_of_ble_eq_true rfl) rfl rfl (Nat.le_of_ble_eq_true rfl) rfl rfl (fun v_1 h_2 => ?_)
  exact r_zretg C Rr dX11_untell_8 (fun _ => rfl) rfl
set_option maxHeartbeats 4000000 in
theorem ok_f_X11_untell (x1 : Int32)  (h : CH) : ∀ q, f_X11_untell x1 h = some q → MG yX11_untell cX11_untell 2 (some .boolean) [] 3 (fun ad => [.ref (ad 0), .int x1]) h ((fun (q : Int32 × CH) (_ : Nat → Nat) => some (Value.int q.1)) q) ((fun (q : (Int32 × CH)) => q.2) q) := mg_of RX11 (by decide) rfl (fun _ => Nat.le_of_ble_eq_true rfl) (fun κ C Rr => imp_f_X11_untell C x1 h Rr)
set_option maxHeartbeats 4000000 in
set_option maxRecDepth 100000 in
theorem imp_f_X11_later {κ : Kx (Int32 × CH)} (C : Cx κ cX11_later RX11 2 1 (40 * 1) []) (x1 : Int32)  (h : CH) (Rr : Rt κ (some .int) (fun (q : Int32 × CH) (_ : Nat → Nat) => some (Value.int q.1)) (fun (q : (Int32 × CH)) => q.2)) : Imp κ 0 [(0, .ref (kad κ 0)), (1, .int (x1))] [] h (f_X11_later x1 h) := by
  unfold f_X11_later
  refine r_iload_n C 1 1 rfl dX11_later_0 rfl ?_
  refine r_if_lt C 4 25 dX11_later_1 (by decide) rfl (fun c_1 => ?_) (fun c_1 => ?_)
  · refine r_iconst C 26 (-1) (by decide) dX11_later_25 rfl ?_
    exact r_iret C Rr dX11_later_26 (fun _ => rfl) rfl
  · refine r_iload_n C 5 1 rfl dX11_later_4 rfl ?_
    refine r_sipush C 8 (nI 1000) (by decide) dX11_later_5 rfl ?_
    refine r_icmp_gt C 11 25 dX11_later_8 (by decide) rfl (fun c_2 => ?_) (fun c_2 => ?_)
    · refine r_iconst C 26 (-1) (by decide) dX11_later_25 rfl ?_
      exact r_iret C Rr dX11_later_26 (fun _ => rfl) rfl
    · refine r_aload_n C 12 0 rfl dX11_later_11 rfl ?_
      refine r_getR C 15 dX11_later_12 flX11_55 kt_0 rfl rf_0_9 rfl ?_
      refine r_getI C 18 dX11_later_15 flX11_242 kt_71 rfl rfl ?_
      refine r_iload_n C 19 1 rfl dX11_later_18 rfl ?_
      refine r_iadd C 20 dX11_later_19 rfl ?_
      refine r_ldc C 22 lkX11_245 dX11_later_20 rfl ?_
      refine r_icmp_le C 25 27 dX11_later_22 (by decide) rfl (fun c_3 => ?_) (fun c_3 => ?_)
      · refine r_iconst C 26 (-1) (by decide) dX11_later_25 rfl ?_
        exact r_iret C Rr dX11_later_26 (fun _ => rfl) rfl
      · refine r_aload_n C 28 0 rfl dX11_later_27 rfl ?_
        refine r_getR C 31 dX11_later_28 flX11_55 kt_0 rfl rf_0_9 rfl ?_
        refine r_dup C 32 rfl dX11_later_31 rfl ?_
        refine r_getI C 35 dX11_later_32 flX11_242 kt_71 rfl rfl ?_
        refine r_iload_n C 36 1 rfl dX11_later_35 rfl ?_
        refine r_iadd C 37 dX11_later_36 rfl ?_
        refine r_putI C 40 dX11_later_37 flX11_242 kt_71 rfl rfl (fun h_4 => ?_)
        refine r_aload_n C 41 0 rfl dX11_later_40 rfl ?_
        refine r_getR C 44 dX11_later_41 flX11_55 kt_0 rfl rf_0_9 rfl ?_
        refine r_getI C 47 dX11_later_44 flX11_242 kt_71 rfl rfl ?_
        exact r_iret C Rr dX11_later_47 (fun _ => rfl) rfl
set_option maxHeartbeats 4000000 in
theorem ok_f_X11_later (x1 : Int32)  (h : CH) : ∀ q, f_X11_later x1 h = some q → MG yX11_later cX11_later 2 (some .int) [] 1 (fun ad => [.ref (ad 0), .int x1]) h ((fun (q : Int32 × CH) (_ : Nat → Nat) => some (Value.int q.1)) q) ((fun (q : (Int32 × CH)) => q.2) q) := mg_of RX11 (by decide) rfl (fun _ => Nat.le_of_ble_eq_true rfl) (fun κ C Rr => imp_f_X11_later C x1 h Rr)
set_option maxHeartbeats 4000000 in
set_option maxRecDepth 100000 in
theorem imp_f_X2_counts_71 {κ : Kx Int32} (C : Cx κ cX2_counts RX2 3 2 (40 * 2) []) (x1 : Int32) (x2 : Int32)  (h : CH) (Rr : Rt κ (some .boolean) (fun (x : Int32) (_ : Nat → Nat) => some (Value.int x)) (fun (_ : Int32) => h)) : Imp κ 0 [(0, .ref (kad κ 71)), (1, .int (x1)), (2, .int (x2))] [] h (f_X2_counts_71 x1 x2 h) := by
  unfold f_X2_counts_71
  refine r_aload_n C 1 0 rfl dX2_counts_0 rfl ?_
  refine r_iload_n C 2 1 rfl dX2_counts_1 rfl ?_
  refine r_cVpI C 5 [] (ok_f_X2_has_71 x1 h) dX2_counts_2 lvX2_41 kt_71 rfl rfl rfl (by decide) (Nat.le_of_ble_eq_true rfl) rfl rfl (Nat.le_of_ble_eq_true rfl) rfl rfl (fun v_1 => ?_)
  refine r_if_eq C 8 42 dX2_counts_5 (by decide) rfl (fun c_2 => ?_) (fun c_2 => ?_)
  · refine r_iconst C 43 (nI 0) (by decide) dX2_counts_42 rfl ?_
    exact r_zret C Rr (by decide) dX2_counts_43 (fun _ => rfl) rfl
  · refine r_aload_n C 9 0 rfl dX2_counts_8 rfl ?_
    refine r_getR C 12 dX2_counts_9 flX2_35 kt_71 rfl rf_71_7 rfl ?_
    refine r_iload_n C 13 1 rfl dX2_counts_12 rfl ?_
    refine r_iald C 14 dX2_counts_13 kt_76 rfl rfl (fun v_3 => ?_)
    refine r_iload_n C 15 2 rfl dX2_counts_14 rfl ?_
    refine r_icmp_gt C 18 42 dX2_counts_15 (by decide) rfl (fun c_4 => ?_) (fun c_4 => ?_)
    · refine r_iconst C 43 (nI 0) (by decide) dX2_counts_42 rfl ?_
      exact r_zret C Rr (by decide) dX2_counts_43 (fun _ => rfl) rfl
    · refine r_aload_n C 19 0 rfl dX2_counts_18 rfl ?_
      refine r_getR C 22 dX2_counts_19 flX2_38 kt_71 rfl rf_71_8 rfl ?_
      refine r_iload_n C 23 1 rfl dX2_counts_22 rfl ?_
      refine r_iald C 24 dX2_counts_23 kt_77 rfl rfl (fun v_5 => ?_)
      refine r_iconst C 25 (-1) (by decide) dX2_counts_24 rfl ?_
      refine imp_jn (fun (j_6 : Option Int32) =>  Imp κ 38 [] [] h (j_6)) ?_ ?_
      · refine r_iconst C 39 (nI 1) (by decide) dX2_counts_38 rfl ?_
        refine r_goto C 43 dX2_counts_39 (by decide) ?_
        exact r_zret C Rr (by decide) dX2_counts_43 (fun _ => rfl) rfl
      · intro j_6 hj_6
        refine r_icmp_eq C 28 38 dX2_counts_25 (by decide) rfl (fun c_7 => ?_) (fun c_7 => ?_)
        · exact imp_sub [] [] rfl (hj_6)
        · refine r_aload_n C 29 0 rfl dX2_counts_28 rfl ?_
          refine r_getR C 32 dX2_counts_29 flX2_38 kt_71 rfl rf_71_8 rfl ?_
          refine r_iload_n C 33 1 rfl dX2_counts_32 rfl ?_
          refine r_iald C 34 dX2_counts_33 kt_77 rfl rfl (fun v_8 => ?_)
          refine r_iload_n C 35 2 rfl dX2_counts_34 rfl ?_
          refine r_icmp_le C 38 42 dX2_counts_35 (by decide) rfl (fun c_9 => ?_) (fun c_9 => ?_)
          · exact imp_sub [] [] rfl (hj_6)
          · refine r_iconst C 43 (nI 0) (by decide) dX2_counts_42 rfl ?_
            exact r_zret C Rr (by decide) dX2_counts_43 (fun _ => rfl) rfl
set_option maxHeartbeats 4000000 in
theorem ok_f_X2_counts_71 (x1 : Int32) (x2 : Int32)  (h : CH) : ∀ q, f_X2_counts_71 x1 x2 h = some q → MG yX2_counts cX2_counts 3 (some .boolean) [] 2 (fun ad => [.ref (ad 71), .int x1, .int x2]) h ((fun (x : Int32) (_ : Nat → Nat) => some (Value.int x)) q) ((fun (_ : Int32) => h) q) := mg_of RX2 (by decide) rfl (fun _ => Nat.le_of_ble_eq_true rfl) (fun κ C Rr => imp_f_X2_counts_71 C x1 x2 h Rr)
set_option maxHeartbeats 4000000 in
set_option maxRecDepth 100000 in
theorem imp_f_X2_printerOf_71 {κ : Kx Int32} (C : Cx κ cX2_printerOf RX2 2 2 (40 * 2) []) (x1 : Int32)  (h : CH) (Rr : Rt κ (some .int) (fun (x : Int32) (_ : Nat → Nat) => some (Value.int x)) (fun (_ : Int32) => h)) : Imp κ 0 [(0, .ref (kad κ 71)), (1, .int (x1))] [] h (f_X2_printerOf_71 x1 h) := by
  unfold f_X2_printerOf_71
  refine r_aload_n C 1 0 rfl dX2_printerOf_0 rfl ?_
  refine r_iload_n C 2 1 rfl dX2_printerOf_1 rfl ?_
  refine r_cVpI C 5 [] (ok_f_X2_has_71 x1 h) dX2_printerOf_2 lvX2_41 kt_71 rfl rfl rfl (by decide) (Nat.le_of_ble_eq_true rfl) rfl rfl (Nat.le_of_ble_eq_true rfl) rfl rfl (fun v_1 => ?_)
  refine r_if_eq C 8 23 dX2_printerOf_5 (by decide) rfl (fun c_2 => ?_) (fun c_2 => ?_)
  · refine r_iconst C 24 (-1) (by decide) dX2_printerOf_23 rfl ?_
    exact r_iret C Rr dX2_printerOf_24 (fun _ => rfl) rfl
  · refine r_aload_n C 9 0 rfl dX2_printerOf_8 rfl ?_
    refine r_getR C 12 dX2_printerOf_9 flX2_32 kt_71 rfl rf_71_6 rfl ?_
    refine r_iload_n C 13 1 rfl dX2_printerOf_12 rfl ?_
    refine r_iald C 14 dX2_printerOf_13 kt_75 rfl rfl (fun v_3 => ?_)
    refine r_bipush C 16 (nI 10) (by decide) dX2_printerOf_14 rfl ?_
    refine r_idivk C 17 (by decide) dX2_printerOf_16 rfl ?_
    refine r_bipush C 19 (nI 10) (by decide) dX2_printerOf_17 rfl ?_
    refine r_iremk C 20 (by decide) dX2_printerOf_19 rfl ?_
    refine r_goto C 24 dX2_printerOf_20 (by decide) ?_
    exact r_iret C Rr dX2_printerOf_24 (fun _ => rfl) rfl
set_option maxHeartbeats 4000000 in
theorem ok_f_X2_printerOf_71 (x1 : Int32)  (h : CH) : ∀ q, f_X2_printerOf_71 x1 h = some q → MG yX2_printerOf cX2_printerOf 2 (some .int) [] 2 (fun ad => [.ref (ad 71), .int x1]) h ((fun (x : Int32) (_ : Nat → Nat) => some (Value.int x)) q) ((fun (_ : Int32) => h) q) := mg_of RX2 (by decide) rfl (fun _ => Nat.le_of_ble_eq_true rfl) (fun κ C Rr => imp_f_X2_printerOf_71 C x1 h Rr)
set_option maxHeartbeats 4000000 in
set_option maxRecDepth 100000 in
theorem imp_f_X2_faceOf_71 {κ : Kx Int32} (C : Cx κ cX2_faceOf RX2 2 2 (40 * 2) []) (x1 : Int32)  (h : CH) (Rr : Rt κ (some .int) (fun (x : Int32) (_ : Nat → Nat) => some (Value.int x)) (fun (_ : Int32) => h)) : Imp κ 0 [(0, .ref (kad κ 71)), (1, .int (x1))] [] h (f_X2_faceOf_71 x1 h) := by
  unfold f_X2_faceOf_71
  refine r_aload_n C 1 0 rfl dX2_faceOf_0 rfl ?_
  refine r_iload_n C 2 1 rfl dX2_faceOf_1 rfl ?_
  refine r_cVpI C 5 [] (ok_f_X2_has_71 x1 h) dX2_faceOf_2 lvX2_41 kt_71 rfl rfl rfl (by decide) (Nat.le_of_ble_eq_true rfl) rfl rfl (Nat.le_of_ble_eq_true rfl) rfl rfl (fun v_1 => ?_)
  refine r_if_eq C 8 17 dX2_faceOf_5 (by decide) rfl (fun c_2 => ?_) (fun c_2 => ?_)
  · refine r_iconst C 18 (-1) (by decide) dX2_faceOf_17 rfl ?_
    exact r_iret C Rr dX2_faceOf_18 (fun _ => rfl) rfl
  · refine r_aload_n C 9 0 rfl dX2_faceOf_8 rfl ?_
    refine r_getR C 12 dX2_faceOf_9 flX2_22 kt_71 rfl rf_71_3 rfl ?_
    refine r_iload_n C 13 1 rfl dX2_faceOf_12 rfl ?_
    refine r_iald C 14 dX2_faceOf_13 kt_72 rfl rfl (fun v_3 => ?_)
    refine r_goto C 18 dX2_faceOf_14 (by decide) ?_
    exact r_iret C Rr dX2_faceOf_18 (fun _ => rfl) rfl
set_option maxHeartbeats 4000000 in
theorem ok_f_X2_faceOf_71 (x1 : Int32)  (h : CH) : ∀ q, f_X2_faceOf_71 x1 h = some q → MG yX2_faceOf cX2_faceOf 2 (some .int) [] 2 (fun ad => [.ref (ad 71), .int x1]) h ((fun (x : Int32) (_ : Nat → Nat) => some (Value.int x)) q) ((fun (_ : Int32) => h) q) := mg_of RX2 (by decide) rfl (fun _ => Nat.le_of_ble_eq_true rfl) (fun κ C Rr => imp_f_X2_faceOf_71 C x1 h Rr)
set_option maxHeartbeats 4000000 in
set_option maxRecDepth 100000 in
theorem imp_f_X2_otherOf_71 {κ : Kx Int32} (C : Cx κ cX2_otherOf RX2 2 2 (40 * 2) []) (x1 : Int32)  (h : CH) (Rr : Rt κ (some .int) (fun (x : Int32) (_ : Nat → Nat) => some (Value.int x)) (fun (_ : Int32) => h)) : Imp κ 0 [(0, .ref (kad κ 71)), (1, .int (x1))] [] h (f_X2_otherOf_71 x1 h) := by
  unfold f_X2_otherOf_71
  refine r_aload_n C 1 0 rfl dX2_otherOf_0 rfl ?_
  refine r_iload_n C 2 1 rfl dX2_otherOf_1 rfl ?_
  refine r_cVpI C 5 [] (ok_f_X2_has_71 x1 h) dX2_otherOf_2 lvX2_41 kt_71 rfl rfl rfl (by decide) (Nat.le_of_ble_eq_true rfl) rfl rfl (Nat.le_of_ble_eq_true rfl) rfl rfl (fun v_1 => ?_)
  refine r_if_eq C 8 17 dX2_otherOf_5 (by decide) rfl (fun c_2 => ?_) (fun c_2 => ?_)
  · refine r_iconst C 18 (-1) (by decide) dX2_otherOf_17 rfl ?_
    exact r_iret C Rr dX2_otherOf_18 (fun _ => rfl) rfl
  · refine r_aload_n C 9 0 rfl dX2_otherOf_8 rfl ?_
    refine r_getR C 12 dX2_otherOf_9 flX2_26 kt_71 rfl rf_71_4 rfl ?_
    refine r_iload_n C 13 1 rfl dX2_otherOf_12 rfl ?_
    refine r_iald C 14 dX2_otherOf_13 kt_73 rfl rfl (fun v_3 => ?_)
    refine r_goto C 18 dX2_otherOf_14 (by decide) ?_
    exact r_iret C Rr dX2_otherOf_18 (fun _ => rfl) rfl
set_option maxHeartbeats 4000000 in
theorem ok_f_X2_otherOf_71 (x1 : Int32)  (h : CH) : ∀ q, f_X2_otherOf_71 x1 h = some q → MG yX2_otherOf cX2_otherOf 2 (some .int) [] 2 (fun ad => [.ref (ad 71), .int x1]) h ((fun (x : Int32) (_ : Nat → Nat) => some (Value.int x)) q) ((fun (_ : Int32) => h) q) := mg_of RX2 (by decide) rfl (fun _ => Nat.le_of_ble_eq_true rfl) (fun κ C Rr => imp_f_X2_otherOf_71 C x1 h Rr)
set_option maxHeartbeats 4000000 in
set_option maxRecDepth 100000 in
theorem imp_f_X2_shareOf_71 {κ : Kx Int32} (C : Cx κ cX2_shareOf RX2 2 2 (40 * 2) []) (x1 : Int32)  (h : CH) (Rr : Rt κ (some .int) (fun (x : Int32) (_ : Nat → Nat) => some (Value.int x)) (fun (_ : Int32) => h)) : Imp κ 0 [(0, .ref (kad κ 71)), (1, .int (x1))] [] h (f_X2_shareOf_71 x1 h) := by
  unfold f_X2_shareOf_71
  refine r_aload_n C 1 0 rfl dX2_shareOf_0 rfl ?_
  refine r_iload_n C 2 1 rfl dX2_shareOf_1 rfl ?_
  refine r_cVpI C 5 [] (ok_f_X2_has_71 x1 h) dX2_shareOf_2 lvX2_41 kt_71 rfl rfl rfl (by decide) (Nat.le_of_ble_eq_true rfl) rfl rfl (Nat.le_of_ble_eq_true rfl) rfl rfl (fun v_1 => ?_)
  refine r_if_eq C 8 17 dX2_shareOf_5 (by decide) rfl (fun c_2 => ?_) (fun c_2 => ?_)
  · refine r_iconst C 18 (nI 0) (by decide) dX2_shareOf_17 rfl ?_
    exact r_iret C Rr dX2_shareOf_18 (fun _ => rfl) rfl
  · refine r_aload_n C 9 0 rfl dX2_shareOf_8 rfl ?_
    refine r_getR C 12 dX2_shareOf_9 flX2_29 kt_71 rfl rf_71_5 rfl ?_
    refine r_iload_n C 13 1 rfl dX2_shareOf_12 rfl ?_
    refine r_iald C 14 dX2_shareOf_13 kt_74 rfl rfl (fun v_3 => ?_)
    refine r_goto C 18 dX2_shareOf_14 (by decide) ?_
    exact r_iret C Rr dX2_shareOf_18 (fun _ => rfl) rfl
set_option maxHeartbeats 4000000 in
theorem ok_f_X2_shareOf_71 (x1 : Int32)  (h : CH) : ∀ q, f_X2_shareOf_71 x1 h = some q → MG yX2_shareOf cX2_shareOf 2 (some .int) [] 2 (fun ad => [.ref (ad 71), .int x1]) h ((fun (x : Int32) (_ : Nat → Nat) => some (Value.int x)) q) ((fun (_ : Int32) => h) q) := mg_of RX2 (by decide) rfl (fun _ => Nat.le_of_ble_eq_true rfl) (fun κ C Rr => imp_f_X2_shareOf_71 C x1 h Rr)
set_option maxHeartbeats 4000000 in
set_option maxRecDepth 100000 in
theorem imp_f_X7_compareMixes_L2 {κ : Kx (Unit × CH)} (C : Cx κ cX7_compareMixes RX7 5 5 (40 * 5) []) (x1 : Int32) (x2 : Int32)    (Rr : Rt κ none (fun (_ : Unit × CH) (_ : Nat → Nat) => (none : Option Value)) (fun (q : (Unit × CH)) => q.2)) : ∀ (n : Nat) (x3 : Int32) (h : CH), Imp κ 2 [(0, .ref (kad κ 121)), (1, .int (x1)), (2, .int (x2)), (3, .int (x3))] [] h (f_X7_compareMixes_L2 x1 x2 n x3 h) := by
  intro n
  induction n with
  | zero => intros; exact imp_none
  | succ n ih =>
    intro x3 h
    rw [f_X7_compareMixes_L2]
    refine r_iload_n C 3 3 rfl dX7_compareMixes_2 rfl ?_
    refine r_bipush C 5 (nI 10) (by decide) dX7_compareMixes_3 rfl ?_
    refine r_icmp_ge C 8 72 dX7_compareMixes_5 (by decide) rfl (fun c_1 => ?_) (fun c_1 => ?_)
    · refine r_aload_n C 9 0 rfl dX7_compareMixes_8 rfl ?_
      refine r_getR C 12 dX7_compareMixes_9 flX7_40 kt_121 rfl rf_121_0 rfl ?_
      refine r_aload_n C 13 0 rfl dX7_compareMixes_12 rfl ?_
      refine r_getR C 16 dX7_compareMixes_13 flX7_9 kt_121 rfl rf_121_3 rfl ?_
      refine r_aload_n C 17 0 rfl dX7_compareMixes_16 rfl ?_
      refine r_getR C 20 dX7_compareMixes_17 flX7_48 kt_121 rfl rf_121_2 rfl ?_
      refine r_aload_n C 21 0 rfl dX7_compareMixes_20 rfl ?_
      refine r_getI C 24 dX7_compareMixes_21 flX7_28 kt_121 rfl rfl ?_
      refine r_iload_n C 25 1 rfl dX7_compareMixes_24 rfl ?_
      refine r_iload_n C 26 3 rfl dX7_compareMixes_25 rfl ?_
      refine r_iload_n C 27 2 rfl dX7_compareMixes_26 rfl ?_
      refine r_cViR C 30 [.ref (kad κ 122), .ref (kad κ 7)] (ok_f_X0_develop (h.1 121 8) x1 x3 x2 h) dX7_compareMixes_27 lvX7_73 kt_79 rfl rfl rfl (by decide) (Nat.le_of_ble_eq_true rfl) rfl rfl (Nat.le_of_ble_eq_true rfl) rfl rfl (fun _ h_2 => ?_)
      refine r_cVpI C 33 [] (ok_f_X9_apart_7 122 80 ⟨kt_122, by decide⟩ ⟨kt_80, by decide⟩ h_2) dX7_compareMixes_30 lvX7_77 kt_7 rfl rfl rfl (by decide) (Nat.le_of_ble_eq_true rfl) rfl rfl (Nat.le_of_ble_eq_true rfl) rfl rfl (fun v_3 => ?_)
      refine r_istore C 35 [(4, .int (v_3)), (0, .ref (kad κ 121)), (1, .int (x1)), (2, .int (x2)), (3, .int (x3))] dX7_compareMixes_33 (by decide) rfl rfl ?_
      refine r_iload_n C 36 4 rfl dX7_compareMixes_35 rfl ?_
      refine r_iconst C 37 (nI 1) (by decide) dX7_compareMixes_36 rfl ?_
      refine imp_jn (fun (j_5 : CH → Option (Unit × CH)) => ∀ (h_4 : CH), Imp κ 66 [(0, .ref (kad κ 121)), (1, .int (x1)), (2, .int (x2)), (3, .int (x3))] [] h_4 (j_5 h_4)) ?_ ?_
      · intro h_4
        refine r_iinc C 69 3 (nI 1) [(3, .int (x3 + (nI 1))), (0, .ref (kad κ 121)), (1, .int (x1)), (2, .int (x2))] dX7_compareMixes_66 rfl (by decide) (by decide) rfl rfl ?_
        refine r_goto C 2 dX7_compareMixes_69 (by decide) ?_
        exact imp_sub [(0, .ref (kad κ 121)), (1, .int (x1)), (2, .int (x2)), (3, .int (x3 + (nI 1)))] [1, 2, 3, 0] rfl (ih (x3 + (nI 1)) h_4)
      · intro j_5 hj_5
        refine imp_jn (fun (j_6 : Option (Unit × CH)) =>  Imp κ 51 [(0, .ref (kad κ 121)), (1, .int (x1)), (2, .int (x2)), (3, .int (x3)), (4, .int (v_3))] [] h_2 (j_6)) ?_ ?_
        · refine r_aload_n C 52 0 rfl dX7_compareMixes_51 rfl ?_
          refine r_getR C 55 dX7_compareMixes_52 flX7_15 kt_121 rfl rf_121_4 rfl ?_
          refine r_iload_n C 56 1 rfl dX7_compareMixes_55 rfl ?_
          refine r_iload C 58 4 rfl dX7_compareMixes_56 rfl ?_
          refine r_iast C 59 dX7_compareMixes_58 kt_123 rfl rfl (fun h_7 => ?_)
          refine r_aload_n C 60 0 rfl dX7_compareMixes_59 rfl ?_
          refine r_getR C 63 dX7_compareMixes_60 flX7_18 kt_121 rfl rf_121_5 rfl ?_
          refine r_iload_n C 64 1 rfl dX7_compareMixes_63 rfl ?_
          refine r_iload_n C 65 3 rfl dX7_compareMixes_64 rfl ?_
          refine r_iast C 66 dX7_compareMixes_65 kt_124 rfl rfl (fun h_8 => ?_)
          exact imp_sub [(0, .ref (kad κ 121)), (1, .int (x1)), (2, .int (x2)), (3, .int (x3))] [0, 1, 2, 3] rfl (hj_5 h_8)
        · intro j_6 hj_6
          refine r_icmp_eq C 40 51 dX7_compareMixes_37 (by decide) rfl (fun c_9 => ?_) (fun c_9 => ?_)
          · exact imp_sub [(0, .ref (kad κ 121)), (1, .int (x1)), (2, .int (x2)), (3, .int (x3)), (4, .int (v_3))] [1, 2, 3, 4, 0] rfl (hj_6)
          · refine r_iload C 42 0 rfl dX7_compareMixes_40 rfl ?_
            refine r_aload_n C 43 1 rfl dX7_compareMixes_42 rfl ?_
            refine r_getR C 46 dX7_compareMixes_43 flX7_15 kt_121 rfl rf_121_4 rfl ?_
            refine r_iload_n C 47 2 rfl dX7_compareMixes_46 rfl ?_
            refine r_iald C 48 dX7_compareMixes_47 kt_123 rfl rfl (fun v_10 => ?_)
            refine r_icmp_ge C 51 66 dX7_compareMixes_48 (by decide) rfl (fun c_11 => ?_) (fun c_11 => ?_)
            · exact imp_sub [(0, .ref (kad κ 121)), (1, .int (x1)), (2, .int (x2)), (3, .int (x3)), (4, .int (v_3))] [1, 2, 3, 4, 0] rfl (hj_6)
            · exact imp_sub [(0, .ref (kad κ 121)), (1, .int (x1)), (2, .int (x2)), (3, .int (x3))] [1, 2, 3, 4] rfl (hj_5 h_2)
    · exact r_vret C Rr dX7_compareMixes_72 (fun _ => rfl) rfl
set_option maxHeartbeats 4000000 in
set_option maxRecDepth 100000 in
theorem imp_f_X7_compareMixes {κ : Kx (Unit × CH)} (C : Cx κ cX7_compareMixes RX7 5 5 (40 * 5) []) (x1 : Int32) (x2 : Int32)  (h : CH) (Rr : Rt κ none (fun (_ : Unit × CH) (_ : Nat → Nat) => (none : Option Value)) (fun (q : (Unit × CH)) => q.2)) : Imp κ 0 [(0, .ref (kad κ 121)), (1, .int (x1)), (2, .int (x2))] [] h (f_X7_compareMixes x1 x2 h) := by
  unfold f_X7_compareMixes
  refine r_iconst C 1 (nI 1) (by decide) dX7_compareMixes_0 rfl ?_
  refine r_istore_n C 2 3 [(3, .int ((nI 1))), (0, .ref (kad κ 121)), (1, .int (x1)), (2, .int (x2))] dX7_compareMixes_1 rfl (by decide) rfl rfl ?_
  refine imp_sub [(0, .ref (kad κ 121)), (1, .int (x1)), (2, .int (x2)), (3, .int ((nI 1)))] [1, 2, 3, 0] rfl ?_
  refine imp_f_X7_compareMixes_L2 C (x1) (x2) Rr FU ((nI 1)) h
set_option maxHeartbeats 4000000 in
theorem ok_f_X7_compareMixes (x1 : Int32) (x2 : Int32)  (h : CH) : ∀ q, f_X7_compareMixes x1 x2 h = some q → MG yX7_compareMixes cX7_compareMixes 5 none [] 5 (fun ad => [.ref (ad 121), .int x1, .int x2]) h ((fun (_ : Unit × CH) (_ : Nat → Nat) => (none : Option Value)) q) ((fun (q : (Unit × CH)) => q.2) q) := mg_of RX7 (by decide) rfl (fun _ => Nat.le_of_ble_eq_true rfl) (fun κ C Rr => imp_f_X7_compareMixes C x1 x2 h Rr)
set_option maxHeartbeats 4000000 in
set_option maxRecDepth 100000 in
theorem imp_f_X7_foundFar {κ : Kx Int32} (C : Cx κ cX7_foundFar RX7 1 2 (40 * 2) [])   (h : CH) (Rr : Rt κ (some .int) (fun (x : Int32) (_ : Nat → Nat) => some (Value.int x)) (fun (_ : Int32) => h)) : Imp κ 0 [(0, .ref (kad κ 121))] [] h (f_X7_foundFar h) := by
  unfold f_X7_foundFar
  refine r_aload_n C 1 0 rfl dX7_foundFar_0 rfl ?_
  refine r_getR C 4 dX7_foundFar_1 flX7_40 kt_121 rfl rf_121_0 rfl ?_
  refine r_aload_n C 5 0 rfl dX7_foundFar_4 rfl ?_
  refine r_getI C 8 dX7_foundFar_5 flX7_31 kt_121 rfl rfl ?_
  refine r_cVpI C 11 [] (ok_f_X9_has_7 (h.1 121 9) h) dX7_foundFar_8 lvX7_94 kt_7 rfl rfl rfl (by decide) (Nat.le_of_ble_eq_true rfl) rfl rfl (Nat.le_of_ble_eq_true rfl) rfl rfl (fun v_1 => ?_)
  refine r_if_eq C 14 26 dX7_foundFar_11 (by decide) rfl (fun c_2 => ?_) (fun c_2 => ?_)
  · refine r_iconst C 27 (-1) (by decide) dX7_foundFar_26 rfl ?_
    exact r_iret C Rr dX7_foundFar_27 (fun _ => rfl) rfl
  · refine r_aload_n C 15 0 rfl dX7_foundFar_14 rfl ?_
    refine r_getR C 18 dX7_foundFar_15 flX7_15 kt_121 rfl rf_121_4 rfl ?_
    refine r_aload_n C 19 0 rfl dX7_foundFar_18 rfl ?_
    refine r_getI C 22 dX7_foundFar_19 flX7_31 kt_121 rfl rfl ?_
    refine r_iald C 23 dX7_foundFar_22 kt_123 rfl rfl (fun v_3 => ?_)
    refine r_goto C 27 dX7_foundFar_23 (by decide) ?_
    exact r_iret C Rr dX7_foundFar_27 (fun _ => rfl) rfl
set_option maxHeartbeats 4000000 in
theorem ok_f_X7_foundFar   (h : CH) : ∀ q, f_X7_foundFar h = some q → MG yX7_foundFar cX7_foundFar 1 (some .int) [] 2 (fun ad => [.ref (ad 121)]) h ((fun (x : Int32) (_ : Nat → Nat) => some (Value.int x)) q) ((fun (_ : Int32) => h) q) := mg_of RX7 (by decide) rfl (fun _ => Nat.le_of_ble_eq_true rfl) (fun κ C Rr => imp_f_X7_foundFar C  h Rr)
set_option maxHeartbeats 4000000 in
set_option maxRecDepth 100000 in
theorem imp_f_X7_seek_L93 {κ : Kx (Unit × CH)} (C : Cx κ cX7_seek RX7 4 6 (40 * 6) []) (x2 : Int32)    (Rr : Rt κ none (fun (_ : Unit × CH) (_ : Nat → Nat) => (none : Option Value)) (fun (q : (Unit × CH)) => q.2)) : ∀ (n : Nat) (x3 : Int32) (h : CH), Imp κ 93 [(0, .ref (kad κ 121)), (2, .int (x2)), (3, .int (x3))] [] h (f_X7_seek_L93 x2 n x3 h) := by
  intro n
  induction n with
  | zero => intros; exact imp_none
  | succ n ih =>
    intro x3 h
    rw [f_X7_seek_L93]
    refine r_iload_n C 94 2 rfl dX7_seek_93 rfl ?_
    refine r_aload_n C 95 0 rfl dX7_seek_94 rfl ?_
    refine r_getR C 98 dX7_seek_95 flX7_40 kt_121 rfl rf_121_0 rfl ?_
    refine r_getI C 101 dX7_seek_98 flX7_83 kt_7 rfl rfl ?_
    refine r_icmp_ge C 104 156 dX7_seek_101 (by decide) rfl (fun c_11 => ?_) (fun c_11 => ?_)
    · refine r_iload_n C 105 2 rfl dX7_seek_104 rfl ?_
      refine r_bipush C 107 (nI 16) (by decide) dX7_seek_105 rfl ?_
      refine r_icmp_ge C 110 156 dX7_seek_107 (by decide) rfl (fun c_12 => ?_) (fun c_12 => ?_)
      · refine r_iload_n C 111 2 rfl dX7_seek_110 rfl ?_
        refine r_aload_n C 112 0 rfl dX7_seek_111 rfl ?_
        refine r_getI C 115 dX7_seek_112 flX7_28 kt_121 rfl rfl ?_
        refine imp_jn (fun (j_14 : CH → Option (Unit × CH)) => ∀ (h_13 : CH), Imp κ 150 [(0, .ref (kad κ 121)), (2, .int (x2)), (3, .int (x3))] [] h_13 (j_14 h_13)) ?_ ?_
        · intro h_13
          refine r_iinc C 153 2 (nI 1) [(3, .int (x3 + (nI 1))), (0, .ref (kad κ 121)), (2, .int (x2))] dX7_seek_150 rfl (by decide) (by decide) rfl rfl ?_
          refine r_goto C 93 dX7_seek_153 (by decide) ?_
          exact imp_sub [(0, .ref (kad κ 121)), (2, .int (x2)), (3, .int (x3 + (nI 1)))] [1, 2, 0] rfl (ih (x3 + (nI 1)) h_13)
        · intro j_14 hj_14
          refine r_icmp_eq C 118 150 dX7_seek_115 (by decide) rfl (fun c_15 => ?_) (fun c_15 => ?_)
          · exact imp_sub [(0, .ref (kad κ 121)), (2, .int (x2)), (3, .int (x3))] [0, 1, 2] rfl (hj_14 h)
          · refine r_aload_n C 119 0 rfl dX7_seek_118 rfl ?_
            refine r_iload_n C 120 2 rfl dX7_seek_119 rfl ?_
            refine r_iload_n C 121 1 rfl dX7_seek_120 rfl ?_
            refine r_cViV C 124 [] (ok_f_X7_compareMixes x3 x2 h) dX7_seek_121 lvX7_86 kt_121 rfl rfl rfl (by decide) (Nat.le_of_ble_eq_true rfl) rfl rfl (Nat.le_of_ble_eq_true rfl) rfl rfl (fun _ h_16 => ?_)
            refine r_aload_n C 125 0 rfl dX7_seek_124 rfl ?_
            refine r_getI C 128 dX7_seek_125 flX7_31 kt_121 rfl rfl ?_
            refine r_iconst C 129 (-1) (by decide) dX7_seek_128 rfl ?_
            refine imp_jn (fun (j_17 : Option (Unit × CH)) =>  Imp κ 145 [(0, .ref (kad κ 121)), (2, .int (x2)), (3, .int (x3))] [] h_16 (j_17)) ?_ ?_
            · refine r_aload_n C 146 0 rfl dX7_seek_145 rfl ?_
              refine r_iload_n C 147 2 rfl dX7_seek_146 rfl ?_
              refine r_putI C 150 dX7_seek_147 flX7_31 kt_121 rfl rfl (fun h_18 => ?_)
              exact imp_sub [(0, .ref (kad κ 121)), (2, .int (x2)), (3, .int (x3))] [0, 1, 2] rfl (hj_14 h_18)
            · intro j_17 hj_17
              refine r_icmp_eq C 132 145 dX7_seek_129 (by decide) rfl (fun c_19 => ?_) (fun c_19 => ?_)
              · exact imp_sub [(0, .ref (kad κ 121)), (2, .int (x2)), (3, .int (x3))] [0, 1, 2] rfl (hj_17)
              · refine r_aload_n C 133 0 rfl dX7_seek_132 rfl ?_
                refine r_getR C 136 dX7_seek_133 flX7_15 kt_121 rfl rf_121_4 rfl ?_
                refine r_iload_n C 137 2 rfl dX7_seek_136 rfl ?_
                refine r_iald C 138 dX7_seek_137 kt_123 rfl rfl (fun v_20 => ?_)
                refine r_aload_n C 139 0 rfl dX7_seek_138 rfl ?_
                refine r_cVpI C 142 [.int (v_20)] (ok_f_X7_foundFar h_16) dX7_seek_139 lvX7_90 kt_121 rfl rfl rfl (by decide) (Nat.le_of_ble_eq_true rfl) rfl rfl (Nat.le_of_ble_eq_true rfl) rfl rfl (fun v_21 => ?_)
                refine r_icmp_ge C 145 150 dX7_seek_142 (by decide) rfl (fun c_22 => ?_) (fun c_22 => ?_)
                · exact imp_sub [(0, .ref (kad κ 121)), (2, .int (x2)), (3, .int (x3))] [0, 1, 2] rfl (hj_17)
                · exact imp_sub [(0, .ref (kad κ 121)), (2, .int (x2)), (3, .int (x3))] [0, 1, 2] rfl (hj_14 h_16)
      · exact r_vret C Rr dX7_seek_156 (fun _ => rfl) rfl
    · exact r_vret C Rr dX7_seek_156 (fun _ => rfl) rfl
set_option maxHeartbeats 4000000 in
set_option maxRecDepth 100000 in
theorem imp_f_X7_seek {κ : Kx (Unit × CH)} (C : Cx κ cX7_seek RX7 4 6 (40 * 6) []) (x1 : Int32)  (h : CH) (Rr : Rt κ none (fun (_ : Unit × CH) (_ : Nat → Nat) => (none : Option Value)) (fun (q : (Unit × CH)) => q.2)) : Imp κ 0 [(0, .ref (kad κ 121)), (1, .int (x1))] [] h (f_X7_seek x1 h) := by
  unfold f_X7_seek
  refine r_aload_n C 1 0 rfl dX7_seek_0 rfl ?_
  refine r_getR C 4 dX7_seek_1 flX7_44 kt_121 rfl rf_121_1 rfl ?_
  refine r_iload_n C 5 1 rfl dX7_seek_4 rfl ?_
  refine r_cVpI C 8 [] (ok_f_X2_printerOf_71 x1 h) dX7_seek_5 lvX7_52 kt_71 rfl rfl rfl (by decide) (Nat.le_of_ble_eq_true rfl) rfl rfl (Nat.le_of_ble_eq_true rfl) rfl rfl (fun v_1 => ?_)
  refine r_istore_n C 9 2 [(2, .int (v_1)), (0, .ref (kad κ 121)), (1, .int (x1))] dX7_seek_8 rfl (by decide) rfl rfl ?_
  refine r_aload_n C 10 1 rfl dX7_seek_9 rfl ?_
  refine r_aload_n C 11 1 rfl dX7_seek_10 rfl ?_
  refine r_getR C 14 dX7_seek_11 flX7_44 kt_121 rfl rf_121_1 rfl ?_
  refine r_iload_n C 15 2 rfl dX7_seek_14 rfl ?_
  refine r_cVpI C 18 [.ref (kad κ 121)] (ok_f_X2_faceOf_71 x1 h) dX7_seek_15 lvX7_58 kt_71 rfl rfl rfl (by decide) (Nat.le_of_ble_eq_true rfl) rfl rfl (Nat.le_of_ble_eq_true rfl) rfl rfl (fun v_2 => ?_)
  refine r_putI C 21 dX7_seek_18 flX7_28 kt_121 rfl rfl (fun h_3 => ?_)
  refine r_aload_n C 22 1 rfl dX7_seek_21 rfl ?_
  refine r_getR C 25 dX7_seek_22 flX7_48 kt_121 rfl rf_121_2 rfl ?_
  refine r_aload_n C 26 1 rfl dX7_seek_25 rfl ?_
  refine r_getR C 29 dX7_seek_26 flX7_9 kt_121 rfl rf_121_3 rfl ?_
  refine r_aload_n C 30 1 rfl dX7_seek_29 rfl ?_
  refine r_getI C 33 dX7_seek_30 flX7_28 kt_121 rfl rfl ?_
  refine r_aload_n C 34 1 rfl dX7_seek_33 rfl ?_
  refine r_getR C 37 dX7_seek_34 flX7_44 kt_121 rfl rf_121_1 rfl ?_
  refine r_iload_n C 38 2 rfl dX7_seek_37 rfl ?_
  refine r_cVpI C 41 [.int (h_3.1 121 8), .ref (kad κ 122), .ref (kad κ 79)] (ok_f_X2_otherOf_71 x1 h_3) dX7_seek_38 lvX7_61 kt_71 rfl rfl rfl (by decide) (Nat.le_of_ble_eq_true rfl) rfl rfl (Nat.le_of_ble_eq_true rfl) rfl rfl (fun v_4 => ?_)
  refine r_aload_n C 42 1 rfl dX7_seek_41 rfl ?_
  refine r_getR C 45 dX7_seek_42 flX7_44 kt_121 rfl rf_121_1 rfl ?_
  refine r_iload_n C 46 2 rfl dX7_seek_45 rfl ?_
  refine r_cVpI C 49 [.int (v_4), .int (h_3.1 121 8), .ref (kad κ 122), .ref (kad κ 79)] (ok_f_X2_shareOf_71 x1 h_3) dX7_seek_46 lvX7_64 kt_71 rfl rfl rfl (by decide) (Nat.le_of_ble_eq_true rfl) rfl rfl (Nat.le_of_ble_eq_true rfl) rfl rfl (fun v_5 => ?_)
  refine r_iload_n C 50 0 rfl dX7_seek_49 rfl ?_
  refine r_cViV C 53 [] (ok_f_X0_developInto 122 (h_3.1 121 8) v_4 v_5 v_1 ⟨kt_122, by decide⟩ h_3) dX7_seek_50 lvX7_67 kt_79 rfl rfl rfl (by decide) (Nat.le_of_ble_eq_true rfl) rfl rfl (Nat.le_of_ble_eq_true rfl) rfl rfl (fun _ h_6 => ?_)
  refine r_aload_n C 54 1 rfl dX7_seek_53 rfl ?_
  refine r_aload_n C 55 1 rfl dX7_seek_54 rfl ?_
  refine r_getR C 58 dX7_seek_55 flX7_40 kt_121 rfl rf_121_0 rfl ?_
  refine r_aload_n C 59 1 rfl dX7_seek_58 rfl ?_
  refine r_getR C 62 dX7_seek_59 flX7_9 kt_121 rfl rf_121_3 rfl ?_
  refine r_aload_n C 63 1 rfl dX7_seek_62 rfl ?_
  refine r_getR C 66 dX7_seek_63 flX7_48 kt_121 rfl rf_121_2 rfl ?_
  refine r_aload_n C 67 1 rfl dX7_seek_66 rfl ?_
  refine r_getI C 70 dX7_seek_67 flX7_28 kt_121 rfl rfl ?_
  refine r_aload_n C 71 1 rfl dX7_seek_70 rfl ?_
  refine r_getI C 74 dX7_seek_71 flX7_28 kt_121 rfl rfl ?_
  refine r_bipush C 76 (nI 10) (by decide) dX7_seek_74 rfl ?_
  refine r_iload_n C 77 0 rfl dX7_seek_76 rfl ?_
  refine r_cViR C 80 [.ref (kad κ 122), .ref (kad κ 7), .ref (kad κ 121)] (ok_f_X0_develop (h_6.1 121 8) (h_6.1 121 8) ((nI 10)) v_1 h_6) dX7_seek_77 lvX7_73 kt_79 rfl rfl rfl (by decide) (Nat.le_of_ble_eq_true rfl) rfl rfl (Nat.le_of_ble_eq_true rfl) rfl rfl (fun _ h_7 => ?_)
  refine r_cVpI C 83 [.ref (kad κ 121)] (ok_f_X9_apart_7 122 80 ⟨kt_122, by decide⟩ ⟨kt_80, by decide⟩ h_7) dX7_seek_80 lvX7_77 kt_7 rfl rfl rfl (by decide) (Nat.le_of_ble_eq_true rfl) rfl rfl (Nat.le_of_ble_eq_true rfl) rfl rfl (fun v_8 => ?_)
  refine r_putI C 86 dX7_seek_83 flX7_24 kt_121 rfl rfl (fun h_9 => ?_)
  refine r_aload_n C 87 1 rfl dX7_seek_86 rfl ?_
  refine r_iconst C 88 (-1) (by decide) dX7_seek_87 rfl ?_
  refine r_putI C 91 dX7_seek_88 flX7_31 kt_121 rfl rfl (fun h_10 => ?_)
  refine r_iconst C 92 (nI 0) (by decide) dX7_seek_91 rfl ?_
  refine r_istore_n C 93 3 [(3, .int ((nI 0))), (2, .int (v_1)), (0, .ref (kad κ 121)), (1, .int (x1))] dX7_seek_92 rfl (by decide) rfl rfl ?_
  refine imp_sub [(0, .ref (kad κ 121)), (2, .int (v_1)), (3, .int ((nI 0)))] [2, 1, 0] rfl ?_
  refine imp_f_X7_seek_L93 C (v_1) Rr FU ((nI 0)) h_10
set_option maxHeartbeats 4000000 in
theorem ok_f_X7_seek (x1 : Int32)  (h : CH) : ∀ q, f_X7_seek x1 h = some q → MG yX7_seek cX7_seek 4 none [] 6 (fun ad => [.ref (ad 121), .int x1]) h ((fun (_ : Unit × CH) (_ : Nat → Nat) => (none : Option Value)) q) ((fun (q : (Unit × CH)) => q.2) q) := mg_of RX7 (by decide) rfl (fun _ => Nat.le_of_ble_eq_true rfl) (fun κ C Rr => imp_f_X7_seek C x1 h Rr)
set_option maxHeartbeats 4000000 in
set_option maxRecDepth 100000 in
theorem imp_f_X7_foundShare {κ : Kx Int32} (C : Cx κ cX7_foundShare RX7 1 2 (40 * 2) [])   (h : CH) (Rr : Rt κ (some .int) (fun (x : Int32) (_ : Nat → Nat) => some (Value.int x)) (fun (_ : Int32) => h)) : Imp κ 0 [(0, .ref (kad κ 121))] [] h (f_X7_foundShare h) := by
  unfold f_X7_foundShare
  refine r_aload_n C 1 0 rfl dX7_foundShare_0 rfl ?_
  refine r_getR C 4 dX7_foundShare_1 flX7_40 kt_121 rfl rf_121_0 rfl ?_
  refine r_aload_n C 5 0 rfl dX7_foundShare_4 rfl ?_
  refine r_getI C 8 dX7_foundShare_5 flX7_31 kt_121 rfl rfl ?_
  refine r_cVpI C 11 [] (ok_f_X9_has_7 (h.1 121 9) h) dX7_foundShare_8 lvX7_94 kt_7 rfl rfl rfl (by decide) (Nat.le_of_ble_eq_true rfl) rfl rfl (Nat.le_of_ble_eq_true rfl) rfl rfl (fun v_1 => ?_)
  refine r_if_eq C 14 26 dX7_foundShare_11 (by decide) rfl (fun c_2 => ?_) (fun c_2 => ?_)
  · refine r_iconst C 27 (-1) (by decide) dX7_foundShare_26 rfl ?_
    exact r_iret C Rr dX7_foundShare_27 (fun _ => rfl) rfl
  · refine r_aload_n C 15 0 rfl dX7_foundShare_14 rfl ?_
    refine r_getR C 18 dX7_foundShare_15 flX7_18 kt_121 rfl rf_121_5 rfl ?_
    refine r_aload_n C 19 0 rfl dX7_foundShare_18 rfl ?_
    refine r_getI C 22 dX7_foundShare_19 flX7_31 kt_121 rfl rfl ?_
    refine r_iald C 23 dX7_foundShare_22 kt_124 rfl rfl (fun v_3 => ?_)
    refine r_goto C 27 dX7_foundShare_23 (by decide) ?_
    exact r_iret C Rr dX7_foundShare_27 (fun _ => rfl) rfl
set_option maxHeartbeats 4000000 in
theorem ok_f_X7_foundShare   (h : CH) : ∀ q, f_X7_foundShare h = some q → MG yX7_foundShare cX7_foundShare 1 (some .int) [] 2 (fun ad => [.ref (ad 121)]) h ((fun (x : Int32) (_ : Nat → Nat) => some (Value.int x)) q) ((fun (_ : Int32) => h) q) := mg_of RX7 (by decide) rfl (fun _ => Nat.le_of_ble_eq_true rfl) (fun κ C Rr => imp_f_X7_foundShare C  h Rr)
set_option maxHeartbeats 4000000 in
set_option maxRecDepth 100000 in
theorem imp_f_X7_isSure_L15 {κ : Kx Int32} (C : Cx κ cX7_isSure RX7 3 3 (40 * 3) []) (x1 : Int32) (h : CH)    (Rr : Rt κ (some .boolean) (fun (x : Int32) (_ : Nat → Nat) => some (Value.int x)) (fun (_ : Int32) => h)) : ∀ (n : Nat) (x2 : Int32), Imp κ 15 [(0, .ref (kad κ 121)), (1, .int (x1)), (2, .int (x2))] [] h (f_X7_isSure_L15 x1 h n x2) := by
  intro n
  induction n with
  | zero => intros; exact imp_none
  | succ n ih =>
    intro x2
    rw [f_X7_isSure_L15]
    refine r_iload_n C 16 2 rfl dX7_isSure_15 rfl ?_
    refine r_aload_n C 17 0 rfl dX7_isSure_16 rfl ?_
    refine r_getR C 20 dX7_isSure_17 flX7_40 kt_121 rfl rf_121_0 rfl ?_
    refine r_getI C 23 dX7_isSure_20 flX7_83 kt_7 rfl rfl ?_
    refine imp_jn (fun (j_2 : Option Int32) =>  Imp κ 66 [(0, .ref (kad κ 121)), (1, .int (x1))] [] h (j_2)) ?_ ?_
    · refine r_iload_n C 67 1 rfl dX7_isSure_66 rfl ?_
      refine r_aload_n C 68 0 rfl dX7_isSure_67 rfl ?_
      refine r_getI C 71 dX7_isSure_68 flX7_24 kt_121 rfl rfl ?_
      refine r_icmp_ge C 74 78 dX7_isSure_71 (by decide) rfl (fun c_3 => ?_) (fun c_3 => ?_)
      · refine r_iconst C 75 (nI 1) (by decide) dX7_isSure_74 rfl ?_
        refine r_goto C 79 dX7_isSure_75 (by decide) ?_
        exact r_zret C Rr (by decide) dX7_isSure_79 (fun _ => rfl) rfl
      · refine r_iconst C 79 (nI 0) (by decide) dX7_isSure_78 rfl ?_
        exact r_zret C Rr (by decide) dX7_isSure_79 (fun _ => rfl) rfl
    · intro j_2 hj_2
      refine r_icmp_ge C 26 66 dX7_isSure_23 (by decide) rfl (fun c_4 => ?_) (fun c_4 => ?_)
      · refine r_iload_n C 27 2 rfl dX7_isSure_26 rfl ?_
        refine r_bipush C 29 (nI 16) (by decide) dX7_isSure_27 rfl ?_
        refine r_icmp_ge C 32 66 dX7_isSure_29 (by decide) rfl (fun c_5 => ?_) (fun c_5 => ?_)
        · refine r_iload_n C 33 2 rfl dX7_isSure_32 rfl ?_
          refine r_aload_n C 34 0 rfl dX7_isSure_33 rfl ?_
          refine r_getI C 37 dX7_isSure_34 flX7_28 kt_121 rfl rfl ?_
          refine imp_jn (fun (j_6 : Option Int32) =>  Imp κ 60 [(0, .ref (kad κ 121)), (1, .int (x1)), (2, .int (x2))] [] h (j_6)) ?_ ?_
          · refine r_iinc C 63 2 (nI 1) [(2, .int (x2 + (nI 1))), (0, .ref (kad κ 121)), (1, .int (x1))] dX7_isSure_60 rfl (by decide) (by decide) rfl rfl ?_
            refine r_goto C 15 dX7_isSure_63 (by decide) ?_
            exact imp_sub [(0, .ref (kad κ 121)), (1, .int (x1)), (2, .int (x2 + (nI 1)))] [1, 2, 0] rfl (ih (x2 + (nI 1)))
          · intro j_6 hj_6
            refine r_icmp_eq C 40 60 dX7_isSure_37 (by decide) rfl (fun c_7 => ?_) (fun c_7 => ?_)
            · exact imp_sub [(0, .ref (kad κ 121)), (1, .int (x1)), (2, .int (x2))] [0, 1, 2] rfl (hj_6)
            · refine r_iload_n C 41 2 rfl dX7_isSure_40 rfl ?_
              refine r_aload_n C 42 0 rfl dX7_isSure_41 rfl ?_
              refine r_getI C 45 dX7_isSure_42 flX7_31 kt_121 rfl rfl ?_
              refine r_icmp_eq C 48 60 dX7_isSure_45 (by decide) rfl (fun c_8 => ?_) (fun c_8 => ?_)
              · exact imp_sub [(0, .ref (kad κ 121)), (1, .int (x1)), (2, .int (x2))] [0, 1, 2] rfl (hj_6)
              · refine r_iload_n C 49 1 rfl dX7_isSure_48 rfl ?_
                refine r_aload_n C 50 0 rfl dX7_isSure_49 rfl ?_
                refine r_getR C 53 dX7_isSure_50 flX7_15 kt_121 rfl rf_121_4 rfl ?_
                refine r_iload_n C 54 2 rfl dX7_isSure_53 rfl ?_
                refine r_iald C 55 dX7_isSure_54 kt_123 rfl rfl (fun v_9 => ?_)
                refine r_icmp_lt C 58 60 dX7_isSure_55 (by decide) rfl (fun c_10 => ?_) (fun c_10 => ?_)
                · exact imp_sub [(0, .ref (kad κ 121)), (1, .int (x1)), (2, .int (x2))] [0, 1, 2] rfl (hj_6)
                · refine r_iconst C 59 (nI 0) (by decide) dX7_isSure_58 rfl ?_
                  exact r_zret C Rr (by decide) dX7_isSure_59 (fun _ => rfl) rfl
        · exact imp_sub [(0, .ref (kad κ 121)), (1, .int (x1))] [0, 1] rfl (hj_2)
      · exact imp_sub [(0, .ref (kad κ 121)), (1, .int (x1))] [0, 1] rfl (hj_2)
set_option maxHeartbeats 4000000 in
set_option maxRecDepth 100000 in
theorem imp_f_X7_isSure {κ : Kx Int32} (C : Cx κ cX7_isSure RX7 3 3 (40 * 3) [])   (h : CH) (Rr : Rt κ (some .boolean) (fun (x : Int32) (_ : Nat → Nat) => some (Value.int x)) (fun (_ : Int32) => h)) : Imp κ 0 [(0, .ref (kad κ 121))] [] h (f_X7_isSure h) := by
  unfold f_X7_isSure
  refine r_aload_n C 1 0 rfl dX7_isSure_0 rfl ?_
  refine r_cVpI C 4 [] (ok_f_X7_foundFar h) dX7_isSure_1 lvX7_90 kt_121 rfl rfl rfl (by decide) (Nat.le_of_ble_eq_true rfl) rfl rfl (Nat.le_of_ble_eq_true rfl) rfl rfl (fun v_1 => ?_)
  refine r_aload_n C 5 0 rfl dX7_isSure_4 rfl ?_
  refine r_getR C 8 dX7_isSure_5 flX7_40 kt_121 rfl rf_121_0 rfl ?_
  refine r_getI C 11 dX7_isSure_8 flX7_98 kt_7 rfl rfl ?_
  refine r_iadd C 12 dX7_isSure_11 rfl ?_
  refine r_istore_n C 13 1 [(1, .int ((v_1) + (h.1 7 1))), (0, .ref (kad κ 121))] dX7_isSure_12 rfl (by decide) rfl rfl ?_
  refine r_iconst C 14 (nI 0) (by decide) dX7_isSure_13 rfl ?_
  refine r_istore_n C 15 2 [(2, .int ((nI 0))), (1, .int ((v_1) + (h.1 7 1))), (0, .ref (kad κ 121))] dX7_isSure_14 rfl (by decide) rfl rfl ?_
  refine imp_sub [(0, .ref (kad κ 121)), (1, .int ((v_1) + (h.1 7 1))), (2, .int ((nI 0)))] [2, 1, 0] rfl ?_
  refine imp_f_X7_isSure_L15 C ((v_1) + (h.1 7 1)) h Rr FU ((nI 0))
set_option maxHeartbeats 4000000 in
theorem ok_f_X7_isSure   (h : CH) : ∀ q, f_X7_isSure h = some q → MG yX7_isSure cX7_isSure 3 (some .boolean) [] 3 (fun ad => [.ref (ad 121)]) h ((fun (x : Int32) (_ : Nat → Nat) => some (Value.int x)) q) ((fun (_ : Int32) => h) q) := mg_of RX7 (by decide) rfl (fun _ => Nat.le_of_ble_eq_true rfl) (fun κ C Rr => imp_f_X7_isSure C  h Rr)
set_option maxHeartbeats 4000000 in
set_option maxRecDepth 100000 in
theorem imp_f_X11_behind {κ : Kx (Int32 × CH)} (C : Cx κ cX11_behind RX11 4 7 (40 * 7) []) (x1 : Int32) (x2 : Int32) (x3 : Int32)  (h : CH) (Rr : Rt κ (some .int) (fun (q : Int32 × CH) (_ : Nat → Nat) => some (Value.int q.1)) (fun (q : (Int32 × CH)) => q.2)) : Imp κ 0 [(0, .ref (kad κ 0)), (1, .int (x1)), (2, .int (x2)), (3, .int (x3))] [] h (f_X11_behind x1 x2 x3 h) := by
  unfold f_X11_behind
  refine r_iload_n C 1 2 rfl dX11_behind_0 rfl ?_
  refine r_if_lt C 4 32 dX11_behind_1 (by decide) rfl (fun c_1 => ?_) (fun c_1 => ?_)
  · refine r_iconst C 33 (-1) (by decide) dX11_behind_32 rfl ?_
    exact r_iret C Rr dX11_behind_33 (fun _ => rfl) rfl
  · refine r_iload_n C 5 2 rfl dX11_behind_4 rfl ?_
    refine r_iconst C 6 (nI 3) (by decide) dX11_behind_5 rfl ?_
    refine r_icmp_gt C 9 32 dX11_behind_6 (by decide) rfl (fun c_2 => ?_) (fun c_2 => ?_)
    · refine r_iconst C 33 (-1) (by decide) dX11_behind_32 rfl ?_
      exact r_iret C Rr dX11_behind_33 (fun _ => rfl) rfl
    · refine r_aload_n C 10 0 rfl dX11_behind_9 rfl ?_
      refine r_getR C 13 dX11_behind_10 flX11_55 kt_0 rfl rf_0_9 rfl ?_
      refine r_iload_n C 14 1 rfl dX11_behind_13 rfl ?_
      refine r_iload_n C 15 3 rfl dX11_behind_14 rfl ?_
      refine r_cVpI C 18 [] (ok_f_X2_counts_71 x1 x3 h) dX11_behind_15 lvX11_246 kt_71 rfl rfl rfl (by decide) (Nat.le_of_ble_eq_true rfl) rfl rfl (Nat.le_of_ble_eq_true rfl) rfl rfl (fun v_3 => ?_)
      refine r_if_eq C 21 32 dX11_behind_18 (by decide) rfl (fun c_4 => ?_) (fun c_4 => ?_)
      · refine r_iconst C 33 (-1) (by decide) dX11_behind_32 rfl ?_
        exact r_iret C Rr dX11_behind_33 (fun _ => rfl) rfl
      · refine r_aload_n C 22 0 rfl dX11_behind_21 rfl ?_
        refine r_getR C 25 dX11_behind_22 flX11_35 kt_0 rfl rf_0_5 rfl ?_
        refine r_getI C 28 dX11_behind_25 flX11_139 kt_7 rfl rfl ?_
        refine r_iconst C 29 (nI 2) (by decide) dX11_behind_28 rfl ?_
        refine r_icmp_ge C 32 34 dX11_behind_29 (by decide) rfl (fun c_5 => ?_) (fun c_5 => ?_)
        · refine r_iconst C 33 (-1) (by decide) dX11_behind_32 rfl ?_
          exact r_iret C Rr dX11_behind_33 (fun _ => rfl) rfl
        · refine r_aload_n C 35 0 rfl dX11_behind_34 rfl ?_
          refine r_getR C 38 dX11_behind_35 flX11_93 kt_0 rfl rf_0_14 rfl ?_
          refine r_iload_n C 39 1 rfl dX11_behind_38 rfl ?_
          refine r_cViV C 42 [] (ok_f_X7_seek x1 h) dX11_behind_39 lvX11_249 kt_121 rfl rfl rfl (by decide) (Nat.le_of_ble_eq_true rfl) rfl rfl (Nat.le_of_ble_eq_true rfl) rfl rfl (fun _ h_6 => ?_)
          refine r_iload_n C 43 2 rfl dX11_behind_42 rfl ?_
          refine imp_ite (fun g_7 => ?_) (fun g_7 => ?_)
          · refine r_tsIn C 68 (nI 0) g_7 dX11_behind_43 (by decide) (by decide) rfl (by decide) ?_
            refine r_aload_n C 69 0 rfl dX11_behind_68 rfl ?_
            refine r_getR C 72 dX11_behind_69 flX11_93 kt_0 rfl rf_0_14 rfl ?_
            refine r_getI C 75 dX11_behind_72 flX11_252 kt_121 rfl rfl ?_
            exact r_iret C Rr dX11_behind_75 (fun _ => rfl) rfl
          · refine imp_ite (fun g_8 => ?_) (fun g_8 => ?_)
            · refine r_tsIn C 76 (nI 1) g_8 dX11_behind_43 (by decide) (by decide) rfl (by decide) ?_
              refine r_aload_n C 77 0 rfl dX11_behind_76 rfl ?_
              refine r_getR C 80 dX11_behind_77 flX11_93 kt_0 rfl rf_0_14 rfl ?_
              refine r_cVpI C 83 [] (ok_f_X7_foundShare h_6) dX11_behind_80 lvX11_255 kt_121 rfl rfl rfl (by decide) (Nat.le_of_ble_eq_true rfl) rfl rfl (Nat.le_of_ble_eq_true rfl) rfl rfl (fun v_9 => ?_)
              exact r_iret C Rr dX11_behind_83 (fun _ => rfl) rfl
            · refine imp_ite (fun g_10 => ?_) (fun g_10 => ?_)
              · refine r_tsIn C 84 (nI 2) g_10 dX11_behind_43 (by decide) (by decide) rfl (by decide) ?_
                refine r_aload_n C 85 0 rfl dX11_behind_84 rfl ?_
                refine r_getR C 88 dX11_behind_85 flX11_93 kt_0 rfl rf_0_14 rfl ?_
                refine r_cVpI C 91 [] (ok_f_X7_foundFar h_6) dX11_behind_88 lvX11_258 kt_121 rfl rfl rfl (by decide) (Nat.le_of_ble_eq_true rfl) rfl rfl (Nat.le_of_ble_eq_true rfl) rfl rfl (fun v_11 => ?_)
                exact r_iret C Rr dX11_behind_91 (fun _ => rfl) rfl
              · refine r_tsOut C 92 dX11_behind_43 (ts_out ?_) (by decide) ?_
                · intro v h1 h2 e
                  have hv : v = 0 ∨ v = 1 ∨ v = 2 := by omega
                  rcases hv with rfl | rfl | rfl
                  · exact g_7 (e.trans (by decide))
                  · exact g_8 (e.trans (by decide))
                  · exact g_10 (e.trans (by decide))
                · refine r_aload_n C 93 0 rfl dX11_behind_92 rfl ?_
                  refine r_getR C 96 dX11_behind_93 flX11_93 kt_0 rfl rf_0_14 rfl ?_
                  refine r_cVpI C 99 [] (ok_f_X7_isSure h_6) dX11_behind_96 lvX11_261 kt_121 rfl rfl rfl (by decide) (Nat.le_of_ble_eq_true rfl) rfl rfl (Nat.le_of_ble_eq_true rfl) rfl rfl (fun v_12 => ?_)
                  refine r_if_eq C 102 106 dX11_behind_99 (by decide) rfl (fun c_13 => ?_) (fun c_13 => ?_)
                  · refine r_iconst C 107 (nI 0) (by decide) dX11_behind_106 rfl ?_
                    exact r_iret C Rr dX11_behind_107 (fun _ => rfl) rfl
                  · refine r_iconst C 103 (nI 1) (by decide) dX11_behind_102 rfl ?_
                    refine r_goto C 107 dX11_behind_103 (by decide) ?_
                    exact r_iret C Rr dX11_behind_107 (fun _ => rfl) rfl
set_option maxHeartbeats 4000000 in
theorem ok_f_X11_behind (x1 : Int32) (x2 : Int32) (x3 : Int32)  (h : CH) : ∀ q, f_X11_behind x1 x2 x3 h = some q → MG yX11_behind cX11_behind 4 (some .int) [] 7 (fun ad => [.ref (ad 0), .int x1, .int x2, .int x3]) h ((fun (q : Int32 × CH) (_ : Nat → Nat) => some (Value.int q.1)) q) ((fun (q : (Int32 × CH)) => q.2) q) := mg_of RX11 (by decide) rfl (fun _ => Nat.le_of_ble_eq_true rfl) (fun κ C Rr => imp_f_X11_behind C x1 x2 x3 h Rr)
